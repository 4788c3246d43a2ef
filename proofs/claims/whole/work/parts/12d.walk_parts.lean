def k_X10_load (T : Nat → ClassId) (a_ a_word a_row a_ways a_places a_p1 a_p1_rows a_p1_sorts a_p1_lengths a_p1_rows_0 a_p1_rows_1 a_p1_rows_2 a_p1_rows_3 : Nat) (v_wordLength : Int32) (v_rowLength : Int32) (v_row : (Nat → Int32)) (v_word : (Nat → Int32)) (v_p1_lengths : (Nat → Int32)) (v_p1_rows_0 : (Nat → Int64)) (v_p1_rows_1 : (Nat → Int64)) (v_p1_rows_2 : (Nat → Int64)) (v_p1_rows_3 : (Nat → Int64)) : va_W := [(a_, oX10 a_word a_row v_wordLength v_rowLength a_ways a_places), (a_row, mp_aI T 60 v_row), (a_word, mp_aI T 10 v_word), (a_p1, oX9 a_p1_rows a_p1_sorts a_p1_lengths), (a_p1_lengths, mp_aI T 4 v_p1_lengths), (a_p1_rows, mp_aR T 3 4 [a_p1_rows_0, a_p1_rows_1, a_p1_rows_2, a_p1_rows_3]), (a_p1_rows_0, mp_aJ T 60 v_p1_rows_0), (a_p1_rows_1, mp_aJ T 60 v_p1_rows_1), (a_p1_rows_2, mp_aJ T 60 v_p1_rows_2), (a_p1_rows_3, mp_aJ T 60 v_p1_rows_3)]
set_option maxHeartbeats 4000000 in
set_option maxRecDepth 100000 in
theorem c_X10_load (l : Launch) (D : va_G) (T : Nat → ClassId) (fu : Nat) (a_ a_word a_row a_ways a_places a_p1 a_p1_rows a_p1_sorts a_p1_lengths a_p1_rows_0 a_p1_rows_1 a_p1_rows_2 a_p1_rows_3 : Nat) (x2 : Int32) (x3 : Int32) (x4 : Int32) (x5 : Int32) (v_wordLength : Int32) (v_rowLength : Int32) (v_row : (Nat → Int32)) (v_word : (Nat → Int32)) (v_p1_lengths : (Nat → Int32)) (v_p1_rows_0 : (Nat → Int64)) (v_p1_rows_1 : (Nat → Int64)) (v_p1_rows_2 : (Nat → Int64)) (v_p1_rows_3 : (Nat → Int64)) (r_ : Int32) (o_wordLength : Int32) (o_rowLength : Int32) (o_row : (Nat → Int32)) (o_word : (Nat → Int32)) (hf : f_X10_load fu x2 x3 x4 x5 v_wordLength v_rowLength v_row v_word v_p1_lengths v_p1_rows_0 v_p1_rows_1 v_p1_rows_2 v_p1_rows_3 = some (r_, o_wordLength, o_rowLength, o_row, o_word)) :
    mp_M l D T yX10_load cX10_load 8 (some .int) ({ frames := 2, cells := 0, slots := 0, locals := 43 }) 0 0 [.ref a_, .ref a_p1, .int x2, .int x3, .int x4, .int x5] (k_X10_load T a_ a_word a_row a_ways a_places a_p1 a_p1_rows a_p1_sorts a_p1_lengths a_p1_rows_0 a_p1_rows_1 a_p1_rows_2 a_p1_rows_3 v_wordLength v_rowLength v_row v_word v_p1_lengths v_p1_rows_0 v_p1_rows_1 v_p1_rows_2 v_p1_rows_3) (mp_Qi D r_ (k_X10_load T a_ a_word a_row a_ways a_places a_p1 a_p1_rows a_p1_sorts a_p1_lengths a_p1_rows_0 a_p1_rows_1 a_p1_rows_2 a_p1_rows_3 o_wordLength o_rowLength o_row o_word v_p1_lengths v_p1_rows_0 v_p1_rows_1 v_p1_rows_2 v_p1_rows_3)) := by
  refine mp_of (by decide) (Nat.le_of_ble_eq_true rfl) rfl ?_
  intro p e s m args below meth c A ls X hK hP hD hS hA hl
  replace X : mp_X p s m meth c args RX10 "load" cX10_load 8 (some .int) := X
  have hx := X.1
  have hb := X.2.1
  have hml := X.2.2.1
  have hown := X.2.2.2.2.1
  have hts := X.2.2.2.2.2.1
  replace hl : lv_has ls 8 [(0, .ref a_), (1, .ref a_p1), (2, .int x2), (3, .int x3), (4, .int x4), (5, .int x5)] := hl
  replace hf : bd_ (f_X9_pairStatus x2 x4 v_p1_lengths) (fun (r1 : Int32) => (if r1 = 0 then gi_ x2 4 ((if (v_p1_lengths (x2).toNatClampNeg) < x3 then some ((nI 4), v_wordLength, v_rowLength, v_row, v_word) else gi_ x4 4 ((if x5 ≤ (v_p1_lengths (x4).toNatClampNeg) then (if x3 < (nI 1) then some ((nI 5), v_wordLength, v_rowLength, v_row, v_word) else (if (nI 10) < x3 then some ((nI 5), v_wordLength, v_rowLength, v_row, v_word) else (if x5 < (nI 1) then some ((nI 5), v_wordLength, v_rowLength, v_row, v_word) else (if x5 ≤ (nI 60) then gi_ x2 4 ((if x2 = (nI 0) then bd_ (f_X10_takeLetters fu 60 10 x3 v_p1_rows_0 v_word) (fun (z : Int32 × (Nat → Int32)) => match z with | (r14, u15) => (if r14 = 0 then (if (nI 0) = 0 then some ((nI 5), x3, x5, v_row, u15) else some ((nI 0), x3, x5, v_row, u15)) else gi_ x4 4 ((if x4 = (nI 0) then bd_ (f_X10_takeLetters fu 60 60 x5 v_p1_rows_0 v_row) (fun (z : Int32 × (Nat → Int32)) => match z with | (r21, u22) => (if r21 = 0 then (if (nI 0) = 0 then some ((nI 5), x3, x5, u22, u15) else some ((nI 0), x3, x5, u22, u15)) else (if (nI 1) = 0 then some ((nI 5), x3, x5, u22, u15) else some ((nI 0), x3, x5, u22, u15)))) else (if x4 = (nI 1) then bd_ (f_X10_takeLetters fu 60 60 x5 v_p1_rows_1 v_row) (fun (z : Int32 × (Nat → Int32)) => match z with | (r28, u29) => (if r28 = 0 then (if (nI 0) = 0 then some ((nI 5), x3, x5, u29, u15) else some ((nI 0), x3, x5, u29, u15)) else (if (nI 1) = 0 then some ((nI 5), x3, x5, u29, u15) else some ((nI 0), x3, x5, u29, u15)))) else (if x4 = (nI 2) then bd_ (f_X10_takeLetters fu 60 60 x5 v_p1_rows_2 v_row) (fun (z : Int32 × (Nat → Int32)) => match z with | (r35, u36) => (if r35 = 0 then (if (nI 0) = 0 then some ((nI 5), x3, x5, u36, u15) else some ((nI 0), x3, x5, u36, u15)) else (if (nI 1) = 0 then some ((nI 5), x3, x5, u36, u15) else some ((nI 0), x3, x5, u36, u15)))) else bd_ (f_X10_takeLetters fu 60 60 x5 v_p1_rows_3 v_row) (fun (z : Int32 × (Nat → Int32)) => match z with | (r42, u43) => (if r42 = 0 then (if (nI 0) = 0 then some ((nI 5), x3, x5, u43, u15) else some ((nI 0), x3, x5, u43, u15)) else (if (nI 1) = 0 then some ((nI 5), x3, x5, u43, u15) else some ((nI 0), x3, x5, u43, u15)))))))))) else (if x2 = (nI 1) then bd_ (f_X10_takeLetters fu 60 10 x3 v_p1_rows_1 v_word) (fun (z : Int32 × (Nat → Int32)) => match z with | (r49, u50) => (if r49 = 0 then (if (nI 0) = 0 then some ((nI 5), x3, x5, v_row, u50) else some ((nI 0), x3, x5, v_row, u50)) else gi_ x4 4 ((if x4 = (nI 0) then bd_ (f_X10_takeLetters fu 60 60 x5 v_p1_rows_0 v_row) (fun (z : Int32 × (Nat → Int32)) => match z with | (r56, u57) => (if r56 = 0 then (if (nI 0) = 0 then some ((nI 5), x3, x5, u57, u50) else some ((nI 0), x3, x5, u57, u50)) else (if (nI 1) = 0 then some ((nI 5), x3, x5, u57, u50) else some ((nI 0), x3, x5, u57, u50)))) else (if x4 = (nI 1) then bd_ (f_X10_takeLetters fu 60 60 x5 v_p1_rows_1 v_row) (fun (z : Int32 × (Nat → Int32)) => match z with | (r63, u64) => (if r63 = 0 then (if (nI 0) = 0 then some ((nI 5), x3, x5, u64, u50) else some ((nI 0), x3, x5, u64, u50)) else (if (nI 1) = 0 then some ((nI 5), x3, x5, u64, u50) else some ((nI 0), x3, x5, u64, u50)))) else (if x4 = (nI 2) then bd_ (f_X10_takeLetters fu 60 60 x5 v_p1_rows_2 v_row) (fun (z : Int32 × (Nat → Int32)) => match z with | (r70, u71) => (if r70 = 0 then (if (nI 0) = 0 then some ((nI 5), x3, x5, u71, u50) else some ((nI 0), x3, x5, u71, u50)) else (if (nI 1) = 0 then some ((nI 5), x3, x5, u71, u50) else some ((nI 0), x3, x5, u71, u50)))) else bd_ (f_X10_takeLetters fu 60 60 x5 v_p1_rows_3 v_row) (fun (z : Int32 × (Nat → Int32)) => match z with | (r77, u78) => (if r77 = 0 then (if (nI 0) = 0 then some ((nI 5), x3, x5, u78, u50) else some ((nI 0), x3, x5, u78, u50)) else (if (nI 1) = 0 then some ((nI 5), x3, x5, u78, u50) else some ((nI 0), x3, x5, u78, u50)))))))))) else (if x2 = (nI 2) then bd_ (f_X10_takeLetters fu 60 10 x3 v_p1_rows_2 v_word) (fun (z : Int32 × (Nat → Int32)) => match z with | (r84, u85) => (if r84 = 0 then (if (nI 0) = 0 then some ((nI 5), x3, x5, v_row, u85) else some ((nI 0), x3, x5, v_row, u85)) else gi_ x4 4 ((if x4 = (nI 0) then bd_ (f_X10_takeLetters fu 60 60 x5 v_p1_rows_0 v_row) (fun (z : Int32 × (Nat → Int32)) => match z with | (r91, u92) => (if r91 = 0 then (if (nI 0) = 0 then some ((nI 5), x3, x5, u92, u85) else some ((nI 0), x3, x5, u92, u85)) else (if (nI 1) = 0 then some ((nI 5), x3, x5, u92, u85) else some ((nI 0), x3, x5, u92, u85)))) else (if x4 = (nI 1) then bd_ (f_X10_takeLetters fu 60 60 x5 v_p1_rows_1 v_row) (fun (z : Int32 × (Nat → Int32)) => match z with | (r98, u99) => (if r98 = 0 then (if (nI 0) = 0 then some ((nI 5), x3, x5, u99, u85) else some ((nI 0), x3, x5, u99, u85)) else (if (nI 1) = 0 then some ((nI 5), x3, x5, u99, u85) else some ((nI 0), x3, x5, u99, u85)))) else (if x4 = (nI 2) then bd_ (f_X10_takeLetters fu 60 60 x5 v_p1_rows_2 v_row) (fun (z : Int32 × (Nat → Int32)) => match z with | (r105, u106) => (if r105 = 0 then (if (nI 0) = 0 then some ((nI 5), x3, x5, u106, u85) else some ((nI 0), x3, x5, u106, u85)) else (if (nI 1) = 0 then some ((nI 5), x3, x5, u106, u85) else some ((nI 0), x3, x5, u106, u85)))) else bd_ (f_X10_takeLetters fu 60 60 x5 v_p1_rows_3 v_row) (fun (z : Int32 × (Nat → Int32)) => match z with | (r112, u113) => (if r112 = 0 then (if (nI 0) = 0 then some ((nI 5), x3, x5, u113, u85) else some ((nI 0), x3, x5, u113, u85)) else (if (nI 1) = 0 then some ((nI 5), x3, x5, u113, u85) else some ((nI 0), x3, x5, u113, u85)))))))))) else bd_ (f_X10_takeLetters fu 60 10 x3 v_p1_rows_3 v_word) (fun (z : Int32 × (Nat → Int32)) => match z with | (r119, u120) => (if r119 = 0 then (if (nI 0) = 0 then some ((nI 5), x3, x5, v_row, u120) else some ((nI 0), x3, x5, v_row, u120)) else gi_ x4 4 ((if x4 = (nI 0) then bd_ (f_X10_takeLetters fu 60 60 x5 v_p1_rows_0 v_row) (fun (z : Int32 × (Nat → Int32)) => match z with | (r126, u127) => (if r126 = 0 then (if (nI 0) = 0 then some ((nI 5), x3, x5, u127, u120) else some ((nI 0), x3, x5, u127, u120)) else (if (nI 1) = 0 then some ((nI 5), x3, x5, u127, u120) else some ((nI 0), x3, x5, u127, u120)))) else (if x4 = (nI 1) then bd_ (f_X10_takeLetters fu 60 60 x5 v_p1_rows_1 v_row) (fun (z : Int32 × (Nat → Int32)) => match z with | (r133, u134) => (if r133 = 0 then (if (nI 0) = 0 then some ((nI 5), x3, x5, u134, u120) else some ((nI 0), x3, x5, u134, u120)) else (if (nI 1) = 0 then some ((nI 5), x3, x5, u134, u120) else some ((nI 0), x3, x5, u134, u120)))) else (if x4 = (nI 2) then bd_ (f_X10_takeLetters fu 60 60 x5 v_p1_rows_2 v_row) (fun (z : Int32 × (Nat → Int32)) => match z with | (r140, u141) => (if r140 = 0 then (if (nI 0) = 0 then some ((nI 5), x3, x5, u141, u120) else some ((nI 0), x3, x5, u141, u120)) else (if (nI 1) = 0 then some ((nI 5), x3, x5, u141, u120) else some ((nI 0), x3, x5, u141, u120)))) else bd_ (f_X10_takeLetters fu 60 60 x5 v_p1_rows_3 v_row) (fun (z : Int32 × (Nat → Int32)) => match z with | (r147, u148) => (if r147 = 0 then (if (nI 0) = 0 then some ((nI 5), x3, x5, u148, u120) else some ((nI 0), x3, x5, u148, u120)) else (if (nI 1) = 0 then some ((nI 5), x3, x5, u148, u120) else some ((nI 0), x3, x5, u148, u120)))))))))))))) else some ((nI 5), v_wordLength, v_rowLength, v_row, v_word))))) else some ((nI 4), v_wordLength, v_rowLength, v_row, v_word))))) else some (r1, v_wordLength, v_rowLength, v_row, v_word))) = some (r_, o_wordLength, o_rowLength, o_row, o_word) := hf
  refine lv_aload_n hx hb dX10_load_0 rfl (lv_at hl 1 rfl) ?_
  refine lv_iload_n hx hb dX10_load_1 rfl (lv_at hl 2 rfl) ?_
  refine lv_iload hx hb dX10_load_2 (lv_at hl 4 rfl) ?_
  obtain ⟨r1, c2, hf⟩ := bd_of hf
  have hPc := hP.sub (ws' := (k_X9_pairStatus T a_p1 a_p1_rows a_p1_sorts a_p1_lengths v_p1_lengths)) [3, 4] rfl
  have hDc := (mp_D_of (w1 := (k_X10_load T a_ a_word a_row a_ways a_places a_p1 a_p1_rows a_p1_sorts a_p1_lengths a_p1_rows_0 a_p1_rows_1 a_p1_rows_2 a_p1_rows_3 v_wordLength v_rowLength v_row v_word v_p1_lengths v_p1_rows_0 v_p1_rows_1 v_p1_rows_2 v_p1_rows_3)) hD rfl).sub (ws' := (k_X9_pairStatus T a_p1 a_p1_rows a_p1_sorts a_p1_lengths v_p1_lengths)) [3, 4] rfl rfl
  refine mp_calli (isC := [3, 4]) (wc := (k_X9_pairStatus T a_p1 a_p1_rows a_p1_sorts a_p1_lengths v_p1_lengths)) (w1 := (k_X9_pairStatus T a_p1 a_p1_rows a_p1_sorts a_p1_lengths v_p1_lengths)) hP (mp_D_of hD rfl) hS hA rfl rfl (mp_runV (As := [.int x2, .int x4]) (rest := []) X me_X9_pairStatus lk_X10_32 (c_X9_pairStatus l D T a_p1 a_p1_rows a_p1_sorts a_p1_lengths x2 x4 v_p1_lengths r1 c2) rfl rfl ⟨(Nat.le_of_ble_eq_true rfl), (Nat.le_of_ble_eq_true rfl)⟩ hK hPc hDc rfl rfl rfl rfl hl.1 rfl (Nat.le_of_ble_eq_true rfl) dX10_load_4 ⟨Nat.zero_le _, Nat.zero_le _⟩) (fun H locs hP _ hS => ?_)
  replace hP : va_P D mp_cl (k_X10_load T a_ a_word a_row a_ways a_places a_p1 a_p1_rows a_p1_sorts a_p1_lengths a_p1_rows_0 a_p1_rows_1 a_p1_rows_2 a_p1_rows_3 v_wordLength v_rowLength v_row v_word v_p1_lengths v_p1_rows_0 v_p1_rows_1 v_p1_rows_2 v_p1_rows_3) H := hP
  refine lv_istore (lv' := [(6, .int r1), (0, .ref a_), (1, .ref a_p1), (2, .int x2), (3, .int x3), (4, .int x4), (5, .int x5)]) hx hb dX10_load_7 hl (by decide) rfl (fun ls hl => ?_)
  refine lv_iload hx hb dX10_load_9 (lv_at hl 0 rfl) ?_
  refine lv_if_eq (tgt := 17) hx hb dX10_load_11 (by decide) (fun h3 => ?_) (fun h3 => ?_)
  · replace hf := if_t hf h3
    refine lv_iload_n hx hb dX10_load_17 rfl (lv_at hl 4 rfl) ?_
    refine lv_aload_n hx hb dX10_load_18 rfl (lv_at hl 2 rfl) ?_
    refine mp_get X fl_X10_38 hK hP 3 rfl rfl dX10_load_19 ?_
    refine lv_iload_n hx hb dX10_load_22 rfl (lv_at hl 3 rfl) ?_
    obtain ⟨h4, hf⟩ := gi_of hf
    refine va_iald hx hb hK hP 4 0 rfl rfl h4 dX10_load_23 ?_
    refine lv_icmp_gt (tgt := 39) hx hb dX10_load_24 (by decide) (fun h5 => ?_) (fun h5 => ?_)
    · replace hf := if_t hf h5
      refine lv_iconst (v := (nI 4)) hx hb dX10_load_39 (by decide) ?_
      cases hf
      exact mp_reti X hP hS rfl dX10_load_40
    · replace hf := if_f hf h5
      refine lv_iload hx hb dX10_load_27 (lv_at hl 6 rfl) ?_
      refine lv_aload_n hx hb dX10_load_29 rfl (lv_at hl 2 rfl) ?_
      refine mp_get X fl_X10_38 hK hP 3 rfl rfl dX10_load_30 ?_
      refine lv_iload hx hb dX10_load_33 (lv_at hl 5 rfl) ?_
      obtain ⟨h6, hf⟩ := gi_of hf
      refine va_iald hx hb hK hP 4 0 rfl rfl h6 dX10_load_35 ?_
      refine lv_icmp_le (tgt := 41) hx hb dX10_load_36 (by decide) (fun h7 => ?_) (fun h7 => ?_)
      · replace hf := if_t hf h7
        refine lv_iload_n hx hb dX10_load_41 rfl (lv_at hl 4 rfl) ?_
        refine lv_iconst (v := (nI 1)) hx hb dX10_load_42 (by decide) ?_
        refine lv_icmp_lt (tgt := 65) hx hb dX10_load_43 (by decide) (fun h8 => ?_) (fun h8 => ?_)
        · replace hf := if_t hf h8
          refine lv_iconst (v := (nI 5)) hx hb dX10_load_65 (by decide) ?_
          cases hf
          exact mp_reti X hP hS rfl dX10_load_66
        · replace hf := if_f hf h8
          refine lv_iload_n hx hb dX10_load_46 rfl (lv_at hl 4 rfl) ?_
          refine lv_bipush (v := (nI 10)) hx hb dX10_load_47 (by decide) ?_
          refine lv_icmp_gt (tgt := 65) hx hb dX10_load_49 (by decide) (fun h9 => ?_) (fun h9 => ?_)
          · replace hf := if_t hf h9
            refine lv_iconst (v := (nI 5)) hx hb dX10_load_65 (by decide) ?_
            cases hf
            exact mp_reti X hP hS rfl dX10_load_66
          · replace hf := if_f hf h9
            refine lv_iload hx hb dX10_load_52 (lv_at hl 6 rfl) ?_
            refine lv_iconst (v := (nI 1)) hx hb dX10_load_54 (by decide) ?_
            refine lv_icmp_lt (tgt := 65) hx hb dX10_load_55 (by decide) (fun h10 => ?_) (fun h10 => ?_)
            · replace hf := if_t hf h10
              refine lv_iconst (v := (nI 5)) hx hb dX10_load_65 (by decide) ?_
              cases hf
              exact mp_reti X hP hS rfl dX10_load_66
            · replace hf := if_f hf h10
              refine lv_iload hx hb dX10_load_58 (lv_at hl 6 rfl) ?_
              refine lv_bipush (v := (nI 60)) hx hb dX10_load_60 (by decide) ?_
              refine lv_icmp_le (tgt := 67) hx hb dX10_load_62 (by decide) (fun h11 => ?_) (fun h11 => ?_)
              · replace hf := if_t hf h11
                refine lv_aload_n hx hb dX10_load_67 rfl (lv_at hl 1 rfl) ?_
                refine lv_iload_n hx hb dX10_load_68 rfl (lv_at hl 4 rfl) ?_
                refine mp_putf X fl_X10_18 fp_X10 rfl hK hP (mp_D_of hD rfl) hS 0 rfl rfl rfl (Nat.le_of_ble_eq_true rfl) dX10_load_69 (fun H locs hP _ hS => ?_)
                replace hP : va_P D mp_cl (k_X10_load T a_ a_word a_row a_ways a_places a_p1 a_p1_rows a_p1_sorts a_p1_lengths a_p1_rows_0 a_p1_rows_1 a_p1_rows_2 a_p1_rows_3 x3 v_rowLength v_row v_word v_p1_lengths v_p1_rows_0 v_p1_rows_1 v_p1_rows_2 v_p1_rows_3) H := hP
                refine lv_aload_n hx hb dX10_load_72 rfl (lv_at hl 1 rfl) ?_
                refine lv_iload hx hb dX10_load_73 (lv_at hl 6 rfl) ?_
                refine mp_putf X fl_X10_22 fp_X10 rfl hK hP (mp_D_of hD rfl) hS 0 rfl rfl rfl (Nat.le_of_ble_eq_true rfl) dX10_load_75 (fun H locs hP _ hS => ?_)
                replace hP : va_P D mp_cl (k_X10_load T a_ a_word a_row a_ways a_places a_p1 a_p1_rows a_p1_sorts a_p1_lengths a_p1_rows_0 a_p1_rows_1 a_p1_rows_2 a_p1_rows_3 x3 x5 v_row v_word v_p1_lengths v_p1_rows_0 v_p1_rows_1 v_p1_rows_2 v_p1_rows_3) H := hP
                refine lv_aload_n hx hb dX10_load_78 rfl (lv_at hl 2 rfl) ?_
                refine mp_get X fl_X10_41 hK hP 3 rfl rfl dX10_load_79 ?_
                refine lv_iload_n hx hb dX10_load_82 rfl (lv_at hl 3 rfl) ?_
                obtain ⟨h12, hf⟩ := gi_of hf
                refine va_aldqA hx hb hK hP 5 3 rfl rfl h12 dX10_load_83 ?_
                by_cases h13 : x2 = (nI 0)
                · replace hf := if_t hf h13
                  rw [show va_rf (mp_ol [a_p1_rows_0, a_p1_rows_1, a_p1_rows_2, a_p1_rows_3] (x2).toNatClampNeg) = .ref a_p1_rows_0 from by rw [h13]; rfl]
                  refine lv_aload_n hx hb dX10_load_84 rfl (lv_at hl 1 rfl) ?_
                  refine mp_get X fl_X10_9 hK hP 0 rfl rfl dX10_load_85 ?_
                  refine lv_iload_n hx hb dX10_load_88 rfl (lv_at hl 4 rfl) ?_
                  obtain ⟨⟨r14, u15⟩, c16, hf⟩ := bd_of hf
                  dsimp only at hf
                  have hPc := hP.sub (ws' := (k_X10_takeLetters T a_p1_rows_0 a_word 60 10 v_p1_rows_0 v_word)) [6, 2] rfl
                  have hDc := (mp_D_of (w1 := (k_X10_load T a_ a_word a_row a_ways a_places a_p1 a_p1_rows a_p1_sorts a_p1_lengths a_p1_rows_0 a_p1_rows_1 a_p1_rows_2 a_p1_rows_3 x3 x5 v_row v_word v_p1_lengths v_p1_rows_0 v_p1_rows_1 v_p1_rows_2 v_p1_rows_3)) hD rfl).sub (ws' := (k_X10_takeLetters T a_p1_rows_0 a_word 60 10 v_p1_rows_0 v_word)) [6, 2] rfl rfl
                  refine mp_calli (isC := [6, 2]) (wc := (k_X10_takeLetters T a_p1_rows_0 a_word 60 10 v_p1_rows_0 v_word)) (w1 := (k_X10_takeLetters T a_p1_rows_0 a_word 60 10 v_p1_rows_0 u15)) hP (mp_D_of hD rfl) hS hA rfl rfl (mp_runS (As := [.ref a_p1_rows_0, .ref a_word, .int x3]) (rest := []) X me_X10_takeLetters lk_X10_45 (c_X10_takeLetters l D T fu a_p1_rows_0 a_word 60 10 x3 v_p1_rows_0 v_word r14 u15 c16) rfl rfl ⟨(Nat.le_of_ble_eq_true rfl), (Nat.le_of_ble_eq_true rfl)⟩ hK hPc hDc rfl hl.1 rfl (Nat.le_of_ble_eq_true rfl) dX10_load_89 ⟨Nat.zero_le _, Nat.zero_le _⟩) (fun H locs hP _ hS => ?_)
                  replace hP : va_P D mp_cl (k_X10_load T a_ a_word a_row a_ways a_places a_p1 a_p1_rows a_p1_sorts a_p1_lengths a_p1_rows_0 a_p1_rows_1 a_p1_rows_2 a_p1_rows_3 x3 x5 v_row u15 v_p1_lengths v_p1_rows_0 v_p1_rows_1 v_p1_rows_2 v_p1_rows_3) H := hP
                  refine lv_if_eq (tgt := 118) hx hb dX10_load_92 (by decide) (fun h17 => ?_) (fun h17 => ?_)
                  · replace hf := if_t hf h17
                    refine lv_iconst (v := (nI 0)) hx hb dX10_load_118 (by decide) ?_
                    refine lv_istore (lv' := [(7, .int (nI 0)), (6, .int r1), (0, .ref a_), (1, .ref a_p1), (2, .int x2), (3, .int x3), (4, .int x4), (5, .int x5)]) hx hb dX10_load_119 hl (by decide) rfl (fun ls hl => ?_)
                    refine lv_iload hx hb dX10_load_121 (lv_at hl 0 rfl) ?_
                    refine lv_if_eq (tgt := 130) hx hb dX10_load_123 (by decide) (fun h18 => ?_) (fun h18 => ?_)
                    · replace hf := if_t hf h18
                      refine lv_iconst (v := (nI 5)) hx hb dX10_load_130 (by decide) ?_
                      cases hf
                      exact mp_reti X hP hS rfl dX10_load_131
                    · replace hf := if_f hf h18
                      refine lv_iconst (v := (nI 0)) hx hb dX10_load_126 (by decide) ?_
                      refine lv_goto (tgt := 131) hx hb dX10_load_127 (by decide) ?_
                      cases hf
                      exact mp_reti X hP hS rfl dX10_load_131
                  · replace hf := if_f hf h17
                    refine lv_aload_n hx hb dX10_load_95 rfl (lv_at hl 2 rfl) ?_
                    refine mp_get X fl_X10_41 hK hP 3 rfl rfl dX10_load_96 ?_
                    refine lv_iload hx hb dX10_load_99 (lv_at hl 5 rfl) ?_
                    obtain ⟨h19, hf⟩ := gi_of hf
                    refine va_aldqA hx hb hK hP 5 3 rfl rfl h19 dX10_load_101 ?_
                    by_cases h20 : x4 = (nI 0)
                    · replace hf := if_t hf h20
                      rw [show va_rf (mp_ol [a_p1_rows_0, a_p1_rows_1, a_p1_rows_2, a_p1_rows_3] (x4).toNatClampNeg) = .ref a_p1_rows_0 from by rw [h20]; rfl]
                      refine lv_aload_n hx hb dX10_load_102 rfl (lv_at hl 1 rfl) ?_
                      refine mp_get X fl_X10_15 hK hP 0 rfl rfl dX10_load_103 ?_
                      refine lv_iload hx hb dX10_load_106 (lv_at hl 6 rfl) ?_
                      obtain ⟨⟨r21, u22⟩, c23, hf⟩ := bd_of hf
                      dsimp only at hf
                      have hPc := hP.sub (ws' := (k_X10_takeLetters T a_p1_rows_0 a_row 60 60 v_p1_rows_0 v_row)) [6, 1] rfl
                      have hDc := (mp_D_of (w1 := (k_X10_load T a_ a_word a_row a_ways a_places a_p1 a_p1_rows a_p1_sorts a_p1_lengths a_p1_rows_0 a_p1_rows_1 a_p1_rows_2 a_p1_rows_3 x3 x5 v_row u15 v_p1_lengths v_p1_rows_0 v_p1_rows_1 v_p1_rows_2 v_p1_rows_3)) hD rfl).sub (ws' := (k_X10_takeLetters T a_p1_rows_0 a_row 60 60 v_p1_rows_0 v_row)) [6, 1] rfl rfl
                      refine mp_calli (isC := [6, 1]) (wc := (k_X10_takeLetters T a_p1_rows_0 a_row 60 60 v_p1_rows_0 v_row)) (w1 := (k_X10_takeLetters T a_p1_rows_0 a_row 60 60 v_p1_rows_0 u22)) hP (mp_D_of hD rfl) hS hA rfl rfl (mp_runS (As := [.ref a_p1_rows_0, .ref a_row, .int x5]) (rest := []) X me_X10_takeLetters lk_X10_45 (c_X10_takeLetters l D T fu a_p1_rows_0 a_row 60 60 x5 v_p1_rows_0 v_row r21 u22 c23) rfl rfl ⟨(Nat.le_of_ble_eq_true rfl), (Nat.le_of_ble_eq_true rfl)⟩ hK hPc hDc rfl hl.1 rfl (Nat.le_of_ble_eq_true rfl) dX10_load_108 ⟨Nat.zero_le _, Nat.zero_le _⟩) (fun H locs hP _ hS => ?_)
                      replace hP : va_P D mp_cl (k_X10_load T a_ a_word a_row a_ways a_places a_p1 a_p1_rows a_p1_sorts a_p1_lengths a_p1_rows_0 a_p1_rows_1 a_p1_rows_2 a_p1_rows_3 x3 x5 u22 u15 v_p1_lengths v_p1_rows_0 v_p1_rows_1 v_p1_rows_2 v_p1_rows_3) H := hP
                      refine lv_if_eq (tgt := 118) hx hb dX10_load_111 (by decide) (fun h24 => ?_) (fun h24 => ?_)
                      · replace hf := if_t hf h24
                        refine lv_iconst (v := (nI 0)) hx hb dX10_load_118 (by decide) ?_
                        refine lv_istore (lv' := [(7, .int (nI 0)), (6, .int r1), (0, .ref a_), (1, .ref a_p1), (2, .int x2), (3, .int x3), (4, .int x4), (5, .int x5)]) hx hb dX10_load_119 hl (by decide) rfl (fun ls hl => ?_)
                        refine lv_iload hx hb dX10_load_121 (lv_at hl 0 rfl) ?_
                        refine lv_if_eq (tgt := 130) hx hb dX10_load_123 (by decide) (fun h25 => ?_) (fun h25 => ?_)
                        · replace hf := if_t hf h25
                          refine lv_iconst (v := (nI 5)) hx hb dX10_load_130 (by decide) ?_
                          cases hf
                          exact mp_reti X hP hS rfl dX10_load_131
                        · replace hf := if_f hf h25
                          refine lv_iconst (v := (nI 0)) hx hb dX10_load_126 (by decide) ?_
                          refine lv_goto (tgt := 131) hx hb dX10_load_127 (by decide) ?_
                          cases hf
                          exact mp_reti X hP hS rfl dX10_load_131
                      · replace hf := if_f hf h24
                        refine lv_iconst (v := (nI 1)) hx hb dX10_load_114 (by decide) ?_
                        refine lv_goto (tgt := 119) hx hb dX10_load_115 (by decide) ?_
                        refine lv_istore (lv' := [(7, .int (nI 1)), (6, .int r1), (0, .ref a_), (1, .ref a_p1), (2, .int x2), (3, .int x3), (4, .int x4), (5, .int x5)]) hx hb dX10_load_119 hl (by decide) rfl (fun ls hl => ?_)
                        refine lv_iload hx hb dX10_load_121 (lv_at hl 0 rfl) ?_
                        refine lv_if_eq (tgt := 130) hx hb dX10_load_123 (by decide) (fun h26 => ?_) (fun h26 => ?_)
                        · replace hf := if_t hf h26
                          refine lv_iconst (v := (nI 5)) hx hb dX10_load_130 (by decide) ?_
                          cases hf
                          exact mp_reti X hP hS rfl dX10_load_131
                        · replace hf := if_f hf h26
                          refine lv_iconst (v := (nI 0)) hx hb dX10_load_126 (by decide) ?_
                          refine lv_goto (tgt := 131) hx hb dX10_load_127 (by decide) ?_
                          cases hf
                          exact mp_reti X hP hS rfl dX10_load_131
                    replace hf := if_f hf h20
                    by_cases h27 : x4 = (nI 1)
                    · replace hf := if_t hf h27
                      rw [show va_rf (mp_ol [a_p1_rows_0, a_p1_rows_1, a_p1_rows_2, a_p1_rows_3] (x4).toNatClampNeg) = .ref a_p1_rows_1 from by rw [h27]; rfl]
                      refine lv_aload_n hx hb dX10_load_102 rfl (lv_at hl 1 rfl) ?_
                      refine mp_get X fl_X10_15 hK hP 0 rfl rfl dX10_load_103 ?_
                      refine lv_iload hx hb dX10_load_106 (lv_at hl 6 rfl) ?_
                      obtain ⟨⟨r28, u29⟩, c30, hf⟩ := bd_of hf
                      dsimp only at hf
                      have hPc := hP.sub (ws' := (k_X10_takeLetters T a_p1_rows_1 a_row 60 60 v_p1_rows_1 v_row)) [7, 1] rfl
                      have hDc := (mp_D_of (w1 := (k_X10_load T a_ a_word a_row a_ways a_places a_p1 a_p1_rows a_p1_sorts a_p1_lengths a_p1_rows_0 a_p1_rows_1 a_p1_rows_2 a_p1_rows_3 x3 x5 v_row u15 v_p1_lengths v_p1_rows_0 v_p1_rows_1 v_p1_rows_2 v_p1_rows_3)) hD rfl).sub (ws' := (k_X10_takeLetters T a_p1_rows_1 a_row 60 60 v_p1_rows_1 v_row)) [7, 1] rfl rfl
                      refine mp_calli (isC := [7, 1]) (wc := (k_X10_takeLetters T a_p1_rows_1 a_row 60 60 v_p1_rows_1 v_row)) (w1 := (k_X10_takeLetters T a_p1_rows_1 a_row 60 60 v_p1_rows_1 u29)) hP (mp_D_of hD rfl) hS hA rfl rfl (mp_runS (As := [.ref a_p1_rows_1, .ref a_row, .int x5]) (rest := []) X me_X10_takeLetters lk_X10_45 (c_X10_takeLetters l D T fu a_p1_rows_1 a_row 60 60 x5 v_p1_rows_1 v_row r28 u29 c30) rfl rfl ⟨(Nat.le_of_ble_eq_true rfl), (Nat.le_of_ble_eq_true rfl)⟩ hK hPc hDc rfl hl.1 rfl (Nat.le_of_ble_eq_true rfl) dX10_load_108 ⟨Nat.zero_le _, Nat.zero_le _⟩) (fun H locs hP _ hS => ?_)
                      replace hP : va_P D mp_cl (k_X10_load T a_ a_word a_row a_ways a_places a_p1 a_p1_rows a_p1_sorts a_p1_lengths a_p1_rows_0 a_p1_rows_1 a_p1_rows_2 a_p1_rows_3 x3 x5 u29 u15 v_p1_lengths v_p1_rows_0 v_p1_rows_1 v_p1_rows_2 v_p1_rows_3) H := hP
                      refine lv_if_eq (tgt := 118) hx hb dX10_load_111 (by decide) (fun h31 => ?_) (fun h31 => ?_)
                      · replace hf := if_t hf h31
                        refine lv_iconst (v := (nI 0)) hx hb dX10_load_118 (by decide) ?_
                        refine lv_istore (lv' := [(7, .int (nI 0)), (6, .int r1), (0, .ref a_), (1, .ref a_p1), (2, .int x2), (3, .int x3), (4, .int x4), (5, .int x5)]) hx hb dX10_load_119 hl (by decide) rfl (fun ls hl => ?_)
                        refine lv_iload hx hb dX10_load_121 (lv_at hl 0 rfl) ?_
                        refine lv_if_eq (tgt := 130) hx hb dX10_load_123 (by decide) (fun h32 => ?_) (fun h32 => ?_)
                        · replace hf := if_t hf h32
                          refine lv_iconst (v := (nI 5)) hx hb dX10_load_130 (by decide) ?_
                          cases hf
                          exact mp_reti X hP hS rfl dX10_load_131
                        · replace hf := if_f hf h32
                          refine lv_iconst (v := (nI 0)) hx hb dX10_load_126 (by decide) ?_
                          refine lv_goto (tgt := 131) hx hb dX10_load_127 (by decide) ?_
                          cases hf
                          exact mp_reti X hP hS rfl dX10_load_131
                      · replace hf := if_f hf h31
                        refine lv_iconst (v := (nI 1)) hx hb dX10_load_114 (by decide) ?_
                        refine lv_goto (tgt := 119) hx hb dX10_load_115 (by decide) ?_
                        refine lv_istore (lv' := [(7, .int (nI 1)), (6, .int r1), (0, .ref a_), (1, .ref a_p1), (2, .int x2), (3, .int x3), (4, .int x4), (5, .int x5)]) hx hb dX10_load_119 hl (by decide) rfl (fun ls hl => ?_)
                        refine lv_iload hx hb dX10_load_121 (lv_at hl 0 rfl) ?_
                        refine lv_if_eq (tgt := 130) hx hb dX10_load_123 (by decide) (fun h33 => ?_) (fun h33 => ?_)
                        · replace hf := if_t hf h33
                          refine lv_iconst (v := (nI 5)) hx hb dX10_load_130 (by decide) ?_
                          cases hf
                          exact mp_reti X hP hS rfl dX10_load_131
                        · replace hf := if_f hf h33
                          refine lv_iconst (v := (nI 0)) hx hb dX10_load_126 (by decide) ?_
                          refine lv_goto (tgt := 131) hx hb dX10_load_127 (by decide) ?_
                          cases hf
                          exact mp_reti X hP hS rfl dX10_load_131
                    replace hf := if_f hf h27
                    by_cases h34 : x4 = (nI 2)
                    · replace hf := if_t hf h34
                      rw [show va_rf (mp_ol [a_p1_rows_0, a_p1_rows_1, a_p1_rows_2, a_p1_rows_3] (x4).toNatClampNeg) = .ref a_p1_rows_2 from by rw [h34]; rfl]
                      refine lv_aload_n hx hb dX10_load_102 rfl (lv_at hl 1 rfl) ?_
                      refine mp_get X fl_X10_15 hK hP 0 rfl rfl dX10_load_103 ?_
                      refine lv_iload hx hb dX10_load_106 (lv_at hl 6 rfl) ?_
                      obtain ⟨⟨r35, u36⟩, c37, hf⟩ := bd_of hf
                      dsimp only at hf
                      have hPc := hP.sub (ws' := (k_X10_takeLetters T a_p1_rows_2 a_row 60 60 v_p1_rows_2 v_row)) [8, 1] rfl
                      have hDc := (mp_D_of (w1 := (k_X10_load T a_ a_word a_row a_ways a_places a_p1 a_p1_rows a_p1_sorts a_p1_lengths a_p1_rows_0 a_p1_rows_1 a_p1_rows_2 a_p1_rows_3 x3 x5 v_row u15 v_p1_lengths v_p1_rows_0 v_p1_rows_1 v_p1_rows_2 v_p1_rows_3)) hD rfl).sub (ws' := (k_X10_takeLetters T a_p1_rows_2 a_row 60 60 v_p1_rows_2 v_row)) [8, 1] rfl rfl
                      refine mp_calli (isC := [8, 1]) (wc := (k_X10_takeLetters T a_p1_rows_2 a_row 60 60 v_p1_rows_2 v_row)) (w1 := (k_X10_takeLetters T a_p1_rows_2 a_row 60 60 v_p1_rows_2 u36)) hP (mp_D_of hD rfl) hS hA rfl rfl (mp_runS (As := [.ref a_p1_rows_2, .ref a_row, .int x5]) (rest := []) X me_X10_takeLetters lk_X10_45 (c_X10_takeLetters l D T fu a_p1_rows_2 a_row 60 60 x5 v_p1_rows_2 v_row r35 u36 c37) rfl rfl ⟨(Nat.le_of_ble_eq_true rfl), (Nat.le_of_ble_eq_true rfl)⟩ hK hPc hDc rfl hl.1 rfl (Nat.le_of_ble_eq_true rfl) dX10_load_108 ⟨Nat.zero_le _, Nat.zero_le _⟩) (fun H locs hP _ hS => ?_)
                      replace hP : va_P D mp_cl (k_X10_load T a_ a_word a_row a_ways a_places a_p1 a_p1_rows a_p1_sorts a_p1_lengths a_p1_rows_0 a_p1_rows_1 a_p1_rows_2 a_p1_rows_3 x3 x5 u36 u15 v_p1_lengths v_p1_rows_0 v_p1_rows_1 v_p1_rows_2 v_p1_rows_3) H := hP
                      refine lv_if_eq (tgt := 118) hx hb dX10_load_111 (by decide) (fun h38 => ?_) (fun h38 => ?_)
                      · replace hf := if_t hf h38
                        refine lv_iconst (v := (nI 0)) hx hb dX10_load_118 (by decide) ?_
                        refine lv_istore (lv' := [(7, .int (nI 0)), (6, .int r1), (0, .ref a_), (1, .ref a_p1), (2, .int x2), (3, .int x3), (4, .int x4), (5, .int x5)]) hx hb dX10_load_119 hl (by decide) rfl (fun ls hl => ?_)
                        refine lv_iload hx hb dX10_load_121 (lv_at hl 0 rfl) ?_
                        refine lv_if_eq (tgt := 130) hx hb dX10_load_123 (by decide) (fun h39 => ?_) (fun h39 => ?_)
                        · replace hf := if_t hf h39
                          refine lv_iconst (v := (nI 5)) hx hb dX10_load_130 (by decide) ?_
                          cases hf
                          exact mp_reti X hP hS rfl dX10_load_131
                        · replace hf := if_f hf h39
                          refine lv_iconst (v := (nI 0)) hx hb dX10_load_126 (by decide) ?_
                          refine lv_goto (tgt := 131) hx hb dX10_load_127 (by decide) ?_
                          cases hf
                          exact mp_reti X hP hS rfl dX10_load_131
                      · replace hf := if_f hf h38
                        refine lv_iconst (v := (nI 1)) hx hb dX10_load_114 (by decide) ?_
                        refine lv_goto (tgt := 119) hx hb dX10_load_115 (by decide) ?_
                        refine lv_istore (lv' := [(7, .int (nI 1)), (6, .int r1), (0, .ref a_), (1, .ref a_p1), (2, .int x2), (3, .int x3), (4, .int x4), (5, .int x5)]) hx hb dX10_load_119 hl (by decide) rfl (fun ls hl => ?_)
                        refine lv_iload hx hb dX10_load_121 (lv_at hl 0 rfl) ?_
                        refine lv_if_eq (tgt := 130) hx hb dX10_load_123 (by decide) (fun h40 => ?_) (fun h40 => ?_)
                        · replace hf := if_t hf h40
                          refine lv_iconst (v := (nI 5)) hx hb dX10_load_130 (by decide) ?_
                          cases hf
                          exact mp_reti X hP hS rfl dX10_load_131
                        · replace hf := if_f hf h40
                          refine lv_iconst (v := (nI 0)) hx hb dX10_load_126 (by decide) ?_
                          refine lv_goto (tgt := 131) hx hb dX10_load_127 (by decide) ?_
                          cases hf
                          exact mp_reti X hP hS rfl dX10_load_131
                    replace hf := if_f hf h34
                    have h41 : x4 = (nI 3) := mp_last4 h19 h20 h27 h34
                    rw [show va_rf (mp_ol [a_p1_rows_0, a_p1_rows_1, a_p1_rows_2, a_p1_rows_3] (x4).toNatClampNeg) = .ref a_p1_rows_3 from by rw [h41]; rfl]
                    refine lv_aload_n hx hb dX10_load_102 rfl (lv_at hl 1 rfl) ?_
                    refine mp_get X fl_X10_15 hK hP 0 rfl rfl dX10_load_103 ?_
                    refine lv_iload hx hb dX10_load_106 (lv_at hl 6 rfl) ?_
                    obtain ⟨⟨r42, u43⟩, c44, hf⟩ := bd_of hf
                    dsimp only at hf
                    have hPc := hP.sub (ws' := (k_X10_takeLetters T a_p1_rows_3 a_row 60 60 v_p1_rows_3 v_row)) [9, 1] rfl
                    have hDc := (mp_D_of (w1 := (k_X10_load T a_ a_word a_row a_ways a_places a_p1 a_p1_rows a_p1_sorts a_p1_lengths a_p1_rows_0 a_p1_rows_1 a_p1_rows_2 a_p1_rows_3 x3 x5 v_row u15 v_p1_lengths v_p1_rows_0 v_p1_rows_1 v_p1_rows_2 v_p1_rows_3)) hD rfl).sub (ws' := (k_X10_takeLetters T a_p1_rows_3 a_row 60 60 v_p1_rows_3 v_row)) [9, 1] rfl rfl
                    refine mp_calli (isC := [9, 1]) (wc := (k_X10_takeLetters T a_p1_rows_3 a_row 60 60 v_p1_rows_3 v_row)) (w1 := (k_X10_takeLetters T a_p1_rows_3 a_row 60 60 v_p1_rows_3 u43)) hP (mp_D_of hD rfl) hS hA rfl rfl (mp_runS (As := [.ref a_p1_rows_3, .ref a_row, .int x5]) (rest := []) X me_X10_takeLetters lk_X10_45 (c_X10_takeLetters l D T fu a_p1_rows_3 a_row 60 60 x5 v_p1_rows_3 v_row r42 u43 c44) rfl rfl ⟨(Nat.le_of_ble_eq_true rfl), (Nat.le_of_ble_eq_true rfl)⟩ hK hPc hDc rfl hl.1 rfl (Nat.le_of_ble_eq_true rfl) dX10_load_108 ⟨Nat.zero_le _, Nat.zero_le _⟩) (fun H locs hP _ hS => ?_)
                    replace hP : va_P D mp_cl (k_X10_load T a_ a_word a_row a_ways a_places a_p1 a_p1_rows a_p1_sorts a_p1_lengths a_p1_rows_0 a_p1_rows_1 a_p1_rows_2 a_p1_rows_3 x3 x5 u43 u15 v_p1_lengths v_p1_rows_0 v_p1_rows_1 v_p1_rows_2 v_p1_rows_3) H := hP
                    refine lv_if_eq (tgt := 118) hx hb dX10_load_111 (by decide) (fun h45 => ?_) (fun h45 => ?_)
                    · replace hf := if_t hf h45
                      refine lv_iconst (v := (nI 0)) hx hb dX10_load_118 (by decide) ?_
                      refine lv_istore (lv' := [(7, .int (nI 0)), (6, .int r1), (0, .ref a_), (1, .ref a_p1), (2, .int x2), (3, .int x3), (4, .int x4), (5, .int x5)]) hx hb dX10_load_119 hl (by decide) rfl (fun ls hl => ?_)
                      refine lv_iload hx hb dX10_load_121 (lv_at hl 0 rfl) ?_
                      refine lv_if_eq (tgt := 130) hx hb dX10_load_123 (by decide) (fun h46 => ?_) (fun h46 => ?_)
                      · replace hf := if_t hf h46
                        refine lv_iconst (v := (nI 5)) hx hb dX10_load_130 (by decide) ?_
                        cases hf
                        exact mp_reti X hP hS rfl dX10_load_131
                      · replace hf := if_f hf h46
                        refine lv_iconst (v := (nI 0)) hx hb dX10_load_126 (by decide) ?_
                        refine lv_goto (tgt := 131) hx hb dX10_load_127 (by decide) ?_
                        cases hf
                        exact mp_reti X hP hS rfl dX10_load_131
                    · replace hf := if_f hf h45
                      refine lv_iconst (v := (nI 1)) hx hb dX10_load_114 (by decide) ?_
                      refine lv_goto (tgt := 119) hx hb dX10_load_115 (by decide) ?_
                      refine lv_istore (lv' := [(7, .int (nI 1)), (6, .int r1), (0, .ref a_), (1, .ref a_p1), (2, .int x2), (3, .int x3), (4, .int x4), (5, .int x5)]) hx hb dX10_load_119 hl (by decide) rfl (fun ls hl => ?_)
                      refine lv_iload hx hb dX10_load_121 (lv_at hl 0 rfl) ?_
                      refine lv_if_eq (tgt := 130) hx hb dX10_load_123 (by decide) (fun h47 => ?_) (fun h47 => ?_)
                      · replace hf := if_t hf h47
                        refine lv_iconst (v := (nI 5)) hx hb dX10_load_130 (by decide) ?_
                        cases hf
                        exact mp_reti X hP hS rfl dX10_load_131
                      · replace hf := if_f hf h47
                        refine lv_iconst (v := (nI 0)) hx hb dX10_load_126 (by decide) ?_
                        refine lv_goto (tgt := 131) hx hb dX10_load_127 (by decide) ?_
                        cases hf
                        exact mp_reti X hP hS rfl dX10_load_131
                replace hf := if_f hf h13
                by_cases h48 : x2 = (nI 1)
                · replace hf := if_t hf h48
                  rw [show va_rf (mp_ol [a_p1_rows_0, a_p1_rows_1, a_p1_rows_2, a_p1_rows_3] (x2).toNatClampNeg) = .ref a_p1_rows_1 from by rw [h48]; rfl]
                  refine lv_aload_n hx hb dX10_load_84 rfl (lv_at hl 1 rfl) ?_
                  refine mp_get X fl_X10_9 hK hP 0 rfl rfl dX10_load_85 ?_
                  refine lv_iload_n hx hb dX10_load_88 rfl (lv_at hl 4 rfl) ?_
                  obtain ⟨⟨r49, u50⟩, c51, hf⟩ := bd_of hf
                  dsimp only at hf
                  have hPc := hP.sub (ws' := (k_X10_takeLetters T a_p1_rows_1 a_word 60 10 v_p1_rows_1 v_word)) [7, 2] rfl
                  have hDc := (mp_D_of (w1 := (k_X10_load T a_ a_word a_row a_ways a_places a_p1 a_p1_rows a_p1_sorts a_p1_lengths a_p1_rows_0 a_p1_rows_1 a_p1_rows_2 a_p1_rows_3 x3 x5 v_row v_word v_p1_lengths v_p1_rows_0 v_p1_rows_1 v_p1_rows_2 v_p1_rows_3)) hD rfl).sub (ws' := (k_X10_takeLetters T a_p1_rows_1 a_word 60 10 v_p1_rows_1 v_word)) [7, 2] rfl rfl
                  refine mp_calli (isC := [7, 2]) (wc := (k_X10_takeLetters T a_p1_rows_1 a_word 60 10 v_p1_rows_1 v_word)) (w1 := (k_X10_takeLetters T a_p1_rows_1 a_word 60 10 v_p1_rows_1 u50)) hP (mp_D_of hD rfl) hS hA rfl rfl (mp_runS (As := [.ref a_p1_rows_1, .ref a_word, .int x3]) (rest := []) X me_X10_takeLetters lk_X10_45 (c_X10_takeLetters l D T fu a_p1_rows_1 a_word 60 10 x3 v_p1_rows_1 v_word r49 u50 c51) rfl rfl ⟨(Nat.le_of_ble_eq_true rfl), (Nat.le_of_ble_eq_true rfl)⟩ hK hPc hDc rfl hl.1 rfl (Nat.le_of_ble_eq_true rfl) dX10_load_89 ⟨Nat.zero_le _, Nat.zero_le _⟩) (fun H locs hP _ hS => ?_)
                  replace hP : va_P D mp_cl (k_X10_load T a_ a_word a_row a_ways a_places a_p1 a_p1_rows a_p1_sorts a_p1_lengths a_p1_rows_0 a_p1_rows_1 a_p1_rows_2 a_p1_rows_3 x3 x5 v_row u50 v_p1_lengths v_p1_rows_0 v_p1_rows_1 v_p1_rows_2 v_p1_rows_3) H := hP
                  refine lv_if_eq (tgt := 118) hx hb dX10_load_92 (by decide) (fun h52 => ?_) (fun h52 => ?_)
                  · replace hf := if_t hf h52
                    refine lv_iconst (v := (nI 0)) hx hb dX10_load_118 (by decide) ?_
                    refine lv_istore (lv' := [(7, .int (nI 0)), (6, .int r1), (0, .ref a_), (1, .ref a_p1), (2, .int x2), (3, .int x3), (4, .int x4), (5, .int x5)]) hx hb dX10_load_119 hl (by decide) rfl (fun ls hl => ?_)
                    refine lv_iload hx hb dX10_load_121 (lv_at hl 0 rfl) ?_
                    refine lv_if_eq (tgt := 130) hx hb dX10_load_123 (by decide) (fun h53 => ?_) (fun h53 => ?_)
                    · replace hf := if_t hf h53
                      refine lv_iconst (v := (nI 5)) hx hb dX10_load_130 (by decide) ?_
                      cases hf
                      exact mp_reti X hP hS rfl dX10_load_131
                    · replace hf := if_f hf h53
                      refine lv_iconst (v := (nI 0)) hx hb dX10_load_126 (by decide) ?_
                      refine lv_goto (tgt := 131) hx hb dX10_load_127 (by decide) ?_
                      cases hf
                      exact mp_reti X hP hS rfl dX10_load_131
                  · replace hf := if_f hf h52
                    refine lv_aload_n hx hb dX10_load_95 rfl (lv_at hl 2 rfl) ?_
                    refine mp_get X fl_X10_41 hK hP 3 rfl rfl dX10_load_96 ?_
                    refine lv_iload hx hb dX10_load_99 (lv_at hl 5 rfl) ?_
                    obtain ⟨h54, hf⟩ := gi_of hf
                    refine va_aldqA hx hb hK hP 5 3 rfl rfl h54 dX10_load_101 ?_
                    by_cases h55 : x4 = (nI 0)
                    · replace hf := if_t hf h55
                      rw [show va_rf (mp_ol [a_p1_rows_0, a_p1_rows_1, a_p1_rows_2, a_p1_rows_3] (x4).toNatClampNeg) = .ref a_p1_rows_0 from by rw [h55]; rfl]
                      refine lv_aload_n hx hb dX10_load_102 rfl (lv_at hl 1 rfl) ?_
                      refine mp_get X fl_X10_15 hK hP 0 rfl rfl dX10_load_103 ?_
                      refine lv_iload hx hb dX10_load_106 (lv_at hl 6 rfl) ?_
                      obtain ⟨⟨r56, u57⟩, c58, hf⟩ := bd_of hf
                      dsimp only at hf
                      have hPc := hP.sub (ws' := (k_X10_takeLetters T a_p1_rows_0 a_row 60 60 v_p1_rows_0 v_row)) [6, 1] rfl
                      have hDc := (mp_D_of (w1 := (k_X10_load T a_ a_word a_row a_ways a_places a_p1 a_p1_rows a_p1_sorts a_p1_lengths a_p1_rows_0 a_p1_rows_1 a_p1_rows_2 a_p1_rows_3 x3 x5 v_row u50 v_p1_lengths v_p1_rows_0 v_p1_rows_1 v_p1_rows_2 v_p1_rows_3)) hD rfl).sub (ws' := (k_X10_takeLetters T a_p1_rows_0 a_row 60 60 v_p1_rows_0 v_row)) [6, 1] rfl rfl
                      refine mp_calli (isC := [6, 1]) (wc := (k_X10_takeLetters T a_p1_rows_0 a_row 60 60 v_p1_rows_0 v_row)) (w1 := (k_X10_takeLetters T a_p1_rows_0 a_row 60 60 v_p1_rows_0 u57)) hP (mp_D_of hD rfl) hS hA rfl rfl (mp_runS (As := [.ref a_p1_rows_0, .ref a_row, .int x5]) (rest := []) X me_X10_takeLetters lk_X10_45 (c_X10_takeLetters l D T fu a_p1_rows_0 a_row 60 60 x5 v_p1_rows_0 v_row r56 u57 c58) rfl rfl ⟨(Nat.le_of_ble_eq_true rfl), (Nat.le_of_ble_eq_true rfl)⟩ hK hPc hDc rfl hl.1 rfl (Nat.le_of_ble_eq_true rfl) dX10_load_108 ⟨Nat.zero_le _, Nat.zero_le _⟩) (fun H locs hP _ hS => ?_)
                      replace hP : va_P D mp_cl (k_X10_load T a_ a_word a_row a_ways a_places a_p1 a_p1_rows a_p1_sorts a_p1_lengths a_p1_rows_0 a_p1_rows_1 a_p1_rows_2 a_p1_rows_3 x3 x5 u57 u50 v_p1_lengths v_p1_rows_0 v_p1_rows_1 v_p1_rows_2 v_p1_rows_3) H := hP
                      refine lv_if_eq (tgt := 118) hx hb dX10_load_111 (by decide) (fun h59 => ?_) (fun h59 => ?_)
                      · replace hf := if_t hf h59
                        refine lv_iconst (v := (nI 0)) hx hb dX10_load_118 (by decide) ?_
                        refine lv_istore (lv' := [(7, .int (nI 0)), (6, .int r1), (0, .ref a_), (1, .ref a_p1), (2, .int x2), (3, .int x3), (4, .int x4), (5, .int x5)]) hx hb dX10_load_119 hl (by decide) rfl (fun ls hl => ?_)
                        refine lv_iload hx hb dX10_load_121 (lv_at hl 0 rfl) ?_
                        refine lv_if_eq (tgt := 130) hx hb dX10_load_123 (by decide) (fun h60 => ?_) (fun h60 => ?_)
                        · replace hf := if_t hf h60
                          refine lv_iconst (v := (nI 5)) hx hb dX10_load_130 (by decide) ?_
                          cases hf
                          exact mp_reti X hP hS rfl dX10_load_131
                        · replace hf := if_f hf h60
                          refine lv_iconst (v := (nI 0)) hx hb dX10_load_126 (by decide) ?_
                          refine lv_goto (tgt := 131) hx hb dX10_load_127 (by decide) ?_
                          cases hf
                          exact mp_reti X hP hS rfl dX10_load_131
                      · replace hf := if_f hf h59
                        refine lv_iconst (v := (nI 1)) hx hb dX10_load_114 (by decide) ?_
                        refine lv_goto (tgt := 119) hx hb dX10_load_115 (by decide) ?_
                        refine lv_istore (lv' := [(7, .int (nI 1)), (6, .int r1), (0, .ref a_), (1, .ref a_p1), (2, .int x2), (3, .int x3), (4, .int x4), (5, .int x5)]) hx hb dX10_load_119 hl (by decide) rfl (fun ls hl => ?_)
                        refine lv_iload hx hb dX10_load_121 (lv_at hl 0 rfl) ?_
                        refine lv_if_eq (tgt := 130) hx hb dX10_load_123 (by decide) (fun h61 => ?_) (fun h61 => ?_)
                        · replace hf := if_t hf h61
                          refine lv_iconst (v := (nI 5)) hx hb dX10_load_130 (by decide) ?_
                          cases hf
                          exact mp_reti X hP hS rfl dX10_load_131
                        · replace hf := if_f hf h61
                          refine lv_iconst (v := (nI 0)) hx hb dX10_load_126 (by decide) ?_
                          refine lv_goto (tgt := 131) hx hb dX10_load_127 (by decide) ?_
                          cases hf
                          exact mp_reti X hP hS rfl dX10_load_131
                    replace hf := if_f hf h55
                    by_cases h62 : x4 = (nI 1)
                    · replace hf := if_t hf h62
                      rw [show va_rf (mp_ol [a_p1_rows_0, a_p1_rows_1, a_p1_rows_2, a_p1_rows_3] (x4).toNatClampNeg) = .ref a_p1_rows_1 from by rw [h62]; rfl]
                      refine lv_aload_n hx hb dX10_load_102 rfl (lv_at hl 1 rfl) ?_
                      refine mp_get X fl_X10_15 hK hP 0 rfl rfl dX10_load_103 ?_
                      refine lv_iload hx hb dX10_load_106 (lv_at hl 6 rfl) ?_
                      obtain ⟨⟨r63, u64⟩, c65, hf⟩ := bd_of hf
                      dsimp only at hf
                      have hPc := hP.sub (ws' := (k_X10_takeLetters T a_p1_rows_1 a_row 60 60 v_p1_rows_1 v_row)) [7, 1] rfl
                      have hDc := (mp_D_of (w1 := (k_X10_load T a_ a_word a_row a_ways a_places a_p1 a_p1_rows a_p1_sorts a_p1_lengths a_p1_rows_0 a_p1_rows_1 a_p1_rows_2 a_p1_rows_3 x3 x5 v_row u50 v_p1_lengths v_p1_rows_0 v_p1_rows_1 v_p1_rows_2 v_p1_rows_3)) hD rfl).sub (ws' := (k_X10_takeLetters T a_p1_rows_1 a_row 60 60 v_p1_rows_1 v_row)) [7, 1] rfl rfl
                      refine mp_calli (isC := [7, 1]) (wc := (k_X10_takeLetters T a_p1_rows_1 a_row 60 60 v_p1_rows_1 v_row)) (w1 := (k_X10_takeLetters T a_p1_rows_1 a_row 60 60 v_p1_rows_1 u64)) hP (mp_D_of hD rfl) hS hA rfl rfl (mp_runS (As := [.ref a_p1_rows_1, .ref a_row, .int x5]) (rest := []) X me_X10_takeLetters lk_X10_45 (c_X10_takeLetters l D T fu a_p1_rows_1 a_row 60 60 x5 v_p1_rows_1 v_row r63 u64 c65) rfl rfl ⟨(Nat.le_of_ble_eq_true rfl), (Nat.le_of_ble_eq_true rfl)⟩ hK hPc hDc rfl hl.1 rfl (Nat.le_of_ble_eq_true rfl) dX10_load_108 ⟨Nat.zero_le _, Nat.zero_le _⟩) (fun H locs hP _ hS => ?_)
                      replace hP : va_P D mp_cl (k_X10_load T a_ a_word a_row a_ways a_places a_p1 a_p1_rows a_p1_sorts a_p1_lengths a_p1_rows_0 a_p1_rows_1 a_p1_rows_2 a_p1_rows_3 x3 x5 u64 u50 v_p1_lengths v_p1_rows_0 v_p1_rows_1 v_p1_rows_2 v_p1_rows_3) H := hP
                      refine lv_if_eq (tgt := 118) hx hb dX10_load_111 (by decide) (fun h66 => ?_) (fun h66 => ?_)
                      · replace hf := if_t hf h66
                        refine lv_iconst (v := (nI 0)) hx hb dX10_load_118 (by decide) ?_
                        refine lv_istore (lv' := [(7, .int (nI 0)), (6, .int r1), (0, .ref a_), (1, .ref a_p1), (2, .int x2), (3, .int x3), (4, .int x4), (5, .int x5)]) hx hb dX10_load_119 hl (by decide) rfl (fun ls hl => ?_)
                        refine lv_iload hx hb dX10_load_121 (lv_at hl 0 rfl) ?_
                        refine lv_if_eq (tgt := 130) hx hb dX10_load_123 (by decide) (fun h67 => ?_) (fun h67 => ?_)
                        · replace hf := if_t hf h67
                          refine lv_iconst (v := (nI 5)) hx hb dX10_load_130 (by decide) ?_
                          cases hf
                          exact mp_reti X hP hS rfl dX10_load_131
                        · replace hf := if_f hf h67
                          refine lv_iconst (v := (nI 0)) hx hb dX10_load_126 (by decide) ?_
                          refine lv_goto (tgt := 131) hx hb dX10_load_127 (by decide) ?_
                          cases hf
                          exact mp_reti X hP hS rfl dX10_load_131
                      · replace hf := if_f hf h66
                        refine lv_iconst (v := (nI 1)) hx hb dX10_load_114 (by decide) ?_
                        refine lv_goto (tgt := 119) hx hb dX10_load_115 (by decide) ?_
                        refine lv_istore (lv' := [(7, .int (nI 1)), (6, .int r1), (0, .ref a_), (1, .ref a_p1), (2, .int x2), (3, .int x3), (4, .int x4), (5, .int x5)]) hx hb dX10_load_119 hl (by decide) rfl (fun ls hl => ?_)
                        refine lv_iload hx hb dX10_load_121 (lv_at hl 0 rfl) ?_
                        refine lv_if_eq (tgt := 130) hx hb dX10_load_123 (by decide) (fun h68 => ?_) (fun h68 => ?_)
                        · replace hf := if_t hf h68
                          refine lv_iconst (v := (nI 5)) hx hb dX10_load_130 (by decide) ?_
                          cases hf
                          exact mp_reti X hP hS rfl dX10_load_131
                        · replace hf := if_f hf h68
                          refine lv_iconst (v := (nI 0)) hx hb dX10_load_126 (by decide) ?_
                          refine lv_goto (tgt := 131) hx hb dX10_load_127 (by decide) ?_
                          cases hf
                          exact mp_reti X hP hS rfl dX10_load_131
                    replace hf := if_f hf h62
                    by_cases h69 : x4 = (nI 2)
                    · replace hf := if_t hf h69
                      rw [show va_rf (mp_ol [a_p1_rows_0, a_p1_rows_1, a_p1_rows_2, a_p1_rows_3] (x4).toNatClampNeg) = .ref a_p1_rows_2 from by rw [h69]; rfl]
                      refine lv_aload_n hx hb dX10_load_102 rfl (lv_at hl 1 rfl) ?_
                      refine mp_get X fl_X10_15 hK hP 0 rfl rfl dX10_load_103 ?_
                      refine lv_iload hx hb dX10_load_106 (lv_at hl 6 rfl) ?_
                      obtain ⟨⟨r70, u71⟩, c72, hf⟩ := bd_of hf
                      dsimp only at hf
                      have hPc := hP.sub (ws' := (k_X10_takeLetters T a_p1_rows_2 a_row 60 60 v_p1_rows_2 v_row)) [8, 1] rfl
                      have hDc := (mp_D_of (w1 := (k_X10_load T a_ a_word a_row a_ways a_places a_p1 a_p1_rows a_p1_sorts a_p1_lengths a_p1_rows_0 a_p1_rows_1 a_p1_rows_2 a_p1_rows_3 x3 x5 v_row u50 v_p1_lengths v_p1_rows_0 v_p1_rows_1 v_p1_rows_2 v_p1_rows_3)) hD rfl).sub (ws' := (k_X10_takeLetters T a_p1_rows_2 a_row 60 60 v_p1_rows_2 v_row)) [8, 1] rfl rfl
                      refine mp_calli (isC := [8, 1]) (wc := (k_X10_takeLetters T a_p1_rows_2 a_row 60 60 v_p1_rows_2 v_row)) (w1 := (k_X10_takeLetters T a_p1_rows_2 a_row 60 60 v_p1_rows_2 u71)) hP (mp_D_of hD rfl) hS hA rfl rfl (mp_runS (As := [.ref a_p1_rows_2, .ref a_row, .int x5]) (rest := []) X me_X10_takeLetters lk_X10_45 (c_X10_takeLetters l D T fu a_p1_rows_2 a_row 60 60 x5 v_p1_rows_2 v_row r70 u71 c72) rfl rfl ⟨(Nat.le_of_ble_eq_true rfl), (Nat.le_of_ble_eq_true rfl)⟩ hK hPc hDc rfl hl.1 rfl (Nat.le_of_ble_eq_true rfl) dX10_load_108 ⟨Nat.zero_le _, Nat.zero_le _⟩) (fun H locs hP _ hS => ?_)
                      replace hP : va_P D mp_cl (k_X10_load T a_ a_word a_row a_ways a_places a_p1 a_p1_rows a_p1_sorts a_p1_lengths a_p1_rows_0 a_p1_rows_1 a_p1_rows_2 a_p1_rows_3 x3 x5 u71 u50 v_p1_lengths v_p1_rows_0 v_p1_rows_1 v_p1_rows_2 v_p1_rows_3) H := hP
                      refine lv_if_eq (tgt := 118) hx hb dX10_load_111 (by decide) (fun h73 => ?_) (fun h73 => ?_)
                      · replace hf := if_t hf h73
                        refine lv_iconst (v := (nI 0)) hx hb dX10_load_118 (by decide) ?_
                        refine lv_istore (lv' := [(7, .int (nI 0)), (6, .int r1), (0, .ref a_), (1, .ref a_p1), (2, .int x2), (3, .int x3), (4, .int x4), (5, .int x5)]) hx hb dX10_load_119 hl (by decide) rfl (fun ls hl => ?_)
                        refine lv_iload hx hb dX10_load_121 (lv_at hl 0 rfl) ?_
                        refine lv_if_eq (tgt := 130) hx hb dX10_load_123 (by decide) (fun h74 => ?_) (fun h74 => ?_)
                        · replace hf := if_t hf h74
                          refine lv_iconst (v := (nI 5)) hx hb dX10_load_130 (by decide) ?_
                          cases hf
                          exact mp_reti X hP hS rfl dX10_load_131
                        · replace hf := if_f hf h74
                          refine lv_iconst (v := (nI 0)) hx hb dX10_load_126 (by decide) ?_
                          refine lv_goto (tgt := 131) hx hb dX10_load_127 (by decide) ?_
                          cases hf
                          exact mp_reti X hP hS rfl dX10_load_131
                      · replace hf := if_f hf h73
                        refine lv_iconst (v := (nI 1)) hx hb dX10_load_114 (by decide) ?_
                        refine lv_goto (tgt := 119) hx hb dX10_load_115 (by decide) ?_
                        refine lv_istore (lv' := [(7, .int (nI 1)), (6, .int r1), (0, .ref a_), (1, .ref a_p1), (2, .int x2), (3, .int x3), (4, .int x4), (5, .int x5)]) hx hb dX10_load_119 hl (by decide) rfl (fun ls hl => ?_)
                        refine lv_iload hx hb dX10_load_121 (lv_at hl 0 rfl) ?_
                        refine lv_if_eq (tgt := 130) hx hb dX10_load_123 (by decide) (fun h75 => ?_) (fun h75 => ?_)
                        · replace hf := if_t hf h75
                          refine lv_iconst (v := (nI 5)) hx hb dX10_load_130 (by decide) ?_
                          cases hf
                          exact mp_reti X hP hS rfl dX10_load_131
                        · replace hf := if_f hf h75
                          refine lv_iconst (v := (nI 0)) hx hb dX10_load_126 (by decide) ?_
                          refine lv_goto (tgt := 131) hx hb dX10_load_127 (by decide) ?_
                          cases hf
                          exact mp_reti X hP hS rfl dX10_load_131
                    replace hf := if_f hf h69
                    have h76 : x4 = (nI 3) := mp_last4 h54 h55 h62 h69
                    rw [show va_rf (mp_ol [a_p1_rows_0, a_p1_rows_1, a_p1_rows_2, a_p1_rows_3] (x4).toNatClampNeg) = .ref a_p1_rows_3 from by rw [h76]; rfl]
                    refine lv_aload_n hx hb dX10_load_102 rfl (lv_at hl 1 rfl) ?_
                    refine mp_get X fl_X10_15 hK hP 0 rfl rfl dX10_load_103 ?_
                    refine lv_iload hx hb dX10_load_106 (lv_at hl 6 rfl) ?_
                    obtain ⟨⟨r77, u78⟩, c79, hf⟩ := bd_of hf
                    dsimp only at hf
                    have hPc := hP.sub (ws' := (k_X10_takeLetters T a_p1_rows_3 a_row 60 60 v_p1_rows_3 v_row)) [9, 1] rfl
                    have hDc := (mp_D_of (w1 := (k_X10_load T a_ a_word a_row a_ways a_places a_p1 a_p1_rows a_p1_sorts a_p1_lengths a_p1_rows_0 a_p1_rows_1 a_p1_rows_2 a_p1_rows_3 x3 x5 v_row u50 v_p1_lengths v_p1_rows_0 v_p1_rows_1 v_p1_rows_2 v_p1_rows_3)) hD rfl).sub (ws' := (k_X10_takeLetters T a_p1_rows_3 a_row 60 60 v_p1_rows_3 v_row)) [9, 1] rfl rfl
                    refine mp_calli (isC := [9, 1]) (wc := (k_X10_takeLetters T a_p1_rows_3 a_row 60 60 v_p1_rows_3 v_row)) (w1 := (k_X10_takeLetters T a_p1_rows_3 a_row 60 60 v_p1_rows_3 u78)) hP (mp_D_of hD rfl) hS hA rfl rfl (mp_runS (As := [.ref a_p1_rows_3, .ref a_row, .int x5]) (rest := []) X me_X10_takeLetters lk_X10_45 (c_X10_takeLetters l D T fu a_p1_rows_3 a_row 60 60 x5 v_p1_rows_3 v_row r77 u78 c79) rfl rfl ⟨(Nat.le_of_ble_eq_true rfl), (Nat.le_of_ble_eq_true rfl)⟩ hK hPc hDc rfl hl.1 rfl (Nat.le_of_ble_eq_true rfl) dX10_load_108 ⟨Nat.zero_le _, Nat.zero_le _⟩) (fun H locs hP _ hS => ?_)
                    replace hP : va_P D mp_cl (k_X10_load T a_ a_word a_row a_ways a_places a_p1 a_p1_rows a_p1_sorts a_p1_lengths a_p1_rows_0 a_p1_rows_1 a_p1_rows_2 a_p1_rows_3 x3 x5 u78 u50 v_p1_lengths v_p1_rows_0 v_p1_rows_1 v_p1_rows_2 v_p1_rows_3) H := hP
                    refine lv_if_eq (tgt := 118) hx hb dX10_load_111 (by decide) (fun h80 => ?_) (fun h80 => ?_)
                    · replace hf := if_t hf h80
                      refine lv_iconst (v := (nI 0)) hx hb dX10_load_118 (by decide) ?_
                      refine lv_istore (lv' := [(7, .int (nI 0)), (6, .int r1), (0, .ref a_), (1, .ref a_p1), (2, .int x2), (3, .int x3), (4, .int x4), (5, .int x5)]) hx hb dX10_load_119 hl (by decide) rfl (fun ls hl => ?_)
                      refine lv_iload hx hb dX10_load_121 (lv_at hl 0 rfl) ?_
                      refine lv_if_eq (tgt := 130) hx hb dX10_load_123 (by decide) (fun h81 => ?_) (fun h81 => ?_)
                      · replace hf := if_t hf h81
                        refine lv_iconst (v := (nI 5)) hx hb dX10_load_130 (by decide) ?_
                        cases hf
                        exact mp_reti X hP hS rfl dX10_load_131
                      · replace hf := if_f hf h81
                        refine lv_iconst (v := (nI 0)) hx hb dX10_load_126 (by decide) ?_
                        refine lv_goto (tgt := 131) hx hb dX10_load_127 (by decide) ?_
                        cases hf
                        exact mp_reti X hP hS rfl dX10_load_131
                    · replace hf := if_f hf h80
                      refine lv_iconst (v := (nI 1)) hx hb dX10_load_114 (by decide) ?_
                      refine lv_goto (tgt := 119) hx hb dX10_load_115 (by decide) ?_
                      refine lv_istore (lv' := [(7, .int (nI 1)), (6, .int r1), (0, .ref a_), (1, .ref a_p1), (2, .int x2), (3, .int x3), (4, .int x4), (5, .int x5)]) hx hb dX10_load_119 hl (by decide) rfl (fun ls hl => ?_)
                      refine lv_iload hx hb dX10_load_121 (lv_at hl 0 rfl) ?_
                      refine lv_if_eq (tgt := 130) hx hb dX10_load_123 (by decide) (fun h82 => ?_) (fun h82 => ?_)
                      · replace hf := if_t hf h82
                        refine lv_iconst (v := (nI 5)) hx hb dX10_load_130 (by decide) ?_
                        cases hf
                        exact mp_reti X hP hS rfl dX10_load_131
                      · replace hf := if_f hf h82
                        refine lv_iconst (v := (nI 0)) hx hb dX10_load_126 (by decide) ?_
                        refine lv_goto (tgt := 131) hx hb dX10_load_127 (by decide) ?_
                        cases hf
                        exact mp_reti X hP hS rfl dX10_load_131
                replace hf := if_f hf h48
                by_cases h83 : x2 = (nI 2)
                · replace hf := if_t hf h83
                  rw [show va_rf (mp_ol [a_p1_rows_0, a_p1_rows_1, a_p1_rows_2, a_p1_rows_3] (x2).toNatClampNeg) = .ref a_p1_rows_2 from by rw [h83]; rfl]
                  refine lv_aload_n hx hb dX10_load_84 rfl (lv_at hl 1 rfl) ?_
                  refine mp_get X fl_X10_9 hK hP 0 rfl rfl dX10_load_85 ?_
                  refine lv_iload_n hx hb dX10_load_88 rfl (lv_at hl 4 rfl) ?_
                  obtain ⟨⟨r84, u85⟩, c86, hf⟩ := bd_of hf
                  dsimp only at hf
                  have hPc := hP.sub (ws' := (k_X10_takeLetters T a_p1_rows_2 a_word 60 10 v_p1_rows_2 v_word)) [8, 2] rfl
                  have hDc := (mp_D_of (w1 := (k_X10_load T a_ a_word a_row a_ways a_places a_p1 a_p1_rows a_p1_sorts a_p1_lengths a_p1_rows_0 a_p1_rows_1 a_p1_rows_2 a_p1_rows_3 x3 x5 v_row v_word v_p1_lengths v_p1_rows_0 v_p1_rows_1 v_p1_rows_2 v_p1_rows_3)) hD rfl).sub (ws' := (k_X10_takeLetters T a_p1_rows_2 a_word 60 10 v_p1_rows_2 v_word)) [8, 2] rfl rfl
                  refine mp_calli (isC := [8, 2]) (wc := (k_X10_takeLetters T a_p1_rows_2 a_word 60 10 v_p1_rows_2 v_word)) (w1 := (k_X10_takeLetters T a_p1_rows_2 a_word 60 10 v_p1_rows_2 u85)) hP (mp_D_of hD rfl) hS hA rfl rfl (mp_runS (As := [.ref a_p1_rows_2, .ref a_word, .int x3]) (rest := []) X me_X10_takeLetters lk_X10_45 (c_X10_takeLetters l D T fu a_p1_rows_2 a_word 60 10 x3 v_p1_rows_2 v_word r84 u85 c86) rfl rfl ⟨(Nat.le_of_ble_eq_true rfl), (Nat.le_of_ble_eq_true rfl)⟩ hK hPc hDc rfl hl.1 rfl (Nat.le_of_ble_eq_true rfl) dX10_load_89 ⟨Nat.zero_le _, Nat.zero_le _⟩) (fun H locs hP _ hS => ?_)
                  replace hP : va_P D mp_cl (k_X10_load T a_ a_word a_row a_ways a_places a_p1 a_p1_rows a_p1_sorts a_p1_lengths a_p1_rows_0 a_p1_rows_1 a_p1_rows_2 a_p1_rows_3 x3 x5 v_row u85 v_p1_lengths v_p1_rows_0 v_p1_rows_1 v_p1_rows_2 v_p1_rows_3) H := hP
                  refine lv_if_eq (tgt := 118) hx hb dX10_load_92 (by decide) (fun h87 => ?_) (fun h87 => ?_)
                  · replace hf := if_t hf h87
                    refine lv_iconst (v := (nI 0)) hx hb dX10_load_118 (by decide) ?_
                    refine lv_istore (lv' := [(7, .int (nI 0)), (6, .int r1), (0, .ref a_), (1, .ref a_p1), (2, .int x2), (3, .int x3), (4, .int x4), (5, .int x5)]) hx hb dX10_load_119 hl (by decide) rfl (fun ls hl => ?_)
                    refine lv_iload hx hb dX10_load_121 (lv_at hl 0 rfl) ?_
                    refine lv_if_eq (tgt := 130) hx hb dX10_load_123 (by decide) (fun h88 => ?_) (fun h88 => ?_)
                    · replace hf := if_t hf h88
                      refine lv_iconst (v := (nI 5)) hx hb dX10_load_130 (by decide) ?_
                      cases hf
                      exact mp_reti X hP hS rfl dX10_load_131
                    · replace hf := if_f hf h88
                      refine lv_iconst (v := (nI 0)) hx hb dX10_load_126 (by decide) ?_
                      refine lv_goto (tgt := 131) hx hb dX10_load_127 (by decide) ?_
                      cases hf
                      exact mp_reti X hP hS rfl dX10_load_131
                  · replace hf := if_f hf h87
                    refine lv_aload_n hx hb dX10_load_95 rfl (lv_at hl 2 rfl) ?_
                    refine mp_get X fl_X10_41 hK hP 3 rfl rfl dX10_load_96 ?_
                    refine lv_iload hx hb dX10_load_99 (lv_at hl 5 rfl) ?_
                    obtain ⟨h89, hf⟩ := gi_of hf
                    refine va_aldqA hx hb hK hP 5 3 rfl rfl h89 dX10_load_101 ?_
                    by_cases h90 : x4 = (nI 0)
                    · replace hf := if_t hf h90
                      rw [show va_rf (mp_ol [a_p1_rows_0, a_p1_rows_1, a_p1_rows_2, a_p1_rows_3] (x4).toNatClampNeg) = .ref a_p1_rows_0 from by rw [h90]; rfl]
                      refine lv_aload_n hx hb dX10_load_102 rfl (lv_at hl 1 rfl) ?_
                      refine mp_get X fl_X10_15 hK hP 0 rfl rfl dX10_load_103 ?_
                      refine lv_iload hx hb dX10_load_106 (lv_at hl 6 rfl) ?_
                      obtain ⟨⟨r91, u92⟩, c93, hf⟩ := bd_of hf
                      dsimp only at hf
                      have hPc := hP.sub (ws' := (k_X10_takeLetters T a_p1_rows_0 a_row 60 60 v_p1_rows_0 v_row)) [6, 1] rfl
                      have hDc := (mp_D_of (w1 := (k_X10_load T a_ a_word a_row a_ways a_places a_p1 a_p1_rows a_p1_sorts a_p1_lengths a_p1_rows_0 a_p1_rows_1 a_p1_rows_2 a_p1_rows_3 x3 x5 v_row u85 v_p1_lengths v_p1_rows_0 v_p1_rows_1 v_p1_rows_2 v_p1_rows_3)) hD rfl).sub (ws' := (k_X10_takeLetters T a_p1_rows_0 a_row 60 60 v_p1_rows_0 v_row)) [6, 1] rfl rfl
                      refine mp_calli (isC := [6, 1]) (wc := (k_X10_takeLetters T a_p1_rows_0 a_row 60 60 v_p1_rows_0 v_row)) (w1 := (k_X10_takeLetters T a_p1_rows_0 a_row 60 60 v_p1_rows_0 u92)) hP (mp_D_of hD rfl) hS hA rfl rfl (mp_runS (As := [.ref a_p1_rows_0, .ref a_row, .int x5]) (rest := []) X me_X10_takeLetters lk_X10_45 (c_X10_takeLetters l D T fu a_p1_rows_0 a_row 60 60 x5 v_p1_rows_0 v_row r91 u92 c93) rfl rfl ⟨(Nat.le_of_ble_eq_true rfl), (Nat.le_of_ble_eq_true rfl)⟩ hK hPc hDc rfl hl.1 rfl (Nat.le_of_ble_eq_true rfl) dX10_load_108 ⟨Nat.zero_le _, Nat.zero_le _⟩) (fun H locs hP _ hS => ?_)
                      replace hP : va_P D mp_cl (k_X10_load T a_ a_word a_row a_ways a_places a_p1 a_p1_rows a_p1_sorts a_p1_lengths a_p1_rows_0 a_p1_rows_1 a_p1_rows_2 a_p1_rows_3 x3 x5 u92 u85 v_p1_lengths v_p1_rows_0 v_p1_rows_1 v_p1_rows_2 v_p1_rows_3) H := hP
                      refine lv_if_eq (tgt := 118) hx hb dX10_load_111 (by decide) (fun h94 => ?_) (fun h94 => ?_)
                      · replace hf := if_t hf h94
                        refine lv_iconst (v := (nI 0)) hx hb dX10_load_118 (by decide) ?_
                        refine lv_istore (lv' := [(7, .int (nI 0)), (6, .int r1), (0, .ref a_), (1, .ref a_p1), (2, .int x2), (3, .int x3), (4, .int x4), (5, .int x5)]) hx hb dX10_load_119 hl (by decide) rfl (fun ls hl => ?_)
                        refine lv_iload hx hb dX10_load_121 (lv_at hl 0 rfl) ?_
                        refine lv_if_eq (tgt := 130) hx hb dX10_load_123 (by decide) (fun h95 => ?_) (fun h95 => ?_)
                        · replace hf := if_t hf h95
                          refine lv_iconst (v := (nI 5)) hx hb dX10_load_130 (by decide) ?_
                          cases hf
                          exact mp_reti X hP hS rfl dX10_load_131
                        · replace hf := if_f hf h95
                          refine lv_iconst (v := (nI 0)) hx hb dX10_load_126 (by decide) ?_
                          refine lv_goto (tgt := 131) hx hb dX10_load_127 (by decide) ?_
                          cases hf
                          exact mp_reti X hP hS rfl dX10_load_131
                      · replace hf := if_f hf h94
                        refine lv_iconst (v := (nI 1)) hx hb dX10_load_114 (by decide) ?_
                        refine lv_goto (tgt := 119) hx hb dX10_load_115 (by decide) ?_
                        refine lv_istore (lv' := [(7, .int (nI 1)), (6, .int r1), (0, .ref a_), (1, .ref a_p1), (2, .int x2), (3, .int x3), (4, .int x4), (5, .int x5)]) hx hb dX10_load_119 hl (by decide) rfl (fun ls hl => ?_)
                        refine lv_iload hx hb dX10_load_121 (lv_at hl 0 rfl) ?_
                        refine lv_if_eq (tgt := 130) hx hb dX10_load_123 (by decide) (fun h96 => ?_) (fun h96 => ?_)
                        · replace hf := if_t hf h96
                          refine lv_iconst (v := (nI 5)) hx hb dX10_load_130 (by decide) ?_
                          cases hf
                          exact mp_reti X hP hS rfl dX10_load_131
                        · replace hf := if_f hf h96
                          refine lv_iconst (v := (nI 0)) hx hb dX10_load_126 (by decide) ?_
                          refine lv_goto (tgt := 131) hx hb dX10_load_127 (by decide) ?_
                          cases hf
                          exact mp_reti X hP hS rfl dX10_load_131
                    replace hf := if_f hf h90
                    by_cases h97 : x4 = (nI 1)
                    · replace hf := if_t hf h97
                      rw [show va_rf (mp_ol [a_p1_rows_0, a_p1_rows_1, a_p1_rows_2, a_p1_rows_3] (x4).toNatClampNeg) = .ref a_p1_rows_1 from by rw [h97]; rfl]
                      refine lv_aload_n hx hb dX10_load_102 rfl (lv_at hl 1 rfl) ?_
                      refine mp_get X fl_X10_15 hK hP 0 rfl rfl dX10_load_103 ?_
                      refine lv_iload hx hb dX10_load_106 (lv_at hl 6 rfl) ?_
                      obtain ⟨⟨r98, u99⟩, c100, hf⟩ := bd_of hf
                      dsimp only at hf
                      have hPc := hP.sub (ws' := (k_X10_takeLetters T a_p1_rows_1 a_row 60 60 v_p1_rows_1 v_row)) [7, 1] rfl
                      have hDc := (mp_D_of (w1 := (k_X10_load T a_ a_word a_row a_ways a_places a_p1 a_p1_rows a_p1_sorts a_p1_lengths a_p1_rows_0 a_p1_rows_1 a_p1_rows_2 a_p1_rows_3 x3 x5 v_row u85 v_p1_lengths v_p1_rows_0 v_p1_rows_1 v_p1_rows_2 v_p1_rows_3)) hD rfl).sub (ws' := (k_X10_takeLetters T a_p1_rows_1 a_row 60 60 v_p1_rows_1 v_row)) [7, 1] rfl rfl
                      refine mp_calli (isC := [7, 1]) (wc := (k_X10_takeLetters T a_p1_rows_1 a_row 60 60 v_p1_rows_1 v_row)) (w1 := (k_X10_takeLetters T a_p1_rows_1 a_row 60 60 v_p1_rows_1 u99)) hP (mp_D_of hD rfl) hS hA rfl rfl (mp_runS (As := [.ref a_p1_rows_1, .ref a_row, .int x5]) (rest := []) X me_X10_takeLetters lk_X10_45 (c_X10_takeLetters l D T fu a_p1_rows_1 a_row 60 60 x5 v_p1_rows_1 v_row r98 u99 c100) rfl rfl ⟨(Nat.le_of_ble_eq_true rfl), (Nat.le_of_ble_eq_true rfl)⟩ hK hPc hDc rfl hl.1 rfl (Nat.le_of_ble_eq_true rfl) dX10_load_108 ⟨Nat.zero_le _, Nat.zero_le _⟩) (fun H locs hP _ hS => ?_)
                      replace hP : va_P D mp_cl (k_X10_load T a_ a_word a_row a_ways a_places a_p1 a_p1_rows a_p1_sorts a_p1_lengths a_p1_rows_0 a_p1_rows_1 a_p1_rows_2 a_p1_rows_3 x3 x5 u99 u85 v_p1_lengths v_p1_rows_0 v_p1_rows_1 v_p1_rows_2 v_p1_rows_3) H := hP
                      refine lv_if_eq (tgt := 118) hx hb dX10_load_111 (by decide) (fun h101 => ?_) (fun h101 => ?_)
                      · replace hf := if_t hf h101
                        refine lv_iconst (v := (nI 0)) hx hb dX10_load_118 (by decide) ?_
                        refine lv_istore (lv' := [(7, .int (nI 0)), (6, .int r1), (0, .ref a_), (1, .ref a_p1), (2, .int x2), (3, .int x3), (4, .int x4), (5, .int x5)]) hx hb dX10_load_119 hl (by decide) rfl (fun ls hl => ?_)
                        refine lv_iload hx hb dX10_load_121 (lv_at hl 0 rfl) ?_
                        refine lv_if_eq (tgt := 130) hx hb dX10_load_123 (by decide) (fun h102 => ?_) (fun h102 => ?_)
                        · replace hf := if_t hf h102
                          refine lv_iconst (v := (nI 5)) hx hb dX10_load_130 (by decide) ?_
                          cases hf
                          exact mp_reti X hP hS rfl dX10_load_131
                        · replace hf := if_f hf h102
                          refine lv_iconst (v := (nI 0)) hx hb dX10_load_126 (by decide) ?_
                          refine lv_goto (tgt := 131) hx hb dX10_load_127 (by decide) ?_
                          cases hf
                          exact mp_reti X hP hS rfl dX10_load_131
                      · replace hf := if_f hf h101
                        refine lv_iconst (v := (nI 1)) hx hb dX10_load_114 (by decide) ?_
                        refine lv_goto (tgt := 119) hx hb dX10_load_115 (by decide) ?_
                        refine lv_istore (lv' := [(7, .int (nI 1)), (6, .int r1), (0, .ref a_), (1, .ref a_p1), (2, .int x2), (3, .int x3), (4, .int x4), (5, .int x5)]) hx hb dX10_load_119 hl (by decide) rfl (fun ls hl => ?_)
                        refine lv_iload hx hb dX10_load_121 (lv_at hl 0 rfl) ?_
                        refine lv_if_eq (tgt := 130) hx hb dX10_load_123 (by decide) (fun h103 => ?_) (fun h103 => ?_)
                        · replace hf := if_t hf h103
                          refine lv_iconst (v := (nI 5)) hx hb dX10_load_130 (by decide) ?_
                          cases hf
                          exact mp_reti X hP hS rfl dX10_load_131
                        · replace hf := if_f hf h103
                          refine lv_iconst (v := (nI 0)) hx hb dX10_load_126 (by decide) ?_
                          refine lv_goto (tgt := 131) hx hb dX10_load_127 (by decide) ?_
                          cases hf
                          exact mp_reti X hP hS rfl dX10_load_131
                    replace hf := if_f hf h97
                    by_cases h104 : x4 = (nI 2)
                    · replace hf := if_t hf h104
                      rw [show va_rf (mp_ol [a_p1_rows_0, a_p1_rows_1, a_p1_rows_2, a_p1_rows_3] (x4).toNatClampNeg) = .ref a_p1_rows_2 from by rw [h104]; rfl]
                      refine lv_aload_n hx hb dX10_load_102 rfl (lv_at hl 1 rfl) ?_
                      refine mp_get X fl_X10_15 hK hP 0 rfl rfl dX10_load_103 ?_
                      refine lv_iload hx hb dX10_load_106 (lv_at hl 6 rfl) ?_
                      obtain ⟨⟨r105, u106⟩, c107, hf⟩ := bd_of hf
                      dsimp only at hf
                      have hPc := hP.sub (ws' := (k_X10_takeLetters T a_p1_rows_2 a_row 60 60 v_p1_rows_2 v_row)) [8, 1] rfl
                      have hDc := (mp_D_of (w1 := (k_X10_load T a_ a_word a_row a_ways a_places a_p1 a_p1_rows a_p1_sorts a_p1_lengths a_p1_rows_0 a_p1_rows_1 a_p1_rows_2 a_p1_rows_3 x3 x5 v_row u85 v_p1_lengths v_p1_rows_0 v_p1_rows_1 v_p1_rows_2 v_p1_rows_3)) hD rfl).sub (ws' := (k_X10_takeLetters T a_p1_rows_2 a_row 60 60 v_p1_rows_2 v_row)) [8, 1] rfl rfl
                      refine mp_calli (isC := [8, 1]) (wc := (k_X10_takeLetters T a_p1_rows_2 a_row 60 60 v_p1_rows_2 v_row)) (w1 := (k_X10_takeLetters T a_p1_rows_2 a_row 60 60 v_p1_rows_2 u106)) hP (mp_D_of hD rfl) hS hA rfl rfl (mp_runS (As := [.ref a_p1_rows_2, .ref a_row, .int x5]) (rest := []) X me_X10_takeLetters lk_X10_45 (c_X10_takeLetters l D T fu a_p1_rows_2 a_row 60 60 x5 v_p1_rows_2 v_row r105 u106 c107) rfl rfl ⟨(Nat.le_of_ble_eq_true rfl), (Nat.le_of_ble_eq_true rfl)⟩ hK hPc hDc rfl hl.1 rfl (Nat.le_of_ble_eq_true rfl) dX10_load_108 ⟨Nat.zero_le _, Nat.zero_le _⟩) (fun H locs hP _ hS => ?_)
                      replace hP : va_P D mp_cl (k_X10_load T a_ a_word a_row a_ways a_places a_p1 a_p1_rows a_p1_sorts a_p1_lengths a_p1_rows_0 a_p1_rows_1 a_p1_rows_2 a_p1_rows_3 x3 x5 u106 u85 v_p1_lengths v_p1_rows_0 v_p1_rows_1 v_p1_rows_2 v_p1_rows_3) H := hP
                      refine lv_if_eq (tgt := 118) hx hb dX10_load_111 (by decide) (fun h108 => ?_) (fun h108 => ?_)
                      · replace hf := if_t hf h108
                        refine lv_iconst (v := (nI 0)) hx hb dX10_load_118 (by decide) ?_
                        refine lv_istore (lv' := [(7, .int (nI 0)), (6, .int r1), (0, .ref a_), (1, .ref a_p1), (2, .int x2), (3, .int x3), (4, .int x4), (5, .int x5)]) hx hb dX10_load_119 hl (by decide) rfl (fun ls hl => ?_)
                        refine lv_iload hx hb dX10_load_121 (lv_at hl 0 rfl) ?_
                        refine lv_if_eq (tgt := 130) hx hb dX10_load_123 (by decide) (fun h109 => ?_) (fun h109 => ?_)
                        · replace hf := if_t hf h109
                          refine lv_iconst (v := (nI 5)) hx hb dX10_load_130 (by decide) ?_
                          cases hf
                          exact mp_reti X hP hS rfl dX10_load_131
                        · replace hf := if_f hf h109
                          refine lv_iconst (v := (nI 0)) hx hb dX10_load_126 (by decide) ?_
                          refine lv_goto (tgt := 131) hx hb dX10_load_127 (by decide) ?_
                          cases hf
                          exact mp_reti X hP hS rfl dX10_load_131
                      · replace hf := if_f hf h108
                        refine lv_iconst (v := (nI 1)) hx hb dX10_load_114 (by decide) ?_
                        refine lv_goto (tgt := 119) hx hb dX10_load_115 (by decide) ?_
                        refine lv_istore (lv' := [(7, .int (nI 1)), (6, .int r1), (0, .ref a_), (1, .ref a_p1), (2, .int x2), (3, .int x3), (4, .int x4), (5, .int x5)]) hx hb dX10_load_119 hl (by decide) rfl (fun ls hl => ?_)
                        refine lv_iload hx hb dX10_load_121 (lv_at hl 0 rfl) ?_
                        refine lv_if_eq (tgt := 130) hx hb dX10_load_123 (by decide) (fun h110 => ?_) (fun h110 => ?_)
                        · replace hf := if_t hf h110
                          refine lv_iconst (v := (nI 5)) hx hb dX10_load_130 (by decide) ?_
                          cases hf
                          exact mp_reti X hP hS rfl dX10_load_131
                        · replace hf := if_f hf h110
                          refine lv_iconst (v := (nI 0)) hx hb dX10_load_126 (by decide) ?_
                          refine lv_goto (tgt := 131) hx hb dX10_load_127 (by decide) ?_
                          cases hf
                          exact mp_reti X hP hS rfl dX10_load_131
                    replace hf := if_f hf h104
                    have h111 : x4 = (nI 3) := mp_last4 h89 h90 h97 h104
                    rw [show va_rf (mp_ol [a_p1_rows_0, a_p1_rows_1, a_p1_rows_2, a_p1_rows_3] (x4).toNatClampNeg) = .ref a_p1_rows_3 from by rw [h111]; rfl]
                    refine lv_aload_n hx hb dX10_load_102 rfl (lv_at hl 1 rfl) ?_
                    refine mp_get X fl_X10_15 hK hP 0 rfl rfl dX10_load_103 ?_
                    refine lv_iload hx hb dX10_load_106 (lv_at hl 6 rfl) ?_
                    obtain ⟨⟨r112, u113⟩, c114, hf⟩ := bd_of hf
                    dsimp only at hf
                    have hPc := hP.sub (ws' := (k_X10_takeLetters T a_p1_rows_3 a_row 60 60 v_p1_rows_3 v_row)) [9, 1] rfl
                    have hDc := (mp_D_of (w1 := (k_X10_load T a_ a_word a_row a_ways a_places a_p1 a_p1_rows a_p1_sorts a_p1_lengths a_p1_rows_0 a_p1_rows_1 a_p1_rows_2 a_p1_rows_3 x3 x5 v_row u85 v_p1_lengths v_p1_rows_0 v_p1_rows_1 v_p1_rows_2 v_p1_rows_3)) hD rfl).sub (ws' := (k_X10_takeLetters T a_p1_rows_3 a_row 60 60 v_p1_rows_3 v_row)) [9, 1] rfl rfl
                    refine mp_calli (isC := [9, 1]) (wc := (k_X10_takeLetters T a_p1_rows_3 a_row 60 60 v_p1_rows_3 v_row)) (w1 := (k_X10_takeLetters T a_p1_rows_3 a_row 60 60 v_p1_rows_3 u113)) hP (mp_D_of hD rfl) hS hA rfl rfl (mp_runS (As := [.ref a_p1_rows_3, .ref a_row, .int x5]) (rest := []) X me_X10_takeLetters lk_X10_45 (c_X10_takeLetters l D T fu a_p1_rows_3 a_row 60 60 x5 v_p1_rows_3 v_row r112 u113 c114) rfl rfl ⟨(Nat.le_of_ble_eq_true rfl), (Nat.le_of_ble_eq_true rfl)⟩ hK hPc hDc rfl hl.1 rfl (Nat.le_of_ble_eq_true rfl) dX10_load_108 ⟨Nat.zero_le _, Nat.zero_le _⟩) (fun H locs hP _ hS => ?_)
                    replace hP : va_P D mp_cl (k_X10_load T a_ a_word a_row a_ways a_places a_p1 a_p1_rows a_p1_sorts a_p1_lengths a_p1_rows_0 a_p1_rows_1 a_p1_rows_2 a_p1_rows_3 x3 x5 u113 u85 v_p1_lengths v_p1_rows_0 v_p1_rows_1 v_p1_rows_2 v_p1_rows_3) H := hP
                    refine lv_if_eq (tgt := 118) hx hb dX10_load_111 (by decide) (fun h115 => ?_) (fun h115 => ?_)
                    · replace hf := if_t hf h115
                      refine lv_iconst (v := (nI 0)) hx hb dX10_load_118 (by decide) ?_
                      refine lv_istore (lv' := [(7, .int (nI 0)), (6, .int r1), (0, .ref a_), (1, .ref a_p1), (2, .int x2), (3, .int x3), (4, .int x4), (5, .int x5)]) hx hb dX10_load_119 hl (by decide) rfl (fun ls hl => ?_)
                      refine lv_iload hx hb dX10_load_121 (lv_at hl 0 rfl) ?_
                      refine lv_if_eq (tgt := 130) hx hb dX10_load_123 (by decide) (fun h116 => ?_) (fun h116 => ?_)
                      · replace hf := if_t hf h116
                        refine lv_iconst (v := (nI 5)) hx hb dX10_load_130 (by decide) ?_
                        cases hf
                        exact mp_reti X hP hS rfl dX10_load_131
                      · replace hf := if_f hf h116
                        refine lv_iconst (v := (nI 0)) hx hb dX10_load_126 (by decide) ?_
                        refine lv_goto (tgt := 131) hx hb dX10_load_127 (by decide) ?_
                        cases hf
                        exact mp_reti X hP hS rfl dX10_load_131
                    · replace hf := if_f hf h115
                      refine lv_iconst (v := (nI 1)) hx hb dX10_load_114 (by decide) ?_
                      refine lv_goto (tgt := 119) hx hb dX10_load_115 (by decide) ?_
                      refine lv_istore (lv' := [(7, .int (nI 1)), (6, .int r1), (0, .ref a_), (1, .ref a_p1), (2, .int x2), (3, .int x3), (4, .int x4), (5, .int x5)]) hx hb dX10_load_119 hl (by decide) rfl (fun ls hl => ?_)
                      refine lv_iload hx hb dX10_load_121 (lv_at hl 0 rfl) ?_
                      refine lv_if_eq (tgt := 130) hx hb dX10_load_123 (by decide) (fun h117 => ?_) (fun h117 => ?_)
                      · replace hf := if_t hf h117
                        refine lv_iconst (v := (nI 5)) hx hb dX10_load_130 (by decide) ?_
                        cases hf
                        exact mp_reti X hP hS rfl dX10_load_131
                      · replace hf := if_f hf h117
                        refine lv_iconst (v := (nI 0)) hx hb dX10_load_126 (by decide) ?_
                        refine lv_goto (tgt := 131) hx hb dX10_load_127 (by decide) ?_
                        cases hf
                        exact mp_reti X hP hS rfl dX10_load_131
                replace hf := if_f hf h83
                have h118 : x2 = (nI 3) := mp_last4 h12 h13 h48 h83
                rw [show va_rf (mp_ol [a_p1_rows_0, a_p1_rows_1, a_p1_rows_2, a_p1_rows_3] (x2).toNatClampNeg) = .ref a_p1_rows_3 from by rw [h118]; rfl]
                refine lv_aload_n hx hb dX10_load_84 rfl (lv_at hl 1 rfl) ?_
                refine mp_get X fl_X10_9 hK hP 0 rfl rfl dX10_load_85 ?_
                refine lv_iload_n hx hb dX10_load_88 rfl (lv_at hl 4 rfl) ?_
                obtain ⟨⟨r119, u120⟩, c121, hf⟩ := bd_of hf
                dsimp only at hf
                have hPc := hP.sub (ws' := (k_X10_takeLetters T a_p1_rows_3 a_word 60 10 v_p1_rows_3 v_word)) [9, 2] rfl
                have hDc := (mp_D_of (w1 := (k_X10_load T a_ a_word a_row a_ways a_places a_p1 a_p1_rows a_p1_sorts a_p1_lengths a_p1_rows_0 a_p1_rows_1 a_p1_rows_2 a_p1_rows_3 x3 x5 v_row v_word v_p1_lengths v_p1_rows_0 v_p1_rows_1 v_p1_rows_2 v_p1_rows_3)) hD rfl).sub (ws' := (k_X10_takeLetters T a_p1_rows_3 a_word 60 10 v_p1_rows_3 v_word)) [9, 2] rfl rfl
                refine mp_calli (isC := [9, 2]) (wc := (k_X10_takeLetters T a_p1_rows_3 a_word 60 10 v_p1_rows_3 v_word)) (w1 := (k_X10_takeLetters T a_p1_rows_3 a_word 60 10 v_p1_rows_3 u120)) hP (mp_D_of hD rfl) hS hA rfl rfl (mp_runS (As := [.ref a_p1_rows_3, .ref a_word, .int x3]) (rest := []) X me_X10_takeLetters lk_X10_45 (c_X10_takeLetters l D T fu a_p1_rows_3 a_word 60 10 x3 v_p1_rows_3 v_word r119 u120 c121) rfl rfl ⟨(Nat.le_of_ble_eq_true rfl), (Nat.le_of_ble_eq_true rfl)⟩ hK hPc hDc rfl hl.1 rfl (Nat.le_of_ble_eq_true rfl) dX10_load_89 ⟨Nat.zero_le _, Nat.zero_le _⟩) (fun H locs hP _ hS => ?_)
                replace hP : va_P D mp_cl (k_X10_load T a_ a_word a_row a_ways a_places a_p1 a_p1_rows a_p1_sorts a_p1_lengths a_p1_rows_0 a_p1_rows_1 a_p1_rows_2 a_p1_rows_3 x3 x5 v_row u120 v_p1_lengths v_p1_rows_0 v_p1_rows_1 v_p1_rows_2 v_p1_rows_3) H := hP
                refine lv_if_eq (tgt := 118) hx hb dX10_load_92 (by decide) (fun h122 => ?_) (fun h122 => ?_)
                · replace hf := if_t hf h122
                  refine lv_iconst (v := (nI 0)) hx hb dX10_load_118 (by decide) ?_
                  refine lv_istore (lv' := [(7, .int (nI 0)), (6, .int r1), (0, .ref a_), (1, .ref a_p1), (2, .int x2), (3, .int x3), (4, .int x4), (5, .int x5)]) hx hb dX10_load_119 hl (by decide) rfl (fun ls hl => ?_)
                  refine lv_iload hx hb dX10_load_121 (lv_at hl 0 rfl) ?_
                  refine lv_if_eq (tgt := 130) hx hb dX10_load_123 (by decide) (fun h123 => ?_) (fun h123 => ?_)
                  · replace hf := if_t hf h123
                    refine lv_iconst (v := (nI 5)) hx hb dX10_load_130 (by decide) ?_
                    cases hf
                    exact mp_reti X hP hS rfl dX10_load_131
                  · replace hf := if_f hf h123
                    refine lv_iconst (v := (nI 0)) hx hb dX10_load_126 (by decide) ?_
                    refine lv_goto (tgt := 131) hx hb dX10_load_127 (by decide) ?_
                    cases hf
                    exact mp_reti X hP hS rfl dX10_load_131
                · replace hf := if_f hf h122
                  refine lv_aload_n hx hb dX10_load_95 rfl (lv_at hl 2 rfl) ?_
                  refine mp_get X fl_X10_41 hK hP 3 rfl rfl dX10_load_96 ?_
                  refine lv_iload hx hb dX10_load_99 (lv_at hl 5 rfl) ?_
                  obtain ⟨h124, hf⟩ := gi_of hf
                  refine va_aldqA hx hb hK hP 5 3 rfl rfl h124 dX10_load_101 ?_
                  by_cases h125 : x4 = (nI 0)
                  · replace hf := if_t hf h125
                    rw [show va_rf (mp_ol [a_p1_rows_0, a_p1_rows_1, a_p1_rows_2, a_p1_rows_3] (x4).toNatClampNeg) = .ref a_p1_rows_0 from by rw [h125]; rfl]
                    refine lv_aload_n hx hb dX10_load_102 rfl (lv_at hl 1 rfl) ?_
                    refine mp_get X fl_X10_15 hK hP 0 rfl rfl dX10_load_103 ?_
                    refine lv_iload hx hb dX10_load_106 (lv_at hl 6 rfl) ?_
                    obtain ⟨⟨r126, u127⟩, c128, hf⟩ := bd_of hf
                    dsimp only at hf
                    have hPc := hP.sub (ws' := (k_X10_takeLetters T a_p1_rows_0 a_row 60 60 v_p1_rows_0 v_row)) [6, 1] rfl
                    have hDc := (mp_D_of (w1 := (k_X10_load T a_ a_word a_row a_ways a_places a_p1 a_p1_rows a_p1_sorts a_p1_lengths a_p1_rows_0 a_p1_rows_1 a_p1_rows_2 a_p1_rows_3 x3 x5 v_row u120 v_p1_lengths v_p1_rows_0 v_p1_rows_1 v_p1_rows_2 v_p1_rows_3)) hD rfl).sub (ws' := (k_X10_takeLetters T a_p1_rows_0 a_row 60 60 v_p1_rows_0 v_row)) [6, 1] rfl rfl
                    refine mp_calli (isC := [6, 1]) (wc := (k_X10_takeLetters T a_p1_rows_0 a_row 60 60 v_p1_rows_0 v_row)) (w1 := (k_X10_takeLetters T a_p1_rows_0 a_row 60 60 v_p1_rows_0 u127)) hP (mp_D_of hD rfl) hS hA rfl rfl (mp_runS (As := [.ref a_p1_rows_0, .ref a_row, .int x5]) (rest := []) X me_X10_takeLetters lk_X10_45 (c_X10_takeLetters l D T fu a_p1_rows_0 a_row 60 60 x5 v_p1_rows_0 v_row r126 u127 c128) rfl rfl ⟨(Nat.le_of_ble_eq_true rfl), (Nat.le_of_ble_eq_true rfl)⟩ hK hPc hDc rfl hl.1 rfl (Nat.le_of_ble_eq_true rfl) dX10_load_108 ⟨Nat.zero_le _, Nat.zero_le _⟩) (fun H locs hP _ hS => ?_)
                    replace hP : va_P D mp_cl (k_X10_load T a_ a_word a_row a_ways a_places a_p1 a_p1_rows a_p1_sorts a_p1_lengths a_p1_rows_0 a_p1_rows_1 a_p1_rows_2 a_p1_rows_3 x3 x5 u127 u120 v_p1_lengths v_p1_rows_0 v_p1_rows_1 v_p1_rows_2 v_p1_rows_3) H := hP
                    refine lv_if_eq (tgt := 118) hx hb dX10_load_111 (by decide) (fun h129 => ?_) (fun h129 => ?_)
                    · replace hf := if_t hf h129
                      refine lv_iconst (v := (nI 0)) hx hb dX10_load_118 (by decide) ?_
                      refine lv_istore (lv' := [(7, .int (nI 0)), (6, .int r1), (0, .ref a_), (1, .ref a_p1), (2, .int x2), (3, .int x3), (4, .int x4), (5, .int x5)]) hx hb dX10_load_119 hl (by decide) rfl (fun ls hl => ?_)
                      refine lv_iload hx hb dX10_load_121 (lv_at hl 0 rfl) ?_
                      refine lv_if_eq (tgt := 130) hx hb dX10_load_123 (by decide) (fun h130 => ?_) (fun h130 => ?_)
                      · replace hf := if_t hf h130
                        refine lv_iconst (v := (nI 5)) hx hb dX10_load_130 (by decide) ?_
                        cases hf
                        exact mp_reti X hP hS rfl dX10_load_131
                      · replace hf := if_f hf h130
                        refine lv_iconst (v := (nI 0)) hx hb dX10_load_126 (by decide) ?_
                        refine lv_goto (tgt := 131) hx hb dX10_load_127 (by decide) ?_
                        cases hf
                        exact mp_reti X hP hS rfl dX10_load_131
                    · replace hf := if_f hf h129
                      refine lv_iconst (v := (nI 1)) hx hb dX10_load_114 (by decide) ?_
                      refine lv_goto (tgt := 119) hx hb dX10_load_115 (by decide) ?_
                      refine lv_istore (lv' := [(7, .int (nI 1)), (6, .int r1), (0, .ref a_), (1, .ref a_p1), (2, .int x2), (3, .int x3), (4, .int x4), (5, .int x5)]) hx hb dX10_load_119 hl (by decide) rfl (fun ls hl => ?_)
                      refine lv_iload hx hb dX10_load_121 (lv_at hl 0 rfl) ?_
                      refine lv_if_eq (tgt := 130) hx hb dX10_load_123 (by decide) (fun h131 => ?_) (fun h131 => ?_)
                      · replace hf := if_t hf h131
                        refine lv_iconst (v := (nI 5)) hx hb dX10_load_130 (by decide) ?_
                        cases hf
                        exact mp_reti X hP hS rfl dX10_load_131
                      · replace hf := if_f hf h131
                        refine lv_iconst (v := (nI 0)) hx hb dX10_load_126 (by decide) ?_
                        refine lv_goto (tgt := 131) hx hb dX10_load_127 (by decide) ?_
                        cases hf
                        exact mp_reti X hP hS rfl dX10_load_131
                  replace hf := if_f hf h125
                  by_cases h132 : x4 = (nI 1)
                  · replace hf := if_t hf h132
                    rw [show va_rf (mp_ol [a_p1_rows_0, a_p1_rows_1, a_p1_rows_2, a_p1_rows_3] (x4).toNatClampNeg) = .ref a_p1_rows_1 from by rw [h132]; rfl]
                    refine lv_aload_n hx hb dX10_load_102 rfl (lv_at hl 1 rfl) ?_
                    refine mp_get X fl_X10_15 hK hP 0 rfl rfl dX10_load_103 ?_
                    refine lv_iload hx hb dX10_load_106 (lv_at hl 6 rfl) ?_
                    obtain ⟨⟨r133, u134⟩, c135, hf⟩ := bd_of hf
                    dsimp only at hf
                    have hPc := hP.sub (ws' := (k_X10_takeLetters T a_p1_rows_1 a_row 60 60 v_p1_rows_1 v_row)) [7, 1] rfl
                    have hDc := (mp_D_of (w1 := (k_X10_load T a_ a_word a_row a_ways a_places a_p1 a_p1_rows a_p1_sorts a_p1_lengths a_p1_rows_0 a_p1_rows_1 a_p1_rows_2 a_p1_rows_3 x3 x5 v_row u120 v_p1_lengths v_p1_rows_0 v_p1_rows_1 v_p1_rows_2 v_p1_rows_3)) hD rfl).sub (ws' := (k_X10_takeLetters T a_p1_rows_1 a_row 60 60 v_p1_rows_1 v_row)) [7, 1] rfl rfl
                    refine mp_calli (isC := [7, 1]) (wc := (k_X10_takeLetters T a_p1_rows_1 a_row 60 60 v_p1_rows_1 v_row)) (w1 := (k_X10_takeLetters T a_p1_rows_1 a_row 60 60 v_p1_rows_1 u134)) hP (mp_D_of hD rfl) hS hA rfl rfl (mp_runS (As := [.ref a_p1_rows_1, .ref a_row, .int x5]) (rest := []) X me_X10_takeLetters lk_X10_45 (c_X10_takeLetters l D T fu a_p1_rows_1 a_row 60 60 x5 v_p1_rows_1 v_row r133 u134 c135) rfl rfl ⟨(Nat.le_of_ble_eq_true rfl), (Nat.le_of_ble_eq_true rfl)⟩ hK hPc hDc rfl hl.1 rfl (Nat.le_of_ble_eq_true rfl) dX10_load_108 ⟨Nat.zero_le _, Nat.zero_le _⟩) (fun H locs hP _ hS => ?_)
                    replace hP : va_P D mp_cl (k_X10_load T a_ a_word a_row a_ways a_places a_p1 a_p1_rows a_p1_sorts a_p1_lengths a_p1_rows_0 a_p1_rows_1 a_p1_rows_2 a_p1_rows_3 x3 x5 u134 u120 v_p1_lengths v_p1_rows_0 v_p1_rows_1 v_p1_rows_2 v_p1_rows_3) H := hP
                    refine lv_if_eq (tgt := 118) hx hb dX10_load_111 (by decide) (fun h136 => ?_) (fun h136 => ?_)
                    · replace hf := if_t hf h136
                      refine lv_iconst (v := (nI 0)) hx hb dX10_load_118 (by decide) ?_
                      refine lv_istore (lv' := [(7, .int (nI 0)), (6, .int r1), (0, .ref a_), (1, .ref a_p1), (2, .int x2), (3, .int x3), (4, .int x4), (5, .int x5)]) hx hb dX10_load_119 hl (by decide) rfl (fun ls hl => ?_)
                      refine lv_iload hx hb dX10_load_121 (lv_at hl 0 rfl) ?_
                      refine lv_if_eq (tgt := 130) hx hb dX10_load_123 (by decide) (fun h137 => ?_) (fun h137 => ?_)
                      · replace hf := if_t hf h137
                        refine lv_iconst (v := (nI 5)) hx hb dX10_load_130 (by decide) ?_
                        cases hf
                        exact mp_reti X hP hS rfl dX10_load_131
                      · replace hf := if_f hf h137
                        refine lv_iconst (v := (nI 0)) hx hb dX10_load_126 (by decide) ?_
                        refine lv_goto (tgt := 131) hx hb dX10_load_127 (by decide) ?_
                        cases hf
                        exact mp_reti X hP hS rfl dX10_load_131
                    · replace hf := if_f hf h136
                      refine lv_iconst (v := (nI 1)) hx hb dX10_load_114 (by decide) ?_
                      refine lv_goto (tgt := 119) hx hb dX10_load_115 (by decide) ?_
                      refine lv_istore (lv' := [(7, .int (nI 1)), (6, .int r1), (0, .ref a_), (1, .ref a_p1), (2, .int x2), (3, .int x3), (4, .int x4), (5, .int x5)]) hx hb dX10_load_119 hl (by decide) rfl (fun ls hl => ?_)
                      refine lv_iload hx hb dX10_load_121 (lv_at hl 0 rfl) ?_
                      refine lv_if_eq (tgt := 130) hx hb dX10_load_123 (by decide) (fun h138 => ?_) (fun h138 => ?_)
                      · replace hf := if_t hf h138
                        refine lv_iconst (v := (nI 5)) hx hb dX10_load_130 (by decide) ?_
                        cases hf
                        exact mp_reti X hP hS rfl dX10_load_131
                      · replace hf := if_f hf h138
                        refine lv_iconst (v := (nI 0)) hx hb dX10_load_126 (by decide) ?_
                        refine lv_goto (tgt := 131) hx hb dX10_load_127 (by decide) ?_
                        cases hf
                        exact mp_reti X hP hS rfl dX10_load_131
                  replace hf := if_f hf h132
                  by_cases h139 : x4 = (nI 2)
                  · replace hf := if_t hf h139
                    rw [show va_rf (mp_ol [a_p1_rows_0, a_p1_rows_1, a_p1_rows_2, a_p1_rows_3] (x4).toNatClampNeg) = .ref a_p1_rows_2 from by rw [h139]; rfl]
                    refine lv_aload_n hx hb dX10_load_102 rfl (lv_at hl 1 rfl) ?_
                    refine mp_get X fl_X10_15 hK hP 0 rfl rfl dX10_load_103 ?_
                    refine lv_iload hx hb dX10_load_106 (lv_at hl 6 rfl) ?_
                    obtain ⟨⟨r140, u141⟩, c142, hf⟩ := bd_of hf
                    dsimp only at hf
                    have hPc := hP.sub (ws' := (k_X10_takeLetters T a_p1_rows_2 a_row 60 60 v_p1_rows_2 v_row)) [8, 1] rfl
                    have hDc := (mp_D_of (w1 := (k_X10_load T a_ a_word a_row a_ways a_places a_p1 a_p1_rows a_p1_sorts a_p1_lengths a_p1_rows_0 a_p1_rows_1 a_p1_rows_2 a_p1_rows_3 x3 x5 v_row u120 v_p1_lengths v_p1_rows_0 v_p1_rows_1 v_p1_rows_2 v_p1_rows_3)) hD rfl).sub (ws' := (k_X10_takeLetters T a_p1_rows_2 a_row 60 60 v_p1_rows_2 v_row)) [8, 1] rfl rfl
                    refine mp_calli (isC := [8, 1]) (wc := (k_X10_takeLetters T a_p1_rows_2 a_row 60 60 v_p1_rows_2 v_row)) (w1 := (k_X10_takeLetters T a_p1_rows_2 a_row 60 60 v_p1_rows_2 u141)) hP (mp_D_of hD rfl) hS hA rfl rfl (mp_runS (As := [.ref a_p1_rows_2, .ref a_row, .int x5]) (rest := []) X me_X10_takeLetters lk_X10_45 (c_X10_takeLetters l D T fu a_p1_rows_2 a_row 60 60 x5 v_p1_rows_2 v_row r140 u141 c142) rfl rfl ⟨(Nat.le_of_ble_eq_true rfl), (Nat.le_of_ble_eq_true rfl)⟩ hK hPc hDc rfl hl.1 rfl (Nat.le_of_ble_eq_true rfl) dX10_load_108 ⟨Nat.zero_le _, Nat.zero_le _⟩) (fun H locs hP _ hS => ?_)
                    replace hP : va_P D mp_cl (k_X10_load T a_ a_word a_row a_ways a_places a_p1 a_p1_rows a_p1_sorts a_p1_lengths a_p1_rows_0 a_p1_rows_1 a_p1_rows_2 a_p1_rows_3 x3 x5 u141 u120 v_p1_lengths v_p1_rows_0 v_p1_rows_1 v_p1_rows_2 v_p1_rows_3) H := hP
                    refine lv_if_eq (tgt := 118) hx hb dX10_load_111 (by decide) (fun h143 => ?_) (fun h143 => ?_)
                    · replace hf := if_t hf h143
                      refine lv_iconst (v := (nI 0)) hx hb dX10_load_118 (by decide) ?_
                      refine lv_istore (lv' := [(7, .int (nI 0)), (6, .int r1), (0, .ref a_), (1, .ref a_p1), (2, .int x2), (3, .int x3), (4, .int x4), (5, .int x5)]) hx hb dX10_load_119 hl (by decide) rfl (fun ls hl => ?_)
                      refine lv_iload hx hb dX10_load_121 (lv_at hl 0 rfl) ?_
                      refine lv_if_eq (tgt := 130) hx hb dX10_load_123 (by decide) (fun h144 => ?_) (fun h144 => ?_)
                      · replace hf := if_t hf h144
                        refine lv_iconst (v := (nI 5)) hx hb dX10_load_130 (by decide) ?_
                        cases hf
                        exact mp_reti X hP hS rfl dX10_load_131
                      · replace hf := if_f hf h144
                        refine lv_iconst (v := (nI 0)) hx hb dX10_load_126 (by decide) ?_
                        refine lv_goto (tgt := 131) hx hb dX10_load_127 (by decide) ?_
                        cases hf
                        exact mp_reti X hP hS rfl dX10_load_131
                    · replace hf := if_f hf h143
                      refine lv_iconst (v := (nI 1)) hx hb dX10_load_114 (by decide) ?_
                      refine lv_goto (tgt := 119) hx hb dX10_load_115 (by decide) ?_
                      refine lv_istore (lv' := [(7, .int (nI 1)), (6, .int r1), (0, .ref a_), (1, .ref a_p1), (2, .int x2), (3, .int x3), (4, .int x4), (5, .int x5)]) hx hb dX10_load_119 hl (by decide) rfl (fun ls hl => ?_)
                      refine lv_iload hx hb dX10_load_121 (lv_at hl 0 rfl) ?_
                      refine lv_if_eq (tgt := 130) hx hb dX10_load_123 (by decide) (fun h145 => ?_) (fun h145 => ?_)
                      · replace hf := if_t hf h145
                        refine lv_iconst (v := (nI 5)) hx hb dX10_load_130 (by decide) ?_
                        cases hf
                        exact mp_reti X hP hS rfl dX10_load_131
                      · replace hf := if_f hf h145
                        refine lv_iconst (v := (nI 0)) hx hb dX10_load_126 (by decide) ?_
                        refine lv_goto (tgt := 131) hx hb dX10_load_127 (by decide) ?_
                        cases hf
                        exact mp_reti X hP hS rfl dX10_load_131
                  replace hf := if_f hf h139
                  have h146 : x4 = (nI 3) := mp_last4 h124 h125 h132 h139
                  rw [show va_rf (mp_ol [a_p1_rows_0, a_p1_rows_1, a_p1_rows_2, a_p1_rows_3] (x4).toNatClampNeg) = .ref a_p1_rows_3 from by rw [h146]; rfl]
                  refine lv_aload_n hx hb dX10_load_102 rfl (lv_at hl 1 rfl) ?_
                  refine mp_get X fl_X10_15 hK hP 0 rfl rfl dX10_load_103 ?_
                  refine lv_iload hx hb dX10_load_106 (lv_at hl 6 rfl) ?_
                  obtain ⟨⟨r147, u148⟩, c149, hf⟩ := bd_of hf
                  dsimp only at hf
                  have hPc := hP.sub (ws' := (k_X10_takeLetters T a_p1_rows_3 a_row 60 60 v_p1_rows_3 v_row)) [9, 1] rfl
                  have hDc := (mp_D_of (w1 := (k_X10_load T a_ a_word a_row a_ways a_places a_p1 a_p1_rows a_p1_sorts a_p1_lengths a_p1_rows_0 a_p1_rows_1 a_p1_rows_2 a_p1_rows_3 x3 x5 v_row u120 v_p1_lengths v_p1_rows_0 v_p1_rows_1 v_p1_rows_2 v_p1_rows_3)) hD rfl).sub (ws' := (k_X10_takeLetters T a_p1_rows_3 a_row 60 60 v_p1_rows_3 v_row)) [9, 1] rfl rfl
                  refine mp_calli (isC := [9, 1]) (wc := (k_X10_takeLetters T a_p1_rows_3 a_row 60 60 v_p1_rows_3 v_row)) (w1 := (k_X10_takeLetters T a_p1_rows_3 a_row 60 60 v_p1_rows_3 u148)) hP (mp_D_of hD rfl) hS hA rfl rfl (mp_runS (As := [.ref a_p1_rows_3, .ref a_row, .int x5]) (rest := []) X me_X10_takeLetters lk_X10_45 (c_X10_takeLetters l D T fu a_p1_rows_3 a_row 60 60 x5 v_p1_rows_3 v_row r147 u148 c149) rfl rfl ⟨(Nat.le_of_ble_eq_true rfl), (Nat.le_of_ble_eq_true rfl)⟩ hK hPc hDc rfl hl.1 rfl (Nat.le_of_ble_eq_true rfl) dX10_load_108 ⟨Nat.zero_le _, Nat.zero_le _⟩) (fun H locs hP _ hS => ?_)
                  replace hP : va_P D mp_cl (k_X10_load T a_ a_word a_row a_ways a_places a_p1 a_p1_rows a_p1_sorts a_p1_lengths a_p1_rows_0 a_p1_rows_1 a_p1_rows_2 a_p1_rows_3 x3 x5 u148 u120 v_p1_lengths v_p1_rows_0 v_p1_rows_1 v_p1_rows_2 v_p1_rows_3) H := hP
                  refine lv_if_eq (tgt := 118) hx hb dX10_load_111 (by decide) (fun h150 => ?_) (fun h150 => ?_)
                  · replace hf := if_t hf h150
                    refine lv_iconst (v := (nI 0)) hx hb dX10_load_118 (by decide) ?_
                    refine lv_istore (lv' := [(7, .int (nI 0)), (6, .int r1), (0, .ref a_), (1, .ref a_p1), (2, .int x2), (3, .int x3), (4, .int x4), (5, .int x5)]) hx hb dX10_load_119 hl (by decide) rfl (fun ls hl => ?_)
                    refine lv_iload hx hb dX10_load_121 (lv_at hl 0 rfl) ?_
                    refine lv_if_eq (tgt := 130) hx hb dX10_load_123 (by decide) (fun h151 => ?_) (fun h151 => ?_)
                    · replace hf := if_t hf h151
                      refine lv_iconst (v := (nI 5)) hx hb dX10_load_130 (by decide) ?_
                      cases hf
                      exact mp_reti X hP hS rfl dX10_load_131
                    · replace hf := if_f hf h151
                      refine lv_iconst (v := (nI 0)) hx hb dX10_load_126 (by decide) ?_
                      refine lv_goto (tgt := 131) hx hb dX10_load_127 (by decide) ?_
                      cases hf
                      exact mp_reti X hP hS rfl dX10_load_131
                  · replace hf := if_f hf h150
                    refine lv_iconst (v := (nI 1)) hx hb dX10_load_114 (by decide) ?_
                    refine lv_goto (tgt := 119) hx hb dX10_load_115 (by decide) ?_
                    refine lv_istore (lv' := [(7, .int (nI 1)), (6, .int r1), (0, .ref a_), (1, .ref a_p1), (2, .int x2), (3, .int x3), (4, .int x4), (5, .int x5)]) hx hb dX10_load_119 hl (by decide) rfl (fun ls hl => ?_)
                    refine lv_iload hx hb dX10_load_121 (lv_at hl 0 rfl) ?_
                    refine lv_if_eq (tgt := 130) hx hb dX10_load_123 (by decide) (fun h152 => ?_) (fun h152 => ?_)
                    · replace hf := if_t hf h152
                      refine lv_iconst (v := (nI 5)) hx hb dX10_load_130 (by decide) ?_
                      cases hf
                      exact mp_reti X hP hS rfl dX10_load_131
                    · replace hf := if_f hf h152
                      refine lv_iconst (v := (nI 0)) hx hb dX10_load_126 (by decide) ?_
                      refine lv_goto (tgt := 131) hx hb dX10_load_127 (by decide) ?_
                      cases hf
                      exact mp_reti X hP hS rfl dX10_load_131
              · replace hf := if_f hf h11
                refine lv_iconst (v := (nI 5)) hx hb dX10_load_65 (by decide) ?_
                cases hf
                exact mp_reti X hP hS rfl dX10_load_66
      · replace hf := if_f hf h7
        refine lv_iconst (v := (nI 4)) hx hb dX10_load_39 (by decide) ?_
        cases hf
        exact mp_reti X hP hS rfl dX10_load_40
  · replace hf := if_f hf h3
    refine lv_iload hx hb dX10_load_14 (lv_at hl 0 rfl) ?_
    cases hf
    exact mp_reti X hP hS rfl dX10_load_16


def k_X10_countWays (T : Nat → ClassId) (a_ a_word a_row a_ways a_places : Nat) (v_wordLength : Int32) (v_rowLength : Int32) (v_row : (Nat → Int32)) (v_ways : (Nat → Int64)) (v_word : (Nat → Int32)) : va_W := [(a_, oX10 a_word a_row v_wordLength v_rowLength a_ways a_places), (a_row, mp_aI T 60 v_row), (a_ways, mp_aJ T 11 v_ways), (a_word, mp_aI T 10 v_word)]
set_option maxHeartbeats 4000000 in
set_option maxRecDepth 100000 in
theorem w_X10_countWays_32 {p : Program} {l : Launch} {e : Env} {s : State} {m : MethodId} {args : Array Value} {below : List Frame} {meth : Method} {c : Code} {D : va_G} {T : Nat → ClassId} {A : Nat → Prop} (X : mp_X p s m meth c args RX10 "countWays" cX10_countWays 3 (some .long)) (hK : va_K D mp_cl (mp_ty T) s) (hA : ∀ q, s.heap.size ≤ q → A q) (fu : Nat) (a_ a_word a_row a_ways a_places : Nat) (v_wordLength : Int32) (v_rowLength : Int32) (v_row : (Nat → Int32)) (v_word : (Nat → Int32)) (r_ : Int64) (o_ways : (Nat → Int64)) (K17 : Int32 → (Nat → Int64) → Option (Int64 × (Nat → Int64))) (hK17 : ∀ (z1 : Int32) (v_ways : (Nat → Int64)), K17 z1 v_ways = some (r_, o_ways) → ∀ (H : Heap) (locs : List Loc) (ls : Array Slot), va_P D mp_cl (k_X10_countWays T a_ a_word a_row a_ways a_places v_wordLength v_rowLength v_row v_ways v_word) H → va_D A (k_X10_countWays T a_ a_word a_row a_ways a_places v_wordLength v_rowLength v_row v_ways v_word) → va_S A s.heap H locs → lv_has ls 3 [(0, .ref a_), (1, .int z1)] → W p l e ({ frames := 1, cells := 0, slots := 0, locals := 24 }) s m args below meth c H locs 0 0 (MQ below ((mp_Ql D r_ (k_X10_countWays T a_ a_word a_row a_ways a_places v_wordLength v_rowLength v_row o_ways v_word)) A) args s 0 0 A) (F0 m 17 ls [])) :
    ∀ (n : Nat) (z1 : Int32) (z2 : Int32) (v_ways : (Nat → Int64)), f_X10_countWays_32 fu v_wordLength v_rowLength v_row v_word K17 n z1 z2 v_ways = some (r_, o_ways) → ∀ (H : Heap) (locs : List Loc) (ls : Array Slot), va_P D mp_cl (k_X10_countWays T a_ a_word a_row a_ways a_places v_wordLength v_rowLength v_row v_ways v_word) H → va_D A (k_X10_countWays T a_ a_word a_row a_ways a_places v_wordLength v_rowLength v_row v_ways v_word) → va_S A s.heap H locs → lv_has ls 3 [(0, .ref a_), (1, .int z1), (2, .int z2)] → W p l e ({ frames := 1, cells := 0, slots := 0, locals := 24 }) s m args below meth c H locs 0 0 (MQ below ((mp_Ql D r_ (k_X10_countWays T a_ a_word a_row a_ways a_places v_wordLength v_rowLength v_row o_ways v_word)) A) args s 0 0 A) (F0 m 32 ls []) := by
  have hx := X.1
  have hb := X.2.1
  have hml := X.2.2.1
  have hown := X.2.2.2.2.1
  have hts := X.2.2.2.2.2.1
  intro n
  induction n with
  | zero => intro z1 z2 v_ways hf; exact absurd hf (by intro h; cases h)
  | succ n ih =>
    intro z1 z2 v_ways hf H locs ls hP hD hS hl
    replace hf : (if z2 < 0 then lt_ (z1 + (nI 1)) (fun (y2 : Int32) => K17 y2 v_ways) else gi_ z2 10 (gi_ z1 60 ((if (v_word (z2).toNatClampNeg) = (v_row (z1).toNatClampNeg) then gi_ (z2 + (nI 1)) 11 (gi_ z2 11 (lt_ ((v_ways (z2 + (nI 1)).toNatClampNeg) + (v_ways (z2).toNatClampNeg)) (fun (y9 : Int64) => gi_ (z2 + (nI 1)) 11 (lt_ (z2 + (-1 : Int32)) (fun (y11 : Int32) => f_X10_countWays_32 fu v_wordLength v_rowLength v_row v_word K17 n z1 y11 (vp_updL v_ways (z2 + (nI 1)).toNatClampNeg y9)))))) else lt_ (z2 + (-1 : Int32)) (fun (y6 : Int32) => f_X10_countWays_32 fu v_wordLength v_rowLength v_row v_word K17 n z1 y6 v_ways))))) = some (r_, o_ways) := hf
    refine lv_iload_n hx hb dX10_countWays_32 rfl (lv_at hl 2 rfl) ?_
    refine lv_if_lt (tgt := 74) hx hb dX10_countWays_33 (by decide) (fun h1 => ?_) (fun h1 => ?_)
    · replace hf := if_t hf h1
      obtain ⟨y2, e2⟩ : ∃ y : Int32, y = z1 + (nI 1) := ⟨_, rfl⟩
      replace hf := lt_of e2 hf
      refine lv_iinc (v := y2) (lv' := [(1, .int y2), (0, .ref a_), (2, .int z2)]) hx hb dX10_countWays_74 hl (k := 1) rfl (by rw [e2]; rfl) (by decide) rfl (fun ls hl => ?_)
      refine lv_goto (tgt := 17) hx hb dX10_countWays_77 (by decide) ?_
      exact hK17 y2 v_ways hf _ _ _ hP (mp_D_of hD rfl) hS (lv_sub hl [1, 0] rfl)
    · replace hf := if_f hf h1
      refine lv_aload_n hx hb dX10_countWays_36 rfl (lv_at hl 0 rfl) ?_
      refine mp_get X fl_X10_9 hK hP 0 rfl rfl dX10_countWays_37 ?_
      refine lv_iload_n hx hb dX10_countWays_40 rfl (lv_at hl 2 rfl) ?_
      obtain ⟨h3, hf⟩ := gi_of hf
      refine va_iald hx hb hK hP 3 0 rfl rfl h3 dX10_countWays_41 ?_
      refine lv_aload_n hx hb dX10_countWays_42 rfl (lv_at hl 0 rfl) ?_
      refine mp_get X fl_X10_15 hK hP 0 rfl rfl dX10_countWays_43 ?_
      refine lv_iload_n hx hb dX10_countWays_46 rfl (lv_at hl 1 rfl) ?_
      obtain ⟨h4, hf⟩ := gi_of hf
      refine va_iald hx hb hK hP 1 0 rfl rfl h4 dX10_countWays_47 ?_
      refine lv_icmp_ne (tgt := 68) hx hb dX10_countWays_48 (by decide) (fun h5 => ?_) (fun h5 => ?_)
      · replace hf := if_f hf h5
        obtain ⟨y6, e6⟩ : ∃ y : Int32, y = z2 + (-1 : Int32) := ⟨_, rfl⟩
        replace hf := lt_of e6 hf
        refine lv_iinc (v := y6) (lv' := [(2, .int y6), (0, .ref a_), (1, .int z1)]) hx hb dX10_countWays_68 hl (k := 2) rfl (by rw [e6]; rfl) (by decide) rfl (fun ls hl => ?_)
        refine lv_goto (tgt := 32) hx hb dX10_countWays_71 (by decide) ?_
        exact ih z1 y6 v_ways hf _ _ _ hP (mp_D_of hD rfl) hS (lv_sub hl [1, 2, 0] rfl)
      · replace hf := if_t hf h5
        refine lv_aload_n hx hb dX10_countWays_51 rfl (lv_at hl 0 rfl) ?_
        refine mp_get X fl_X10_25 hK hP 0 rfl rfl dX10_countWays_52 ?_
        refine lv_iload_n hx hb dX10_countWays_55 rfl (lv_at hl 2 rfl) ?_
        refine lv_iconst (v := (nI 1)) hx hb dX10_countWays_56 (by decide) ?_
        refine lv_iadd hx hb dX10_countWays_57 ?_
        refine lv_dup2_11 hx hb dX10_countWays_58 rfl rfl ?_
        obtain ⟨h7, hf⟩ := gi_of hf
        refine va_lald hx hb hK hP 2 1 rfl rfl h7 dX10_countWays_59 ?_
        refine lv_aload_n hx hb dX10_countWays_60 rfl (lv_at hl 0 rfl) ?_
        refine mp_get X fl_X10_25 hK hP 0 rfl rfl dX10_countWays_61 ?_
        refine lv_iload_n hx hb dX10_countWays_64 rfl (lv_at hl 2 rfl) ?_
        obtain ⟨h8, hf⟩ := gi_of hf
        refine va_lald hx hb hK hP 2 1 rfl rfl h8 dX10_countWays_65 ?_
        refine lv_ladd hx hb dX10_countWays_66 ?_
        refine lv_topl (fun y9 e9 => ?_)
        replace hf := lt_of e9 hf
        obtain ⟨h10, hf⟩ := gi_of hf
        refine va_last hx hb hK hP (mp_D_of hD rfl) hS 2 1 rfl rfl h10 dX10_countWays_67 (fun H locs hP _ hS => ?_)
        replace hP : va_P D mp_cl (k_X10_countWays T a_ a_word a_row a_ways a_places v_wordLength v_rowLength v_row (vp_updL v_ways (z2 + (nI 1)).toNatClampNeg y9) v_word) H := hP
        obtain ⟨y11, e11⟩ : ∃ y : Int32, y = z2 + (-1 : Int32) := ⟨_, rfl⟩
        replace hf := lt_of e11 hf
        refine lv_iinc (v := y11) (lv' := [(2, .int y11), (0, .ref a_), (1, .int z1)]) hx hb dX10_countWays_68 hl (k := 2) rfl (by rw [e11]; rfl) (by decide) rfl (fun ls hl => ?_)
        refine lv_goto (tgt := 32) hx hb dX10_countWays_71 (by decide) ?_
        exact ih z1 y11 (vp_updL v_ways (z2 + (nI 1)).toNatClampNeg y9) hf _ _ _ hP (mp_D_of hD rfl) hS (lv_sub hl [1, 2, 0] rfl)

set_option maxHeartbeats 4000000 in
set_option maxRecDepth 100000 in
theorem w_X10_countWays_17 {p : Program} {l : Launch} {e : Env} {s : State} {m : MethodId} {args : Array Value} {below : List Frame} {meth : Method} {c : Code} {D : va_G} {T : Nat → ClassId} {A : Nat → Prop} (X : mp_X p s m meth c args RX10 "countWays" cX10_countWays 3 (some .long)) (hK : va_K D mp_cl (mp_ty T) s) (hA : ∀ q, s.heap.size ≤ q → A q) (fu : Nat) (a_ a_word a_row a_ways a_places : Nat) (v_wordLength : Int32) (v_rowLength : Int32) (v_row : (Nat → Int32)) (v_word : (Nat → Int32)) (r_ : Int64) (o_ways : (Nat → Int64)) :
    ∀ (n : Nat) (z1 : Int32) (v_ways : (Nat → Int64)), f_X10_countWays_17 fu v_wordLength v_rowLength v_row v_word  n z1 v_ways = some (r_, o_ways) → ∀ (H : Heap) (locs : List Loc) (ls : Array Slot), va_P D mp_cl (k_X10_countWays T a_ a_word a_row a_ways a_places v_wordLength v_rowLength v_row v_ways v_word) H → va_D A (k_X10_countWays T a_ a_word a_row a_ways a_places v_wordLength v_rowLength v_row v_ways v_word) → va_S A s.heap H locs → lv_has ls 3 [(0, .ref a_), (1, .int z1)] → W p l e ({ frames := 1, cells := 0, slots := 0, locals := 24 }) s m args below meth c H locs 0 0 (MQ below ((mp_Ql D r_ (k_X10_countWays T a_ a_word a_row a_ways a_places v_wordLength v_rowLength v_row o_ways v_word)) A) args s 0 0 A) (F0 m 17 ls []) := by
  have hx := X.1
  have hb := X.2.1
  have hml := X.2.2.1
  have hown := X.2.2.2.2.1
  have hts := X.2.2.2.2.2.1
  intro n
  induction n with
  | zero => intro z1 v_ways hf; exact absurd hf (by intro h; cases h)
  | succ n ih =>
    intro z1 v_ways hf H locs ls hP hD hS hl
    replace hf : (if v_rowLength ≤ z1 then gi_ v_wordLength 11 (some (v_ways (v_wordLength).toNatClampNeg, v_ways)) else lt_ (v_wordLength - (nI 1)) (fun (y3 : Int32) => f_X10_countWays_32 fu v_wordLength v_rowLength v_row v_word (f_X10_countWays_17 fu v_wordLength v_rowLength v_row v_word  n) fu z1 y3 v_ways)) = some (r_, o_ways) := hf
    refine lv_iload_n hx hb dX10_countWays_17 rfl (lv_at hl 1 rfl) ?_
    refine lv_aload_n hx hb dX10_countWays_18 rfl (lv_at hl 0 rfl) ?_
    refine mp_get X fl_X10_22 hK hP 0 rfl rfl dX10_countWays_19 ?_
    refine lv_icmp_ge (tgt := 80) hx hb dX10_countWays_22 (by decide) (fun h1 => ?_) (fun h1 => ?_)
    · replace hf := if_t hf h1
      refine lv_aload_n hx hb dX10_countWays_80 rfl (lv_at hl 0 rfl) ?_
      refine mp_get X fl_X10_25 hK hP 0 rfl rfl dX10_countWays_81 ?_
      refine lv_aload_n hx hb dX10_countWays_84 rfl (lv_at hl 0 rfl) ?_
      refine mp_get X fl_X10_18 hK hP 0 rfl rfl dX10_countWays_85 ?_
      obtain ⟨h2, hf⟩ := gi_of hf
      refine va_lald hx hb hK hP 2 1 rfl rfl h2 dX10_countWays_88 ?_
      cases hf
      exact mp_retl X hP hS rfl dX10_countWays_89
    · replace hf := if_f hf h1
      refine lv_aload_n hx hb dX10_countWays_25 rfl (lv_at hl 0 rfl) ?_
      refine mp_get X fl_X10_18 hK hP 0 rfl rfl dX10_countWays_26 ?_
      refine lv_iconst (v := (nI 1)) hx hb dX10_countWays_29 (by decide) ?_
      refine lv_isub hx hb dX10_countWays_30 ?_
      refine lv_topi (fun y3 e3 => ?_)
      replace hf := lt_of e3 hf
      refine lv_istore_n (lv' := [(2, .int y3), (0, .ref a_), (1, .int z1)]) hx hb dX10_countWays_31 rfl hl (by decide) rfl (fun ls hl => ?_)
      exact w_X10_countWays_32 X hK hA  fu a_ a_word a_row a_ways a_places v_wordLength v_rowLength v_row v_word r_ o_ways  (f_X10_countWays_17 fu v_wordLength v_rowLength v_row v_word  n) (ih) fu z1 y3 v_ways hf _ _ _ hP (mp_D_of hD rfl) hS (lv_sub hl [1, 2, 0] rfl)

set_option maxHeartbeats 4000000 in
set_option maxRecDepth 100000 in
theorem c_X10_countWays (l : Launch) (D : va_G) (T : Nat → ClassId) (fu : Nat) (a_ a_word a_row a_ways a_places : Nat) (v_wordLength : Int32) (v_rowLength : Int32) (v_row : (Nat → Int32)) (v_ways : (Nat → Int64)) (v_word : (Nat → Int32)) (r_ : Int64) (o_ways : (Nat → Int64)) (hf : f_X10_countWays fu v_wordLength v_rowLength v_row v_ways v_word = some (r_, o_ways)) :
    mp_M l D T yX10_countWays cX10_countWays 3 (some .long) ({ frames := 1, cells := 0, slots := 0, locals := 24 }) 0 0 [.ref a_] (k_X10_countWays T a_ a_word a_row a_ways a_places v_wordLength v_rowLength v_row v_ways v_word) (mp_Ql D r_ (k_X10_countWays T a_ a_word a_row a_ways a_places v_wordLength v_rowLength v_row o_ways v_word)) := by
  refine mp_of (by decide) (Nat.le_of_ble_eq_true rfl) rfl ?_
  intro p e s m args below meth c A ls X hK hP hD hS hA hl
  replace X : mp_X p s m meth c args RX10 "countWays" cX10_countWays 3 (some .long) := X
  have hx := X.1
  have hb := X.2.1
  have hml := X.2.2.1
  have hown := X.2.2.2.2.1
  have hts := X.2.2.2.2.2.1
  replace hl : lv_has ls 3 [(0, .ref a_)] := hl
  replace hf : bd_ (f_J7_fill_d0a16 fu 11 (lN 0) v_ways) (fun (u1 : (Nat → Int64)) => gi_ (nI 0) 11 (f_X10_countWays_17 fu v_wordLength v_rowLength v_row v_word  fu (nI 0) (vp_updL u1 ((nI 0)).toNatClampNeg (lN 1)))) = some (r_, o_ways) := hf
  refine lv_aload_n hx hb dX10_countWays_0 rfl (lv_at hl 0 rfl) ?_
  refine mp_get X fl_X10_25 hK hP 0 rfl rfl dX10_countWays_1 ?_
  refine lv_lconst (v := (lN 0)) hx hb dX10_countWays_4 (by decide) ?_
  obtain ⟨u1, c2, hf⟩ := bd_of hf
  have hPc := hP.sub (ws' := (k_J7_fill_d0a16 T a_ways 11 v_ways)) [2] rfl
  have hDc := (mp_D_of (w1 := (k_X10_countWays T a_ a_word a_row a_ways a_places v_wordLength v_rowLength v_row v_ways v_word)) hD rfl).sub (ws' := (k_J7_fill_d0a16 T a_ways 11 v_ways)) [2] rfl rfl
  refine mp_callv (isC := [2]) (wc := (k_J7_fill_d0a16 T a_ways 11 v_ways)) (w1 := (k_J7_fill_d0a16 T a_ways 11 u1)) hP (mp_D_of hD rfl) hS hA rfl rfl (mp_runS (As := [.ref a_ways, .long (lN 0)]) (rest := []) X me_J7_fill_d0a16 lk_X10_51 (c_J7_fill_d0a16 l D T fu a_ways 11 (lN 0) v_ways u1 c2) rfl rfl ⟨(Nat.le_of_ble_eq_true rfl), (Nat.le_of_ble_eq_true rfl)⟩ hK hPc hDc rfl hl.1 rfl (Nat.le_of_ble_eq_true rfl) dX10_countWays_5 ⟨Nat.zero_le _, Nat.zero_le _⟩) (fun H locs hP _ hS => ?_)
  replace hP : va_P D mp_cl (k_X10_countWays T a_ a_word a_row a_ways a_places v_wordLength v_rowLength v_row u1 v_word) H := hP
  refine lv_aload_n hx hb dX10_countWays_8 rfl (lv_at hl 0 rfl) ?_
  refine mp_get X fl_X10_25 hK hP 0 rfl rfl dX10_countWays_9 ?_
  refine lv_iconst (v := (nI 0)) hx hb dX10_countWays_12 (by decide) ?_
  refine lv_lconst (v := (lN 1)) hx hb dX10_countWays_13 (by decide) ?_
  obtain ⟨h3, hf⟩ := gi_of hf
  refine va_last hx hb hK hP (mp_D_of hD rfl) hS 2 1 rfl rfl h3 dX10_countWays_14 (fun H locs hP _ hS => ?_)
  replace hP : va_P D mp_cl (k_X10_countWays T a_ a_word a_row a_ways a_places v_wordLength v_rowLength v_row (vp_updL u1 ((nI 0)).toNatClampNeg (lN 1)) v_word) H := hP
  refine lv_iconst (v := (nI 0)) hx hb dX10_countWays_15 (by decide) ?_
  refine lv_istore_n (lv' := [(1, .int (nI 0)), (0, .ref a_)]) hx hb dX10_countWays_16 rfl hl (by decide) rfl (fun ls hl => ?_)
  exact w_X10_countWays_17 X hK hA  fu a_ a_word a_row a_ways a_places v_wordLength v_rowLength v_row v_word r_ o_ways   fu (nI 0) (vp_updL u1 ((nI 0)).toNatClampNeg (lN 1)) hf _ _ _ hP (mp_D_of hD rfl) hS (lv_sub hl [1, 0] rfl)


def k_X10_follow (T : Nat → ClassId) (a_ a_word a_row a_ways a_places : Nat) (v_wordLength : Int32) (v_rowLength : Int32) (v_places : (Nat → Int32)) (v_row : (Nat → Int32)) (v_word : (Nat → Int32)) : va_W := [(a_, oX10 a_word a_row v_wordLength v_rowLength a_ways a_places), (a_places, mp_aI T 10 v_places), (a_row, mp_aI T 60 v_row), (a_word, mp_aI T 10 v_word)]
set_option maxHeartbeats 4000000 in
set_option maxRecDepth 100000 in
theorem w_X10_follow_7 {p : Program} {l : Launch} {e : Env} {s : State} {m : MethodId} {args : Array Value} {below : List Frame} {meth : Method} {c : Code} {D : va_G} {T : Nat → ClassId} {A : Nat → Prop} (X : mp_X p s m meth c args RX10 "follow" cX10_follow 5 (some .int)) (hK : va_K D mp_cl (mp_ty T) s) (hA : ∀ q, s.heap.size ≤ q → A q) (fu : Nat) (a_ a_word a_row a_ways a_places : Nat) (v_wordLength : Int32) (v_rowLength : Int32) (v_row : (Nat → Int32)) (v_word : (Nat → Int32)) (r_ : Int32) (o_places : (Nat → Int32)) :
    ∀ (n : Nat) (z2 : Int32) (z3 : Int32) (z4 : Int32) (v_places : (Nat → Int32)), f_X10_follow_7 fu v_wordLength v_rowLength v_row v_word  n z2 z3 z4 v_places = some (r_, o_places) → ∀ (H : Heap) (locs : List Loc) (ls : Array Slot), va_P D mp_cl (k_X10_follow T a_ a_word a_row a_ways a_places v_wordLength v_rowLength v_places v_row v_word) H → va_D A (k_X10_follow T a_ a_word a_row a_ways a_places v_wordLength v_rowLength v_places v_row v_word) → va_S A s.heap H locs → lv_has ls 5 [(0, .ref a_), (2, .int z2), (3, .int z3), (4, .int z4)] → W p l e ({ frames := 0, cells := 0, slots := 0, locals := 0 }) s m args below meth c H locs 0 0 (MQ below ((mp_Qi D r_ (k_X10_follow T a_ a_word a_row a_ways a_places v_wordLength v_rowLength o_places v_row v_word)) A) args s 0 0 A) (F0 m 7 ls []) := by
  have hx := X.1
  have hb := X.2.1
  have hml := X.2.2.1
  have hown := X.2.2.2.2.1
  have hts := X.2.2.2.2.2.1
  intro n
  induction n with
  | zero => intro z2 z3 z4 v_places hf; exact absurd hf (by intro h; cases h)
  | succ n ih =>
    intro z2 z3 z4 v_places hf H locs ls hP hD hS hl
    replace hf : (if v_rowLength ≤ z4 then (if z2 = v_wordLength then some (z3, v_places) else some ((-1 : Int32), v_places)) else (if v_wordLength ≤ z2 then (if z2 = v_wordLength then some (z3, v_places) else some ((-1 : Int32), v_places)) else gi_ z4 60 (gi_ z2 10 ((if (v_row (z4).toNatClampNeg) = (v_word (z2).toNatClampNeg) then gi_ z2 10 (lt_ (z2 + (nI 1)) (fun (y10 : Int32) => lt_ (z4 + (nI 1)) (fun (y11 : Int32) => f_X10_follow_7 fu v_wordLength v_rowLength v_row v_word  n y10 z4 y11 (upd v_places (z2).toNatClampNeg z4)))) else lt_ (z4 + (nI 1)) (fun (y8 : Int32) => f_X10_follow_7 fu v_wordLength v_rowLength v_row v_word  n z2 z3 y8 v_places)))))) = some (r_, o_places) := hf
    refine lv_iload hx hb dX10_follow_7 (lv_at hl 3 rfl) ?_
    refine lv_aload_n hx hb dX10_follow_9 rfl (lv_at hl 0 rfl) ?_
    refine mp_get X fl_X10_22 hK hP 0 rfl rfl dX10_follow_10 ?_
    refine lv_icmp_ge (tgt := 60) hx hb dX10_follow_13 (by decide) (fun h1 => ?_) (fun h1 => ?_)
    · replace hf := if_t hf h1
      refine lv_iload_n hx hb dX10_follow_60 rfl (lv_at hl 1 rfl) ?_
      refine lv_aload_n hx hb dX10_follow_61 rfl (lv_at hl 0 rfl) ?_
      refine mp_get X fl_X10_18 hK hP 0 rfl rfl dX10_follow_62 ?_
      refine lv_icmp_ne (tgt := 72) hx hb dX10_follow_65 (by decide) (fun h2 => ?_) (fun h2 => ?_)
      · replace hf := if_f hf h2
        refine lv_iconst (v := (-1 : Int32)) hx hb dX10_follow_72 (by decide) ?_
        cases hf
        exact mp_reti X hP hS rfl dX10_follow_73
      · replace hf := if_t hf h2
        refine lv_iload_n hx hb dX10_follow_68 rfl (lv_at hl 2 rfl) ?_
        refine lv_goto (tgt := 73) hx hb dX10_follow_69 (by decide) ?_
        cases hf
        exact mp_reti X hP hS rfl dX10_follow_73
    · replace hf := if_f hf h1
      refine lv_iload_n hx hb dX10_follow_16 rfl (lv_at hl 1 rfl) ?_
      refine lv_aload_n hx hb dX10_follow_17 rfl (lv_at hl 0 rfl) ?_
      refine mp_get X fl_X10_18 hK hP 0 rfl rfl dX10_follow_18 ?_
      refine lv_icmp_ge (tgt := 60) hx hb dX10_follow_21 (by decide) (fun h3 => ?_) (fun h3 => ?_)
      · replace hf := if_t hf h3
        refine lv_iload_n hx hb dX10_follow_60 rfl (lv_at hl 1 rfl) ?_
        refine lv_aload_n hx hb dX10_follow_61 rfl (lv_at hl 0 rfl) ?_
        refine mp_get X fl_X10_18 hK hP 0 rfl rfl dX10_follow_62 ?_
        refine lv_icmp_ne (tgt := 72) hx hb dX10_follow_65 (by decide) (fun h4 => ?_) (fun h4 => ?_)
        · replace hf := if_f hf h4
          refine lv_iconst (v := (-1 : Int32)) hx hb dX10_follow_72 (by decide) ?_
          cases hf
          exact mp_reti X hP hS rfl dX10_follow_73
        · replace hf := if_t hf h4
          refine lv_iload_n hx hb dX10_follow_68 rfl (lv_at hl 2 rfl) ?_
          refine lv_goto (tgt := 73) hx hb dX10_follow_69 (by decide) ?_
          cases hf
          exact mp_reti X hP hS rfl dX10_follow_73
      · replace hf := if_f hf h3
        refine lv_aload_n hx hb dX10_follow_24 rfl (lv_at hl 0 rfl) ?_
        refine mp_get X fl_X10_15 hK hP 0 rfl rfl dX10_follow_25 ?_
        refine lv_iload hx hb dX10_follow_28 (lv_at hl 3 rfl) ?_
        obtain ⟨h5, hf⟩ := gi_of hf
        refine va_iald hx hb hK hP 2 0 rfl rfl h5 dX10_follow_30 ?_
        refine lv_aload_n hx hb dX10_follow_31 rfl (lv_at hl 0 rfl) ?_
        refine mp_get X fl_X10_9 hK hP 0 rfl rfl dX10_follow_32 ?_
        refine lv_iload_n hx hb dX10_follow_35 rfl (lv_at hl 1 rfl) ?_
        obtain ⟨h6, hf⟩ := gi_of hf
        refine va_iald hx hb hK hP 3 0 rfl rfl h6 dX10_follow_36 ?_
        refine lv_icmp_ne (tgt := 54) hx hb dX10_follow_37 (by decide) (fun h7 => ?_) (fun h7 => ?_)
        · replace hf := if_f hf h7
          obtain ⟨y8, e8⟩ : ∃ y : Int32, y = z4 + (nI 1) := ⟨_, rfl⟩
          replace hf := lt_of e8 hf
          refine lv_iinc (v := y8) (lv' := [(4, .int y8), (0, .ref a_), (2, .int z2), (3, .int z3)]) hx hb dX10_follow_54 hl (k := 3) rfl (by rw [e8]; rfl) (by decide) rfl (fun ls hl => ?_)
          refine lv_goto (tgt := 7) hx hb dX10_follow_57 (by decide) ?_
          exact ih z2 z3 y8 v_places hf _ _ _ hP (mp_D_of hD rfl) hS (lv_sub hl [1, 2, 3, 0] rfl)
        · replace hf := if_t hf h7
          refine lv_aload_n hx hb dX10_follow_40 rfl (lv_at hl 0 rfl) ?_
          refine mp_get X fl_X10_29 hK hP 0 rfl rfl dX10_follow_41 ?_
          refine lv_iload_n hx hb dX10_follow_44 rfl (lv_at hl 1 rfl) ?_
          refine lv_iload hx hb dX10_follow_45 (lv_at hl 3 rfl) ?_
          obtain ⟨h9, hf⟩ := gi_of hf
          refine va_iast hx hb hK hP (mp_D_of hD rfl) hS 1 0 rfl rfl h9 dX10_follow_47 (fun H locs hP _ hS => ?_)
          replace hP : va_P D mp_cl (k_X10_follow T a_ a_word a_row a_ways a_places v_wordLength v_rowLength (upd v_places (z2).toNatClampNeg z4) v_row v_word) H := hP
          refine lv_iload hx hb dX10_follow_48 (lv_at hl 3 rfl) ?_
          refine lv_istore_n (lv' := [(3, .int z4), (0, .ref a_), (2, .int z2), (4, .int z4)]) hx hb dX10_follow_50 rfl hl (by decide) rfl (fun ls hl => ?_)
          obtain ⟨y10, e10⟩ : ∃ y : Int32, y = z2 + (nI 1) := ⟨_, rfl⟩
          replace hf := lt_of e10 hf
          refine lv_iinc (v := y10) (lv' := [(2, .int y10), (3, .int z4), (0, .ref a_), (4, .int z4)]) hx hb dX10_follow_51 hl (k := 2) rfl (by rw [e10]; rfl) (by decide) rfl (fun ls hl => ?_)
          obtain ⟨y11, e11⟩ : ∃ y : Int32, y = z4 + (nI 1) := ⟨_, rfl⟩
          replace hf := lt_of e11 hf
          refine lv_iinc (v := y11) (lv' := [(4, .int y11), (2, .int y10), (3, .int z4), (0, .ref a_)]) hx hb dX10_follow_54 hl (k := 3) rfl (by rw [e11]; rfl) (by decide) rfl (fun ls hl => ?_)
          refine lv_goto (tgt := 7) hx hb dX10_follow_57 (by decide) ?_
          exact ih y10 z4 y11 (upd v_places (z2).toNatClampNeg z4) hf _ _ _ hP (mp_D_of hD rfl) hS (lv_sub hl [3, 1, 2, 0] rfl)

set_option maxHeartbeats 4000000 in
set_option maxRecDepth 100000 in
theorem c_X10_follow (l : Launch) (D : va_G) (T : Nat → ClassId) (fu : Nat) (a_ a_word a_row a_ways a_places : Nat) (x1 : Int32) (v_wordLength : Int32) (v_rowLength : Int32) (v_places : (Nat → Int32)) (v_row : (Nat → Int32)) (v_word : (Nat → Int32)) (r_ : Int32) (o_places : (Nat → Int32)) (hf : f_X10_follow fu x1 v_wordLength v_rowLength v_places v_row v_word = some (r_, o_places)) :
    mp_M l D T yX10_follow cX10_follow 5 (some .int) ({ frames := 0, cells := 0, slots := 0, locals := 0 }) 0 0 [.ref a_, .int x1] (k_X10_follow T a_ a_word a_row a_ways a_places v_wordLength v_rowLength v_places v_row v_word) (mp_Qi D r_ (k_X10_follow T a_ a_word a_row a_ways a_places v_wordLength v_rowLength o_places v_row v_word)) := by
  refine mp_of (by decide) (Nat.le_of_ble_eq_true rfl) rfl ?_
  intro p e s m args below meth c A ls X hK hP hD hS hA hl
  replace X : mp_X p s m meth c args RX10 "follow" cX10_follow 5 (some .int) := X
  have hx := X.1
  have hb := X.2.1
  have hml := X.2.2.1
  have hown := X.2.2.2.2.1
  have hts := X.2.2.2.2.2.1
  replace hl : lv_has ls 5 [(0, .ref a_), (1, .int x1)] := hl
  replace hf : f_X10_follow_7 fu v_wordLength v_rowLength v_row v_word  fu (nI 0) (-1 : Int32) x1 v_places = some (r_, o_places) := hf
  refine lv_iconst (v := (nI 0)) hx hb dX10_follow_0 (by decide) ?_
  refine lv_istore_n (lv' := [(2, .int (nI 0)), (0, .ref a_), (1, .int x1)]) hx hb dX10_follow_1 rfl hl (by decide) rfl (fun ls hl => ?_)
  refine lv_iconst (v := (-1 : Int32)) hx hb dX10_follow_2 (by decide) ?_
  refine lv_istore_n (lv' := [(3, .int (-1 : Int32)), (2, .int (nI 0)), (0, .ref a_), (1, .int x1)]) hx hb dX10_follow_3 rfl hl (by decide) rfl (fun ls hl => ?_)
  refine lv_iload_n hx hb dX10_follow_4 rfl (lv_at hl 3 rfl) ?_
  refine lv_istore (lv' := [(4, .int x1), (3, .int (-1 : Int32)), (2, .int (nI 0)), (0, .ref a_), (1, .int x1)]) hx hb dX10_follow_5 hl (by decide) rfl (fun ls hl => ?_)
  exact w_X10_follow_7 X hK hA  fu a_ a_word a_row a_ways a_places v_wordLength v_rowLength v_row v_word r_ o_places   fu (nI 0) (-1 : Int32) x1 v_places hf _ _ _ hP (mp_D_of hD rfl) hS (lv_sub hl [3, 2, 1, 0] rfl)


def k_X10_leastLength (T : Nat → ClassId) (a_ a_word a_row a_ways a_places : Nat) (v_wordLength : Int32) (v_rowLength : Int32) (v_places : (Nat → Int32)) (v_row : (Nat → Int32)) (v_word : (Nat → Int32)) : va_W := [(a_, oX10 a_word a_row v_wordLength v_rowLength a_ways a_places), (a_places, mp_aI T 10 v_places), (a_row, mp_aI T 60 v_row), (a_word, mp_aI T 10 v_word)]
set_option maxHeartbeats 4000000 in
set_option maxRecDepth 100000 in
theorem w_X10_leastLength_36 {p : Program} {l : Launch} {e : Env} {s : State} {m : MethodId} {args : Array Value} {below : List Frame} {meth : Method} {c : Code} {D : va_G} {T : Nat → ClassId} {A : Nat → Prop} (X : mp_X p s m meth c args RX10 "leastLength" cX10_leastLength 4 (some .int)) (hK : va_K D mp_cl (mp_ty T) s) (hA : ∀ q, s.heap.size ≤ q → A q) (fu : Nat) (a_ a_word a_row a_ways a_places : Nat) (v_wordLength : Int32) (v_rowLength : Int32) (v_row : (Nat → Int32)) (v_word : (Nat → Int32)) (r_ : Int32) (o_places : (Nat → Int32)) (K4 : Int32 → Int32 → (Nat → Int32) → Option (Int32 × (Nat → Int32))) (hK4 : ∀ (z1 : Int32) (z2 : Int32) (v_places : (Nat → Int32)), K4 z1 z2 v_places = some (r_, o_places) → ∀ (H : Heap) (locs : List Loc) (ls : Array Slot), va_P D mp_cl (k_X10_leastLength T a_ a_word a_row a_ways a_places v_wordLength v_rowLength v_places v_row v_word) H → va_D A (k_X10_leastLength T a_ a_word a_row a_ways a_places v_wordLength v_rowLength v_places v_row v_word) → va_S A s.heap H locs → lv_has ls 4 [(0, .ref a_), (1, .int z1), (2, .int z2)] → W p l e ({ frames := 1, cells := 0, slots := 0, locals := 24 }) s m args below meth c H locs 0 0 (MQ below ((mp_Qi D r_ (k_X10_leastLength T a_ a_word a_row a_ways a_places v_wordLength v_rowLength o_places v_row v_word)) A) args s 0 0 A) (F0 m 4 ls [])) :
    ∀  (z1 : Int32) (z2 : Int32) (w0 : Int32) (v_places : (Nat → Int32)), f_X10_leastLength_36 fu v_wordLength v_rowLength v_row v_word K4 z1 z2 w0 v_places = some (r_, o_places) → ∀ (H : Heap) (locs : List Loc) (ls : Array Slot), va_P D mp_cl (k_X10_leastLength T a_ a_word a_row a_ways a_places v_wordLength v_rowLength v_places v_row v_word) H → va_D A (k_X10_leastLength T a_ a_word a_row a_ways a_places v_wordLength v_rowLength v_places v_row v_word) → va_S A s.heap H locs → lv_has ls 4 [(0, .ref a_), (1, .int z1), (2, .int z2)] → W p l e ({ frames := 1, cells := 0, slots := 0, locals := 24 }) s m args below meth c H locs 0 0 (MQ below ((mp_Qi D r_ (k_X10_leastLength T a_ a_word a_row a_ways a_places v_wordLength v_rowLength o_places v_row v_word)) A) args s 0 0 A) (F0 m 36 ls [.int w0]) := by
  have hx := X.1
  have hb := X.2.1
  have hml := X.2.2.1
  have hown := X.2.2.2.2.1
  have hts := X.2.2.2.2.2.1
  intro z1 z2 w0 v_places hf H locs ls hP hD hS hl
  replace hf : (if w0 = (-1 : Int32) then lt_ (z2 + (nI 1)) (fun (y2 : Int32) => K4 z1 y2 v_places) else (if z1 = (-1 : Int32) then lt_ ((w0 - z2) + (nI 1)) (fun (y4 : Int32) => lt_ (z2 + (nI 1)) (fun (y5 : Int32) => K4 y4 y5 v_places)) else (if z1 ≤ ((w0 - z2) + (nI 1)) then lt_ (z2 + (nI 1)) (fun (y7 : Int32) => K4 z1 y7 v_places) else lt_ ((w0 - z2) + (nI 1)) (fun (y8 : Int32) => lt_ (z2 + (nI 1)) (fun (y9 : Int32) => K4 y8 y9 v_places))))) = some (r_, o_places) := hf
  refine lv_istore_n (lv' := [(3, .int w0), (0, .ref a_), (1, .int z1), (2, .int z2)]) hx hb dX10_leastLength_36 rfl hl (by decide) rfl (fun ls hl => ?_)
  refine lv_iload_n hx hb dX10_leastLength_37 rfl (lv_at hl 0 rfl) ?_
  refine lv_iconst (v := (-1 : Int32)) hx hb dX10_leastLength_38 (by decide) ?_
  refine lv_icmp_eq (tgt := 62) hx hb dX10_leastLength_39 (by decide) (fun h1 => ?_) (fun h1 => ?_)
  · replace hf := if_t hf h1
    obtain ⟨y2, e2⟩ : ∃ y : Int32, y = z2 + (nI 1) := ⟨_, rfl⟩
    replace hf := lt_of e2 hf
    refine lv_iinc (v := y2) (lv' := [(2, .int y2), (3, .int w0), (0, .ref a_), (1, .int z1)]) hx hb dX10_leastLength_62 hl (k := 3) rfl (by rw [e2]; rfl) (by decide) rfl (fun ls hl => ?_)
    refine lv_goto (tgt := 4) hx hb dX10_leastLength_65 (by decide) ?_
    exact hK4 z1 y2 v_places hf _ _ _ hP (mp_D_of hD rfl) hS (lv_sub hl [2, 3, 0] rfl)
  · replace hf := if_f hf h1
    refine lv_iload_n hx hb dX10_leastLength_42 rfl (lv_at hl 2 rfl) ?_
    refine lv_iconst (v := (-1 : Int32)) hx hb dX10_leastLength_43 (by decide) ?_
    refine lv_icmp_eq (tgt := 56) hx hb dX10_leastLength_44 (by decide) (fun h3 => ?_) (fun h3 => ?_)
    · replace hf := if_t hf h3
      refine lv_iload_n hx hb dX10_leastLength_56 rfl (lv_at hl 0 rfl) ?_
      refine lv_iload_n hx hb dX10_leastLength_57 rfl (lv_at hl 3 rfl) ?_
      refine lv_isub hx hb dX10_leastLength_58 ?_
      refine lv_iconst (v := (nI 1)) hx hb dX10_leastLength_59 (by decide) ?_
      refine lv_iadd hx hb dX10_leastLength_60 ?_
      refine lv_topi (fun y4 e4 => ?_)
      replace hf := lt_of e4 hf
      refine lv_istore_n (lv' := [(1, .int y4), (3, .int w0), (0, .ref a_), (2, .int z2)]) hx hb dX10_leastLength_61 rfl hl (by decide) rfl (fun ls hl => ?_)
      obtain ⟨y5, e5⟩ : ∃ y : Int32, y = z2 + (nI 1) := ⟨_, rfl⟩
      replace hf := lt_of e5 hf
      refine lv_iinc (v := y5) (lv' := [(2, .int y5), (1, .int y4), (3, .int w0), (0, .ref a_)]) hx hb dX10_leastLength_62 hl (k := 3) rfl (by rw [e5]; rfl) (by decide) rfl (fun ls hl => ?_)
      refine lv_goto (tgt := 4) hx hb dX10_leastLength_65 (by decide) ?_
      exact hK4 y4 y5 v_places hf _ _ _ hP (mp_D_of hD rfl) hS (lv_sub hl [3, 1, 0] rfl)
    · replace hf := if_f hf h3
      refine lv_iload_n hx hb dX10_leastLength_47 rfl (lv_at hl 0 rfl) ?_
      refine lv_iload_n hx hb dX10_leastLength_48 rfl (lv_at hl 3 rfl) ?_
      refine lv_isub hx hb dX10_leastLength_49 ?_
      refine lv_iconst (v := (nI 1)) hx hb dX10_leastLength_50 (by decide) ?_
      refine lv_iadd hx hb dX10_leastLength_51 ?_
      refine lv_iload_n hx hb dX10_leastLength_52 rfl (lv_at hl 2 rfl) ?_
      refine lv_icmp_ge (tgt := 62) hx hb dX10_leastLength_53 (by decide) (fun h6 => ?_) (fun h6 => ?_)
      · replace hf := if_t hf h6
        obtain ⟨y7, e7⟩ : ∃ y : Int32, y = z2 + (nI 1) := ⟨_, rfl⟩
        replace hf := lt_of e7 hf
        refine lv_iinc (v := y7) (lv' := [(2, .int y7), (3, .int w0), (0, .ref a_), (1, .int z1)]) hx hb dX10_leastLength_62 hl (k := 3) rfl (by rw [e7]; rfl) (by decide) rfl (fun ls hl => ?_)
        refine lv_goto (tgt := 4) hx hb dX10_leastLength_65 (by decide) ?_
        exact hK4 z1 y7 v_places hf _ _ _ hP (mp_D_of hD rfl) hS (lv_sub hl [2, 3, 0] rfl)
      · replace hf := if_f hf h6
        refine lv_iload_n hx hb dX10_leastLength_56 rfl (lv_at hl 0 rfl) ?_
        refine lv_iload_n hx hb dX10_leastLength_57 rfl (lv_at hl 3 rfl) ?_
        refine lv_isub hx hb dX10_leastLength_58 ?_
        refine lv_iconst (v := (nI 1)) hx hb dX10_leastLength_59 (by decide) ?_
        refine lv_iadd hx hb dX10_leastLength_60 ?_
        refine lv_topi (fun y8 e8 => ?_)
        replace hf := lt_of e8 hf
        refine lv_istore_n (lv' := [(1, .int y8), (3, .int w0), (0, .ref a_), (2, .int z2)]) hx hb dX10_leastLength_61 rfl hl (by decide) rfl (fun ls hl => ?_)
        obtain ⟨y9, e9⟩ : ∃ y : Int32, y = z2 + (nI 1) := ⟨_, rfl⟩
        replace hf := lt_of e9 hf
        refine lv_iinc (v := y9) (lv' := [(2, .int y9), (1, .int y8), (3, .int w0), (0, .ref a_)]) hx hb dX10_leastLength_62 hl (k := 3) rfl (by rw [e9]; rfl) (by decide) rfl (fun ls hl => ?_)
        refine lv_goto (tgt := 4) hx hb dX10_leastLength_65 (by decide) ?_
        exact hK4 y8 y9 v_places hf _ _ _ hP (mp_D_of hD rfl) hS (lv_sub hl [3, 1, 0] rfl)

set_option maxHeartbeats 4000000 in
set_option maxRecDepth 100000 in
theorem w_X10_leastLength_4 {p : Program} {l : Launch} {e : Env} {s : State} {m : MethodId} {args : Array Value} {below : List Frame} {meth : Method} {c : Code} {D : va_G} {T : Nat → ClassId} {A : Nat → Prop} (X : mp_X p s m meth c args RX10 "leastLength" cX10_leastLength 4 (some .int)) (hK : va_K D mp_cl (mp_ty T) s) (hA : ∀ q, s.heap.size ≤ q → A q) (fu : Nat) (a_ a_word a_row a_ways a_places : Nat) (v_wordLength : Int32) (v_rowLength : Int32) (v_row : (Nat → Int32)) (v_word : (Nat → Int32)) (r_ : Int32) (o_places : (Nat → Int32)) :
    ∀ (n : Nat) (z1 : Int32) (z2 : Int32) (v_places : (Nat → Int32)), f_X10_leastLength_4 fu v_wordLength v_rowLength v_row v_word  n z1 z2 v_places = some (r_, o_places) → ∀ (H : Heap) (locs : List Loc) (ls : Array Slot), va_P D mp_cl (k_X10_leastLength T a_ a_word a_row a_ways a_places v_wordLength v_rowLength v_places v_row v_word) H → va_D A (k_X10_leastLength T a_ a_word a_row a_ways a_places v_wordLength v_rowLength v_places v_row v_word) → va_S A s.heap H locs → lv_has ls 4 [(0, .ref a_), (1, .int z1), (2, .int z2)] → W p l e ({ frames := 1, cells := 0, slots := 0, locals := 24 }) s m args below meth c H locs 0 0 (MQ below ((mp_Qi D r_ (k_X10_leastLength T a_ a_word a_row a_ways a_places v_wordLength v_rowLength o_places v_row v_word)) A) args s 0 0 A) (F0 m 4 ls []) := by
  have hx := X.1
  have hb := X.2.1
  have hml := X.2.2.1
  have hown := X.2.2.2.2.1
  have hts := X.2.2.2.2.2.1
  intro n
  induction n with
  | zero => intro z1 z2 v_places hf; exact absurd hf (by intro h; cases h)
  | succ n ih =>
    intro z1 z2 v_places hf H locs ls hP hD hS hl
    replace hf : (if v_rowLength ≤ z2 then some (z1, v_places) else gi_ z2 60 (gi_ (nI 0) 10 ((if (v_row (z2).toNatClampNeg) = (v_word ((nI 0)).toNatClampNeg) then bd_ (f_X10_follow fu z2 v_wordLength v_rowLength v_places v_row v_word) (fun (z : Int32 × (Nat → Int32)) => match z with | (r5, u6) => f_X10_leastLength_36 fu v_wordLength v_rowLength v_row v_word (f_X10_leastLength_4 fu v_wordLength v_rowLength v_row v_word  n) z1 z2 r5 u6) else f_X10_leastLength_36 fu v_wordLength v_rowLength v_row v_word (f_X10_leastLength_4 fu v_wordLength v_rowLength v_row v_word  n) z1 z2 (-1 : Int32) v_places)))) = some (r_, o_places) := hf
    refine lv_iload_n hx hb dX10_leastLength_4 rfl (lv_at hl 2 rfl) ?_
    refine lv_aload_n hx hb dX10_leastLength_5 rfl (lv_at hl 0 rfl) ?_
    refine mp_get X fl_X10_22 hK hP 0 rfl rfl dX10_leastLength_6 ?_
    refine lv_icmp_ge (tgt := 68) hx hb dX10_leastLength_9 (by decide) (fun h1 => ?_) (fun h1 => ?_)
    · replace hf := if_t hf h1
      refine lv_iload_n hx hb dX10_leastLength_68 rfl (lv_at hl 1 rfl) ?_
      cases hf
      exact mp_reti X hP hS rfl dX10_leastLength_69
    · replace hf := if_f hf h1
      refine lv_aload_n hx hb dX10_leastLength_12 rfl (lv_at hl 0 rfl) ?_
      refine mp_get X fl_X10_15 hK hP 0 rfl rfl dX10_leastLength_13 ?_
      refine lv_iload_n hx hb dX10_leastLength_16 rfl (lv_at hl 2 rfl) ?_
      obtain ⟨h2, hf⟩ := gi_of hf
      refine va_iald hx hb hK hP 2 0 rfl rfl h2 dX10_leastLength_17 ?_
      refine lv_aload_n hx hb dX10_leastLength_18 rfl (lv_at hl 0 rfl) ?_
      refine mp_get X fl_X10_9 hK hP 0 rfl rfl dX10_leastLength_19 ?_
      refine lv_iconst (v := (nI 0)) hx hb dX10_leastLength_22 (by decide) ?_
      obtain ⟨h3, hf⟩ := gi_of hf
      refine va_iald hx hb hK hP 3 0 rfl rfl h3 dX10_leastLength_23 ?_
      refine lv_icmp_ne (tgt := 35) hx hb dX10_leastLength_24 (by decide) (fun h4 => ?_) (fun h4 => ?_)
      · replace hf := if_f hf h4
        refine lv_iconst (v := (-1 : Int32)) hx hb dX10_leastLength_35 (by decide) ?_
        exact w_X10_leastLength_36 X hK hA  fu a_ a_word a_row a_ways a_places v_wordLength v_rowLength v_row v_word r_ o_places  (f_X10_leastLength_4 fu v_wordLength v_rowLength v_row v_word  n) (ih) z1 z2 (-1 : Int32) v_places hf _ _ _ hP (mp_D_of hD rfl) hS (lv_sub hl [0, 1, 2] rfl)
      · replace hf := if_t hf h4
        refine lv_aload_n hx hb dX10_leastLength_27 rfl (lv_at hl 0 rfl) ?_
        refine lv_iload_n hx hb dX10_leastLength_28 rfl (lv_at hl 2 rfl) ?_
        obtain ⟨⟨r5, u6⟩, c7, hf⟩ := bd_of hf
        dsimp only at hf
        have hPc := hP.sub (ws' := (k_X10_follow T a_ a_word a_row a_ways a_places v_wordLength v_rowLength v_places v_row v_word)) [0, 1, 2, 3] rfl
        have hDc := (mp_D_of (w1 := (k_X10_leastLength T a_ a_word a_row a_ways a_places v_wordLength v_rowLength v_places v_row v_word)) hD rfl).sub (ws' := (k_X10_follow T a_ a_word a_row a_ways a_places v_wordLength v_rowLength v_places v_row v_word)) [0, 1, 2, 3] rfl rfl
        refine mp_calli (isC := [0, 1, 2, 3]) (wc := (k_X10_follow T a_ a_word a_row a_ways a_places v_wordLength v_rowLength v_places v_row v_word)) (w1 := (k_X10_follow T a_ a_word a_row a_ways a_places v_wordLength v_rowLength u6 v_row v_word)) hP (mp_D_of hD rfl) hS hA rfl rfl (mp_runV (As := [.int z2]) (rest := []) X me_X10_follow lk_X10_57 (c_X10_follow l D T fu a_ a_word a_row a_ways a_places z2 v_wordLength v_rowLength v_places v_row v_word r5 u6 c7) rfl rfl ⟨(Nat.le_of_ble_eq_true rfl), (Nat.le_of_ble_eq_true rfl)⟩ hK hPc hDc rfl rfl rfl rfl hl.1 rfl (Nat.le_of_ble_eq_true rfl) dX10_leastLength_29 ⟨Nat.zero_le _, Nat.zero_le _⟩) (fun H locs hP _ hS => ?_)
        replace hP : va_P D mp_cl (k_X10_leastLength T a_ a_word a_row a_ways a_places v_wordLength v_rowLength u6 v_row v_word) H := hP
        refine lv_goto (tgt := 36) hx hb dX10_leastLength_32 (by decide) ?_
        exact w_X10_leastLength_36 X hK hA  fu a_ a_word a_row a_ways a_places v_wordLength v_rowLength v_row v_word r_ o_places  (f_X10_leastLength_4 fu v_wordLength v_rowLength v_row v_word  n) (ih) z1 z2 r5 u6 hf _ _ _ hP (mp_D_of hD rfl) hS (lv_sub hl [0, 1, 2] rfl)

set_option maxHeartbeats 4000000 in
set_option maxRecDepth 100000 in
theorem c_X10_leastLength (l : Launch) (D : va_G) (T : Nat → ClassId) (fu : Nat) (a_ a_word a_row a_ways a_places : Nat) (v_wordLength : Int32) (v_rowLength : Int32) (v_places : (Nat → Int32)) (v_row : (Nat → Int32)) (v_word : (Nat → Int32)) (r_ : Int32) (o_places : (Nat → Int32)) (hf : f_X10_leastLength fu v_wordLength v_rowLength v_places v_row v_word = some (r_, o_places)) :
    mp_M l D T yX10_leastLength cX10_leastLength 4 (some .int) ({ frames := 1, cells := 0, slots := 0, locals := 24 }) 0 0 [.ref a_] (k_X10_leastLength T a_ a_word a_row a_ways a_places v_wordLength v_rowLength v_places v_row v_word) (mp_Qi D r_ (k_X10_leastLength T a_ a_word a_row a_ways a_places v_wordLength v_rowLength o_places v_row v_word)) := by
  refine mp_of (by decide) (Nat.le_of_ble_eq_true rfl) rfl ?_
  intro p e s m args below meth c A ls X hK hP hD hS hA hl
  replace X : mp_X p s m meth c args RX10 "leastLength" cX10_leastLength 4 (some .int) := X
  have hx := X.1
  have hb := X.2.1
  have hml := X.2.2.1
  have hown := X.2.2.2.2.1
  have hts := X.2.2.2.2.2.1
  replace hl : lv_has ls 4 [(0, .ref a_)] := hl
  replace hf : f_X10_leastLength_4 fu v_wordLength v_rowLength v_row v_word  fu (-1 : Int32) (nI 0) v_places = some (r_, o_places) := hf
  refine lv_iconst (v := (-1 : Int32)) hx hb dX10_leastLength_0 (by decide) ?_
  refine lv_istore_n (lv' := [(1, .int (-1 : Int32)), (0, .ref a_)]) hx hb dX10_leastLength_1 rfl hl (by decide) rfl (fun ls hl => ?_)
  refine lv_iconst (v := (nI 0)) hx hb dX10_leastLength_2 (by decide) ?_
  refine lv_istore_n (lv' := [(2, .int (nI 0)), (1, .int (-1 : Int32)), (0, .ref a_)]) hx hb dX10_leastLength_3 rfl hl (by decide) rfl (fun ls hl => ?_)
  exact w_X10_leastLength_4 X hK hA  fu a_ a_word a_row a_ways a_places v_wordLength v_rowLength v_row v_word r_ o_places   fu (-1 : Int32) (nI 0) v_places hf _ _ _ hP (mp_D_of hD rfl) hS (lv_sub hl [2, 1, 0] rfl)


