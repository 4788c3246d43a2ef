def k_X12_status (T : Nat → ClassId) (a_ a_traySort a_trayMany a_numbers a_tape a_c a_kept a_words a_row a_ordered a_orderWas a_room a_ways a_places a_livedLast a_before : Nat) (v_status : Int32) (v_thrown : Int32) (v_above : Int64) (v_under : Int64) (v_taped : Int32) (v_textEnd : Int32) (v_faultKind : Int32) (v_faultAt : Int32) (v_bad : Int32) (v_badAt : Int32) (v_token : Int32) (v_at : Int32) (v_behind : Int32) (v_number : Int32) (v_letters : Int32) (v_word : Int64) (v_markMany : Int32) (v_orderTold : Int32) (v_newSteps : Int32) (v_orderedMany : Int32) (v_orderBest : Int32) (v_allSixteenths : Int64) (v_safePage : Int32) (v_openMany : Int32) (v_product : Int64) (v_shares : Int64) (v_hasLived : Int32) (v_isOver : Int32) (v_random : Int32) (v_done : Int32) (v_missed : Int32) (v_turns : Int32) (v_found : Int32) (v_leftOver : Int32) : va_W := [(a_, oX12 v_status v_thrown v_above v_under a_traySort a_trayMany a_numbers a_tape v_taped v_textEnd v_faultKind v_faultAt v_bad v_badAt v_token v_at v_behind v_number v_letters v_word a_c a_kept a_words v_markMany v_orderTold v_newSteps a_row a_ordered a_orderWas v_orderedMany v_orderBest a_room v_allSixteenths v_safePage v_openMany v_product v_shares a_ways a_places a_livedLast a_before v_hasLived v_isOver v_random v_done v_missed v_turns v_found v_leftOver)]
set_option maxHeartbeats 4000000 in
set_option maxRecDepth 100000 in
theorem c_X12_status (l : Launch) (D : va_G) (T : Nat → ClassId) (a_ a_traySort a_trayMany a_numbers a_tape a_c a_kept a_words a_row a_ordered a_orderWas a_room a_ways a_places a_livedLast a_before : Nat) (v_above : Int64) (v_under : Int64) (v_taped : Int32) (v_textEnd : Int32) (v_faultKind : Int32) (v_faultAt : Int32) (v_bad : Int32) (v_badAt : Int32) (v_token : Int32) (v_at : Int32) (v_behind : Int32) (v_number : Int32) (v_letters : Int32) (v_word : Int64) (v_markMany : Int32) (v_orderTold : Int32) (v_newSteps : Int32) (v_orderedMany : Int32) (v_orderBest : Int32) (v_allSixteenths : Int64) (v_safePage : Int32) (v_openMany : Int32) (v_product : Int64) (v_shares : Int64) (v_hasLived : Int32) (v_isOver : Int32) (v_random : Int32) (v_done : Int32) (v_missed : Int32) (v_turns : Int32) (v_found : Int32) (v_leftOver : Int32) (v_status : Int32) (v_thrown : Int32) (r_ : Int32) (o_thrown : Int32) (hf : f_X12_status v_status v_thrown = some (r_, o_thrown)) :
    mp_M l D T yX12_status cX12_status 1 (some .int) ({ frames := 0, cells := 0, slots := 0, locals := 0 }) 0 0 [.ref a_] (k_X12_status T a_ a_traySort a_trayMany a_numbers a_tape a_c a_kept a_words a_row a_ordered a_orderWas a_room a_ways a_places a_livedLast a_before v_status v_thrown v_above v_under v_taped v_textEnd v_faultKind v_faultAt v_bad v_badAt v_token v_at v_behind v_number v_letters v_word v_markMany v_orderTold v_newSteps v_orderedMany v_orderBest v_allSixteenths v_safePage v_openMany v_product v_shares v_hasLived v_isOver v_random v_done v_missed v_turns v_found v_leftOver) (mp_Qi D r_ (k_X12_status T a_ a_traySort a_trayMany a_numbers a_tape a_c a_kept a_words a_row a_ordered a_orderWas a_room a_ways a_places a_livedLast a_before v_status o_thrown v_above v_under v_taped v_textEnd v_faultKind v_faultAt v_bad v_badAt v_token v_at v_behind v_number v_letters v_word v_markMany v_orderTold v_newSteps v_orderedMany v_orderBest v_allSixteenths v_safePage v_openMany v_product v_shares v_hasLived v_isOver v_random v_done v_missed v_turns v_found v_leftOver)) := by
  refine mp_of (by decide) (Nat.le_of_ble_eq_true rfl) rfl ?_
  intro p e s m args below meth c A ls X hK hP hD hS hA hl
  replace X : mp_X p s m meth c args RX12 "status" cX12_status 1 (some .int) := X
  have hx := X.1
  have hb := X.2.1
  have hml := X.2.2.1
  have hown := X.2.2.2.2.1
  have hts := X.2.2.2.2.2.1
  replace hl : lv_has ls 1 [(0, .ref a_)] := hl
  replace hf : some (v_status, (nI 0)) = some (r_, o_thrown) := hf
  refine lv_aload_n hx hb dX12_status_0 rfl (lv_at hl 0 rfl) ?_
  refine lv_iconst (v := (nI 0)) hx hb dX12_status_1 (by decide) ?_
  refine mp_putf X fl_X12_71 fp_X12 rfl hK hP (mp_D_of hD rfl) hS 0 rfl rfl rfl (Nat.le_of_ble_eq_true rfl) dX12_status_2 (fun H locs hP _ hS => ?_)
  replace hP : va_P D mp_cl (k_X12_status T a_ a_traySort a_trayMany a_numbers a_tape a_c a_kept a_words a_row a_ordered a_orderWas a_room a_ways a_places a_livedLast a_before v_status (nI 0) v_above v_under v_taped v_textEnd v_faultKind v_faultAt v_bad v_badAt v_token v_at v_behind v_number v_letters v_word v_markMany v_orderTold v_newSteps v_orderedMany v_orderBest v_allSixteenths v_safePage v_openMany v_product v_shares v_hasLived v_isOver v_random v_done v_missed v_turns v_found v_leftOver) H := hP
  refine lv_aload_n hx hb dX12_status_5 rfl (lv_at hl 0 rfl) ?_
  refine mp_get X fl_X12_74 hK hP 0 rfl rfl dX12_status_6 ?_
  cases hf
  exact mp_reti X hP hS rfl dX12_status_9


def k_X12_top (T : Nat → ClassId) (a_ a_traySort a_trayMany a_numbers a_tape a_c a_kept a_words a_row a_ordered a_orderWas a_room a_ways a_places a_livedLast a_before : Nat) (v_status : Int32) (v_thrown : Int32) (v_above : Int64) (v_under : Int64) (v_taped : Int32) (v_textEnd : Int32) (v_faultKind : Int32) (v_faultAt : Int32) (v_bad : Int32) (v_badAt : Int32) (v_token : Int32) (v_at : Int32) (v_behind : Int32) (v_number : Int32) (v_letters : Int32) (v_word : Int64) (v_markMany : Int32) (v_orderTold : Int32) (v_newSteps : Int32) (v_orderedMany : Int32) (v_orderBest : Int32) (v_allSixteenths : Int64) (v_safePage : Int32) (v_openMany : Int32) (v_product : Int64) (v_shares : Int64) (v_hasLived : Int32) (v_isOver : Int32) (v_random : Int32) (v_done : Int32) (v_missed : Int32) (v_turns : Int32) (v_found : Int32) (v_leftOver : Int32) : va_W := [(a_, oX12 v_status v_thrown v_above v_under a_traySort a_trayMany a_numbers a_tape v_taped v_textEnd v_faultKind v_faultAt v_bad v_badAt v_token v_at v_behind v_number v_letters v_word a_c a_kept a_words v_markMany v_orderTold v_newSteps a_row a_ordered a_orderWas v_orderedMany v_orderBest a_room v_allSixteenths v_safePage v_openMany v_product v_shares a_ways a_places a_livedLast a_before v_hasLived v_isOver v_random v_done v_missed v_turns v_found v_leftOver)]
set_option maxHeartbeats 4000000 in
set_option maxRecDepth 100000 in
theorem c_X12_top (l : Launch) (D : va_G) (T : Nat → ClassId) (a_ a_traySort a_trayMany a_numbers a_tape a_c a_kept a_words a_row a_ordered a_orderWas a_room a_ways a_places a_livedLast a_before : Nat) (v_status : Int32) (v_under : Int64) (v_taped : Int32) (v_textEnd : Int32) (v_faultKind : Int32) (v_faultAt : Int32) (v_bad : Int32) (v_badAt : Int32) (v_token : Int32) (v_at : Int32) (v_behind : Int32) (v_number : Int32) (v_letters : Int32) (v_word : Int64) (v_markMany : Int32) (v_orderTold : Int32) (v_newSteps : Int32) (v_orderedMany : Int32) (v_orderBest : Int32) (v_allSixteenths : Int64) (v_safePage : Int32) (v_openMany : Int32) (v_product : Int64) (v_shares : Int64) (v_hasLived : Int32) (v_isOver : Int32) (v_random : Int32) (v_done : Int32) (v_missed : Int32) (v_turns : Int32) (v_found : Int32) (v_leftOver : Int32) (v_thrown : Int32) (v_above : Int64) (r_ : Int64) (o_thrown : Int32) (hf : f_X12_top v_thrown v_above = some (r_, o_thrown)) :
    mp_M l D T yX12_top cX12_top 1 (some .long) ({ frames := 0, cells := 0, slots := 0, locals := 0 }) 0 0 [.ref a_] (k_X12_top T a_ a_traySort a_trayMany a_numbers a_tape a_c a_kept a_words a_row a_ordered a_orderWas a_room a_ways a_places a_livedLast a_before v_status v_thrown v_above v_under v_taped v_textEnd v_faultKind v_faultAt v_bad v_badAt v_token v_at v_behind v_number v_letters v_word v_markMany v_orderTold v_newSteps v_orderedMany v_orderBest v_allSixteenths v_safePage v_openMany v_product v_shares v_hasLived v_isOver v_random v_done v_missed v_turns v_found v_leftOver) (mp_Ql D r_ (k_X12_top T a_ a_traySort a_trayMany a_numbers a_tape a_c a_kept a_words a_row a_ordered a_orderWas a_room a_ways a_places a_livedLast a_before v_status o_thrown v_above v_under v_taped v_textEnd v_faultKind v_faultAt v_bad v_badAt v_token v_at v_behind v_number v_letters v_word v_markMany v_orderTold v_newSteps v_orderedMany v_orderBest v_allSixteenths v_safePage v_openMany v_product v_shares v_hasLived v_isOver v_random v_done v_missed v_turns v_found v_leftOver)) := by
  refine mp_of (by decide) (Nat.le_of_ble_eq_true rfl) rfl ?_
  intro p e s m args below meth c A ls X hK hP hD hS hA hl
  replace X : mp_X p s m meth c args RX12 "top" cX12_top 1 (some .long) := X
  have hx := X.1
  have hb := X.2.1
  have hml := X.2.2.1
  have hown := X.2.2.2.2.1
  have hts := X.2.2.2.2.2.1
  replace hl : lv_has ls 1 [(0, .ref a_)] := hl
  replace hf : some (v_above, (nI 0)) = some (r_, o_thrown) := hf
  refine lv_aload_n hx hb dX12_top_0 rfl (lv_at hl 0 rfl) ?_
  refine lv_iconst (v := (nI 0)) hx hb dX12_top_1 (by decide) ?_
  refine mp_putf X fl_X12_71 fp_X12 rfl hK hP (mp_D_of hD rfl) hS 0 rfl rfl rfl (Nat.le_of_ble_eq_true rfl) dX12_top_2 (fun H locs hP _ hS => ?_)
  replace hP : va_P D mp_cl (k_X12_top T a_ a_traySort a_trayMany a_numbers a_tape a_c a_kept a_words a_row a_ordered a_orderWas a_room a_ways a_places a_livedLast a_before v_status (nI 0) v_above v_under v_taped v_textEnd v_faultKind v_faultAt v_bad v_badAt v_token v_at v_behind v_number v_letters v_word v_markMany v_orderTold v_newSteps v_orderedMany v_orderBest v_allSixteenths v_safePage v_openMany v_product v_shares v_hasLived v_isOver v_random v_done v_missed v_turns v_found v_leftOver) H := hP
  refine lv_aload_n hx hb dX12_top_5 rfl (lv_at hl 0 rfl) ?_
  refine mp_get X fl_X12_77 hK hP 0 rfl rfl dX12_top_6 ?_
  cases hf
  exact mp_retl X hP hS rfl dX12_top_9


def k_X12_bottom (T : Nat → ClassId) (a_ a_traySort a_trayMany a_numbers a_tape a_c a_kept a_words a_row a_ordered a_orderWas a_room a_ways a_places a_livedLast a_before : Nat) (v_status : Int32) (v_thrown : Int32) (v_above : Int64) (v_under : Int64) (v_taped : Int32) (v_textEnd : Int32) (v_faultKind : Int32) (v_faultAt : Int32) (v_bad : Int32) (v_badAt : Int32) (v_token : Int32) (v_at : Int32) (v_behind : Int32) (v_number : Int32) (v_letters : Int32) (v_word : Int64) (v_markMany : Int32) (v_orderTold : Int32) (v_newSteps : Int32) (v_orderedMany : Int32) (v_orderBest : Int32) (v_allSixteenths : Int64) (v_safePage : Int32) (v_openMany : Int32) (v_product : Int64) (v_shares : Int64) (v_hasLived : Int32) (v_isOver : Int32) (v_random : Int32) (v_done : Int32) (v_missed : Int32) (v_turns : Int32) (v_found : Int32) (v_leftOver : Int32) : va_W := [(a_, oX12 v_status v_thrown v_above v_under a_traySort a_trayMany a_numbers a_tape v_taped v_textEnd v_faultKind v_faultAt v_bad v_badAt v_token v_at v_behind v_number v_letters v_word a_c a_kept a_words v_markMany v_orderTold v_newSteps a_row a_ordered a_orderWas v_orderedMany v_orderBest a_room v_allSixteenths v_safePage v_openMany v_product v_shares a_ways a_places a_livedLast a_before v_hasLived v_isOver v_random v_done v_missed v_turns v_found v_leftOver)]
set_option maxHeartbeats 4000000 in
set_option maxRecDepth 100000 in
theorem c_X12_bottom (l : Launch) (D : va_G) (T : Nat → ClassId) (a_ a_traySort a_trayMany a_numbers a_tape a_c a_kept a_words a_row a_ordered a_orderWas a_room a_ways a_places a_livedLast a_before : Nat) (v_status : Int32) (v_above : Int64) (v_taped : Int32) (v_textEnd : Int32) (v_faultKind : Int32) (v_faultAt : Int32) (v_bad : Int32) (v_badAt : Int32) (v_token : Int32) (v_at : Int32) (v_behind : Int32) (v_number : Int32) (v_letters : Int32) (v_word : Int64) (v_markMany : Int32) (v_orderTold : Int32) (v_newSteps : Int32) (v_orderedMany : Int32) (v_orderBest : Int32) (v_allSixteenths : Int64) (v_safePage : Int32) (v_openMany : Int32) (v_product : Int64) (v_shares : Int64) (v_hasLived : Int32) (v_isOver : Int32) (v_random : Int32) (v_done : Int32) (v_missed : Int32) (v_turns : Int32) (v_found : Int32) (v_leftOver : Int32) (v_thrown : Int32) (v_under : Int64) (r_ : Int64) (o_thrown : Int32) (hf : f_X12_bottom v_thrown v_under = some (r_, o_thrown)) :
    mp_M l D T yX12_bottom cX12_bottom 1 (some .long) ({ frames := 0, cells := 0, slots := 0, locals := 0 }) 0 0 [.ref a_] (k_X12_bottom T a_ a_traySort a_trayMany a_numbers a_tape a_c a_kept a_words a_row a_ordered a_orderWas a_room a_ways a_places a_livedLast a_before v_status v_thrown v_above v_under v_taped v_textEnd v_faultKind v_faultAt v_bad v_badAt v_token v_at v_behind v_number v_letters v_word v_markMany v_orderTold v_newSteps v_orderedMany v_orderBest v_allSixteenths v_safePage v_openMany v_product v_shares v_hasLived v_isOver v_random v_done v_missed v_turns v_found v_leftOver) (mp_Ql D r_ (k_X12_bottom T a_ a_traySort a_trayMany a_numbers a_tape a_c a_kept a_words a_row a_ordered a_orderWas a_room a_ways a_places a_livedLast a_before v_status o_thrown v_above v_under v_taped v_textEnd v_faultKind v_faultAt v_bad v_badAt v_token v_at v_behind v_number v_letters v_word v_markMany v_orderTold v_newSteps v_orderedMany v_orderBest v_allSixteenths v_safePage v_openMany v_product v_shares v_hasLived v_isOver v_random v_done v_missed v_turns v_found v_leftOver)) := by
  refine mp_of (by decide) (Nat.le_of_ble_eq_true rfl) rfl ?_
  intro p e s m args below meth c A ls X hK hP hD hS hA hl
  replace X : mp_X p s m meth c args RX12 "bottom" cX12_bottom 1 (some .long) := X
  have hx := X.1
  have hb := X.2.1
  have hml := X.2.2.1
  have hown := X.2.2.2.2.1
  have hts := X.2.2.2.2.2.1
  replace hl : lv_has ls 1 [(0, .ref a_)] := hl
  replace hf : some (v_under, (nI 0)) = some (r_, o_thrown) := hf
  refine lv_aload_n hx hb dX12_bottom_0 rfl (lv_at hl 0 rfl) ?_
  refine lv_iconst (v := (nI 0)) hx hb dX12_bottom_1 (by decide) ?_
  refine mp_putf X fl_X12_71 fp_X12 rfl hK hP (mp_D_of hD rfl) hS 0 rfl rfl rfl (Nat.le_of_ble_eq_true rfl) dX12_bottom_2 (fun H locs hP _ hS => ?_)
  replace hP : va_P D mp_cl (k_X12_bottom T a_ a_traySort a_trayMany a_numbers a_tape a_c a_kept a_words a_row a_ordered a_orderWas a_room a_ways a_places a_livedLast a_before v_status (nI 0) v_above v_under v_taped v_textEnd v_faultKind v_faultAt v_bad v_badAt v_token v_at v_behind v_number v_letters v_word v_markMany v_orderTold v_newSteps v_orderedMany v_orderBest v_allSixteenths v_safePage v_openMany v_product v_shares v_hasLived v_isOver v_random v_done v_missed v_turns v_found v_leftOver) H := hP
  refine lv_aload_n hx hb dX12_bottom_5 rfl (lv_at hl 0 rfl) ?_
  refine mp_get X fl_X12_7 hK hP 0 rfl rfl dX12_bottom_6 ?_
  cases hf
  exact mp_retl X hP hS rfl dX12_bottom_9


def k_X12_refuse (T : Nat → ClassId) (a_ a_traySort a_trayMany a_numbers a_tape a_c a_kept a_words a_row a_ordered a_orderWas a_room a_ways a_places a_livedLast a_before : Nat) (v_status : Int32) (v_thrown : Int32) (v_above : Int64) (v_under : Int64) (v_taped : Int32) (v_textEnd : Int32) (v_faultKind : Int32) (v_faultAt : Int32) (v_bad : Int32) (v_badAt : Int32) (v_token : Int32) (v_at : Int32) (v_behind : Int32) (v_number : Int32) (v_letters : Int32) (v_word : Int64) (v_markMany : Int32) (v_orderTold : Int32) (v_newSteps : Int32) (v_orderedMany : Int32) (v_orderBest : Int32) (v_allSixteenths : Int64) (v_safePage : Int32) (v_openMany : Int32) (v_product : Int64) (v_shares : Int64) (v_hasLived : Int32) (v_isOver : Int32) (v_random : Int32) (v_done : Int32) (v_missed : Int32) (v_turns : Int32) (v_found : Int32) (v_leftOver : Int32) : va_W := [(a_, oX12 v_status v_thrown v_above v_under a_traySort a_trayMany a_numbers a_tape v_taped v_textEnd v_faultKind v_faultAt v_bad v_badAt v_token v_at v_behind v_number v_letters v_word a_c a_kept a_words v_markMany v_orderTold v_newSteps a_row a_ordered a_orderWas v_orderedMany v_orderBest a_room v_allSixteenths v_safePage v_openMany v_product v_shares a_ways a_places a_livedLast a_before v_hasLived v_isOver v_random v_done v_missed v_turns v_found v_leftOver)]
set_option maxHeartbeats 4000000 in
set_option maxRecDepth 100000 in
theorem c_X12_refuse (l : Launch) (D : va_G) (T : Nat → ClassId) (a_ a_traySort a_trayMany a_numbers a_tape a_c a_kept a_words a_row a_ordered a_orderWas a_room a_ways a_places a_livedLast a_before : Nat) (x1 : Int32) (v_thrown : Int32) (v_above : Int64) (v_under : Int64) (v_taped : Int32) (v_textEnd : Int32) (v_faultKind : Int32) (v_faultAt : Int32) (v_bad : Int32) (v_badAt : Int32) (v_token : Int32) (v_at : Int32) (v_behind : Int32) (v_number : Int32) (v_letters : Int32) (v_word : Int64) (v_markMany : Int32) (v_orderTold : Int32) (v_newSteps : Int32) (v_orderedMany : Int32) (v_orderBest : Int32) (v_allSixteenths : Int64) (v_safePage : Int32) (v_openMany : Int32) (v_product : Int64) (v_shares : Int64) (v_hasLived : Int32) (v_isOver : Int32) (v_random : Int32) (v_done : Int32) (v_missed : Int32) (v_turns : Int32) (v_found : Int32) (v_leftOver : Int32) (v_status : Int32) (r_ : Int32) (o_status : Int32) (hf : f_X12_refuse x1 v_status = some (r_, o_status)) :
    mp_M l D T yX12_refuse cX12_refuse 2 (some .int) ({ frames := 0, cells := 0, slots := 0, locals := 0 }) 0 0 [.ref a_, .int x1] (k_X12_refuse T a_ a_traySort a_trayMany a_numbers a_tape a_c a_kept a_words a_row a_ordered a_orderWas a_room a_ways a_places a_livedLast a_before v_status v_thrown v_above v_under v_taped v_textEnd v_faultKind v_faultAt v_bad v_badAt v_token v_at v_behind v_number v_letters v_word v_markMany v_orderTold v_newSteps v_orderedMany v_orderBest v_allSixteenths v_safePage v_openMany v_product v_shares v_hasLived v_isOver v_random v_done v_missed v_turns v_found v_leftOver) (mp_Qi D r_ (k_X12_refuse T a_ a_traySort a_trayMany a_numbers a_tape a_c a_kept a_words a_row a_ordered a_orderWas a_room a_ways a_places a_livedLast a_before o_status v_thrown v_above v_under v_taped v_textEnd v_faultKind v_faultAt v_bad v_badAt v_token v_at v_behind v_number v_letters v_word v_markMany v_orderTold v_newSteps v_orderedMany v_orderBest v_allSixteenths v_safePage v_openMany v_product v_shares v_hasLived v_isOver v_random v_done v_missed v_turns v_found v_leftOver)) := by
  refine mp_of (by decide) (Nat.le_of_ble_eq_true rfl) rfl ?_
  intro p e s m args below meth c A ls X hK hP hD hS hA hl
  replace X : mp_X p s m meth c args RX12 "refuse" cX12_refuse 2 (some .int) := X
  have hx := X.1
  have hb := X.2.1
  have hml := X.2.2.1
  have hown := X.2.2.2.2.1
  have hts := X.2.2.2.2.2.1
  replace hl : lv_has ls 2 [(0, .ref a_), (1, .int x1)] := hl
  replace hf : some ((-1 : Int32), x1) = some (r_, o_status) := hf
  refine lv_aload_n hx hb dX12_refuse_0 rfl (lv_at hl 0 rfl) ?_
  refine lv_iload_n hx hb dX12_refuse_1 rfl (lv_at hl 1 rfl) ?_
  refine mp_putf X fl_X12_74 fp_X12 rfl hK hP (mp_D_of hD rfl) hS 0 rfl rfl rfl (Nat.le_of_ble_eq_true rfl) dX12_refuse_2 (fun H locs hP _ hS => ?_)
  replace hP : va_P D mp_cl (k_X12_refuse T a_ a_traySort a_trayMany a_numbers a_tape a_c a_kept a_words a_row a_ordered a_orderWas a_room a_ways a_places a_livedLast a_before x1 v_thrown v_above v_under v_taped v_textEnd v_faultKind v_faultAt v_bad v_badAt v_token v_at v_behind v_number v_letters v_word v_markMany v_orderTold v_newSteps v_orderedMany v_orderBest v_allSixteenths v_safePage v_openMany v_product v_shares v_hasLived v_isOver v_random v_done v_missed v_turns v_found v_leftOver) H := hP
  refine lv_iconst (v := (-1 : Int32)) hx hb dX12_refuse_5 (by decide) ?_
  cases hf
  exact mp_reti X hP hS rfl dX12_refuse_6


def k_X12_no (T : Nat → ClassId) (a_ a_traySort a_trayMany a_numbers a_tape a_c a_kept a_words a_row a_ordered a_orderWas a_room a_ways a_places a_livedLast a_before : Nat) (v_status : Int32) (v_thrown : Int32) (v_above : Int64) (v_under : Int64) (v_taped : Int32) (v_textEnd : Int32) (v_faultKind : Int32) (v_faultAt : Int32) (v_bad : Int32) (v_badAt : Int32) (v_token : Int32) (v_at : Int32) (v_behind : Int32) (v_number : Int32) (v_letters : Int32) (v_word : Int64) (v_markMany : Int32) (v_orderTold : Int32) (v_newSteps : Int32) (v_orderedMany : Int32) (v_orderBest : Int32) (v_allSixteenths : Int64) (v_safePage : Int32) (v_openMany : Int32) (v_product : Int64) (v_shares : Int64) (v_hasLived : Int32) (v_isOver : Int32) (v_random : Int32) (v_done : Int32) (v_missed : Int32) (v_turns : Int32) (v_found : Int32) (v_leftOver : Int32) : va_W := [(a_, oX12 v_status v_thrown v_above v_under a_traySort a_trayMany a_numbers a_tape v_taped v_textEnd v_faultKind v_faultAt v_bad v_badAt v_token v_at v_behind v_number v_letters v_word a_c a_kept a_words v_markMany v_orderTold v_newSteps a_row a_ordered a_orderWas v_orderedMany v_orderBest a_room v_allSixteenths v_safePage v_openMany v_product v_shares a_ways a_places a_livedLast a_before v_hasLived v_isOver v_random v_done v_missed v_turns v_found v_leftOver)]
set_option maxHeartbeats 4000000 in
set_option maxRecDepth 100000 in
theorem c_X12_no (l : Launch) (D : va_G) (T : Nat → ClassId) (a_ a_traySort a_trayMany a_numbers a_tape a_c a_kept a_words a_row a_ordered a_orderWas a_room a_ways a_places a_livedLast a_before : Nat) (x1 : Int32) (v_thrown : Int32) (v_above : Int64) (v_under : Int64) (v_taped : Int32) (v_textEnd : Int32) (v_faultKind : Int32) (v_faultAt : Int32) (v_bad : Int32) (v_badAt : Int32) (v_token : Int32) (v_at : Int32) (v_behind : Int32) (v_number : Int32) (v_letters : Int32) (v_word : Int64) (v_markMany : Int32) (v_orderTold : Int32) (v_newSteps : Int32) (v_orderedMany : Int32) (v_orderBest : Int32) (v_allSixteenths : Int64) (v_safePage : Int32) (v_openMany : Int32) (v_product : Int64) (v_shares : Int64) (v_hasLived : Int32) (v_isOver : Int32) (v_random : Int32) (v_done : Int32) (v_missed : Int32) (v_turns : Int32) (v_found : Int32) (v_leftOver : Int32) (v_status : Int32) (r_ : Int32) (o_status : Int32) (hf : f_X12_no x1 v_status = some (r_, o_status)) :
    mp_M l D T yX12_no cX12_no 2 (some .boolean) ({ frames := 0, cells := 0, slots := 0, locals := 0 }) 0 0 [.ref a_, .int x1] (k_X12_no T a_ a_traySort a_trayMany a_numbers a_tape a_c a_kept a_words a_row a_ordered a_orderWas a_room a_ways a_places a_livedLast a_before v_status v_thrown v_above v_under v_taped v_textEnd v_faultKind v_faultAt v_bad v_badAt v_token v_at v_behind v_number v_letters v_word v_markMany v_orderTold v_newSteps v_orderedMany v_orderBest v_allSixteenths v_safePage v_openMany v_product v_shares v_hasLived v_isOver v_random v_done v_missed v_turns v_found v_leftOver) (mp_Qi D r_ (k_X12_no T a_ a_traySort a_trayMany a_numbers a_tape a_c a_kept a_words a_row a_ordered a_orderWas a_room a_ways a_places a_livedLast a_before o_status v_thrown v_above v_under v_taped v_textEnd v_faultKind v_faultAt v_bad v_badAt v_token v_at v_behind v_number v_letters v_word v_markMany v_orderTold v_newSteps v_orderedMany v_orderBest v_allSixteenths v_safePage v_openMany v_product v_shares v_hasLived v_isOver v_random v_done v_missed v_turns v_found v_leftOver)) := by
  refine mp_of (by decide) (Nat.le_of_ble_eq_true rfl) rfl ?_
  intro p e s m args below meth c A ls X hK hP hD hS hA hl
  replace X : mp_X p s m meth c args RX12 "no" cX12_no 2 (some .boolean) := X
  have hx := X.1
  have hb := X.2.1
  have hml := X.2.2.1
  have hown := X.2.2.2.2.1
  have hts := X.2.2.2.2.2.1
  replace hl : lv_has ls 2 [(0, .ref a_), (1, .int x1)] := hl
  replace hf : some ((nI 0), x1) = some (r_, o_status) := hf
  refine lv_aload_n hx hb dX12_no_0 rfl (lv_at hl 0 rfl) ?_
  refine lv_iload_n hx hb dX12_no_1 rfl (lv_at hl 1 rfl) ?_
  refine mp_putf X fl_X12_74 fp_X12 rfl hK hP (mp_D_of hD rfl) hS 0 rfl rfl rfl (Nat.le_of_ble_eq_true rfl) dX12_no_2 (fun H locs hP _ hS => ?_)
  replace hP : va_P D mp_cl (k_X12_no T a_ a_traySort a_trayMany a_numbers a_tape a_c a_kept a_words a_row a_ordered a_orderWas a_room a_ways a_places a_livedLast a_before x1 v_thrown v_above v_under v_taped v_textEnd v_faultKind v_faultAt v_bad v_badAt v_token v_at v_behind v_number v_letters v_word v_markMany v_orderTold v_newSteps v_orderedMany v_orderBest v_allSixteenths v_safePage v_openMany v_product v_shares v_hasLived v_isOver v_random v_done v_missed v_turns v_found v_leftOver) H := hP
  refine lv_iconst (v := (nI 0)) hx hb dX12_no_5 (by decide) ?_
  cases hf
  exact mp_retz X hP hS rfl (Or.inl rfl) dX12_no_6


def k_X12_isIn (T : Nat → ClassId) : va_W := []
set_option maxHeartbeats 4000000 in
set_option maxRecDepth 100000 in
theorem c_X12_isIn (l : Launch) (D : va_G) (T : Nat → ClassId) (x1 : Int64) (x2 : Int64) (x3 : Int64) (r_ : Int32) (hf : f_X12_isIn x1 x2 x3 = some r_) :
    mp_M l D T yX12_isIn cX12_isIn 6 (some .boolean) ({ frames := 0, cells := 0, slots := 0, locals := 0 }) 0 0 [.long x1, .long x2, .long x3] (k_X12_isIn T ) (mp_Qi D r_ (k_X12_isIn T )) := by
  refine mp_of (by decide) (Nat.le_of_ble_eq_true rfl) rfl ?_
  intro p e s m args below meth c A ls X hK hP hD hS hA hl
  replace X : mp_X p s m meth c args RX12 "isIn" cX12_isIn 6 (some .boolean) := X
  have hx := X.1
  have hb := X.2.1
  have hml := X.2.2.1
  have hown := X.2.2.2.2.1
  have hts := X.2.2.2.2.2.1
  replace hl : lv_has ls 6 [(0, .long x1), (2, .long x2), (4, .long x3)] := hl
  replace hf : (if (lg_cmp x1 x2) < 0 then some ((nI 0)) else (if 0 < (lg_cmp x1 x3) then some ((nI 0)) else some ((nI 1)))) = some r_ := hf
  refine lv_lload_n hx hb dX12_isIn_0 rfl (lv_at hl 0 rfl) ?_
  refine lv_lload_n hx hb dX12_isIn_1 rfl (lv_at hl 1 rfl) ?_
  refine W.lcmp hx hb dX12_isIn_2 ?_
  refine lv_if_lt (tgt := 17) hx hb dX12_isIn_3 (by decide) (fun h1 => ?_) (fun h1 => ?_)
  · replace hf := if_t hf h1
    refine lv_iconst (v := (nI 0)) hx hb dX12_isIn_17 (by decide) ?_
    cases hf
    exact mp_retz X hP hS rfl (Or.inl rfl) dX12_isIn_18
  · replace hf := if_f hf h1
    refine lv_lload_n hx hb dX12_isIn_6 rfl (lv_at hl 0 rfl) ?_
    refine lv_lload hx hb dX12_isIn_7 (lv_at hl 2 rfl) ?_
    refine W.lcmp hx hb dX12_isIn_9 ?_
    refine lv_if_gt (tgt := 17) hx hb dX12_isIn_10 (by decide) (fun h2 => ?_) (fun h2 => ?_)
    · replace hf := if_t hf h2
      refine lv_iconst (v := (nI 0)) hx hb dX12_isIn_17 (by decide) ?_
      cases hf
      exact mp_retz X hP hS rfl (Or.inl rfl) dX12_isIn_18
    · replace hf := if_f hf h2
      refine lv_iconst (v := (nI 1)) hx hb dX12_isIn_13 (by decide) ?_
      refine lv_goto (tgt := 18) hx hb dX12_isIn_14 (by decide) ?_
      cases hf
      exact mp_retz X hP hS rfl (Or.inr rfl) dX12_isIn_18


def k_X12_fraction (T : Nat → ClassId) (a_ a_traySort a_trayMany a_numbers a_tape a_c a_kept a_words a_row a_ordered a_orderWas a_room a_ways a_places a_livedLast a_before : Nat) (v_status : Int32) (v_thrown : Int32) (v_above : Int64) (v_under : Int64) (v_taped : Int32) (v_textEnd : Int32) (v_faultKind : Int32) (v_faultAt : Int32) (v_bad : Int32) (v_badAt : Int32) (v_token : Int32) (v_at : Int32) (v_behind : Int32) (v_number : Int32) (v_letters : Int32) (v_word : Int64) (v_markMany : Int32) (v_orderTold : Int32) (v_newSteps : Int32) (v_orderedMany : Int32) (v_orderBest : Int32) (v_allSixteenths : Int64) (v_safePage : Int32) (v_openMany : Int32) (v_product : Int64) (v_shares : Int64) (v_hasLived : Int32) (v_isOver : Int32) (v_random : Int32) (v_done : Int32) (v_missed : Int32) (v_turns : Int32) (v_found : Int32) (v_leftOver : Int32) : va_W := [(a_, oX12 v_status v_thrown v_above v_under a_traySort a_trayMany a_numbers a_tape v_taped v_textEnd v_faultKind v_faultAt v_bad v_badAt v_token v_at v_behind v_number v_letters v_word a_c a_kept a_words v_markMany v_orderTold v_newSteps a_row a_ordered a_orderWas v_orderedMany v_orderBest a_room v_allSixteenths v_safePage v_openMany v_product v_shares a_ways a_places a_livedLast a_before v_hasLived v_isOver v_random v_done v_missed v_turns v_found v_leftOver)]
set_option maxHeartbeats 4000000 in
set_option maxRecDepth 100000 in
theorem w_X12_fraction_9 {p : Program} {l : Launch} {e : Env} {s : State} {m : MethodId} {args : Array Value} {below : List Frame} {meth : Method} {c : Code} {D : va_G} {T : Nat → ClassId} {A : Nat → Prop} (X : mp_X p s m meth c args RX12 "fraction" cX12_fraction 11 (some .boolean)) (hK : va_K D mp_cl (mp_ty T) s) (hA : ∀ q, s.heap.size ≤ q → A q) (fu : Nat) (a_ a_traySort a_trayMany a_numbers a_tape a_c a_kept a_words a_row a_ordered a_orderWas a_room a_ways a_places a_livedLast a_before : Nat) (v_status : Int32) (v_thrown : Int32) (v_taped : Int32) (v_textEnd : Int32) (v_faultKind : Int32) (v_faultAt : Int32) (v_bad : Int32) (v_badAt : Int32) (v_token : Int32) (v_at : Int32) (v_behind : Int32) (v_number : Int32) (v_letters : Int32) (v_word : Int64) (v_markMany : Int32) (v_orderTold : Int32) (v_newSteps : Int32) (v_orderedMany : Int32) (v_orderBest : Int32) (v_allSixteenths : Int64) (v_safePage : Int32) (v_openMany : Int32) (v_product : Int64) (v_shares : Int64) (v_hasLived : Int32) (v_isOver : Int32) (v_random : Int32) (v_done : Int32) (v_missed : Int32) (v_turns : Int32) (v_found : Int32) (v_leftOver : Int32) (r_ : Int32) (o_above : Int64) (o_under : Int64) :
    ∀ (n : Nat) (z1 : Int64) (z3 : Int64) (z5 : Int64) (z7 : Int64) (v_above : Int64) (v_under : Int64), f_X12_fraction_9 fu   n z1 z3 z5 z7 v_above v_under = some (r_, o_above, o_under) → ∀ (H : Heap) (locs : List Loc) (ls : Array Slot), va_P D mp_cl (k_X12_fraction T a_ a_traySort a_trayMany a_numbers a_tape a_c a_kept a_words a_row a_ordered a_orderWas a_room a_ways a_places a_livedLast a_before v_status v_thrown v_above v_under v_taped v_textEnd v_faultKind v_faultAt v_bad v_badAt v_token v_at v_behind v_number v_letters v_word v_markMany v_orderTold v_newSteps v_orderedMany v_orderBest v_allSixteenths v_safePage v_openMany v_product v_shares v_hasLived v_isOver v_random v_done v_missed v_turns v_found v_leftOver) H → va_D A (k_X12_fraction T a_ a_traySort a_trayMany a_numbers a_tape a_c a_kept a_words a_row a_ordered a_orderWas a_room a_ways a_places a_livedLast a_before v_status v_thrown v_above v_under v_taped v_textEnd v_faultKind v_faultAt v_bad v_badAt v_token v_at v_behind v_number v_letters v_word v_markMany v_orderTold v_newSteps v_orderedMany v_orderBest v_allSixteenths v_safePage v_openMany v_product v_shares v_hasLived v_isOver v_random v_done v_missed v_turns v_found v_leftOver) → va_S A s.heap H locs → lv_has ls 11 [(0, .ref a_), (1, .long z1), (3, .long z3), (5, .long z5), (7, .long z7)] → W p l e ({ frames := 1, cells := 0, slots := 0, locals := 40 }) s m args below meth c H locs 0 0 (MQ below ((mp_Qi D r_ (k_X12_fraction T a_ a_traySort a_trayMany a_numbers a_tape a_c a_kept a_words a_row a_ordered a_orderWas a_room a_ways a_places a_livedLast a_before v_status v_thrown o_above o_under v_taped v_textEnd v_faultKind v_faultAt v_bad v_badAt v_token v_at v_behind v_number v_letters v_word v_markMany v_orderTold v_newSteps v_orderedMany v_orderBest v_allSixteenths v_safePage v_openMany v_product v_shares v_hasLived v_isOver v_random v_done v_missed v_turns v_found v_leftOver)) A) args s 0 0 A) (F0 m 9 ls []) := by
  have hx := X.1
  have hb := X.2.1
  have hml := X.2.2.1
  have hown := X.2.2.2.2.1
  have hts := X.2.2.2.2.2.1
  intro n
  induction n with
  | zero => intro z1 z3 z5 z7 v_above v_under hf; exact absurd hf (by intro h; cases h)
  | succ n ih =>
    intro z1 z3 z5 z7 v_above v_under hf H locs ls hP hD hS hl
    replace hf : (if (lg_cmp z7 (lN 0)) = 0 then gd_ (¬ z5 = 0) (lt_ (z1 / z5) (fun (y3 : Int64) => gd_ (¬ z5 = 0) (lt_ (z3 / z5) (fun (y5 : Int64) => some ((nI 1), y3, y5))))) else gd_ (¬ z7 = 0) (lt_ (z5 - z5 / z7 * z7) (fun (y7 : Int64) => f_X12_fraction_9 fu   n z1 z3 z7 y7 v_above v_under))) = some (r_, o_above, o_under) := hf
    refine lv_lload hx hb dX12_fraction_9 (lv_at hl 4 rfl) ?_
    refine lv_lconst (v := (lN 0)) hx hb dX12_fraction_11 (by decide) ?_
    refine W.lcmp hx hb dX12_fraction_12 ?_
    refine lv_if_eq (tgt := 34) hx hb dX12_fraction_13 (by decide) (fun h1 => ?_) (fun h1 => ?_)
    · replace hf := if_t hf h1
      refine lv_aload_n hx hb dX12_fraction_34 rfl (lv_at hl 0 rfl) ?_
      refine lv_lload_n hx hb dX12_fraction_35 rfl (lv_at hl 1 rfl) ?_
      refine lv_lload hx hb dX12_fraction_36 (lv_at hl 3 rfl) ?_
      obtain ⟨h2, hf⟩ := gd_of hf
      refine lv_ldiv hx hb dX12_fraction_38 h2 ?_
      refine lv_topl (fun y3 e3 => ?_)
      replace hf := lt_of e3 hf
      refine mp_putf X fl_X12_77 fp_X12 rfl hK hP (mp_D_of hD rfl) hS 0 rfl rfl rfl (Nat.le_of_ble_eq_true rfl) dX12_fraction_39 (fun H locs hP _ hS => ?_)
      replace hP : va_P D mp_cl (k_X12_fraction T a_ a_traySort a_trayMany a_numbers a_tape a_c a_kept a_words a_row a_ordered a_orderWas a_room a_ways a_places a_livedLast a_before v_status v_thrown y3 v_under v_taped v_textEnd v_faultKind v_faultAt v_bad v_badAt v_token v_at v_behind v_number v_letters v_word v_markMany v_orderTold v_newSteps v_orderedMany v_orderBest v_allSixteenths v_safePage v_openMany v_product v_shares v_hasLived v_isOver v_random v_done v_missed v_turns v_found v_leftOver) H := hP
      refine lv_aload_n hx hb dX12_fraction_42 rfl (lv_at hl 0 rfl) ?_
      refine lv_lload_n hx hb dX12_fraction_43 rfl (lv_at hl 2 rfl) ?_
      refine lv_lload hx hb dX12_fraction_44 (lv_at hl 3 rfl) ?_
      obtain ⟨h4, hf⟩ := gd_of hf
      refine lv_ldiv hx hb dX12_fraction_46 h4 ?_
      refine lv_topl (fun y5 e5 => ?_)
      replace hf := lt_of e5 hf
      refine mp_putf X fl_X12_7 fp_X12 rfl hK hP (mp_D_of hD rfl) hS 0 rfl rfl rfl (Nat.le_of_ble_eq_true rfl) dX12_fraction_47 (fun H locs hP _ hS => ?_)
      replace hP : va_P D mp_cl (k_X12_fraction T a_ a_traySort a_trayMany a_numbers a_tape a_c a_kept a_words a_row a_ordered a_orderWas a_room a_ways a_places a_livedLast a_before v_status v_thrown y3 y5 v_taped v_textEnd v_faultKind v_faultAt v_bad v_badAt v_token v_at v_behind v_number v_letters v_word v_markMany v_orderTold v_newSteps v_orderedMany v_orderBest v_allSixteenths v_safePage v_openMany v_product v_shares v_hasLived v_isOver v_random v_done v_missed v_turns v_found v_leftOver) H := hP
      refine lv_iconst (v := (nI 1)) hx hb dX12_fraction_50 (by decide) ?_
      cases hf
      exact mp_retz X hP hS rfl (Or.inr rfl) dX12_fraction_51
    · replace hf := if_f hf h1
      refine lv_lload hx hb dX12_fraction_16 (lv_at hl 3 rfl) ?_
      refine lv_lload hx hb dX12_fraction_18 (lv_at hl 4 rfl) ?_
      obtain ⟨h6, hf⟩ := gd_of hf
      refine lv_lrem hx hb dX12_fraction_20 h6 ?_
      refine lv_topl (fun y7 e7 => ?_)
      replace hf := lt_of e7 hf
      refine lv_lstore (lv' := [(9, .long y7), (0, .ref a_), (1, .long z1), (3, .long z3), (5, .long z5), (7, .long z7)]) hx hb dX12_fraction_21 hl (by decide) rfl (fun ls hl => ?_)
      refine lv_lload hx hb dX12_fraction_23 (lv_at hl 5 rfl) ?_
      refine lv_lstore (lv' := [(5, .long z7), (9, .long y7), (0, .ref a_), (1, .long z1), (3, .long z3), (7, .long z7)]) hx hb dX12_fraction_25 hl (by decide) rfl (fun ls hl => ?_)
      refine lv_lload hx hb dX12_fraction_27 (lv_at hl 1 rfl) ?_
      refine lv_lstore (lv' := [(7, .long y7), (5, .long z7), (9, .long y7), (0, .ref a_), (1, .long z1), (3, .long z3)]) hx hb dX12_fraction_29 hl (by decide) rfl (fun ls hl => ?_)
      refine lv_goto (tgt := 9) hx hb dX12_fraction_31 (by decide) ?_
      exact ih z1 z3 z7 y7 v_above v_under hf _ _ _ hP (mp_D_of hD rfl) hS (lv_sub hl [3, 4, 5, 1, 0] rfl)

set_option maxHeartbeats 4000000 in
set_option maxRecDepth 100000 in
theorem c_X12_fraction (l : Launch) (D : va_G) (T : Nat → ClassId) (fu : Nat) (a_ a_traySort a_trayMany a_numbers a_tape a_c a_kept a_words a_row a_ordered a_orderWas a_room a_ways a_places a_livedLast a_before : Nat) (x1 : Int64) (x2 : Int64) (v_status : Int32) (v_thrown : Int32) (v_taped : Int32) (v_textEnd : Int32) (v_faultKind : Int32) (v_faultAt : Int32) (v_bad : Int32) (v_badAt : Int32) (v_token : Int32) (v_at : Int32) (v_behind : Int32) (v_number : Int32) (v_letters : Int32) (v_word : Int64) (v_markMany : Int32) (v_orderTold : Int32) (v_newSteps : Int32) (v_orderedMany : Int32) (v_orderBest : Int32) (v_allSixteenths : Int64) (v_safePage : Int32) (v_openMany : Int32) (v_product : Int64) (v_shares : Int64) (v_hasLived : Int32) (v_isOver : Int32) (v_random : Int32) (v_done : Int32) (v_missed : Int32) (v_turns : Int32) (v_found : Int32) (v_leftOver : Int32) (v_above : Int64) (v_under : Int64) (r_ : Int32) (o_above : Int64) (o_under : Int64) (hf : f_X12_fraction fu x1 x2 v_above v_under = some (r_, o_above, o_under)) :
    mp_M l D T yX12_fraction cX12_fraction 11 (some .boolean) ({ frames := 1, cells := 0, slots := 0, locals := 40 }) 0 0 [.ref a_, .long x1, .long x2] (k_X12_fraction T a_ a_traySort a_trayMany a_numbers a_tape a_c a_kept a_words a_row a_ordered a_orderWas a_room a_ways a_places a_livedLast a_before v_status v_thrown v_above v_under v_taped v_textEnd v_faultKind v_faultAt v_bad v_badAt v_token v_at v_behind v_number v_letters v_word v_markMany v_orderTold v_newSteps v_orderedMany v_orderBest v_allSixteenths v_safePage v_openMany v_product v_shares v_hasLived v_isOver v_random v_done v_missed v_turns v_found v_leftOver) (mp_Qi D r_ (k_X12_fraction T a_ a_traySort a_trayMany a_numbers a_tape a_c a_kept a_words a_row a_ordered a_orderWas a_room a_ways a_places a_livedLast a_before v_status v_thrown o_above o_under v_taped v_textEnd v_faultKind v_faultAt v_bad v_badAt v_token v_at v_behind v_number v_letters v_word v_markMany v_orderTold v_newSteps v_orderedMany v_orderBest v_allSixteenths v_safePage v_openMany v_product v_shares v_hasLived v_isOver v_random v_done v_missed v_turns v_found v_leftOver)) := by
  refine mp_of (by decide) (Nat.le_of_ble_eq_true rfl) rfl ?_
  intro p e s m args below meth c A ls X hK hP hD hS hA hl
  replace X : mp_X p s m meth c args RX12 "fraction" cX12_fraction 11 (some .boolean) := X
  have hx := X.1
  have hb := X.2.1
  have hml := X.2.2.1
  have hown := X.2.2.2.2.1
  have hts := X.2.2.2.2.2.1
  replace hl : lv_has ls 11 [(0, .ref a_), (1, .long x1), (3, .long x2)] := hl
  replace hf : lt_ (if 0 < x1 then x1 else -x1) (fun (y1 : Int64) => f_X12_fraction_9 fu   fu x1 x2 y1 x2 v_above v_under) = some (r_, o_above, o_under) := hf
  refine lv_lload_n hx hb dX12_fraction_0 rfl (lv_at hl 1 rfl) ?_
  refine va_mabs_long hx hb (hml.trans hl.1.symm) hown (hts _ lk_X12_80_ma) (hts _ ma_abs.1) (hts _ ma_abs.2.1) (hts _ ma_abs.2.2) (Nat.le_of_ble_eq_true rfl) (Nat.le_of_ble_eq_true rfl) (Nat.zero_le _) (Nat.zero_le _) dX12_fraction_1 ?_
  refine lv_topl (fun y1 e1 => ?_)
  replace hf := lt_of e1 hf
  refine lv_lstore (lv' := [(5, .long y1), (0, .ref a_), (1, .long x1), (3, .long x2)]) hx hb dX12_fraction_4 hl (by decide) rfl (fun ls hl => ?_)
  refine lv_lload_n hx hb dX12_fraction_6 rfl (lv_at hl 3 rfl) ?_
  refine lv_lstore (lv' := [(7, .long x2), (5, .long y1), (0, .ref a_), (1, .long x1), (3, .long x2)]) hx hb dX12_fraction_7 hl (by decide) rfl (fun ls hl => ?_)
  exact w_X12_fraction_9 X hK hA  fu a_ a_traySort a_trayMany a_numbers a_tape a_c a_kept a_words a_row a_ordered a_orderWas a_room a_ways a_places a_livedLast a_before v_status v_thrown v_taped v_textEnd v_faultKind v_faultAt v_bad v_badAt v_token v_at v_behind v_number v_letters v_word v_markMany v_orderTold v_newSteps v_orderedMany v_orderBest v_allSixteenths v_safePage v_openMany v_product v_shares v_hasLived v_isOver v_random v_done v_missed v_turns v_found v_leftOver r_ o_above o_under   fu x1 x2 y1 x2 v_above v_under hf _ _ _ hP (mp_D_of hD rfl) hS (lv_sub hl [2, 3, 4, 1, 0] rfl)


def k_X12_cut (T : Nat → ClassId) : va_W := []
set_option maxHeartbeats 4000000 in
set_option maxRecDepth 100000 in
theorem c_X12_cut (l : Launch) (D : va_G) (T : Nat → ClassId) (x1 : Int32) (x2 : Int64) (r_ : Int64) (hf : f_X12_cut x1 x2 = some r_) :
    mp_M l D T yX12_cut cX12_cut 3 (some .long) ({ frames := 0, cells := 0, slots := 0, locals := 0 }) 0 0 [.int x1, .long x2] (k_X12_cut T ) (mp_Ql D r_ (k_X12_cut T )) := by
  refine mp_of (by decide) (Nat.le_of_ble_eq_true rfl) rfl ?_
  intro p e s m args below meth c A ls X hK hP hD hS hA hl
  replace X : mp_X p s m meth c args RX12 "cut" cX12_cut 3 (some .long) := X
  have hx := X.1
  have hb := X.2.1
  have hml := X.2.2.1
  have hown := X.2.2.2.2.1
  have hts := X.2.2.2.2.2.1
  replace hl : lv_has ls 3 [(0, .int x1), (1, .long x2)] := hl
  replace hf : (if x1 = 0 then some ((((x2).toInt32).toInt8.toInt32).toInt64) else (if x1 = (nI 1) then some ((((x2).toInt32).toInt16.toInt32).toInt64) else (if x1 = (nI 2) then some (((x2).toInt32).toInt64) else some (x2)))) = some r_ := hf
  refine lv_iload_n hx hb dX12_cut_0 rfl (lv_at hl 0 rfl) ?_
  refine lv_if_ne (tgt := 11) hx hb dX12_cut_1 (by decide) (fun h1 => ?_) (fun h1 => ?_)
  · replace hf := if_f hf h1
    refine lv_iload_n hx hb dX12_cut_11 rfl (lv_at hl 0 rfl) ?_
    refine lv_iconst (v := (nI 1)) hx hb dX12_cut_12 (by decide) ?_
    refine lv_icmp_ne (tgt := 23) hx hb dX12_cut_13 (by decide) (fun h2 => ?_) (fun h2 => ?_)
    · replace hf := if_f hf h2
      refine lv_iload_n hx hb dX12_cut_23 rfl (lv_at hl 0 rfl) ?_
      refine lv_iconst (v := (nI 2)) hx hb dX12_cut_24 (by decide) ?_
      refine lv_icmp_ne (tgt := 34) hx hb dX12_cut_25 (by decide) (fun h3 => ?_) (fun h3 => ?_)
      · replace hf := if_f hf h3
        refine lv_lload_n hx hb dX12_cut_34 rfl (lv_at hl 1 rfl) ?_
        cases hf
        exact mp_retl X hP hS rfl dX12_cut_35
      · replace hf := if_t hf h3
        refine lv_lload_n hx hb dX12_cut_28 rfl (lv_at hl 1 rfl) ?_
        refine lv_l2i hx hb dX12_cut_29 rfl ?_
        refine lv_i2l hx hb dX12_cut_30 rfl ?_
        refine lv_goto (tgt := 35) hx hb dX12_cut_31 (by decide) ?_
        cases hf
        exact mp_retl X hP hS rfl dX12_cut_35
    · replace hf := if_t hf h2
      refine lv_lload_n hx hb dX12_cut_16 rfl (lv_at hl 1 rfl) ?_
      refine lv_l2i hx hb dX12_cut_17 rfl ?_
      refine lv_i2s hx hb dX12_cut_18 rfl ?_
      refine lv_i2l hx hb dX12_cut_19 rfl ?_
      refine lv_goto (tgt := 35) hx hb dX12_cut_20 (by decide) ?_
      cases hf
      exact mp_retl X hP hS rfl dX12_cut_35
  · replace hf := if_t hf h1
    refine lv_lload_n hx hb dX12_cut_4 rfl (lv_at hl 1 rfl) ?_
    refine lv_l2i hx hb dX12_cut_5 rfl ?_
    refine lv_i2b hx hb dX12_cut_6 rfl ?_
    refine lv_i2l hx hb dX12_cut_7 rfl ?_
    refine lv_goto (tgt := 35) hx hb dX12_cut_8 (by decide) ?_
    cases hf
    exact mp_retl X hP hS rfl dX12_cut_35


def k_X12_tray (T : Nat → ClassId) (a_ a_traySort a_trayMany a_numbers a_tape a_c a_kept a_words a_row a_ordered a_orderWas a_room a_ways a_places a_livedLast a_before : Nat) (v_status : Int32) (v_thrown : Int32) (v_above : Int64) (v_under : Int64) (v_taped : Int32) (v_textEnd : Int32) (v_faultKind : Int32) (v_faultAt : Int32) (v_bad : Int32) (v_badAt : Int32) (v_token : Int32) (v_at : Int32) (v_behind : Int32) (v_number : Int32) (v_letters : Int32) (v_word : Int64) (v_markMany : Int32) (v_orderTold : Int32) (v_newSteps : Int32) (v_orderedMany : Int32) (v_orderBest : Int32) (v_allSixteenths : Int64) (v_safePage : Int32) (v_openMany : Int32) (v_product : Int64) (v_shares : Int64) (v_hasLived : Int32) (v_isOver : Int32) (v_random : Int32) (v_done : Int32) (v_missed : Int32) (v_turns : Int32) (v_found : Int32) (v_leftOver : Int32) (v_numbers : (Nat → Int64)) (v_trayMany : (Nat → Int32)) (v_traySort : (Nat → Int32)) : va_W := [(a_, oX12 v_status v_thrown v_above v_under a_traySort a_trayMany a_numbers a_tape v_taped v_textEnd v_faultKind v_faultAt v_bad v_badAt v_token v_at v_behind v_number v_letters v_word a_c a_kept a_words v_markMany v_orderTold v_newSteps a_row a_ordered a_orderWas v_orderedMany v_orderBest a_room v_allSixteenths v_safePage v_openMany v_product v_shares a_ways a_places a_livedLast a_before v_hasLived v_isOver v_random v_done v_missed v_turns v_found v_leftOver), (a_numbers, mp_aJ T 240 v_numbers), (a_trayMany, mp_aI T 4 v_trayMany), (a_traySort, mp_aI T 4 v_traySort)]
set_option maxHeartbeats 4000000 in
set_option maxRecDepth 100000 in
theorem w_X12_tray_74 {p : Program} {l : Launch} {e : Env} {s : State} {m : MethodId} {args : Array Value} {below : List Frame} {meth : Method} {c : Code} {D : va_G} {T : Nat → ClassId} {A : Nat → Prop} (X : mp_X p s m meth c args RX12 "tray" cX12_tray 5 (some .boolean)) (hK : va_K D mp_cl (mp_ty T) s) (hA : ∀ q, s.heap.size ≤ q → A q) (fu : Nat) (a_ a_traySort a_trayMany a_numbers a_tape a_c a_kept a_words a_row a_ordered a_orderWas a_room a_ways a_places a_livedLast a_before : Nat) (v_above : Int64) (v_under : Int64) (v_taped : Int32) (v_textEnd : Int32) (v_faultKind : Int32) (v_faultAt : Int32) (v_bad : Int32) (v_badAt : Int32) (v_token : Int32) (v_at : Int32) (v_behind : Int32) (v_number : Int32) (v_letters : Int32) (v_word : Int64) (v_markMany : Int32) (v_orderTold : Int32) (v_newSteps : Int32) (v_orderedMany : Int32) (v_orderBest : Int32) (v_allSixteenths : Int64) (v_safePage : Int32) (v_openMany : Int32) (v_product : Int64) (v_shares : Int64) (v_hasLived : Int32) (v_isOver : Int32) (v_random : Int32) (v_done : Int32) (v_missed : Int32) (v_turns : Int32) (v_found : Int32) (v_leftOver : Int32) (r_ : Int32) (o_status : Int32) (o_thrown : Int32) (o_numbers : (Nat → Int64)) (o_trayMany : (Nat → Int32)) (o_traySort : (Nat → Int32)) :
    ∀ (n : Nat) (z1 : Int32) (z3 : Int32) (z4 : Int32) (v_status : Int32) (v_thrown : Int32) (v_numbers : (Nat → Int64)) (v_trayMany : (Nat → Int32)) (v_traySort : (Nat → Int32)), f_X12_tray_74 fu   n z1 z3 z4 v_status v_thrown v_numbers v_trayMany v_traySort = some (r_, o_status, o_thrown, o_numbers, o_trayMany, o_traySort) → ∀ (H : Heap) (locs : List Loc) (ls : Array Slot), va_P D mp_cl (k_X12_tray T a_ a_traySort a_trayMany a_numbers a_tape a_c a_kept a_words a_row a_ordered a_orderWas a_room a_ways a_places a_livedLast a_before v_status v_thrown v_above v_under v_taped v_textEnd v_faultKind v_faultAt v_bad v_badAt v_token v_at v_behind v_number v_letters v_word v_markMany v_orderTold v_newSteps v_orderedMany v_orderBest v_allSixteenths v_safePage v_openMany v_product v_shares v_hasLived v_isOver v_random v_done v_missed v_turns v_found v_leftOver v_numbers v_trayMany v_traySort) H → va_D A (k_X12_tray T a_ a_traySort a_trayMany a_numbers a_tape a_c a_kept a_words a_row a_ordered a_orderWas a_room a_ways a_places a_livedLast a_before v_status v_thrown v_above v_under v_taped v_textEnd v_faultKind v_faultAt v_bad v_badAt v_token v_at v_behind v_number v_letters v_word v_markMany v_orderTold v_newSteps v_orderedMany v_orderBest v_allSixteenths v_safePage v_openMany v_product v_shares v_hasLived v_isOver v_random v_done v_missed v_turns v_found v_leftOver v_numbers v_trayMany v_traySort) → va_S A s.heap H locs → lv_has ls 5 [(0, .ref a_), (1, .int z1), (3, .int z3), (4, .int z4)] → W p l e ({ frames := 1, cells := 0, slots := 0, locals := 21 }) s m args below meth c H locs 0 0 (MQ below ((mp_Qi D r_ (k_X12_tray T a_ a_traySort a_trayMany a_numbers a_tape a_c a_kept a_words a_row a_ordered a_orderWas a_room a_ways a_places a_livedLast a_before o_status o_thrown v_above v_under v_taped v_textEnd v_faultKind v_faultAt v_bad v_badAt v_token v_at v_behind v_number v_letters v_word v_markMany v_orderTold v_newSteps v_orderedMany v_orderBest v_allSixteenths v_safePage v_openMany v_product v_shares v_hasLived v_isOver v_random v_done v_missed v_turns v_found v_leftOver o_numbers o_trayMany o_traySort)) A) args s 0 0 A) (F0 m 74 ls []) := by
  have hx := X.1
  have hb := X.2.1
  have hml := X.2.2.1
  have hown := X.2.2.2.2.1
  have hts := X.2.2.2.2.2.1
  intro n
  induction n with
  | zero => intro z1 z3 z4 v_status v_thrown v_numbers v_trayMany v_traySort hf; exact absurd hf (by intro h; cases h)
  | succ n ih =>
    intro z1 z3 z4 v_status v_thrown v_numbers v_trayMany v_traySort hf H locs ls hP hD hS hl
    replace hf : (if z3 ≤ z4 then some ((nI 1), v_status, v_thrown, v_numbers, v_trayMany, v_traySort) else gi_ (((nI 60) * z1) + z4) 240 (lt_ (z4 + (nI 1)) (fun (y3 : Int32) => f_X12_tray_74 fu   n z1 z3 y3 v_status v_thrown (vp_updL v_numbers (((nI 60) * z1) + z4).toNatClampNeg (lN 0)) v_trayMany v_traySort))) = some (r_, o_status, o_thrown, o_numbers, o_trayMany, o_traySort) := hf
    refine lv_iload hx hb dX12_tray_74 (lv_at hl 3 rfl) ?_
    refine lv_iload_n hx hb dX12_tray_76 rfl (lv_at hl 2 rfl) ?_
    refine lv_icmp_ge (tgt := 99) hx hb dX12_tray_77 (by decide) (fun h1 => ?_) (fun h1 => ?_)
    · replace hf := if_t hf h1
      refine lv_iconst (v := (nI 1)) hx hb dX12_tray_99 (by decide) ?_
      cases hf
      exact mp_retz X hP hS rfl (Or.inr rfl) dX12_tray_100
    · replace hf := if_f hf h1
      refine lv_aload_n hx hb dX12_tray_80 rfl (lv_at hl 0 rfl) ?_
      refine mp_get X fl_X12_20 hK hP 0 rfl rfl dX12_tray_81 ?_
      refine lv_bipush (v := (nI 60)) hx hb dX12_tray_84 (by decide) ?_
      refine lv_iload_n hx hb dX12_tray_86 rfl (lv_at hl 1 rfl) ?_
      refine lv_imul hx hb dX12_tray_87 ?_
      refine lv_iload hx hb dX12_tray_88 (lv_at hl 3 rfl) ?_
      refine lv_iadd hx hb dX12_tray_90 ?_
      refine lv_lconst (v := (lN 0)) hx hb dX12_tray_91 (by decide) ?_
      obtain ⟨h2, hf⟩ := gi_of hf
      refine va_last hx hb hK hP (mp_D_of hD rfl) hS 1 1 rfl rfl h2 dX12_tray_92 (fun H locs hP _ hS => ?_)
      replace hP : va_P D mp_cl (k_X12_tray T a_ a_traySort a_trayMany a_numbers a_tape a_c a_kept a_words a_row a_ordered a_orderWas a_room a_ways a_places a_livedLast a_before v_status v_thrown v_above v_under v_taped v_textEnd v_faultKind v_faultAt v_bad v_badAt v_token v_at v_behind v_number v_letters v_word v_markMany v_orderTold v_newSteps v_orderedMany v_orderBest v_allSixteenths v_safePage v_openMany v_product v_shares v_hasLived v_isOver v_random v_done v_missed v_turns v_found v_leftOver (vp_updL v_numbers (((nI 60) * z1) + z4).toNatClampNeg (lN 0)) v_trayMany v_traySort) H := hP
      obtain ⟨y3, e3⟩ : ∃ y : Int32, y = z4 + (nI 1) := ⟨_, rfl⟩
      replace hf := lt_of e3 hf
      refine lv_iinc (v := y3) (lv' := [(4, .int y3), (0, .ref a_), (1, .int z1), (3, .int z3)]) hx hb dX12_tray_93 hl (k := 3) rfl (by rw [e3]; rfl) (by decide) rfl (fun ls hl => ?_)
      refine lv_goto (tgt := 74) hx hb dX12_tray_96 (by decide) ?_
      exact ih z1 z3 y3 v_status v_thrown (vp_updL v_numbers (((nI 60) * z1) + z4).toNatClampNeg (lN 0)) v_trayMany v_traySort hf _ _ _ hP (mp_D_of hD rfl) hS (lv_sub hl [1, 2, 3, 0] rfl)

set_option maxHeartbeats 4000000 in
set_option maxRecDepth 100000 in
theorem c_X12_tray (l : Launch) (D : va_G) (T : Nat → ClassId) (fu : Nat) (a_ a_traySort a_trayMany a_numbers a_tape a_c a_kept a_words a_row a_ordered a_orderWas a_room a_ways a_places a_livedLast a_before : Nat) (x1 : Int32) (x2 : Int32) (x3 : Int32) (v_above : Int64) (v_under : Int64) (v_taped : Int32) (v_textEnd : Int32) (v_faultKind : Int32) (v_faultAt : Int32) (v_bad : Int32) (v_badAt : Int32) (v_token : Int32) (v_at : Int32) (v_behind : Int32) (v_number : Int32) (v_letters : Int32) (v_word : Int64) (v_markMany : Int32) (v_orderTold : Int32) (v_newSteps : Int32) (v_orderedMany : Int32) (v_orderBest : Int32) (v_allSixteenths : Int64) (v_safePage : Int32) (v_openMany : Int32) (v_product : Int64) (v_shares : Int64) (v_hasLived : Int32) (v_isOver : Int32) (v_random : Int32) (v_done : Int32) (v_missed : Int32) (v_turns : Int32) (v_found : Int32) (v_leftOver : Int32) (v_status : Int32) (v_thrown : Int32) (v_numbers : (Nat → Int64)) (v_trayMany : (Nat → Int32)) (v_traySort : (Nat → Int32)) (r_ : Int32) (o_status : Int32) (o_thrown : Int32) (o_numbers : (Nat → Int64)) (o_trayMany : (Nat → Int32)) (o_traySort : (Nat → Int32)) (hf : f_X12_tray fu x1 x2 x3 v_status v_thrown v_numbers v_trayMany v_traySort = some (r_, o_status, o_thrown, o_numbers, o_trayMany, o_traySort)) :
    mp_M l D T yX12_tray cX12_tray 5 (some .boolean) ({ frames := 1, cells := 0, slots := 0, locals := 21 }) 0 0 [.ref a_, .int x1, .int x2, .int x3] (k_X12_tray T a_ a_traySort a_trayMany a_numbers a_tape a_c a_kept a_words a_row a_ordered a_orderWas a_room a_ways a_places a_livedLast a_before v_status v_thrown v_above v_under v_taped v_textEnd v_faultKind v_faultAt v_bad v_badAt v_token v_at v_behind v_number v_letters v_word v_markMany v_orderTold v_newSteps v_orderedMany v_orderBest v_allSixteenths v_safePage v_openMany v_product v_shares v_hasLived v_isOver v_random v_done v_missed v_turns v_found v_leftOver v_numbers v_trayMany v_traySort) (mp_Qi D r_ (k_X12_tray T a_ a_traySort a_trayMany a_numbers a_tape a_c a_kept a_words a_row a_ordered a_orderWas a_room a_ways a_places a_livedLast a_before o_status o_thrown v_above v_under v_taped v_textEnd v_faultKind v_faultAt v_bad v_badAt v_token v_at v_behind v_number v_letters v_word v_markMany v_orderTold v_newSteps v_orderedMany v_orderBest v_allSixteenths v_safePage v_openMany v_product v_shares v_hasLived v_isOver v_random v_done v_missed v_turns v_found v_leftOver o_numbers o_trayMany o_traySort)) := by
  refine mp_of (by decide) (Nat.le_of_ble_eq_true rfl) rfl ?_
  intro p e s m args below meth c A ls X hK hP hD hS hA hl
  replace X : mp_X p s m meth c args RX12 "tray" cX12_tray 5 (some .boolean) := X
  have hx := X.1
  have hb := X.2.1
  have hml := X.2.2.1
  have hown := X.2.2.2.2.1
  have hts := X.2.2.2.2.2.1
  replace hl : lv_has ls 5 [(0, .ref a_), (1, .int x1), (2, .int x2), (3, .int x3)] := hl
  replace hf : (if x1 < 0 then bd_ (f_X12_no (nI 1) (nI 0)) (fun (z : Int32 × Int32) => match z with | (r2, u3) => gd_ (r2 = 0 ∨ r2 = 1) (some (r2, u3, (nI 0), v_numbers, v_trayMany, v_traySort))) else (if (nI 4) ≤ x1 then bd_ (f_X12_no (nI 1) (nI 0)) (fun (z : Int32 × Int32) => match z with | (r7, u8) => gd_ (r7 = 0 ∨ r7 = 1) (some (r7, u8, (nI 0), v_numbers, v_trayMany, v_traySort))) else (if x2 < 0 then bd_ (f_X12_no (nI 1) (nI 0)) (fun (z : Int32 × Int32) => match z with | (r12, u13) => gd_ (r12 = 0 ∨ r12 = 1) (some (r12, u13, (nI 0), v_numbers, v_trayMany, v_traySort))) else (if x2 ≤ (nI 3) then (if x3 ≤ (nI 60) then (if 0 ≤ x3 then gi_ x1 4 (gi_ x1 4 (f_X12_tray_74 fu   fu x1 x3 (nI 0) (nI 0) (nI 0) v_numbers (upd v_trayMany (x1).toNatClampNeg x3) (upd v_traySort (x1).toNatClampNeg x2))) else bd_ (f_X12_no (nI 6) (nI 0)) (fun (z : Int32 × Int32) => match z with | (r21, u22) => gd_ (r21 = 0 ∨ r21 = 1) (some (r21, u22, (nI 0), v_numbers, v_trayMany, v_traySort)))) else bd_ (f_X12_no (nI 5) (nI 0)) (fun (z : Int32 × Int32) => match z with | (r25, u26) => gd_ (r25 = 0 ∨ r25 = 1) (some (r25, u26, (nI 0), v_numbers, v_trayMany, v_traySort)))) else bd_ (f_X12_no (nI 1) (nI 0)) (fun (z : Int32 × Int32) => match z with | (r29, u30) => gd_ (r29 = 0 ∨ r29 = 1) (some (r29, u30, (nI 0), v_numbers, v_trayMany, v_traySort))))))) = some (r_, o_status, o_thrown, o_numbers, o_trayMany, o_traySort) := hf
  refine lv_aload_n hx hb dX12_tray_0 rfl (lv_at hl 0 rfl) ?_
  refine lv_iconst (v := (nI 0)) hx hb dX12_tray_1 (by decide) ?_
  refine mp_putf X fl_X12_71 fp_X12 rfl hK hP (mp_D_of hD rfl) hS 0 rfl rfl rfl (Nat.le_of_ble_eq_true rfl) dX12_tray_2 (fun H locs hP _ hS => ?_)
  replace hP : va_P D mp_cl (k_X12_tray T a_ a_traySort a_trayMany a_numbers a_tape a_c a_kept a_words a_row a_ordered a_orderWas a_room a_ways a_places a_livedLast a_before v_status (nI 0) v_above v_under v_taped v_textEnd v_faultKind v_faultAt v_bad v_badAt v_token v_at v_behind v_number v_letters v_word v_markMany v_orderTold v_newSteps v_orderedMany v_orderBest v_allSixteenths v_safePage v_openMany v_product v_shares v_hasLived v_isOver v_random v_done v_missed v_turns v_found v_leftOver v_numbers v_trayMany v_traySort) H := hP
  refine lv_aload_n hx hb dX12_tray_5 rfl (lv_at hl 0 rfl) ?_
  refine lv_iconst (v := (nI 0)) hx hb dX12_tray_6 (by decide) ?_
  refine mp_putf X fl_X12_74 fp_X12 rfl hK hP (mp_D_of hD rfl) hS 0 rfl rfl rfl (Nat.le_of_ble_eq_true rfl) dX12_tray_7 (fun H locs hP _ hS => ?_)
  replace hP : va_P D mp_cl (k_X12_tray T a_ a_traySort a_trayMany a_numbers a_tape a_c a_kept a_words a_row a_ordered a_orderWas a_room a_ways a_places a_livedLast a_before (nI 0) (nI 0) v_above v_under v_taped v_textEnd v_faultKind v_faultAt v_bad v_badAt v_token v_at v_behind v_number v_letters v_word v_markMany v_orderTold v_newSteps v_orderedMany v_orderBest v_allSixteenths v_safePage v_openMany v_product v_shares v_hasLived v_isOver v_random v_done v_missed v_turns v_found v_leftOver v_numbers v_trayMany v_traySort) H := hP
  refine lv_iload_n hx hb dX12_tray_10 rfl (lv_at hl 1 rfl) ?_
  refine lv_if_lt (tgt := 28) hx hb dX12_tray_11 (by decide) (fun h1 => ?_) (fun h1 => ?_)
  · replace hf := if_t hf h1
    refine lv_aload_n hx hb dX12_tray_28 rfl (lv_at hl 0 rfl) ?_
    refine lv_iconst (v := (nI 1)) hx hb dX12_tray_29 (by decide) ?_
    obtain ⟨⟨r2, u3⟩, c4, hf⟩ := bd_of hf
    dsimp only at hf
    have hPc := hP.sub (ws' := (k_X12_no T a_ a_traySort a_trayMany a_numbers a_tape a_c a_kept a_words a_row a_ordered a_orderWas a_room a_ways a_places a_livedLast a_before (nI 0) (nI 0) v_above v_under v_taped v_textEnd v_faultKind v_faultAt v_bad v_badAt v_token v_at v_behind v_number v_letters v_word v_markMany v_orderTold v_newSteps v_orderedMany v_orderBest v_allSixteenths v_safePage v_openMany v_product v_shares v_hasLived v_isOver v_random v_done v_missed v_turns v_found v_leftOver)) [0] rfl
    have hDc := (mp_D_of (w1 := (k_X12_tray T a_ a_traySort a_trayMany a_numbers a_tape a_c a_kept a_words a_row a_ordered a_orderWas a_room a_ways a_places a_livedLast a_before (nI 0) (nI 0) v_above v_under v_taped v_textEnd v_faultKind v_faultAt v_bad v_badAt v_token v_at v_behind v_number v_letters v_word v_markMany v_orderTold v_newSteps v_orderedMany v_orderBest v_allSixteenths v_safePage v_openMany v_product v_shares v_hasLived v_isOver v_random v_done v_missed v_turns v_found v_leftOver v_numbers v_trayMany v_traySort)) hD rfl).sub (ws' := (k_X12_no T a_ a_traySort a_trayMany a_numbers a_tape a_c a_kept a_words a_row a_ordered a_orderWas a_room a_ways a_places a_livedLast a_before (nI 0) (nI 0) v_above v_under v_taped v_textEnd v_faultKind v_faultAt v_bad v_badAt v_token v_at v_behind v_number v_letters v_word v_markMany v_orderTold v_newSteps v_orderedMany v_orderBest v_allSixteenths v_safePage v_openMany v_product v_shares v_hasLived v_isOver v_random v_done v_missed v_turns v_found v_leftOver)) [0] rfl rfl
    refine mp_calli (isC := [0]) (wc := (k_X12_no T a_ a_traySort a_trayMany a_numbers a_tape a_c a_kept a_words a_row a_ordered a_orderWas a_room a_ways a_places a_livedLast a_before (nI 0) (nI 0) v_above v_under v_taped v_textEnd v_faultKind v_faultAt v_bad v_badAt v_token v_at v_behind v_number v_letters v_word v_markMany v_orderTold v_newSteps v_orderedMany v_orderBest v_allSixteenths v_safePage v_openMany v_product v_shares v_hasLived v_isOver v_random v_done v_missed v_turns v_found v_leftOver)) (w1 := (k_X12_no T a_ a_traySort a_trayMany a_numbers a_tape a_c a_kept a_words a_row a_ordered a_orderWas a_room a_ways a_places a_livedLast a_before u3 (nI 0) v_above v_under v_taped v_textEnd v_faultKind v_faultAt v_bad v_badAt v_token v_at v_behind v_number v_letters v_word v_markMany v_orderTold v_newSteps v_orderedMany v_orderBest v_allSixteenths v_safePage v_openMany v_product v_shares v_hasLived v_isOver v_random v_done v_missed v_turns v_found v_leftOver)) hP (mp_D_of hD rfl) hS hA rfl rfl (mp_runV (As := [.int (nI 1)]) (rest := []) X me_X12_no lk_X12_86 (c_X12_no l D T a_ a_traySort a_trayMany a_numbers a_tape a_c a_kept a_words a_row a_ordered a_orderWas a_room a_ways a_places a_livedLast a_before (nI 1) (nI 0) v_above v_under v_taped v_textEnd v_faultKind v_faultAt v_bad v_badAt v_token v_at v_behind v_number v_letters v_word v_markMany v_orderTold v_newSteps v_orderedMany v_orderBest v_allSixteenths v_safePage v_openMany v_product v_shares v_hasLived v_isOver v_random v_done v_missed v_turns v_found v_leftOver (nI 0) r2 u3 c4) rfl rfl ⟨(Nat.le_of_ble_eq_true rfl), (Nat.le_of_ble_eq_true rfl)⟩ hK hPc hDc rfl rfl rfl rfl hl.1 rfl (Nat.le_of_ble_eq_true rfl) dX12_tray_30 ⟨Nat.zero_le _, Nat.zero_le _⟩) (fun H locs hP _ hS => ?_)
    replace hP : va_P D mp_cl (k_X12_tray T a_ a_traySort a_trayMany a_numbers a_tape a_c a_kept a_words a_row a_ordered a_orderWas a_room a_ways a_places a_livedLast a_before u3 (nI 0) v_above v_under v_taped v_textEnd v_faultKind v_faultAt v_bad v_badAt v_token v_at v_behind v_number v_letters v_word v_markMany v_orderTold v_newSteps v_orderedMany v_orderBest v_allSixteenths v_safePage v_openMany v_product v_shares v_hasLived v_isOver v_random v_done v_missed v_turns v_found v_leftOver v_numbers v_trayMany v_traySort) H := hP
    obtain ⟨h5, hf⟩ := gd_of hf
    cases hf
    exact mp_retz X hP hS rfl h5 dX12_tray_33
  · replace hf := if_f hf h1
    refine lv_iload_n hx hb dX12_tray_14 rfl (lv_at hl 1 rfl) ?_
    refine lv_iconst (v := (nI 4)) hx hb dX12_tray_15 (by decide) ?_
    refine lv_icmp_ge (tgt := 28) hx hb dX12_tray_16 (by decide) (fun h6 => ?_) (fun h6 => ?_)
    · replace hf := if_t hf h6
      refine lv_aload_n hx hb dX12_tray_28 rfl (lv_at hl 0 rfl) ?_
      refine lv_iconst (v := (nI 1)) hx hb dX12_tray_29 (by decide) ?_
      obtain ⟨⟨r7, u8⟩, c9, hf⟩ := bd_of hf
      dsimp only at hf
      have hPc := hP.sub (ws' := (k_X12_no T a_ a_traySort a_trayMany a_numbers a_tape a_c a_kept a_words a_row a_ordered a_orderWas a_room a_ways a_places a_livedLast a_before (nI 0) (nI 0) v_above v_under v_taped v_textEnd v_faultKind v_faultAt v_bad v_badAt v_token v_at v_behind v_number v_letters v_word v_markMany v_orderTold v_newSteps v_orderedMany v_orderBest v_allSixteenths v_safePage v_openMany v_product v_shares v_hasLived v_isOver v_random v_done v_missed v_turns v_found v_leftOver)) [0] rfl
      have hDc := (mp_D_of (w1 := (k_X12_tray T a_ a_traySort a_trayMany a_numbers a_tape a_c a_kept a_words a_row a_ordered a_orderWas a_room a_ways a_places a_livedLast a_before (nI 0) (nI 0) v_above v_under v_taped v_textEnd v_faultKind v_faultAt v_bad v_badAt v_token v_at v_behind v_number v_letters v_word v_markMany v_orderTold v_newSteps v_orderedMany v_orderBest v_allSixteenths v_safePage v_openMany v_product v_shares v_hasLived v_isOver v_random v_done v_missed v_turns v_found v_leftOver v_numbers v_trayMany v_traySort)) hD rfl).sub (ws' := (k_X12_no T a_ a_traySort a_trayMany a_numbers a_tape a_c a_kept a_words a_row a_ordered a_orderWas a_room a_ways a_places a_livedLast a_before (nI 0) (nI 0) v_above v_under v_taped v_textEnd v_faultKind v_faultAt v_bad v_badAt v_token v_at v_behind v_number v_letters v_word v_markMany v_orderTold v_newSteps v_orderedMany v_orderBest v_allSixteenths v_safePage v_openMany v_product v_shares v_hasLived v_isOver v_random v_done v_missed v_turns v_found v_leftOver)) [0] rfl rfl
      refine mp_calli (isC := [0]) (wc := (k_X12_no T a_ a_traySort a_trayMany a_numbers a_tape a_c a_kept a_words a_row a_ordered a_orderWas a_room a_ways a_places a_livedLast a_before (nI 0) (nI 0) v_above v_under v_taped v_textEnd v_faultKind v_faultAt v_bad v_badAt v_token v_at v_behind v_number v_letters v_word v_markMany v_orderTold v_newSteps v_orderedMany v_orderBest v_allSixteenths v_safePage v_openMany v_product v_shares v_hasLived v_isOver v_random v_done v_missed v_turns v_found v_leftOver)) (w1 := (k_X12_no T a_ a_traySort a_trayMany a_numbers a_tape a_c a_kept a_words a_row a_ordered a_orderWas a_room a_ways a_places a_livedLast a_before u8 (nI 0) v_above v_under v_taped v_textEnd v_faultKind v_faultAt v_bad v_badAt v_token v_at v_behind v_number v_letters v_word v_markMany v_orderTold v_newSteps v_orderedMany v_orderBest v_allSixteenths v_safePage v_openMany v_product v_shares v_hasLived v_isOver v_random v_done v_missed v_turns v_found v_leftOver)) hP (mp_D_of hD rfl) hS hA rfl rfl (mp_runV (As := [.int (nI 1)]) (rest := []) X me_X12_no lk_X12_86 (c_X12_no l D T a_ a_traySort a_trayMany a_numbers a_tape a_c a_kept a_words a_row a_ordered a_orderWas a_room a_ways a_places a_livedLast a_before (nI 1) (nI 0) v_above v_under v_taped v_textEnd v_faultKind v_faultAt v_bad v_badAt v_token v_at v_behind v_number v_letters v_word v_markMany v_orderTold v_newSteps v_orderedMany v_orderBest v_allSixteenths v_safePage v_openMany v_product v_shares v_hasLived v_isOver v_random v_done v_missed v_turns v_found v_leftOver (nI 0) r7 u8 c9) rfl rfl ⟨(Nat.le_of_ble_eq_true rfl), (Nat.le_of_ble_eq_true rfl)⟩ hK hPc hDc rfl rfl rfl rfl hl.1 rfl (Nat.le_of_ble_eq_true rfl) dX12_tray_30 ⟨Nat.zero_le _, Nat.zero_le _⟩) (fun H locs hP _ hS => ?_)
      replace hP : va_P D mp_cl (k_X12_tray T a_ a_traySort a_trayMany a_numbers a_tape a_c a_kept a_words a_row a_ordered a_orderWas a_room a_ways a_places a_livedLast a_before u8 (nI 0) v_above v_under v_taped v_textEnd v_faultKind v_faultAt v_bad v_badAt v_token v_at v_behind v_number v_letters v_word v_markMany v_orderTold v_newSteps v_orderedMany v_orderBest v_allSixteenths v_safePage v_openMany v_product v_shares v_hasLived v_isOver v_random v_done v_missed v_turns v_found v_leftOver v_numbers v_trayMany v_traySort) H := hP
      obtain ⟨h10, hf⟩ := gd_of hf
      cases hf
      exact mp_retz X hP hS rfl h10 dX12_tray_33
    · replace hf := if_f hf h6
      refine lv_iload_n hx hb dX12_tray_19 rfl (lv_at hl 2 rfl) ?_
      refine lv_if_lt (tgt := 28) hx hb dX12_tray_20 (by decide) (fun h11 => ?_) (fun h11 => ?_)
      · replace hf := if_t hf h11
        refine lv_aload_n hx hb dX12_tray_28 rfl (lv_at hl 0 rfl) ?_
        refine lv_iconst (v := (nI 1)) hx hb dX12_tray_29 (by decide) ?_
        obtain ⟨⟨r12, u13⟩, c14, hf⟩ := bd_of hf
        dsimp only at hf
        have hPc := hP.sub (ws' := (k_X12_no T a_ a_traySort a_trayMany a_numbers a_tape a_c a_kept a_words a_row a_ordered a_orderWas a_room a_ways a_places a_livedLast a_before (nI 0) (nI 0) v_above v_under v_taped v_textEnd v_faultKind v_faultAt v_bad v_badAt v_token v_at v_behind v_number v_letters v_word v_markMany v_orderTold v_newSteps v_orderedMany v_orderBest v_allSixteenths v_safePage v_openMany v_product v_shares v_hasLived v_isOver v_random v_done v_missed v_turns v_found v_leftOver)) [0] rfl
        have hDc := (mp_D_of (w1 := (k_X12_tray T a_ a_traySort a_trayMany a_numbers a_tape a_c a_kept a_words a_row a_ordered a_orderWas a_room a_ways a_places a_livedLast a_before (nI 0) (nI 0) v_above v_under v_taped v_textEnd v_faultKind v_faultAt v_bad v_badAt v_token v_at v_behind v_number v_letters v_word v_markMany v_orderTold v_newSteps v_orderedMany v_orderBest v_allSixteenths v_safePage v_openMany v_product v_shares v_hasLived v_isOver v_random v_done v_missed v_turns v_found v_leftOver v_numbers v_trayMany v_traySort)) hD rfl).sub (ws' := (k_X12_no T a_ a_traySort a_trayMany a_numbers a_tape a_c a_kept a_words a_row a_ordered a_orderWas a_room a_ways a_places a_livedLast a_before (nI 0) (nI 0) v_above v_under v_taped v_textEnd v_faultKind v_faultAt v_bad v_badAt v_token v_at v_behind v_number v_letters v_word v_markMany v_orderTold v_newSteps v_orderedMany v_orderBest v_allSixteenths v_safePage v_openMany v_product v_shares v_hasLived v_isOver v_random v_done v_missed v_turns v_found v_leftOver)) [0] rfl rfl
        refine mp_calli (isC := [0]) (wc := (k_X12_no T a_ a_traySort a_trayMany a_numbers a_tape a_c a_kept a_words a_row a_ordered a_orderWas a_room a_ways a_places a_livedLast a_before (nI 0) (nI 0) v_above v_under v_taped v_textEnd v_faultKind v_faultAt v_bad v_badAt v_token v_at v_behind v_number v_letters v_word v_markMany v_orderTold v_newSteps v_orderedMany v_orderBest v_allSixteenths v_safePage v_openMany v_product v_shares v_hasLived v_isOver v_random v_done v_missed v_turns v_found v_leftOver)) (w1 := (k_X12_no T a_ a_traySort a_trayMany a_numbers a_tape a_c a_kept a_words a_row a_ordered a_orderWas a_room a_ways a_places a_livedLast a_before u13 (nI 0) v_above v_under v_taped v_textEnd v_faultKind v_faultAt v_bad v_badAt v_token v_at v_behind v_number v_letters v_word v_markMany v_orderTold v_newSteps v_orderedMany v_orderBest v_allSixteenths v_safePage v_openMany v_product v_shares v_hasLived v_isOver v_random v_done v_missed v_turns v_found v_leftOver)) hP (mp_D_of hD rfl) hS hA rfl rfl (mp_runV (As := [.int (nI 1)]) (rest := []) X me_X12_no lk_X12_86 (c_X12_no l D T a_ a_traySort a_trayMany a_numbers a_tape a_c a_kept a_words a_row a_ordered a_orderWas a_room a_ways a_places a_livedLast a_before (nI 1) (nI 0) v_above v_under v_taped v_textEnd v_faultKind v_faultAt v_bad v_badAt v_token v_at v_behind v_number v_letters v_word v_markMany v_orderTold v_newSteps v_orderedMany v_orderBest v_allSixteenths v_safePage v_openMany v_product v_shares v_hasLived v_isOver v_random v_done v_missed v_turns v_found v_leftOver (nI 0) r12 u13 c14) rfl rfl ⟨(Nat.le_of_ble_eq_true rfl), (Nat.le_of_ble_eq_true rfl)⟩ hK hPc hDc rfl rfl rfl rfl hl.1 rfl (Nat.le_of_ble_eq_true rfl) dX12_tray_30 ⟨Nat.zero_le _, Nat.zero_le _⟩) (fun H locs hP _ hS => ?_)
        replace hP : va_P D mp_cl (k_X12_tray T a_ a_traySort a_trayMany a_numbers a_tape a_c a_kept a_words a_row a_ordered a_orderWas a_room a_ways a_places a_livedLast a_before u13 (nI 0) v_above v_under v_taped v_textEnd v_faultKind v_faultAt v_bad v_badAt v_token v_at v_behind v_number v_letters v_word v_markMany v_orderTold v_newSteps v_orderedMany v_orderBest v_allSixteenths v_safePage v_openMany v_product v_shares v_hasLived v_isOver v_random v_done v_missed v_turns v_found v_leftOver v_numbers v_trayMany v_traySort) H := hP
        obtain ⟨h15, hf⟩ := gd_of hf
        cases hf
        exact mp_retz X hP hS rfl h15 dX12_tray_33
      · replace hf := if_f hf h11
        refine lv_iload_n hx hb dX12_tray_23 rfl (lv_at hl 2 rfl) ?_
        refine lv_iconst (v := (nI 3)) hx hb dX12_tray_24 (by decide) ?_
        refine lv_icmp_le (tgt := 34) hx hb dX12_tray_25 (by decide) (fun h16 => ?_) (fun h16 => ?_)
        · replace hf := if_t hf h16
          refine lv_iload_n hx hb dX12_tray_34 rfl (lv_at hl 3 rfl) ?_
          refine lv_bipush (v := (nI 60)) hx hb dX12_tray_35 (by decide) ?_
          refine lv_icmp_le (tgt := 46) hx hb dX12_tray_37 (by decide) (fun h17 => ?_) (fun h17 => ?_)
          · replace hf := if_t hf h17
            refine lv_iload_n hx hb dX12_tray_46 rfl (lv_at hl 3 rfl) ?_
            refine lv_if_ge (tgt := 57) hx hb dX12_tray_47 (by decide) (fun h18 => ?_) (fun h18 => ?_)
            · replace hf := if_t hf h18
              refine lv_aload_n hx hb dX12_tray_57 rfl (lv_at hl 0 rfl) ?_
              refine mp_get X fl_X12_13 hK hP 0 rfl rfl dX12_tray_58 ?_
              refine lv_iload_n hx hb dX12_tray_61 rfl (lv_at hl 1 rfl) ?_
              refine lv_iload_n hx hb dX12_tray_62 rfl (lv_at hl 2 rfl) ?_
              obtain ⟨h19, hf⟩ := gi_of hf
              refine va_iast hx hb hK hP (mp_D_of hD rfl) hS 3 0 rfl rfl h19 dX12_tray_63 (fun H locs hP _ hS => ?_)
              replace hP : va_P D mp_cl (k_X12_tray T a_ a_traySort a_trayMany a_numbers a_tape a_c a_kept a_words a_row a_ordered a_orderWas a_room a_ways a_places a_livedLast a_before (nI 0) (nI 0) v_above v_under v_taped v_textEnd v_faultKind v_faultAt v_bad v_badAt v_token v_at v_behind v_number v_letters v_word v_markMany v_orderTold v_newSteps v_orderedMany v_orderBest v_allSixteenths v_safePage v_openMany v_product v_shares v_hasLived v_isOver v_random v_done v_missed v_turns v_found v_leftOver v_numbers v_trayMany (upd v_traySort (x1).toNatClampNeg x2)) H := hP
              refine lv_aload_n hx hb dX12_tray_64 rfl (lv_at hl 0 rfl) ?_
              refine mp_get X fl_X12_17 hK hP 0 rfl rfl dX12_tray_65 ?_
              refine lv_iload_n hx hb dX12_tray_68 rfl (lv_at hl 1 rfl) ?_
              refine lv_iload_n hx hb dX12_tray_69 rfl (lv_at hl 3 rfl) ?_
              obtain ⟨h20, hf⟩ := gi_of hf
              refine va_iast hx hb hK hP (mp_D_of hD rfl) hS 2 0 rfl rfl h20 dX12_tray_70 (fun H locs hP _ hS => ?_)
              replace hP : va_P D mp_cl (k_X12_tray T a_ a_traySort a_trayMany a_numbers a_tape a_c a_kept a_words a_row a_ordered a_orderWas a_room a_ways a_places a_livedLast a_before (nI 0) (nI 0) v_above v_under v_taped v_textEnd v_faultKind v_faultAt v_bad v_badAt v_token v_at v_behind v_number v_letters v_word v_markMany v_orderTold v_newSteps v_orderedMany v_orderBest v_allSixteenths v_safePage v_openMany v_product v_shares v_hasLived v_isOver v_random v_done v_missed v_turns v_found v_leftOver v_numbers (upd v_trayMany (x1).toNatClampNeg x3) (upd v_traySort (x1).toNatClampNeg x2)) H := hP
              refine lv_iconst (v := (nI 0)) hx hb dX12_tray_71 (by decide) ?_
              refine lv_istore (lv' := [(4, .int (nI 0)), (0, .ref a_), (1, .int x1), (2, .int x2), (3, .int x3)]) hx hb dX12_tray_72 hl (by decide) rfl (fun ls hl => ?_)
              exact w_X12_tray_74 X hK hA  fu a_ a_traySort a_trayMany a_numbers a_tape a_c a_kept a_words a_row a_ordered a_orderWas a_room a_ways a_places a_livedLast a_before v_above v_under v_taped v_textEnd v_faultKind v_faultAt v_bad v_badAt v_token v_at v_behind v_number v_letters v_word v_markMany v_orderTold v_newSteps v_orderedMany v_orderBest v_allSixteenths v_safePage v_openMany v_product v_shares v_hasLived v_isOver v_random v_done v_missed v_turns v_found v_leftOver r_ o_status o_thrown o_numbers o_trayMany o_traySort   fu x1 x3 (nI 0) (nI 0) (nI 0) v_numbers (upd v_trayMany (x1).toNatClampNeg x3) (upd v_traySort (x1).toNatClampNeg x2) hf _ _ _ hP (mp_D_of hD rfl) hS (lv_sub hl [1, 2, 4, 0] rfl)
            · replace hf := if_f hf h18
              refine lv_aload_n hx hb dX12_tray_50 rfl (lv_at hl 0 rfl) ?_
              refine lv_bipush (v := (nI 6)) hx hb dX12_tray_51 (by decide) ?_
              obtain ⟨⟨r21, u22⟩, c23, hf⟩ := bd_of hf
              dsimp only at hf
              have hPc := hP.sub (ws' := (k_X12_no T a_ a_traySort a_trayMany a_numbers a_tape a_c a_kept a_words a_row a_ordered a_orderWas a_room a_ways a_places a_livedLast a_before (nI 0) (nI 0) v_above v_under v_taped v_textEnd v_faultKind v_faultAt v_bad v_badAt v_token v_at v_behind v_number v_letters v_word v_markMany v_orderTold v_newSteps v_orderedMany v_orderBest v_allSixteenths v_safePage v_openMany v_product v_shares v_hasLived v_isOver v_random v_done v_missed v_turns v_found v_leftOver)) [0] rfl
              have hDc := (mp_D_of (w1 := (k_X12_tray T a_ a_traySort a_trayMany a_numbers a_tape a_c a_kept a_words a_row a_ordered a_orderWas a_room a_ways a_places a_livedLast a_before (nI 0) (nI 0) v_above v_under v_taped v_textEnd v_faultKind v_faultAt v_bad v_badAt v_token v_at v_behind v_number v_letters v_word v_markMany v_orderTold v_newSteps v_orderedMany v_orderBest v_allSixteenths v_safePage v_openMany v_product v_shares v_hasLived v_isOver v_random v_done v_missed v_turns v_found v_leftOver v_numbers v_trayMany v_traySort)) hD rfl).sub (ws' := (k_X12_no T a_ a_traySort a_trayMany a_numbers a_tape a_c a_kept a_words a_row a_ordered a_orderWas a_room a_ways a_places a_livedLast a_before (nI 0) (nI 0) v_above v_under v_taped v_textEnd v_faultKind v_faultAt v_bad v_badAt v_token v_at v_behind v_number v_letters v_word v_markMany v_orderTold v_newSteps v_orderedMany v_orderBest v_allSixteenths v_safePage v_openMany v_product v_shares v_hasLived v_isOver v_random v_done v_missed v_turns v_found v_leftOver)) [0] rfl rfl
              refine mp_calli (isC := [0]) (wc := (k_X12_no T a_ a_traySort a_trayMany a_numbers a_tape a_c a_kept a_words a_row a_ordered a_orderWas a_room a_ways a_places a_livedLast a_before (nI 0) (nI 0) v_above v_under v_taped v_textEnd v_faultKind v_faultAt v_bad v_badAt v_token v_at v_behind v_number v_letters v_word v_markMany v_orderTold v_newSteps v_orderedMany v_orderBest v_allSixteenths v_safePage v_openMany v_product v_shares v_hasLived v_isOver v_random v_done v_missed v_turns v_found v_leftOver)) (w1 := (k_X12_no T a_ a_traySort a_trayMany a_numbers a_tape a_c a_kept a_words a_row a_ordered a_orderWas a_room a_ways a_places a_livedLast a_before u22 (nI 0) v_above v_under v_taped v_textEnd v_faultKind v_faultAt v_bad v_badAt v_token v_at v_behind v_number v_letters v_word v_markMany v_orderTold v_newSteps v_orderedMany v_orderBest v_allSixteenths v_safePage v_openMany v_product v_shares v_hasLived v_isOver v_random v_done v_missed v_turns v_found v_leftOver)) hP (mp_D_of hD rfl) hS hA rfl rfl (mp_runV (As := [.int (nI 6)]) (rest := []) X me_X12_no lk_X12_86 (c_X12_no l D T a_ a_traySort a_trayMany a_numbers a_tape a_c a_kept a_words a_row a_ordered a_orderWas a_room a_ways a_places a_livedLast a_before (nI 6) (nI 0) v_above v_under v_taped v_textEnd v_faultKind v_faultAt v_bad v_badAt v_token v_at v_behind v_number v_letters v_word v_markMany v_orderTold v_newSteps v_orderedMany v_orderBest v_allSixteenths v_safePage v_openMany v_product v_shares v_hasLived v_isOver v_random v_done v_missed v_turns v_found v_leftOver (nI 0) r21 u22 c23) rfl rfl ⟨(Nat.le_of_ble_eq_true rfl), (Nat.le_of_ble_eq_true rfl)⟩ hK hPc hDc rfl rfl rfl rfl hl.1 rfl (Nat.le_of_ble_eq_true rfl) dX12_tray_53 ⟨Nat.zero_le _, Nat.zero_le _⟩) (fun H locs hP _ hS => ?_)
              replace hP : va_P D mp_cl (k_X12_tray T a_ a_traySort a_trayMany a_numbers a_tape a_c a_kept a_words a_row a_ordered a_orderWas a_room a_ways a_places a_livedLast a_before u22 (nI 0) v_above v_under v_taped v_textEnd v_faultKind v_faultAt v_bad v_badAt v_token v_at v_behind v_number v_letters v_word v_markMany v_orderTold v_newSteps v_orderedMany v_orderBest v_allSixteenths v_safePage v_openMany v_product v_shares v_hasLived v_isOver v_random v_done v_missed v_turns v_found v_leftOver v_numbers v_trayMany v_traySort) H := hP
              obtain ⟨h24, hf⟩ := gd_of hf
              cases hf
              exact mp_retz X hP hS rfl h24 dX12_tray_56
          · replace hf := if_f hf h17
            refine lv_aload_n hx hb dX12_tray_40 rfl (lv_at hl 0 rfl) ?_
            refine lv_iconst (v := (nI 5)) hx hb dX12_tray_41 (by decide) ?_
            obtain ⟨⟨r25, u26⟩, c27, hf⟩ := bd_of hf
            dsimp only at hf
            have hPc := hP.sub (ws' := (k_X12_no T a_ a_traySort a_trayMany a_numbers a_tape a_c a_kept a_words a_row a_ordered a_orderWas a_room a_ways a_places a_livedLast a_before (nI 0) (nI 0) v_above v_under v_taped v_textEnd v_faultKind v_faultAt v_bad v_badAt v_token v_at v_behind v_number v_letters v_word v_markMany v_orderTold v_newSteps v_orderedMany v_orderBest v_allSixteenths v_safePage v_openMany v_product v_shares v_hasLived v_isOver v_random v_done v_missed v_turns v_found v_leftOver)) [0] rfl
            have hDc := (mp_D_of (w1 := (k_X12_tray T a_ a_traySort a_trayMany a_numbers a_tape a_c a_kept a_words a_row a_ordered a_orderWas a_room a_ways a_places a_livedLast a_before (nI 0) (nI 0) v_above v_under v_taped v_textEnd v_faultKind v_faultAt v_bad v_badAt v_token v_at v_behind v_number v_letters v_word v_markMany v_orderTold v_newSteps v_orderedMany v_orderBest v_allSixteenths v_safePage v_openMany v_product v_shares v_hasLived v_isOver v_random v_done v_missed v_turns v_found v_leftOver v_numbers v_trayMany v_traySort)) hD rfl).sub (ws' := (k_X12_no T a_ a_traySort a_trayMany a_numbers a_tape a_c a_kept a_words a_row a_ordered a_orderWas a_room a_ways a_places a_livedLast a_before (nI 0) (nI 0) v_above v_under v_taped v_textEnd v_faultKind v_faultAt v_bad v_badAt v_token v_at v_behind v_number v_letters v_word v_markMany v_orderTold v_newSteps v_orderedMany v_orderBest v_allSixteenths v_safePage v_openMany v_product v_shares v_hasLived v_isOver v_random v_done v_missed v_turns v_found v_leftOver)) [0] rfl rfl
            refine mp_calli (isC := [0]) (wc := (k_X12_no T a_ a_traySort a_trayMany a_numbers a_tape a_c a_kept a_words a_row a_ordered a_orderWas a_room a_ways a_places a_livedLast a_before (nI 0) (nI 0) v_above v_under v_taped v_textEnd v_faultKind v_faultAt v_bad v_badAt v_token v_at v_behind v_number v_letters v_word v_markMany v_orderTold v_newSteps v_orderedMany v_orderBest v_allSixteenths v_safePage v_openMany v_product v_shares v_hasLived v_isOver v_random v_done v_missed v_turns v_found v_leftOver)) (w1 := (k_X12_no T a_ a_traySort a_trayMany a_numbers a_tape a_c a_kept a_words a_row a_ordered a_orderWas a_room a_ways a_places a_livedLast a_before u26 (nI 0) v_above v_under v_taped v_textEnd v_faultKind v_faultAt v_bad v_badAt v_token v_at v_behind v_number v_letters v_word v_markMany v_orderTold v_newSteps v_orderedMany v_orderBest v_allSixteenths v_safePage v_openMany v_product v_shares v_hasLived v_isOver v_random v_done v_missed v_turns v_found v_leftOver)) hP (mp_D_of hD rfl) hS hA rfl rfl (mp_runV (As := [.int (nI 5)]) (rest := []) X me_X12_no lk_X12_86 (c_X12_no l D T a_ a_traySort a_trayMany a_numbers a_tape a_c a_kept a_words a_row a_ordered a_orderWas a_room a_ways a_places a_livedLast a_before (nI 5) (nI 0) v_above v_under v_taped v_textEnd v_faultKind v_faultAt v_bad v_badAt v_token v_at v_behind v_number v_letters v_word v_markMany v_orderTold v_newSteps v_orderedMany v_orderBest v_allSixteenths v_safePage v_openMany v_product v_shares v_hasLived v_isOver v_random v_done v_missed v_turns v_found v_leftOver (nI 0) r25 u26 c27) rfl rfl ⟨(Nat.le_of_ble_eq_true rfl), (Nat.le_of_ble_eq_true rfl)⟩ hK hPc hDc rfl rfl rfl rfl hl.1 rfl (Nat.le_of_ble_eq_true rfl) dX12_tray_42 ⟨Nat.zero_le _, Nat.zero_le _⟩) (fun H locs hP _ hS => ?_)
            replace hP : va_P D mp_cl (k_X12_tray T a_ a_traySort a_trayMany a_numbers a_tape a_c a_kept a_words a_row a_ordered a_orderWas a_room a_ways a_places a_livedLast a_before u26 (nI 0) v_above v_under v_taped v_textEnd v_faultKind v_faultAt v_bad v_badAt v_token v_at v_behind v_number v_letters v_word v_markMany v_orderTold v_newSteps v_orderedMany v_orderBest v_allSixteenths v_safePage v_openMany v_product v_shares v_hasLived v_isOver v_random v_done v_missed v_turns v_found v_leftOver v_numbers v_trayMany v_traySort) H := hP
            obtain ⟨h28, hf⟩ := gd_of hf
            cases hf
            exact mp_retz X hP hS rfl h28 dX12_tray_45
        · replace hf := if_f hf h16
          refine lv_aload_n hx hb dX12_tray_28 rfl (lv_at hl 0 rfl) ?_
          refine lv_iconst (v := (nI 1)) hx hb dX12_tray_29 (by decide) ?_
          obtain ⟨⟨r29, u30⟩, c31, hf⟩ := bd_of hf
          dsimp only at hf
          have hPc := hP.sub (ws' := (k_X12_no T a_ a_traySort a_trayMany a_numbers a_tape a_c a_kept a_words a_row a_ordered a_orderWas a_room a_ways a_places a_livedLast a_before (nI 0) (nI 0) v_above v_under v_taped v_textEnd v_faultKind v_faultAt v_bad v_badAt v_token v_at v_behind v_number v_letters v_word v_markMany v_orderTold v_newSteps v_orderedMany v_orderBest v_allSixteenths v_safePage v_openMany v_product v_shares v_hasLived v_isOver v_random v_done v_missed v_turns v_found v_leftOver)) [0] rfl
          have hDc := (mp_D_of (w1 := (k_X12_tray T a_ a_traySort a_trayMany a_numbers a_tape a_c a_kept a_words a_row a_ordered a_orderWas a_room a_ways a_places a_livedLast a_before (nI 0) (nI 0) v_above v_under v_taped v_textEnd v_faultKind v_faultAt v_bad v_badAt v_token v_at v_behind v_number v_letters v_word v_markMany v_orderTold v_newSteps v_orderedMany v_orderBest v_allSixteenths v_safePage v_openMany v_product v_shares v_hasLived v_isOver v_random v_done v_missed v_turns v_found v_leftOver v_numbers v_trayMany v_traySort)) hD rfl).sub (ws' := (k_X12_no T a_ a_traySort a_trayMany a_numbers a_tape a_c a_kept a_words a_row a_ordered a_orderWas a_room a_ways a_places a_livedLast a_before (nI 0) (nI 0) v_above v_under v_taped v_textEnd v_faultKind v_faultAt v_bad v_badAt v_token v_at v_behind v_number v_letters v_word v_markMany v_orderTold v_newSteps v_orderedMany v_orderBest v_allSixteenths v_safePage v_openMany v_product v_shares v_hasLived v_isOver v_random v_done v_missed v_turns v_found v_leftOver)) [0] rfl rfl
          refine mp_calli (isC := [0]) (wc := (k_X12_no T a_ a_traySort a_trayMany a_numbers a_tape a_c a_kept a_words a_row a_ordered a_orderWas a_room a_ways a_places a_livedLast a_before (nI 0) (nI 0) v_above v_under v_taped v_textEnd v_faultKind v_faultAt v_bad v_badAt v_token v_at v_behind v_number v_letters v_word v_markMany v_orderTold v_newSteps v_orderedMany v_orderBest v_allSixteenths v_safePage v_openMany v_product v_shares v_hasLived v_isOver v_random v_done v_missed v_turns v_found v_leftOver)) (w1 := (k_X12_no T a_ a_traySort a_trayMany a_numbers a_tape a_c a_kept a_words a_row a_ordered a_orderWas a_room a_ways a_places a_livedLast a_before u30 (nI 0) v_above v_under v_taped v_textEnd v_faultKind v_faultAt v_bad v_badAt v_token v_at v_behind v_number v_letters v_word v_markMany v_orderTold v_newSteps v_orderedMany v_orderBest v_allSixteenths v_safePage v_openMany v_product v_shares v_hasLived v_isOver v_random v_done v_missed v_turns v_found v_leftOver)) hP (mp_D_of hD rfl) hS hA rfl rfl (mp_runV (As := [.int (nI 1)]) (rest := []) X me_X12_no lk_X12_86 (c_X12_no l D T a_ a_traySort a_trayMany a_numbers a_tape a_c a_kept a_words a_row a_ordered a_orderWas a_room a_ways a_places a_livedLast a_before (nI 1) (nI 0) v_above v_under v_taped v_textEnd v_faultKind v_faultAt v_bad v_badAt v_token v_at v_behind v_number v_letters v_word v_markMany v_orderTold v_newSteps v_orderedMany v_orderBest v_allSixteenths v_safePage v_openMany v_product v_shares v_hasLived v_isOver v_random v_done v_missed v_turns v_found v_leftOver (nI 0) r29 u30 c31) rfl rfl ⟨(Nat.le_of_ble_eq_true rfl), (Nat.le_of_ble_eq_true rfl)⟩ hK hPc hDc rfl rfl rfl rfl hl.1 rfl (Nat.le_of_ble_eq_true rfl) dX12_tray_30 ⟨Nat.zero_le _, Nat.zero_le _⟩) (fun H locs hP _ hS => ?_)
          replace hP : va_P D mp_cl (k_X12_tray T a_ a_traySort a_trayMany a_numbers a_tape a_c a_kept a_words a_row a_ordered a_orderWas a_room a_ways a_places a_livedLast a_before u30 (nI 0) v_above v_under v_taped v_textEnd v_faultKind v_faultAt v_bad v_badAt v_token v_at v_behind v_number v_letters v_word v_markMany v_orderTold v_newSteps v_orderedMany v_orderBest v_allSixteenths v_safePage v_openMany v_product v_shares v_hasLived v_isOver v_random v_done v_missed v_turns v_found v_leftOver v_numbers v_trayMany v_traySort) H := hP
          obtain ⟨h32, hf⟩ := gd_of hf
          cases hf
          exact mp_retz X hP hS rfl h32 dX12_tray_33


def k_X12_trayed (T : Nat → ClassId) (a_ a_traySort a_trayMany a_numbers a_tape a_c a_kept a_words a_row a_ordered a_orderWas a_room a_ways a_places a_livedLast a_before : Nat) (v_status : Int32) (v_thrown : Int32) (v_above : Int64) (v_under : Int64) (v_taped : Int32) (v_textEnd : Int32) (v_faultKind : Int32) (v_faultAt : Int32) (v_bad : Int32) (v_badAt : Int32) (v_token : Int32) (v_at : Int32) (v_behind : Int32) (v_number : Int32) (v_letters : Int32) (v_word : Int64) (v_markMany : Int32) (v_orderTold : Int32) (v_newSteps : Int32) (v_orderedMany : Int32) (v_orderBest : Int32) (v_allSixteenths : Int64) (v_safePage : Int32) (v_openMany : Int32) (v_product : Int64) (v_shares : Int64) (v_hasLived : Int32) (v_isOver : Int32) (v_random : Int32) (v_done : Int32) (v_missed : Int32) (v_turns : Int32) (v_found : Int32) (v_leftOver : Int32) (v_trayMany : (Nat → Int32)) : va_W := [(a_, oX12 v_status v_thrown v_above v_under a_traySort a_trayMany a_numbers a_tape v_taped v_textEnd v_faultKind v_faultAt v_bad v_badAt v_token v_at v_behind v_number v_letters v_word a_c a_kept a_words v_markMany v_orderTold v_newSteps a_row a_ordered a_orderWas v_orderedMany v_orderBest a_room v_allSixteenths v_safePage v_openMany v_product v_shares a_ways a_places a_livedLast a_before v_hasLived v_isOver v_random v_done v_missed v_turns v_found v_leftOver), (a_trayMany, mp_aI T 4 v_trayMany)]
set_option maxHeartbeats 4000000 in
set_option maxRecDepth 100000 in
theorem c_X12_trayed (l : Launch) (D : va_G) (T : Nat → ClassId) (a_ a_traySort a_trayMany a_numbers a_tape a_c a_kept a_words a_row a_ordered a_orderWas a_room a_ways a_places a_livedLast a_before : Nat) (x1 : Int32) (v_status : Int32) (v_thrown : Int32) (v_above : Int64) (v_under : Int64) (v_taped : Int32) (v_textEnd : Int32) (v_faultKind : Int32) (v_faultAt : Int32) (v_bad : Int32) (v_badAt : Int32) (v_token : Int32) (v_at : Int32) (v_behind : Int32) (v_number : Int32) (v_letters : Int32) (v_word : Int64) (v_markMany : Int32) (v_orderTold : Int32) (v_newSteps : Int32) (v_orderedMany : Int32) (v_orderBest : Int32) (v_allSixteenths : Int64) (v_safePage : Int32) (v_openMany : Int32) (v_product : Int64) (v_shares : Int64) (v_hasLived : Int32) (v_isOver : Int32) (v_random : Int32) (v_done : Int32) (v_missed : Int32) (v_turns : Int32) (v_found : Int32) (v_leftOver : Int32) (v_trayMany : (Nat → Int32)) (r_ : Int32) (hf : f_X12_trayed x1 v_trayMany = some r_) :
    mp_M l D T yX12_trayed cX12_trayed 2 (some .int) ({ frames := 0, cells := 0, slots := 0, locals := 0 }) 0 0 [.ref a_, .int x1] (k_X12_trayed T a_ a_traySort a_trayMany a_numbers a_tape a_c a_kept a_words a_row a_ordered a_orderWas a_room a_ways a_places a_livedLast a_before v_status v_thrown v_above v_under v_taped v_textEnd v_faultKind v_faultAt v_bad v_badAt v_token v_at v_behind v_number v_letters v_word v_markMany v_orderTold v_newSteps v_orderedMany v_orderBest v_allSixteenths v_safePage v_openMany v_product v_shares v_hasLived v_isOver v_random v_done v_missed v_turns v_found v_leftOver v_trayMany) (mp_Qi D r_ (k_X12_trayed T a_ a_traySort a_trayMany a_numbers a_tape a_c a_kept a_words a_row a_ordered a_orderWas a_room a_ways a_places a_livedLast a_before v_status v_thrown v_above v_under v_taped v_textEnd v_faultKind v_faultAt v_bad v_badAt v_token v_at v_behind v_number v_letters v_word v_markMany v_orderTold v_newSteps v_orderedMany v_orderBest v_allSixteenths v_safePage v_openMany v_product v_shares v_hasLived v_isOver v_random v_done v_missed v_turns v_found v_leftOver v_trayMany)) := by
  refine mp_of (by decide) (Nat.le_of_ble_eq_true rfl) rfl ?_
  intro p e s m args below meth c A ls X hK hP hD hS hA hl
  replace X : mp_X p s m meth c args RX12 "trayed" cX12_trayed 2 (some .int) := X
  have hx := X.1
  have hb := X.2.1
  have hml := X.2.2.1
  have hown := X.2.2.2.2.1
  have hts := X.2.2.2.2.2.1
  replace hl : lv_has ls 2 [(0, .ref a_), (1, .int x1)] := hl
  replace hf : (if x1 < 0 then some ((nI 1)) else (if x1 < (nI 4) then gi_ x1 4 ((if 0 ≤ (v_trayMany (x1).toNatClampNeg) then some ((nI 0)) else some ((nI 3)))) else some ((nI 1)))) = some r_ := hf
  refine lv_iload_n hx hb dX12_trayed_0 rfl (lv_at hl 1 rfl) ?_
  refine lv_if_lt (tgt := 9) hx hb dX12_trayed_1 (by decide) (fun h1 => ?_) (fun h1 => ?_)
  · replace hf := if_t hf h1
    refine lv_iconst (v := (nI 1)) hx hb dX12_trayed_9 (by decide) ?_
    refine lv_goto (tgt := 27) hx hb dX12_trayed_10 (by decide) ?_
    cases hf
    exact mp_reti X hP hS rfl dX12_trayed_27
  · replace hf := if_f hf h1
    refine lv_iload_n hx hb dX12_trayed_4 rfl (lv_at hl 1 rfl) ?_
    refine lv_iconst (v := (nI 4)) hx hb dX12_trayed_5 (by decide) ?_
    refine lv_icmp_lt (tgt := 13) hx hb dX12_trayed_6 (by decide) (fun h2 => ?_) (fun h2 => ?_)
    · replace hf := if_t hf h2
      refine lv_aload_n hx hb dX12_trayed_13 rfl (lv_at hl 0 rfl) ?_
      refine mp_get X fl_X12_17 hK hP 0 rfl rfl dX12_trayed_14 ?_
      refine lv_iload_n hx hb dX12_trayed_17 rfl (lv_at hl 1 rfl) ?_
      obtain ⟨h3, hf⟩ := gi_of hf
      refine va_iald hx hb hK hP 1 0 rfl rfl h3 dX12_trayed_18 ?_
      refine lv_if_ge (tgt := 26) hx hb dX12_trayed_19 (by decide) (fun h4 => ?_) (fun h4 => ?_)
      · replace hf := if_t hf h4
        refine lv_iconst (v := (nI 0)) hx hb dX12_trayed_26 (by decide) ?_
        cases hf
        exact mp_reti X hP hS rfl dX12_trayed_27
      · replace hf := if_f hf h4
        refine lv_iconst (v := (nI 3)) hx hb dX12_trayed_22 (by decide) ?_
        refine lv_goto (tgt := 27) hx hb dX12_trayed_23 (by decide) ?_
        cases hf
        exact mp_reti X hP hS rfl dX12_trayed_27
    · replace hf := if_f hf h2
      refine lv_iconst (v := (nI 1)) hx hb dX12_trayed_9 (by decide) ?_
      refine lv_goto (tgt := 27) hx hb dX12_trayed_10 (by decide) ?_
      cases hf
      exact mp_reti X hP hS rfl dX12_trayed_27


def k_X12_placed (T : Nat → ClassId) (a_ a_traySort a_trayMany a_numbers a_tape a_c a_kept a_words a_row a_ordered a_orderWas a_room a_ways a_places a_livedLast a_before : Nat) (v_status : Int32) (v_thrown : Int32) (v_above : Int64) (v_under : Int64) (v_taped : Int32) (v_textEnd : Int32) (v_faultKind : Int32) (v_faultAt : Int32) (v_bad : Int32) (v_badAt : Int32) (v_token : Int32) (v_at : Int32) (v_behind : Int32) (v_number : Int32) (v_letters : Int32) (v_word : Int64) (v_markMany : Int32) (v_orderTold : Int32) (v_newSteps : Int32) (v_orderedMany : Int32) (v_orderBest : Int32) (v_allSixteenths : Int64) (v_safePage : Int32) (v_openMany : Int32) (v_product : Int64) (v_shares : Int64) (v_hasLived : Int32) (v_isOver : Int32) (v_random : Int32) (v_done : Int32) (v_missed : Int32) (v_turns : Int32) (v_found : Int32) (v_leftOver : Int32) (v_trayMany : (Nat → Int32)) : va_W := [(a_, oX12 v_status v_thrown v_above v_under a_traySort a_trayMany a_numbers a_tape v_taped v_textEnd v_faultKind v_faultAt v_bad v_badAt v_token v_at v_behind v_number v_letters v_word a_c a_kept a_words v_markMany v_orderTold v_newSteps a_row a_ordered a_orderWas v_orderedMany v_orderBest a_room v_allSixteenths v_safePage v_openMany v_product v_shares a_ways a_places a_livedLast a_before v_hasLived v_isOver v_random v_done v_missed v_turns v_found v_leftOver), (a_trayMany, mp_aI T 4 v_trayMany)]
set_option maxHeartbeats 4000000 in
set_option maxRecDepth 100000 in
theorem c_X12_placed (l : Launch) (D : va_G) (T : Nat → ClassId) (a_ a_traySort a_trayMany a_numbers a_tape a_c a_kept a_words a_row a_ordered a_orderWas a_room a_ways a_places a_livedLast a_before : Nat) (x1 : Int32) (x2 : Int32) (v_status : Int32) (v_thrown : Int32) (v_above : Int64) (v_under : Int64) (v_taped : Int32) (v_textEnd : Int32) (v_faultKind : Int32) (v_faultAt : Int32) (v_bad : Int32) (v_badAt : Int32) (v_token : Int32) (v_at : Int32) (v_behind : Int32) (v_number : Int32) (v_letters : Int32) (v_word : Int64) (v_markMany : Int32) (v_orderTold : Int32) (v_newSteps : Int32) (v_orderedMany : Int32) (v_orderBest : Int32) (v_allSixteenths : Int64) (v_safePage : Int32) (v_openMany : Int32) (v_product : Int64) (v_shares : Int64) (v_hasLived : Int32) (v_isOver : Int32) (v_random : Int32) (v_done : Int32) (v_missed : Int32) (v_turns : Int32) (v_found : Int32) (v_leftOver : Int32) (v_trayMany : (Nat → Int32)) (r_ : Int32) (hf : f_X12_placed x1 x2 v_trayMany = some r_) :
    mp_M l D T yX12_placed cX12_placed 4 (some .int) ({ frames := 1, cells := 0, slots := 0, locals := 21 }) 0 0 [.ref a_, .int x1, .int x2] (k_X12_placed T a_ a_traySort a_trayMany a_numbers a_tape a_c a_kept a_words a_row a_ordered a_orderWas a_room a_ways a_places a_livedLast a_before v_status v_thrown v_above v_under v_taped v_textEnd v_faultKind v_faultAt v_bad v_badAt v_token v_at v_behind v_number v_letters v_word v_markMany v_orderTold v_newSteps v_orderedMany v_orderBest v_allSixteenths v_safePage v_openMany v_product v_shares v_hasLived v_isOver v_random v_done v_missed v_turns v_found v_leftOver v_trayMany) (mp_Qi D r_ (k_X12_placed T a_ a_traySort a_trayMany a_numbers a_tape a_c a_kept a_words a_row a_ordered a_orderWas a_room a_ways a_places a_livedLast a_before v_status v_thrown v_above v_under v_taped v_textEnd v_faultKind v_faultAt v_bad v_badAt v_token v_at v_behind v_number v_letters v_word v_markMany v_orderTold v_newSteps v_orderedMany v_orderBest v_allSixteenths v_safePage v_openMany v_product v_shares v_hasLived v_isOver v_random v_done v_missed v_turns v_found v_leftOver v_trayMany)) := by
  refine mp_of (by decide) (Nat.le_of_ble_eq_true rfl) rfl ?_
  intro p e s m args below meth c A ls X hK hP hD hS hA hl
  replace X : mp_X p s m meth c args RX12 "placed" cX12_placed 4 (some .int) := X
  have hx := X.1
  have hb := X.2.1
  have hml := X.2.2.1
  have hown := X.2.2.2.2.1
  have hts := X.2.2.2.2.2.1
  replace hl : lv_has ls 4 [(0, .ref a_), (1, .int x1), (2, .int x2)] := hl
  replace hf : bd_ (f_X12_trayed x1 v_trayMany) (fun (r1 : Int32) => (if r1 ≤ 0 then (if x2 < 0 then some ((nI 4)) else gi_ x1 4 ((if x2 < (v_trayMany (x1).toNatClampNeg) then some ((nI 0)) else some ((nI 4))))) else some (r1))) = some r_ := hf
  refine lv_aload_n hx hb dX12_placed_0 rfl (lv_at hl 0 rfl) ?_
  refine lv_iload_n hx hb dX12_placed_1 rfl (lv_at hl 1 rfl) ?_
  obtain ⟨r1, c2, hf⟩ := bd_of hf
  have hPc := hP.sub (ws' := (k_X12_trayed T a_ a_traySort a_trayMany a_numbers a_tape a_c a_kept a_words a_row a_ordered a_orderWas a_room a_ways a_places a_livedLast a_before v_status v_thrown v_above v_under v_taped v_textEnd v_faultKind v_faultAt v_bad v_badAt v_token v_at v_behind v_number v_letters v_word v_markMany v_orderTold v_newSteps v_orderedMany v_orderBest v_allSixteenths v_safePage v_openMany v_product v_shares v_hasLived v_isOver v_random v_done v_missed v_turns v_found v_leftOver v_trayMany)) [0, 1] rfl
  have hDc := (mp_D_of (w1 := (k_X12_placed T a_ a_traySort a_trayMany a_numbers a_tape a_c a_kept a_words a_row a_ordered a_orderWas a_room a_ways a_places a_livedLast a_before v_status v_thrown v_above v_under v_taped v_textEnd v_faultKind v_faultAt v_bad v_badAt v_token v_at v_behind v_number v_letters v_word v_markMany v_orderTold v_newSteps v_orderedMany v_orderBest v_allSixteenths v_safePage v_openMany v_product v_shares v_hasLived v_isOver v_random v_done v_missed v_turns v_found v_leftOver v_trayMany)) hD rfl).sub (ws' := (k_X12_trayed T a_ a_traySort a_trayMany a_numbers a_tape a_c a_kept a_words a_row a_ordered a_orderWas a_room a_ways a_places a_livedLast a_before v_status v_thrown v_above v_under v_taped v_textEnd v_faultKind v_faultAt v_bad v_badAt v_token v_at v_behind v_number v_letters v_word v_markMany v_orderTold v_newSteps v_orderedMany v_orderBest v_allSixteenths v_safePage v_openMany v_product v_shares v_hasLived v_isOver v_random v_done v_missed v_turns v_found v_leftOver v_trayMany)) [0, 1] rfl rfl
  refine mp_calli (isC := [0, 1]) (wc := (k_X12_trayed T a_ a_traySort a_trayMany a_numbers a_tape a_c a_kept a_words a_row a_ordered a_orderWas a_room a_ways a_places a_livedLast a_before v_status v_thrown v_above v_under v_taped v_textEnd v_faultKind v_faultAt v_bad v_badAt v_token v_at v_behind v_number v_letters v_word v_markMany v_orderTold v_newSteps v_orderedMany v_orderBest v_allSixteenths v_safePage v_openMany v_product v_shares v_hasLived v_isOver v_random v_done v_missed v_turns v_found v_leftOver v_trayMany)) (w1 := (k_X12_trayed T a_ a_traySort a_trayMany a_numbers a_tape a_c a_kept a_words a_row a_ordered a_orderWas a_room a_ways a_places a_livedLast a_before v_status v_thrown v_above v_under v_taped v_textEnd v_faultKind v_faultAt v_bad v_badAt v_token v_at v_behind v_number v_letters v_word v_markMany v_orderTold v_newSteps v_orderedMany v_orderBest v_allSixteenths v_safePage v_openMany v_product v_shares v_hasLived v_isOver v_random v_done v_missed v_turns v_found v_leftOver v_trayMany)) hP (mp_D_of hD rfl) hS hA rfl rfl (mp_runV (As := [.int x1]) (rest := []) X me_X12_trayed lk_X12_90 (c_X12_trayed l D T a_ a_traySort a_trayMany a_numbers a_tape a_c a_kept a_words a_row a_ordered a_orderWas a_room a_ways a_places a_livedLast a_before x1 v_status v_thrown v_above v_under v_taped v_textEnd v_faultKind v_faultAt v_bad v_badAt v_token v_at v_behind v_number v_letters v_word v_markMany v_orderTold v_newSteps v_orderedMany v_orderBest v_allSixteenths v_safePage v_openMany v_product v_shares v_hasLived v_isOver v_random v_done v_missed v_turns v_found v_leftOver v_trayMany r1 c2) rfl rfl ⟨(Nat.le_of_ble_eq_true rfl), (Nat.le_of_ble_eq_true rfl)⟩ hK hPc hDc rfl rfl rfl rfl hl.1 rfl (Nat.le_of_ble_eq_true rfl) dX12_placed_2 ⟨Nat.zero_le _, Nat.zero_le _⟩) (fun H locs hP _ hS => ?_)
  replace hP : va_P D mp_cl (k_X12_placed T a_ a_traySort a_trayMany a_numbers a_tape a_c a_kept a_words a_row a_ordered a_orderWas a_room a_ways a_places a_livedLast a_before v_status v_thrown v_above v_under v_taped v_textEnd v_faultKind v_faultAt v_bad v_badAt v_token v_at v_behind v_number v_letters v_word v_markMany v_orderTold v_newSteps v_orderedMany v_orderBest v_allSixteenths v_safePage v_openMany v_product v_shares v_hasLived v_isOver v_random v_done v_missed v_turns v_found v_leftOver v_trayMany) H := hP
  refine lv_istore_n (lv' := [(3, .int r1), (0, .ref a_), (1, .int x1), (2, .int x2)]) hx hb dX12_placed_5 rfl hl (by decide) rfl (fun ls hl => ?_)
  refine lv_iload_n hx hb dX12_placed_6 rfl (lv_at hl 0 rfl) ?_
  refine lv_if_le (tgt := 14) hx hb dX12_placed_7 (by decide) (fun h3 => ?_) (fun h3 => ?_)
  · replace hf := if_t hf h3
    refine lv_iload_n hx hb dX12_placed_14 rfl (lv_at hl 3 rfl) ?_
    refine lv_if_lt (tgt := 28) hx hb dX12_placed_15 (by decide) (fun h4 => ?_) (fun h4 => ?_)
    · replace hf := if_t hf h4
      refine lv_iconst (v := (nI 4)) hx hb dX12_placed_28 (by decide) ?_
      refine lv_goto (tgt := 33) hx hb dX12_placed_29 (by decide) ?_
      cases hf
      exact mp_reti X hP hS rfl dX12_placed_33
    · replace hf := if_f hf h4
      refine lv_iload_n hx hb dX12_placed_18 rfl (lv_at hl 3 rfl) ?_
      refine lv_aload_n hx hb dX12_placed_19 rfl (lv_at hl 1 rfl) ?_
      refine mp_get X fl_X12_17 hK hP 0 rfl rfl dX12_placed_20 ?_
      refine lv_iload_n hx hb dX12_placed_23 rfl (lv_at hl 2 rfl) ?_
      obtain ⟨h5, hf⟩ := gi_of hf
      refine va_iald hx hb hK hP 1 0 rfl rfl h5 dX12_placed_24 ?_
      refine lv_icmp_lt (tgt := 32) hx hb dX12_placed_25 (by decide) (fun h6 => ?_) (fun h6 => ?_)
      · replace hf := if_t hf h6
        refine lv_iconst (v := (nI 0)) hx hb dX12_placed_32 (by decide) ?_
        cases hf
        exact mp_reti X hP hS rfl dX12_placed_33
      · replace hf := if_f hf h6
        refine lv_iconst (v := (nI 4)) hx hb dX12_placed_28 (by decide) ?_
        refine lv_goto (tgt := 33) hx hb dX12_placed_29 (by decide) ?_
        cases hf
        exact mp_reti X hP hS rfl dX12_placed_33
  · replace hf := if_f hf h3
    refine lv_iload_n hx hb dX12_placed_10 rfl (lv_at hl 0 rfl) ?_
    refine lv_goto (tgt := 33) hx hb dX12_placed_11 (by decide) ?_
    cases hf
    exact mp_reti X hP hS rfl dX12_placed_33


def k_X12_write (T : Nat → ClassId) (a_ a_traySort a_trayMany a_numbers a_tape a_c a_kept a_words a_row a_ordered a_orderWas a_room a_ways a_places a_livedLast a_before : Nat) (v_status : Int32) (v_thrown : Int32) (v_above : Int64) (v_under : Int64) (v_taped : Int32) (v_textEnd : Int32) (v_faultKind : Int32) (v_faultAt : Int32) (v_bad : Int32) (v_badAt : Int32) (v_token : Int32) (v_at : Int32) (v_behind : Int32) (v_number : Int32) (v_letters : Int32) (v_word : Int64) (v_markMany : Int32) (v_orderTold : Int32) (v_newSteps : Int32) (v_orderedMany : Int32) (v_orderBest : Int32) (v_allSixteenths : Int64) (v_safePage : Int32) (v_openMany : Int32) (v_product : Int64) (v_shares : Int64) (v_hasLived : Int32) (v_isOver : Int32) (v_random : Int32) (v_done : Int32) (v_missed : Int32) (v_turns : Int32) (v_found : Int32) (v_leftOver : Int32) (v_numbers : (Nat → Int64)) (v_trayMany : (Nat → Int32)) (v_traySort : (Nat → Int32)) : va_W := [(a_, oX12 v_status v_thrown v_above v_under a_traySort a_trayMany a_numbers a_tape v_taped v_textEnd v_faultKind v_faultAt v_bad v_badAt v_token v_at v_behind v_number v_letters v_word a_c a_kept a_words v_markMany v_orderTold v_newSteps a_row a_ordered a_orderWas v_orderedMany v_orderBest a_room v_allSixteenths v_safePage v_openMany v_product v_shares a_ways a_places a_livedLast a_before v_hasLived v_isOver v_random v_done v_missed v_turns v_found v_leftOver), (a_numbers, mp_aJ T 240 v_numbers), (a_trayMany, mp_aI T 4 v_trayMany), (a_traySort, mp_aI T 4 v_traySort)]
set_option maxHeartbeats 4000000 in
set_option maxRecDepth 100000 in
theorem c_X12_write (l : Launch) (D : va_G) (T : Nat → ClassId) (a_ a_traySort a_trayMany a_numbers a_tape a_c a_kept a_words a_row a_ordered a_orderWas a_room a_ways a_places a_livedLast a_before : Nat) (x1 : Int32) (x2 : Int32) (x3 : Int64) (v_above : Int64) (v_under : Int64) (v_taped : Int32) (v_textEnd : Int32) (v_faultKind : Int32) (v_faultAt : Int32) (v_bad : Int32) (v_badAt : Int32) (v_token : Int32) (v_at : Int32) (v_behind : Int32) (v_number : Int32) (v_letters : Int32) (v_word : Int64) (v_markMany : Int32) (v_orderTold : Int32) (v_newSteps : Int32) (v_orderedMany : Int32) (v_orderBest : Int32) (v_allSixteenths : Int64) (v_safePage : Int32) (v_openMany : Int32) (v_product : Int64) (v_shares : Int64) (v_hasLived : Int32) (v_isOver : Int32) (v_random : Int32) (v_done : Int32) (v_missed : Int32) (v_turns : Int32) (v_found : Int32) (v_leftOver : Int32) (v_status : Int32) (v_thrown : Int32) (v_numbers : (Nat → Int64)) (v_trayMany : (Nat → Int32)) (v_traySort : (Nat → Int32)) (r_ : Int32) (o_status : Int32) (o_thrown : Int32) (o_numbers : (Nat → Int64)) (hf : f_X12_write x1 x2 x3 v_status v_thrown v_numbers v_trayMany v_traySort = some (r_, o_status, o_thrown, o_numbers)) :
    mp_M l D T yX12_write cX12_write 5 (some .boolean) ({ frames := 2, cells := 0, slots := 0, locals := 44 }) 0 0 [.ref a_, .int x1, .int x2, .long x3] (k_X12_write T a_ a_traySort a_trayMany a_numbers a_tape a_c a_kept a_words a_row a_ordered a_orderWas a_room a_ways a_places a_livedLast a_before v_status v_thrown v_above v_under v_taped v_textEnd v_faultKind v_faultAt v_bad v_badAt v_token v_at v_behind v_number v_letters v_word v_markMany v_orderTold v_newSteps v_orderedMany v_orderBest v_allSixteenths v_safePage v_openMany v_product v_shares v_hasLived v_isOver v_random v_done v_missed v_turns v_found v_leftOver v_numbers v_trayMany v_traySort) (mp_Qi D r_ (k_X12_write T a_ a_traySort a_trayMany a_numbers a_tape a_c a_kept a_words a_row a_ordered a_orderWas a_room a_ways a_places a_livedLast a_before o_status o_thrown v_above v_under v_taped v_textEnd v_faultKind v_faultAt v_bad v_badAt v_token v_at v_behind v_number v_letters v_word v_markMany v_orderTold v_newSteps v_orderedMany v_orderBest v_allSixteenths v_safePage v_openMany v_product v_shares v_hasLived v_isOver v_random v_done v_missed v_turns v_found v_leftOver o_numbers v_trayMany v_traySort)) := by
  refine mp_of (by decide) (Nat.le_of_ble_eq_true rfl) rfl ?_
  intro p e s m args below meth c A ls X hK hP hD hS hA hl
  replace X : mp_X p s m meth c args RX12 "write" cX12_write 5 (some .boolean) := X
  have hx := X.1
  have hb := X.2.1
  have hml := X.2.2.1
  have hown := X.2.2.2.2.1
  have hts := X.2.2.2.2.2.1
  replace hl : lv_has ls 5 [(0, .ref a_), (1, .int x1), (2, .int x2), (3, .long x3)] := hl
  replace hf : bd_ (f_X12_placed x1 x2 v_trayMany) (fun (r1 : Int32) => (if r1 ≤ 0 then gi_ x1 4 (bd_ (f_X12_cut (v_traySort (x1).toNatClampNeg) x3) (fun (r5 : Int64) => gi_ (((nI 60) * x1) + x2) 240 (some ((nI 1), r1, (nI 0), vp_updL v_numbers (((nI 60) * x1) + x2).toNatClampNeg r5)))) else some ((nI 0), r1, (nI 0), v_numbers))) = some (r_, o_status, o_thrown, o_numbers) := hf
  refine lv_aload_n hx hb dX12_write_0 rfl (lv_at hl 0 rfl) ?_
  refine lv_iconst (v := (nI 0)) hx hb dX12_write_1 (by decide) ?_
  refine mp_putf X fl_X12_71 fp_X12 rfl hK hP (mp_D_of hD rfl) hS 0 rfl rfl rfl (Nat.le_of_ble_eq_true rfl) dX12_write_2 (fun H locs hP _ hS => ?_)
  replace hP : va_P D mp_cl (k_X12_write T a_ a_traySort a_trayMany a_numbers a_tape a_c a_kept a_words a_row a_ordered a_orderWas a_room a_ways a_places a_livedLast a_before v_status (nI 0) v_above v_under v_taped v_textEnd v_faultKind v_faultAt v_bad v_badAt v_token v_at v_behind v_number v_letters v_word v_markMany v_orderTold v_newSteps v_orderedMany v_orderBest v_allSixteenths v_safePage v_openMany v_product v_shares v_hasLived v_isOver v_random v_done v_missed v_turns v_found v_leftOver v_numbers v_trayMany v_traySort) H := hP
  refine lv_aload_n hx hb dX12_write_5 rfl (lv_at hl 0 rfl) ?_
  refine lv_aload_n hx hb dX12_write_6 rfl (lv_at hl 0 rfl) ?_
  refine lv_iload_n hx hb dX12_write_7 rfl (lv_at hl 1 rfl) ?_
  refine lv_iload_n hx hb dX12_write_8 rfl (lv_at hl 2 rfl) ?_
  obtain ⟨r1, c2, hf⟩ := bd_of hf
  have hPc := hP.sub (ws' := (k_X12_placed T a_ a_traySort a_trayMany a_numbers a_tape a_c a_kept a_words a_row a_ordered a_orderWas a_room a_ways a_places a_livedLast a_before v_status (nI 0) v_above v_under v_taped v_textEnd v_faultKind v_faultAt v_bad v_badAt v_token v_at v_behind v_number v_letters v_word v_markMany v_orderTold v_newSteps v_orderedMany v_orderBest v_allSixteenths v_safePage v_openMany v_product v_shares v_hasLived v_isOver v_random v_done v_missed v_turns v_found v_leftOver v_trayMany)) [0, 2] rfl
  have hDc := (mp_D_of (w1 := (k_X12_write T a_ a_traySort a_trayMany a_numbers a_tape a_c a_kept a_words a_row a_ordered a_orderWas a_room a_ways a_places a_livedLast a_before v_status (nI 0) v_above v_under v_taped v_textEnd v_faultKind v_faultAt v_bad v_badAt v_token v_at v_behind v_number v_letters v_word v_markMany v_orderTold v_newSteps v_orderedMany v_orderBest v_allSixteenths v_safePage v_openMany v_product v_shares v_hasLived v_isOver v_random v_done v_missed v_turns v_found v_leftOver v_numbers v_trayMany v_traySort)) hD rfl).sub (ws' := (k_X12_placed T a_ a_traySort a_trayMany a_numbers a_tape a_c a_kept a_words a_row a_ordered a_orderWas a_room a_ways a_places a_livedLast a_before v_status (nI 0) v_above v_under v_taped v_textEnd v_faultKind v_faultAt v_bad v_badAt v_token v_at v_behind v_number v_letters v_word v_markMany v_orderTold v_newSteps v_orderedMany v_orderBest v_allSixteenths v_safePage v_openMany v_product v_shares v_hasLived v_isOver v_random v_done v_missed v_turns v_found v_leftOver v_trayMany)) [0, 2] rfl rfl
  refine mp_calli (isC := [0, 2]) (wc := (k_X12_placed T a_ a_traySort a_trayMany a_numbers a_tape a_c a_kept a_words a_row a_ordered a_orderWas a_room a_ways a_places a_livedLast a_before v_status (nI 0) v_above v_under v_taped v_textEnd v_faultKind v_faultAt v_bad v_badAt v_token v_at v_behind v_number v_letters v_word v_markMany v_orderTold v_newSteps v_orderedMany v_orderBest v_allSixteenths v_safePage v_openMany v_product v_shares v_hasLived v_isOver v_random v_done v_missed v_turns v_found v_leftOver v_trayMany)) (w1 := (k_X12_placed T a_ a_traySort a_trayMany a_numbers a_tape a_c a_kept a_words a_row a_ordered a_orderWas a_room a_ways a_places a_livedLast a_before v_status (nI 0) v_above v_under v_taped v_textEnd v_faultKind v_faultAt v_bad v_badAt v_token v_at v_behind v_number v_letters v_word v_markMany v_orderTold v_newSteps v_orderedMany v_orderBest v_allSixteenths v_safePage v_openMany v_product v_shares v_hasLived v_isOver v_random v_done v_missed v_turns v_found v_leftOver v_trayMany)) hP (mp_D_of hD rfl) hS hA rfl rfl (mp_runV (As := [.int x1, .int x2]) (rest := [.ref a_]) X me_X12_placed lk_X12_94 (c_X12_placed l D T a_ a_traySort a_trayMany a_numbers a_tape a_c a_kept a_words a_row a_ordered a_orderWas a_room a_ways a_places a_livedLast a_before x1 x2 v_status (nI 0) v_above v_under v_taped v_textEnd v_faultKind v_faultAt v_bad v_badAt v_token v_at v_behind v_number v_letters v_word v_markMany v_orderTold v_newSteps v_orderedMany v_orderBest v_allSixteenths v_safePage v_openMany v_product v_shares v_hasLived v_isOver v_random v_done v_missed v_turns v_found v_leftOver v_trayMany r1 c2) rfl rfl ⟨(Nat.le_of_ble_eq_true rfl), (Nat.le_of_ble_eq_true rfl)⟩ hK hPc hDc rfl rfl rfl rfl hl.1 rfl (Nat.le_of_ble_eq_true rfl) dX12_write_9 ⟨Nat.zero_le _, Nat.zero_le _⟩) (fun H locs hP _ hS => ?_)
  replace hP : va_P D mp_cl (k_X12_write T a_ a_traySort a_trayMany a_numbers a_tape a_c a_kept a_words a_row a_ordered a_orderWas a_room a_ways a_places a_livedLast a_before v_status (nI 0) v_above v_under v_taped v_textEnd v_faultKind v_faultAt v_bad v_badAt v_token v_at v_behind v_number v_letters v_word v_markMany v_orderTold v_newSteps v_orderedMany v_orderBest v_allSixteenths v_safePage v_openMany v_product v_shares v_hasLived v_isOver v_random v_done v_missed v_turns v_found v_leftOver v_numbers v_trayMany v_traySort) H := hP
  refine mp_putf X fl_X12_74 fp_X12 rfl hK hP (mp_D_of hD rfl) hS 0 rfl rfl rfl (Nat.le_of_ble_eq_true rfl) dX12_write_12 (fun H locs hP _ hS => ?_)
  replace hP : va_P D mp_cl (k_X12_write T a_ a_traySort a_trayMany a_numbers a_tape a_c a_kept a_words a_row a_ordered a_orderWas a_room a_ways a_places a_livedLast a_before r1 (nI 0) v_above v_under v_taped v_textEnd v_faultKind v_faultAt v_bad v_badAt v_token v_at v_behind v_number v_letters v_word v_markMany v_orderTold v_newSteps v_orderedMany v_orderBest v_allSixteenths v_safePage v_openMany v_product v_shares v_hasLived v_isOver v_random v_done v_missed v_turns v_found v_leftOver v_numbers v_trayMany v_traySort) H := hP
  refine lv_aload_n hx hb dX12_write_15 rfl (lv_at hl 0 rfl) ?_
  refine mp_get X fl_X12_74 hK hP 0 rfl rfl dX12_write_16 ?_
  refine lv_if_le (tgt := 24) hx hb dX12_write_19 (by decide) (fun h3 => ?_) (fun h3 => ?_)
  · replace hf := if_t hf h3
    refine lv_aload_n hx hb dX12_write_24 rfl (lv_at hl 0 rfl) ?_
    refine mp_get X fl_X12_20 hK hP 0 rfl rfl dX12_write_25 ?_
    refine lv_bipush (v := (nI 60)) hx hb dX12_write_28 (by decide) ?_
    refine lv_iload_n hx hb dX12_write_30 rfl (lv_at hl 1 rfl) ?_
    refine lv_imul hx hb dX12_write_31 ?_
    refine lv_iload_n hx hb dX12_write_32 rfl (lv_at hl 2 rfl) ?_
    refine lv_iadd hx hb dX12_write_33 ?_
    refine lv_aload_n hx hb dX12_write_34 rfl (lv_at hl 0 rfl) ?_
    refine mp_get X fl_X12_13 hK hP 0 rfl rfl dX12_write_35 ?_
    refine lv_iload_n hx hb dX12_write_38 rfl (lv_at hl 1 rfl) ?_
    obtain ⟨h4, hf⟩ := gi_of hf
    refine va_iald hx hb hK hP 3 0 rfl rfl h4 dX12_write_39 ?_
    refine lv_lload_n hx hb dX12_write_40 rfl (lv_at hl 3 rfl) ?_
    obtain ⟨r5, c6, hf⟩ := bd_of hf
    have hPc := hP.sub (ws' := (k_X12_cut T )) [] rfl
    have hDc := (mp_D_of (w1 := (k_X12_write T a_ a_traySort a_trayMany a_numbers a_tape a_c a_kept a_words a_row a_ordered a_orderWas a_room a_ways a_places a_livedLast a_before r1 (nI 0) v_above v_under v_taped v_textEnd v_faultKind v_faultAt v_bad v_badAt v_token v_at v_behind v_number v_letters v_word v_markMany v_orderTold v_newSteps v_orderedMany v_orderBest v_allSixteenths v_safePage v_openMany v_product v_shares v_hasLived v_isOver v_random v_done v_missed v_turns v_found v_leftOver v_numbers v_trayMany v_traySort)) hD rfl).sub (ws' := (k_X12_cut T )) [] rfl rfl
    refine mp_calll (isC := []) (wc := (k_X12_cut T )) (w1 := (k_X12_cut T )) hP (mp_D_of hD rfl) hS hA rfl rfl (mp_runS (As := [.int (v_traySort (x1).toNatClampNeg), .long x3]) (rest := [.int (((nI 60) * x1) + x2), .ref a_numbers]) X me_X12_cut lk_X12_98 (c_X12_cut l D T (v_traySort (x1).toNatClampNeg) x3 r5 c6) rfl rfl ⟨(Nat.le_of_ble_eq_true rfl), (Nat.le_of_ble_eq_true rfl)⟩ hK hPc hDc rfl hl.1 rfl (Nat.le_of_ble_eq_true rfl) dX12_write_41 ⟨Nat.zero_le _, Nat.zero_le _⟩) (fun H locs hP _ hS => ?_)
    replace hP : va_P D mp_cl (k_X12_write T a_ a_traySort a_trayMany a_numbers a_tape a_c a_kept a_words a_row a_ordered a_orderWas a_room a_ways a_places a_livedLast a_before r1 (nI 0) v_above v_under v_taped v_textEnd v_faultKind v_faultAt v_bad v_badAt v_token v_at v_behind v_number v_letters v_word v_markMany v_orderTold v_newSteps v_orderedMany v_orderBest v_allSixteenths v_safePage v_openMany v_product v_shares v_hasLived v_isOver v_random v_done v_missed v_turns v_found v_leftOver v_numbers v_trayMany v_traySort) H := hP
    obtain ⟨h7, hf⟩ := gi_of hf
    refine va_last hx hb hK hP (mp_D_of hD rfl) hS 1 1 rfl rfl h7 dX12_write_44 (fun H locs hP _ hS => ?_)
    replace hP : va_P D mp_cl (k_X12_write T a_ a_traySort a_trayMany a_numbers a_tape a_c a_kept a_words a_row a_ordered a_orderWas a_room a_ways a_places a_livedLast a_before r1 (nI 0) v_above v_under v_taped v_textEnd v_faultKind v_faultAt v_bad v_badAt v_token v_at v_behind v_number v_letters v_word v_markMany v_orderTold v_newSteps v_orderedMany v_orderBest v_allSixteenths v_safePage v_openMany v_product v_shares v_hasLived v_isOver v_random v_done v_missed v_turns v_found v_leftOver (vp_updL v_numbers (((nI 60) * x1) + x2).toNatClampNeg r5) v_trayMany v_traySort) H := hP
    refine lv_iconst (v := (nI 1)) hx hb dX12_write_45 (by decide) ?_
    cases hf
    exact mp_retz X hP hS rfl (Or.inr rfl) dX12_write_46
  · replace hf := if_f hf h3
    refine lv_iconst (v := (nI 0)) hx hb dX12_write_22 (by decide) ?_
    cases hf
    exact mp_retz X hP hS rfl (Or.inl rfl) dX12_write_23


def k_X12_read (T : Nat → ClassId) (a_ a_traySort a_trayMany a_numbers a_tape a_c a_kept a_words a_row a_ordered a_orderWas a_room a_ways a_places a_livedLast a_before : Nat) (v_status : Int32) (v_thrown : Int32) (v_above : Int64) (v_under : Int64) (v_taped : Int32) (v_textEnd : Int32) (v_faultKind : Int32) (v_faultAt : Int32) (v_bad : Int32) (v_badAt : Int32) (v_token : Int32) (v_at : Int32) (v_behind : Int32) (v_number : Int32) (v_letters : Int32) (v_word : Int64) (v_markMany : Int32) (v_orderTold : Int32) (v_newSteps : Int32) (v_orderedMany : Int32) (v_orderBest : Int32) (v_allSixteenths : Int64) (v_safePage : Int32) (v_openMany : Int32) (v_product : Int64) (v_shares : Int64) (v_hasLived : Int32) (v_isOver : Int32) (v_random : Int32) (v_done : Int32) (v_missed : Int32) (v_turns : Int32) (v_found : Int32) (v_leftOver : Int32) (v_numbers : (Nat → Int64)) (v_trayMany : (Nat → Int32)) : va_W := [(a_, oX12 v_status v_thrown v_above v_under a_traySort a_trayMany a_numbers a_tape v_taped v_textEnd v_faultKind v_faultAt v_bad v_badAt v_token v_at v_behind v_number v_letters v_word a_c a_kept a_words v_markMany v_orderTold v_newSteps a_row a_ordered a_orderWas v_orderedMany v_orderBest a_room v_allSixteenths v_safePage v_openMany v_product v_shares a_ways a_places a_livedLast a_before v_hasLived v_isOver v_random v_done v_missed v_turns v_found v_leftOver), (a_numbers, mp_aJ T 240 v_numbers), (a_trayMany, mp_aI T 4 v_trayMany)]
set_option maxHeartbeats 4000000 in
set_option maxRecDepth 100000 in
theorem c_X12_read (l : Launch) (D : va_G) (T : Nat → ClassId) (a_ a_traySort a_trayMany a_numbers a_tape a_c a_kept a_words a_row a_ordered a_orderWas a_room a_ways a_places a_livedLast a_before : Nat) (x1 : Int32) (x2 : Int32) (v_above : Int64) (v_under : Int64) (v_taped : Int32) (v_textEnd : Int32) (v_faultKind : Int32) (v_faultAt : Int32) (v_bad : Int32) (v_badAt : Int32) (v_token : Int32) (v_at : Int32) (v_behind : Int32) (v_number : Int32) (v_letters : Int32) (v_word : Int64) (v_markMany : Int32) (v_orderTold : Int32) (v_newSteps : Int32) (v_orderedMany : Int32) (v_orderBest : Int32) (v_allSixteenths : Int64) (v_safePage : Int32) (v_openMany : Int32) (v_product : Int64) (v_shares : Int64) (v_hasLived : Int32) (v_isOver : Int32) (v_random : Int32) (v_done : Int32) (v_missed : Int32) (v_turns : Int32) (v_found : Int32) (v_leftOver : Int32) (v_status : Int32) (v_thrown : Int32) (v_numbers : (Nat → Int64)) (v_trayMany : (Nat → Int32)) (r_ : Int64) (o_status : Int32) (o_thrown : Int32) (hf : f_X12_read x1 x2 v_status v_thrown v_numbers v_trayMany = some (r_, o_status, o_thrown)) :
    mp_M l D T yX12_read cX12_read 3 (some .long) ({ frames := 2, cells := 0, slots := 0, locals := 44 }) 0 0 [.ref a_, .int x1, .int x2] (k_X12_read T a_ a_traySort a_trayMany a_numbers a_tape a_c a_kept a_words a_row a_ordered a_orderWas a_room a_ways a_places a_livedLast a_before v_status v_thrown v_above v_under v_taped v_textEnd v_faultKind v_faultAt v_bad v_badAt v_token v_at v_behind v_number v_letters v_word v_markMany v_orderTold v_newSteps v_orderedMany v_orderBest v_allSixteenths v_safePage v_openMany v_product v_shares v_hasLived v_isOver v_random v_done v_missed v_turns v_found v_leftOver v_numbers v_trayMany) (mp_Ql D r_ (k_X12_read T a_ a_traySort a_trayMany a_numbers a_tape a_c a_kept a_words a_row a_ordered a_orderWas a_room a_ways a_places a_livedLast a_before o_status o_thrown v_above v_under v_taped v_textEnd v_faultKind v_faultAt v_bad v_badAt v_token v_at v_behind v_number v_letters v_word v_markMany v_orderTold v_newSteps v_orderedMany v_orderBest v_allSixteenths v_safePage v_openMany v_product v_shares v_hasLived v_isOver v_random v_done v_missed v_turns v_found v_leftOver v_numbers v_trayMany)) := by
  refine mp_of (by decide) (Nat.le_of_ble_eq_true rfl) rfl ?_
  intro p e s m args below meth c A ls X hK hP hD hS hA hl
  replace X : mp_X p s m meth c args RX12 "read" cX12_read 3 (some .long) := X
  have hx := X.1
  have hb := X.2.1
  have hml := X.2.2.1
  have hown := X.2.2.2.2.1
  have hts := X.2.2.2.2.2.1
  replace hl : lv_has ls 3 [(0, .ref a_), (1, .int x1), (2, .int x2)] := hl
  replace hf : bd_ (f_X12_placed x1 x2 v_trayMany) (fun (r1 : Int32) => (if r1 ≤ 0 then gi_ (((nI 60) * x1) + x2) 240 (some (v_numbers (((nI 60) * x1) + x2).toNatClampNeg, r1, (nI 0))) else some ((-1 : Int64), r1, (nI 0)))) = some (r_, o_status, o_thrown) := hf
  refine lv_aload_n hx hb dX12_read_0 rfl (lv_at hl 0 rfl) ?_
  refine lv_iconst (v := (nI 0)) hx hb dX12_read_1 (by decide) ?_
  refine mp_putf X fl_X12_71 fp_X12 rfl hK hP (mp_D_of hD rfl) hS 0 rfl rfl rfl (Nat.le_of_ble_eq_true rfl) dX12_read_2 (fun H locs hP _ hS => ?_)
  replace hP : va_P D mp_cl (k_X12_read T a_ a_traySort a_trayMany a_numbers a_tape a_c a_kept a_words a_row a_ordered a_orderWas a_room a_ways a_places a_livedLast a_before v_status (nI 0) v_above v_under v_taped v_textEnd v_faultKind v_faultAt v_bad v_badAt v_token v_at v_behind v_number v_letters v_word v_markMany v_orderTold v_newSteps v_orderedMany v_orderBest v_allSixteenths v_safePage v_openMany v_product v_shares v_hasLived v_isOver v_random v_done v_missed v_turns v_found v_leftOver v_numbers v_trayMany) H := hP
  refine lv_aload_n hx hb dX12_read_5 rfl (lv_at hl 0 rfl) ?_
  refine lv_aload_n hx hb dX12_read_6 rfl (lv_at hl 0 rfl) ?_
  refine lv_iload_n hx hb dX12_read_7 rfl (lv_at hl 1 rfl) ?_
  refine lv_iload_n hx hb dX12_read_8 rfl (lv_at hl 2 rfl) ?_
  obtain ⟨r1, c2, hf⟩ := bd_of hf
  have hPc := hP.sub (ws' := (k_X12_placed T a_ a_traySort a_trayMany a_numbers a_tape a_c a_kept a_words a_row a_ordered a_orderWas a_room a_ways a_places a_livedLast a_before v_status (nI 0) v_above v_under v_taped v_textEnd v_faultKind v_faultAt v_bad v_badAt v_token v_at v_behind v_number v_letters v_word v_markMany v_orderTold v_newSteps v_orderedMany v_orderBest v_allSixteenths v_safePage v_openMany v_product v_shares v_hasLived v_isOver v_random v_done v_missed v_turns v_found v_leftOver v_trayMany)) [0, 2] rfl
  have hDc := (mp_D_of (w1 := (k_X12_read T a_ a_traySort a_trayMany a_numbers a_tape a_c a_kept a_words a_row a_ordered a_orderWas a_room a_ways a_places a_livedLast a_before v_status (nI 0) v_above v_under v_taped v_textEnd v_faultKind v_faultAt v_bad v_badAt v_token v_at v_behind v_number v_letters v_word v_markMany v_orderTold v_newSteps v_orderedMany v_orderBest v_allSixteenths v_safePage v_openMany v_product v_shares v_hasLived v_isOver v_random v_done v_missed v_turns v_found v_leftOver v_numbers v_trayMany)) hD rfl).sub (ws' := (k_X12_placed T a_ a_traySort a_trayMany a_numbers a_tape a_c a_kept a_words a_row a_ordered a_orderWas a_room a_ways a_places a_livedLast a_before v_status (nI 0) v_above v_under v_taped v_textEnd v_faultKind v_faultAt v_bad v_badAt v_token v_at v_behind v_number v_letters v_word v_markMany v_orderTold v_newSteps v_orderedMany v_orderBest v_allSixteenths v_safePage v_openMany v_product v_shares v_hasLived v_isOver v_random v_done v_missed v_turns v_found v_leftOver v_trayMany)) [0, 2] rfl rfl
  refine mp_calli (isC := [0, 2]) (wc := (k_X12_placed T a_ a_traySort a_trayMany a_numbers a_tape a_c a_kept a_words a_row a_ordered a_orderWas a_room a_ways a_places a_livedLast a_before v_status (nI 0) v_above v_under v_taped v_textEnd v_faultKind v_faultAt v_bad v_badAt v_token v_at v_behind v_number v_letters v_word v_markMany v_orderTold v_newSteps v_orderedMany v_orderBest v_allSixteenths v_safePage v_openMany v_product v_shares v_hasLived v_isOver v_random v_done v_missed v_turns v_found v_leftOver v_trayMany)) (w1 := (k_X12_placed T a_ a_traySort a_trayMany a_numbers a_tape a_c a_kept a_words a_row a_ordered a_orderWas a_room a_ways a_places a_livedLast a_before v_status (nI 0) v_above v_under v_taped v_textEnd v_faultKind v_faultAt v_bad v_badAt v_token v_at v_behind v_number v_letters v_word v_markMany v_orderTold v_newSteps v_orderedMany v_orderBest v_allSixteenths v_safePage v_openMany v_product v_shares v_hasLived v_isOver v_random v_done v_missed v_turns v_found v_leftOver v_trayMany)) hP (mp_D_of hD rfl) hS hA rfl rfl (mp_runV (As := [.int x1, .int x2]) (rest := [.ref a_]) X me_X12_placed lk_X12_94 (c_X12_placed l D T a_ a_traySort a_trayMany a_numbers a_tape a_c a_kept a_words a_row a_ordered a_orderWas a_room a_ways a_places a_livedLast a_before x1 x2 v_status (nI 0) v_above v_under v_taped v_textEnd v_faultKind v_faultAt v_bad v_badAt v_token v_at v_behind v_number v_letters v_word v_markMany v_orderTold v_newSteps v_orderedMany v_orderBest v_allSixteenths v_safePage v_openMany v_product v_shares v_hasLived v_isOver v_random v_done v_missed v_turns v_found v_leftOver v_trayMany r1 c2) rfl rfl ⟨(Nat.le_of_ble_eq_true rfl), (Nat.le_of_ble_eq_true rfl)⟩ hK hPc hDc rfl rfl rfl rfl hl.1 rfl (Nat.le_of_ble_eq_true rfl) dX12_read_9 ⟨Nat.zero_le _, Nat.zero_le _⟩) (fun H locs hP _ hS => ?_)
  replace hP : va_P D mp_cl (k_X12_read T a_ a_traySort a_trayMany a_numbers a_tape a_c a_kept a_words a_row a_ordered a_orderWas a_room a_ways a_places a_livedLast a_before v_status (nI 0) v_above v_under v_taped v_textEnd v_faultKind v_faultAt v_bad v_badAt v_token v_at v_behind v_number v_letters v_word v_markMany v_orderTold v_newSteps v_orderedMany v_orderBest v_allSixteenths v_safePage v_openMany v_product v_shares v_hasLived v_isOver v_random v_done v_missed v_turns v_found v_leftOver v_numbers v_trayMany) H := hP
  refine mp_putf X fl_X12_74 fp_X12 rfl hK hP (mp_D_of hD rfl) hS 0 rfl rfl rfl (Nat.le_of_ble_eq_true rfl) dX12_read_12 (fun H locs hP _ hS => ?_)
  replace hP : va_P D mp_cl (k_X12_read T a_ a_traySort a_trayMany a_numbers a_tape a_c a_kept a_words a_row a_ordered a_orderWas a_room a_ways a_places a_livedLast a_before r1 (nI 0) v_above v_under v_taped v_textEnd v_faultKind v_faultAt v_bad v_badAt v_token v_at v_behind v_number v_letters v_word v_markMany v_orderTold v_newSteps v_orderedMany v_orderBest v_allSixteenths v_safePage v_openMany v_product v_shares v_hasLived v_isOver v_random v_done v_missed v_turns v_found v_leftOver v_numbers v_trayMany) H := hP
  refine lv_aload_n hx hb dX12_read_15 rfl (lv_at hl 0 rfl) ?_
  refine mp_get X fl_X12_74 hK hP 0 rfl rfl dX12_read_16 ?_
  refine lv_if_le (tgt := 28) hx hb dX12_read_19 (by decide) (fun h3 => ?_) (fun h3 => ?_)
  · replace hf := if_t hf h3
    refine lv_aload_n hx hb dX12_read_28 rfl (lv_at hl 0 rfl) ?_
    refine mp_get X fl_X12_20 hK hP 0 rfl rfl dX12_read_29 ?_
    refine lv_bipush (v := (nI 60)) hx hb dX12_read_32 (by decide) ?_
    refine lv_iload_n hx hb dX12_read_34 rfl (lv_at hl 1 rfl) ?_
    refine lv_imul hx hb dX12_read_35 ?_
    refine lv_iload_n hx hb dX12_read_36 rfl (lv_at hl 2 rfl) ?_
    refine lv_iadd hx hb dX12_read_37 ?_
    obtain ⟨h4, hf⟩ := gi_of hf
    refine va_lald hx hb hK hP 1 1 rfl rfl h4 dX12_read_38 ?_
    cases hf
    exact mp_retl X hP hS rfl dX12_read_39
  · replace hf := if_f hf h3
    refine lv_ldc2 (v := (-1 : Int64)) hx hb hown (hts _ (cw_X12_102)) dX12_read_22 ?_
    refine lv_goto (tgt := 39) hx hb dX12_read_25 (by decide) ?_
    cases hf
    exact mp_retl X hP hS rfl dX12_read_39


def k_X12_pour (T : Nat → ClassId) (a_ a_traySort a_trayMany a_numbers a_tape a_c a_kept a_words a_row a_ordered a_orderWas a_room a_ways a_places a_livedLast a_before : Nat) (v_status : Int32) (v_thrown : Int32) (v_above : Int64) (v_under : Int64) (v_taped : Int32) (v_textEnd : Int32) (v_faultKind : Int32) (v_faultAt : Int32) (v_bad : Int32) (v_badAt : Int32) (v_token : Int32) (v_at : Int32) (v_behind : Int32) (v_number : Int32) (v_letters : Int32) (v_word : Int64) (v_markMany : Int32) (v_orderTold : Int32) (v_newSteps : Int32) (v_orderedMany : Int32) (v_orderBest : Int32) (v_allSixteenths : Int64) (v_safePage : Int32) (v_openMany : Int32) (v_product : Int64) (v_shares : Int64) (v_hasLived : Int32) (v_isOver : Int32) (v_random : Int32) (v_done : Int32) (v_missed : Int32) (v_turns : Int32) (v_found : Int32) (v_leftOver : Int32) (v_numbers : (Nat → Int64)) (v_trayMany : (Nat → Int32)) (v_traySort : (Nat → Int32)) : va_W := [(a_, oX12 v_status v_thrown v_above v_under a_traySort a_trayMany a_numbers a_tape v_taped v_textEnd v_faultKind v_faultAt v_bad v_badAt v_token v_at v_behind v_number v_letters v_word a_c a_kept a_words v_markMany v_orderTold v_newSteps a_row a_ordered a_orderWas v_orderedMany v_orderBest a_room v_allSixteenths v_safePage v_openMany v_product v_shares a_ways a_places a_livedLast a_before v_hasLived v_isOver v_random v_done v_missed v_turns v_found v_leftOver), (a_numbers, mp_aJ T 240 v_numbers), (a_trayMany, mp_aI T 4 v_trayMany), (a_traySort, mp_aI T 4 v_traySort)]
set_option maxHeartbeats 4000000 in
set_option maxRecDepth 100000 in
theorem w_X12_pour_182 {p : Program} {l : Launch} {e : Env} {s : State} {m : MethodId} {args : Array Value} {below : List Frame} {meth : Method} {c : Code} {D : va_G} {T : Nat → ClassId} {A : Nat → Prop} (X : mp_X p s m meth c args RX12 "pour" cX12_pour 9 (some .boolean)) (hK : va_K D mp_cl (mp_ty T) s) (hA : ∀ q, s.heap.size ≤ q → A q) (fu : Nat) (a_ a_traySort a_trayMany a_numbers a_tape a_c a_kept a_words a_row a_ordered a_orderWas a_room a_ways a_places a_livedLast a_before : Nat) (v_above : Int64) (v_under : Int64) (v_taped : Int32) (v_textEnd : Int32) (v_faultKind : Int32) (v_faultAt : Int32) (v_bad : Int32) (v_badAt : Int32) (v_token : Int32) (v_at : Int32) (v_behind : Int32) (v_number : Int32) (v_letters : Int32) (v_word : Int64) (v_markMany : Int32) (v_orderTold : Int32) (v_newSteps : Int32) (v_orderedMany : Int32) (v_orderBest : Int32) (v_allSixteenths : Int64) (v_safePage : Int32) (v_openMany : Int32) (v_product : Int64) (v_shares : Int64) (v_hasLived : Int32) (v_isOver : Int32) (v_random : Int32) (v_done : Int32) (v_missed : Int32) (v_turns : Int32) (v_found : Int32) (v_leftOver : Int32) (v_trayMany : (Nat → Int32)) (v_traySort : (Nat → Int32)) (r_ : Int32) (o_status : Int32) (o_thrown : Int32) (o_numbers : (Nat → Int64)) (K158 : Int32 → Int32 → Int32 → Int32 → Int32 → Int32 → Int32 → Int32 → Int32 → (Nat → Int64) → Option (Int32 × Int32 × Int32 × (Nat → Int64))) (hK158 : ∀ (z1 : Int32) (z2 : Int32) (z3 : Int32) (z4 : Int32) (z5 : Int32) (z6 : Int32) (z7 : Int32) (v_status : Int32) (v_thrown : Int32) (v_numbers : (Nat → Int64)), K158 z1 z2 z3 z4 z5 z6 z7 v_status v_thrown v_numbers = some (r_, o_status, o_thrown, o_numbers) → ∀ (H : Heap) (locs : List Loc) (ls : Array Slot), va_P D mp_cl (k_X12_pour T a_ a_traySort a_trayMany a_numbers a_tape a_c a_kept a_words a_row a_ordered a_orderWas a_room a_ways a_places a_livedLast a_before v_status v_thrown v_above v_under v_taped v_textEnd v_faultKind v_faultAt v_bad v_badAt v_token v_at v_behind v_number v_letters v_word v_markMany v_orderTold v_newSteps v_orderedMany v_orderBest v_allSixteenths v_safePage v_openMany v_product v_shares v_hasLived v_isOver v_random v_done v_missed v_turns v_found v_leftOver v_numbers v_trayMany v_traySort) H → va_D A (k_X12_pour T a_ a_traySort a_trayMany a_numbers a_tape a_c a_kept a_words a_row a_ordered a_orderWas a_room a_ways a_places a_livedLast a_before v_status v_thrown v_above v_under v_taped v_textEnd v_faultKind v_faultAt v_bad v_badAt v_token v_at v_behind v_number v_letters v_word v_markMany v_orderTold v_newSteps v_orderedMany v_orderBest v_allSixteenths v_safePage v_openMany v_product v_shares v_hasLived v_isOver v_random v_done v_missed v_turns v_found v_leftOver v_numbers v_trayMany v_traySort) → va_S A s.heap H locs → lv_has ls 9 [(0, .ref a_), (1, .int z1), (2, .int z2), (3, .int z3), (4, .int z4), (5, .int z5), (6, .int z6), (7, .int z7)] → W p l e ({ frames := 1, cells := 0, slots := 0, locals := 21 }) s m args below meth c H locs 0 0 (MQ below ((mp_Qi D r_ (k_X12_pour T a_ a_traySort a_trayMany a_numbers a_tape a_c a_kept a_words a_row a_ordered a_orderWas a_room a_ways a_places a_livedLast a_before o_status o_thrown v_above v_under v_taped v_textEnd v_faultKind v_faultAt v_bad v_badAt v_token v_at v_behind v_number v_letters v_word v_markMany v_orderTold v_newSteps v_orderedMany v_orderBest v_allSixteenths v_safePage v_openMany v_product v_shares v_hasLived v_isOver v_random v_done v_missed v_turns v_found v_leftOver o_numbers v_trayMany v_traySort)) A) args s 0 0 A) (F0 m 158 ls [])) :
    ∀  (z1 : Int32) (z2 : Int32) (z3 : Int32) (z4 : Int32) (z5 : Int32) (z6 : Int32) (z7 : Int32) (w0 : Int32) (v_status : Int32) (v_thrown : Int32) (v_numbers : (Nat → Int64)), f_X12_pour_182 fu v_trayMany v_traySort K158 z1 z2 z3 z4 z5 z6 z7 w0 v_status v_thrown v_numbers = some (r_, o_status, o_thrown, o_numbers) → ∀ (H : Heap) (locs : List Loc) (ls : Array Slot), va_P D mp_cl (k_X12_pour T a_ a_traySort a_trayMany a_numbers a_tape a_c a_kept a_words a_row a_ordered a_orderWas a_room a_ways a_places a_livedLast a_before v_status v_thrown v_above v_under v_taped v_textEnd v_faultKind v_faultAt v_bad v_badAt v_token v_at v_behind v_number v_letters v_word v_markMany v_orderTold v_newSteps v_orderedMany v_orderBest v_allSixteenths v_safePage v_openMany v_product v_shares v_hasLived v_isOver v_random v_done v_missed v_turns v_found v_leftOver v_numbers v_trayMany v_traySort) H → va_D A (k_X12_pour T a_ a_traySort a_trayMany a_numbers a_tape a_c a_kept a_words a_row a_ordered a_orderWas a_room a_ways a_places a_livedLast a_before v_status v_thrown v_above v_under v_taped v_textEnd v_faultKind v_faultAt v_bad v_badAt v_token v_at v_behind v_number v_letters v_word v_markMany v_orderTold v_newSteps v_orderedMany v_orderBest v_allSixteenths v_safePage v_openMany v_product v_shares v_hasLived v_isOver v_random v_done v_missed v_turns v_found v_leftOver v_numbers v_trayMany v_traySort) → va_S A s.heap H locs → lv_has ls 9 [(0, .ref a_), (1, .int z1), (2, .int z2), (3, .int z3), (4, .int z4), (5, .int z5), (6, .int z6), (7, .int z7)] → W p l e ({ frames := 1, cells := 0, slots := 0, locals := 21 }) s m args below meth c H locs 0 0 (MQ below ((mp_Qi D r_ (k_X12_pour T a_ a_traySort a_trayMany a_numbers a_tape a_c a_kept a_words a_row a_ordered a_orderWas a_room a_ways a_places a_livedLast a_before o_status o_thrown v_above v_under v_taped v_textEnd v_faultKind v_faultAt v_bad v_badAt v_token v_at v_behind v_number v_letters v_word v_markMany v_orderTold v_newSteps v_orderedMany v_orderBest v_allSixteenths v_safePage v_openMany v_product v_shares v_hasLived v_isOver v_random v_done v_missed v_turns v_found v_leftOver o_numbers v_trayMany v_traySort)) A) args s 0 0 A) (F0 m 182 ls [.int w0]) := by
  have hx := X.1
  have hb := X.2.1
  have hml := X.2.2.1
  have hown := X.2.2.2.2.1
  have hts := X.2.2.2.2.2.1
  intro z1 z2 z3 z4 z5 z6 z7 w0 v_status v_thrown v_numbers hf H locs ls hP hD hS hl
  replace hf : gi_ ((((nI 60) * z1) + z2) + w0) 240 (lt_ (v_numbers ((((nI 60) * z1) + z2) + w0).toNatClampNeg) (fun (y2 : Int64) => gi_ ((((nI 60) * z3) + z4) + w0) 240 (lt_ (z7 + (nI 1)) (fun (y4 : Int32) => K158 z1 z2 z3 z4 z5 z6 y4 v_status v_thrown (vp_updL v_numbers ((((nI 60) * z3) + z4) + w0).toNatClampNeg y2))))) = some (r_, o_status, o_thrown, o_numbers) := hf
  refine lv_istore (lv' := [(8, .int w0), (0, .ref a_), (1, .int z1), (2, .int z2), (3, .int z3), (4, .int z4), (5, .int z5), (6, .int z6), (7, .int z7)]) hx hb dX12_pour_182 hl (by decide) rfl (fun ls hl => ?_)
  refine lv_aload_n hx hb dX12_pour_184 rfl (lv_at hl 1 rfl) ?_
  refine mp_get X fl_X12_20 hK hP 0 rfl rfl dX12_pour_185 ?_
  refine lv_bipush (v := (nI 60)) hx hb dX12_pour_188 (by decide) ?_
  refine lv_iload_n hx hb dX12_pour_190 rfl (lv_at hl 4 rfl) ?_
  refine lv_imul hx hb dX12_pour_191 ?_
  refine lv_iload hx hb dX12_pour_192 (lv_at hl 5 rfl) ?_
  refine lv_iadd hx hb dX12_pour_194 ?_
  refine lv_iload hx hb dX12_pour_195 (lv_at hl 0 rfl) ?_
  refine lv_iadd hx hb dX12_pour_197 ?_
  refine lv_aload_n hx hb dX12_pour_198 rfl (lv_at hl 1 rfl) ?_
  refine mp_get X fl_X12_20 hK hP 0 rfl rfl dX12_pour_199 ?_
  refine lv_bipush (v := (nI 60)) hx hb dX12_pour_202 (by decide) ?_
  refine lv_iload_n hx hb dX12_pour_204 rfl (lv_at hl 2 rfl) ?_
  refine lv_imul hx hb dX12_pour_205 ?_
  refine lv_iload_n hx hb dX12_pour_206 rfl (lv_at hl 3 rfl) ?_
  refine lv_iadd hx hb dX12_pour_207 ?_
  refine lv_iload hx hb dX12_pour_208 (lv_at hl 0 rfl) ?_
  refine lv_iadd hx hb dX12_pour_210 ?_
  obtain ⟨h1, hf⟩ := gi_of hf
  refine va_lald hx hb hK hP 1 1 rfl rfl h1 dX12_pour_211 ?_
  refine lv_topl (fun y2 e2 => ?_)
  replace hf := lt_of e2 hf
  obtain ⟨h3, hf⟩ := gi_of hf
  refine va_last hx hb hK hP (mp_D_of hD rfl) hS 1 1 rfl rfl h3 dX12_pour_212 (fun H locs hP _ hS => ?_)
  replace hP : va_P D mp_cl (k_X12_pour T a_ a_traySort a_trayMany a_numbers a_tape a_c a_kept a_words a_row a_ordered a_orderWas a_room a_ways a_places a_livedLast a_before v_status v_thrown v_above v_under v_taped v_textEnd v_faultKind v_faultAt v_bad v_badAt v_token v_at v_behind v_number v_letters v_word v_markMany v_orderTold v_newSteps v_orderedMany v_orderBest v_allSixteenths v_safePage v_openMany v_product v_shares v_hasLived v_isOver v_random v_done v_missed v_turns v_found v_leftOver (vp_updL v_numbers ((((nI 60) * z3) + z4) + w0).toNatClampNeg y2) v_trayMany v_traySort) H := hP
  obtain ⟨y4, e4⟩ : ∃ y : Int32, y = z7 + (nI 1) := ⟨_, rfl⟩
  replace hf := lt_of e4 hf
  refine lv_iinc (v := y4) (lv' := [(7, .int y4), (8, .int w0), (0, .ref a_), (1, .int z1), (2, .int z2), (3, .int z3), (4, .int z4), (5, .int z5), (6, .int z6)]) hx hb dX12_pour_213 hl (k := 8) rfl (by rw [e4]; rfl) (by decide) rfl (fun ls hl => ?_)
  refine lv_goto (tgt := 158) hx hb dX12_pour_216 (by decide) ?_
  exact hK158 z1 z2 z3 z4 z5 z6 y4 v_status v_thrown (vp_updL v_numbers ((((nI 60) * z3) + z4) + w0).toNatClampNeg y2) hf _ _ _ hP (mp_D_of hD rfl) hS (lv_sub hl [2, 3, 4, 5, 6, 7, 8, 0] rfl)

set_option maxHeartbeats 4000000 in
set_option maxRecDepth 100000 in
theorem w_X12_pour_158 {p : Program} {l : Launch} {e : Env} {s : State} {m : MethodId} {args : Array Value} {below : List Frame} {meth : Method} {c : Code} {D : va_G} {T : Nat → ClassId} {A : Nat → Prop} (X : mp_X p s m meth c args RX12 "pour" cX12_pour 9 (some .boolean)) (hK : va_K D mp_cl (mp_ty T) s) (hA : ∀ q, s.heap.size ≤ q → A q) (fu : Nat) (a_ a_traySort a_trayMany a_numbers a_tape a_c a_kept a_words a_row a_ordered a_orderWas a_room a_ways a_places a_livedLast a_before : Nat) (v_above : Int64) (v_under : Int64) (v_taped : Int32) (v_textEnd : Int32) (v_faultKind : Int32) (v_faultAt : Int32) (v_bad : Int32) (v_badAt : Int32) (v_token : Int32) (v_at : Int32) (v_behind : Int32) (v_number : Int32) (v_letters : Int32) (v_word : Int64) (v_markMany : Int32) (v_orderTold : Int32) (v_newSteps : Int32) (v_orderedMany : Int32) (v_orderBest : Int32) (v_allSixteenths : Int64) (v_safePage : Int32) (v_openMany : Int32) (v_product : Int64) (v_shares : Int64) (v_hasLived : Int32) (v_isOver : Int32) (v_random : Int32) (v_done : Int32) (v_missed : Int32) (v_turns : Int32) (v_found : Int32) (v_leftOver : Int32) (v_trayMany : (Nat → Int32)) (v_traySort : (Nat → Int32)) (r_ : Int32) (o_status : Int32) (o_thrown : Int32) (o_numbers : (Nat → Int64)) :
    ∀ (n : Nat) (z1 : Int32) (z2 : Int32) (z3 : Int32) (z4 : Int32) (z5 : Int32) (z6 : Int32) (z7 : Int32) (v_status : Int32) (v_thrown : Int32) (v_numbers : (Nat → Int64)), f_X12_pour_158 fu v_trayMany v_traySort  n z1 z2 z3 z4 z5 z6 z7 v_status v_thrown v_numbers = some (r_, o_status, o_thrown, o_numbers) → ∀ (H : Heap) (locs : List Loc) (ls : Array Slot), va_P D mp_cl (k_X12_pour T a_ a_traySort a_trayMany a_numbers a_tape a_c a_kept a_words a_row a_ordered a_orderWas a_room a_ways a_places a_livedLast a_before v_status v_thrown v_above v_under v_taped v_textEnd v_faultKind v_faultAt v_bad v_badAt v_token v_at v_behind v_number v_letters v_word v_markMany v_orderTold v_newSteps v_orderedMany v_orderBest v_allSixteenths v_safePage v_openMany v_product v_shares v_hasLived v_isOver v_random v_done v_missed v_turns v_found v_leftOver v_numbers v_trayMany v_traySort) H → va_D A (k_X12_pour T a_ a_traySort a_trayMany a_numbers a_tape a_c a_kept a_words a_row a_ordered a_orderWas a_room a_ways a_places a_livedLast a_before v_status v_thrown v_above v_under v_taped v_textEnd v_faultKind v_faultAt v_bad v_badAt v_token v_at v_behind v_number v_letters v_word v_markMany v_orderTold v_newSteps v_orderedMany v_orderBest v_allSixteenths v_safePage v_openMany v_product v_shares v_hasLived v_isOver v_random v_done v_missed v_turns v_found v_leftOver v_numbers v_trayMany v_traySort) → va_S A s.heap H locs → lv_has ls 9 [(0, .ref a_), (1, .int z1), (2, .int z2), (3, .int z3), (4, .int z4), (5, .int z5), (6, .int z6), (7, .int z7)] → W p l e ({ frames := 1, cells := 0, slots := 0, locals := 21 }) s m args below meth c H locs 0 0 (MQ below ((mp_Qi D r_ (k_X12_pour T a_ a_traySort a_trayMany a_numbers a_tape a_c a_kept a_words a_row a_ordered a_orderWas a_room a_ways a_places a_livedLast a_before o_status o_thrown v_above v_under v_taped v_textEnd v_faultKind v_faultAt v_bad v_badAt v_token v_at v_behind v_number v_letters v_word v_markMany v_orderTold v_newSteps v_orderedMany v_orderBest v_allSixteenths v_safePage v_openMany v_product v_shares v_hasLived v_isOver v_random v_done v_missed v_turns v_found v_leftOver o_numbers v_trayMany v_traySort)) A) args s 0 0 A) (F0 m 158 ls []) := by
  have hx := X.1
  have hb := X.2.1
  have hml := X.2.2.1
  have hown := X.2.2.2.2.1
  have hts := X.2.2.2.2.2.1
  intro n
  induction n with
  | zero => intro z1 z2 z3 z4 z5 z6 z7 v_status v_thrown v_numbers hf; exact absurd hf (by intro h; cases h)
  | succ n ih =>
    intro z1 z2 z3 z4 z5 z6 z7 v_status v_thrown v_numbers hf H locs ls hP hD hS hl
    replace hf : (if z5 ≤ z7 then some ((nI 1), v_status, v_thrown, v_numbers) else (if z6 = 0 then f_X12_pour_182 fu v_trayMany v_traySort (f_X12_pour_158 fu v_trayMany v_traySort  n) z1 z2 z3 z4 z5 z6 z7 z7 v_status v_thrown v_numbers else f_X12_pour_182 fu v_trayMany v_traySort (f_X12_pour_158 fu v_trayMany v_traySort  n) z1 z2 z3 z4 z5 z6 z7 ((z5 - (nI 1)) - z7) v_status v_thrown v_numbers)) = some (r_, o_status, o_thrown, o_numbers) := hf
    refine lv_iload hx hb dX12_pour_158 (lv_at hl 7 rfl) ?_
    refine lv_iload hx hb dX12_pour_160 (lv_at hl 5 rfl) ?_
    refine lv_icmp_ge (tgt := 219) hx hb dX12_pour_162 (by decide) (fun h1 => ?_) (fun h1 => ?_)
    · replace hf := if_t hf h1
      refine lv_iconst (v := (nI 1)) hx hb dX12_pour_219 (by decide) ?_
      cases hf
      exact mp_retz X hP hS rfl (Or.inr rfl) dX12_pour_220
    · replace hf := if_f hf h1
      refine lv_iload hx hb dX12_pour_165 (lv_at hl 6 rfl) ?_
      refine lv_if_eq (tgt := 180) hx hb dX12_pour_167 (by decide) (fun h2 => ?_) (fun h2 => ?_)
      · replace hf := if_t hf h2
        refine lv_iload hx hb dX12_pour_180 (lv_at hl 7 rfl) ?_
        exact w_X12_pour_182 X hK hA  fu a_ a_traySort a_trayMany a_numbers a_tape a_c a_kept a_words a_row a_ordered a_orderWas a_room a_ways a_places a_livedLast a_before v_above v_under v_taped v_textEnd v_faultKind v_faultAt v_bad v_badAt v_token v_at v_behind v_number v_letters v_word v_markMany v_orderTold v_newSteps v_orderedMany v_orderBest v_allSixteenths v_safePage v_openMany v_product v_shares v_hasLived v_isOver v_random v_done v_missed v_turns v_found v_leftOver v_trayMany v_traySort r_ o_status o_thrown o_numbers  (f_X12_pour_158 fu v_trayMany v_traySort  n) (ih) z1 z2 z3 z4 z5 z6 z7 z7 v_status v_thrown v_numbers hf _ _ _ hP (mp_D_of hD rfl) hS (lv_sub hl [0, 1, 2, 3, 4, 5, 6, 7] rfl)
      · replace hf := if_f hf h2
        refine lv_iload hx hb dX12_pour_170 (lv_at hl 5 rfl) ?_
        refine lv_iconst (v := (nI 1)) hx hb dX12_pour_172 (by decide) ?_
        refine lv_isub hx hb dX12_pour_173 ?_
        refine lv_iload hx hb dX12_pour_174 (lv_at hl 7 rfl) ?_
        refine lv_isub hx hb dX12_pour_176 ?_
        refine lv_goto (tgt := 182) hx hb dX12_pour_177 (by decide) ?_
        exact w_X12_pour_182 X hK hA  fu a_ a_traySort a_trayMany a_numbers a_tape a_c a_kept a_words a_row a_ordered a_orderWas a_room a_ways a_places a_livedLast a_before v_above v_under v_taped v_textEnd v_faultKind v_faultAt v_bad v_badAt v_token v_at v_behind v_number v_letters v_word v_markMany v_orderTold v_newSteps v_orderedMany v_orderBest v_allSixteenths v_safePage v_openMany v_product v_shares v_hasLived v_isOver v_random v_done v_missed v_turns v_found v_leftOver v_trayMany v_traySort r_ o_status o_thrown o_numbers  (f_X12_pour_158 fu v_trayMany v_traySort  n) (ih) z1 z2 z3 z4 z5 z6 z7 ((z5 - (nI 1)) - z7) v_status v_thrown v_numbers hf _ _ _ hP (mp_D_of hD rfl) hS (lv_sub hl [0, 1, 2, 3, 4, 5, 6, 7] rfl)

set_option maxHeartbeats 4000000 in
set_option maxRecDepth 100000 in
theorem c_X12_pour (l : Launch) (D : va_G) (T : Nat → ClassId) (fu : Nat) (a_ a_traySort a_trayMany a_numbers a_tape a_c a_kept a_words a_row a_ordered a_orderWas a_room a_ways a_places a_livedLast a_before : Nat) (x1 : Int32) (x2 : Int32) (x3 : Int32) (x4 : Int32) (x5 : Int32) (v_above : Int64) (v_under : Int64) (v_taped : Int32) (v_textEnd : Int32) (v_faultKind : Int32) (v_faultAt : Int32) (v_bad : Int32) (v_badAt : Int32) (v_token : Int32) (v_at : Int32) (v_behind : Int32) (v_number : Int32) (v_letters : Int32) (v_word : Int64) (v_markMany : Int32) (v_orderTold : Int32) (v_newSteps : Int32) (v_orderedMany : Int32) (v_orderBest : Int32) (v_allSixteenths : Int64) (v_safePage : Int32) (v_openMany : Int32) (v_product : Int64) (v_shares : Int64) (v_hasLived : Int32) (v_isOver : Int32) (v_random : Int32) (v_done : Int32) (v_missed : Int32) (v_turns : Int32) (v_found : Int32) (v_leftOver : Int32) (v_status : Int32) (v_thrown : Int32) (v_numbers : (Nat → Int64)) (v_trayMany : (Nat → Int32)) (v_traySort : (Nat → Int32)) (r_ : Int32) (o_status : Int32) (o_thrown : Int32) (o_numbers : (Nat → Int64)) (hf : f_X12_pour fu x1 x2 x3 x4 x5 v_status v_thrown v_numbers v_trayMany v_traySort = some (r_, o_status, o_thrown, o_numbers)) :
    mp_M l D T yX12_pour cX12_pour 9 (some .boolean) ({ frames := 1, cells := 0, slots := 0, locals := 21 }) 0 0 [.ref a_, .int x1, .int x2, .int x3, .int x4, .int x5] (k_X12_pour T a_ a_traySort a_trayMany a_numbers a_tape a_c a_kept a_words a_row a_ordered a_orderWas a_room a_ways a_places a_livedLast a_before v_status v_thrown v_above v_under v_taped v_textEnd v_faultKind v_faultAt v_bad v_badAt v_token v_at v_behind v_number v_letters v_word v_markMany v_orderTold v_newSteps v_orderedMany v_orderBest v_allSixteenths v_safePage v_openMany v_product v_shares v_hasLived v_isOver v_random v_done v_missed v_turns v_found v_leftOver v_numbers v_trayMany v_traySort) (mp_Qi D r_ (k_X12_pour T a_ a_traySort a_trayMany a_numbers a_tape a_c a_kept a_words a_row a_ordered a_orderWas a_room a_ways a_places a_livedLast a_before o_status o_thrown v_above v_under v_taped v_textEnd v_faultKind v_faultAt v_bad v_badAt v_token v_at v_behind v_number v_letters v_word v_markMany v_orderTold v_newSteps v_orderedMany v_orderBest v_allSixteenths v_safePage v_openMany v_product v_shares v_hasLived v_isOver v_random v_done v_missed v_turns v_found v_leftOver o_numbers v_trayMany v_traySort)) := by
  refine mp_of (by decide) (Nat.le_of_ble_eq_true rfl) rfl ?_
  intro p e s m args below meth c A ls X hK hP hD hS hA hl
  replace X : mp_X p s m meth c args RX12 "pour" cX12_pour 9 (some .boolean) := X
  have hx := X.1
  have hb := X.2.1
  have hml := X.2.2.1
  have hown := X.2.2.2.2.1
  have hts := X.2.2.2.2.2.1
  replace hl : lv_has ls 9 [(0, .ref a_), (1, .int x1), (2, .int x2), (3, .int x3), (4, .int x4), (5, .int x5)] := hl
  replace hf : (if x1 < 0 then bd_ (f_X12_no (nI 1) (nI 0)) (fun (z : Int32 × Int32) => match z with | (r2, u3) => gd_ (r2 = 0 ∨ r2 = 1) (some (r2, u3, (nI 0), v_numbers))) else (if (nI 4) ≤ x1 then bd_ (f_X12_no (nI 1) (nI 0)) (fun (z : Int32 × Int32) => match z with | (r7, u8) => gd_ (r7 = 0 ∨ r7 = 1) (some (r7, u8, (nI 0), v_numbers))) else (if x3 < 0 then bd_ (f_X12_no (nI 1) (nI 0)) (fun (z : Int32 × Int32) => match z with | (r12, u13) => gd_ (r12 = 0 ∨ r12 = 1) (some (r12, u13, (nI 0), v_numbers))) else (if x3 < (nI 4) then gi_ x1 4 ((if (v_trayMany (x1).toNatClampNeg) < 0 then bd_ (f_X12_no (nI 3) (nI 0)) (fun (z : Int32 × Int32) => match z with | (r19, u20) => gd_ (r19 = 0 ∨ r19 = 1) (some (r19, u20, (nI 0), v_numbers))) else gi_ x3 4 ((if 0 ≤ (v_trayMany (x3).toNatClampNeg) then gi_ x1 4 (gi_ x3 4 ((if (v_traySort (x1).toNatClampNeg) = (v_traySort (x3).toNatClampNeg) then (if 0 ≤ x5 then (if x2 < 0 then bd_ (f_X12_no (nI 4) (nI 0)) (fun (z : Int32 × Int32) => match z with | (r30, u31) => gd_ (r30 = 0 ∨ r30 = 1) (some (r30, u31, (nI 0), v_numbers))) else (if x4 < 0 then bd_ (f_X12_no (nI 4) (nI 0)) (fun (z : Int32 × Int32) => match z with | (r35, u36) => gd_ (r35 = 0 ∨ r35 = 1) (some (r35, u36, (nI 0), v_numbers))) else gi_ x1 4 ((if 0 < (lg_cmp ((x2).toInt64 + (x5).toInt64) (v_trayMany (x1).toNatClampNeg).toInt64) then bd_ (f_X12_no (nI 4) (nI 0)) (fun (z : Int32 × Int32) => match z with | (r41, u42) => gd_ (r41 = 0 ∨ r41 = 1) (some (r41, u42, (nI 0), v_numbers))) else gi_ x3 4 ((if (lg_cmp ((x4).toInt64 + (x5).toInt64) (v_trayMany (x3).toNatClampNeg).toInt64) ≤ 0 then (if x4 ≤ x2 then f_X12_pour_158 fu v_trayMany v_traySort  fu x1 x2 x3 x4 x5 (nI 0) (nI 0) (nI 0) (nI 0) v_numbers else f_X12_pour_158 fu v_trayMany v_traySort  fu x1 x2 x3 x4 x5 (nI 1) (nI 0) (nI 0) (nI 0) v_numbers) else bd_ (f_X12_no (nI 4) (nI 0)) (fun (z : Int32 × Int32) => match z with | (r48, u49) => gd_ (r48 = 0 ∨ r48 = 1) (some (r48, u49, (nI 0), v_numbers))))))))) else bd_ (f_X12_no (nI 6) (nI 0)) (fun (z : Int32 × Int32) => match z with | (r52, u53) => gd_ (r52 = 0 ∨ r52 = 1) (some (r52, u53, (nI 0), v_numbers)))) else bd_ (f_X12_no (nI 11) (nI 0)) (fun (z : Int32 × Int32) => match z with | (r56, u57) => gd_ (r56 = 0 ∨ r56 = 1) (some (r56, u57, (nI 0), v_numbers)))))) else bd_ (f_X12_no (nI 3) (nI 0)) (fun (z : Int32 × Int32) => match z with | (r60, u61) => gd_ (r60 = 0 ∨ r60 = 1) (some (r60, u61, (nI 0), v_numbers))))))) else bd_ (f_X12_no (nI 1) (nI 0)) (fun (z : Int32 × Int32) => match z with | (r64, u65) => gd_ (r64 = 0 ∨ r64 = 1) (some (r64, u65, (nI 0), v_numbers))))))) = some (r_, o_status, o_thrown, o_numbers) := hf
  refine lv_aload_n hx hb dX12_pour_0 rfl (lv_at hl 0 rfl) ?_
  refine lv_iconst (v := (nI 0)) hx hb dX12_pour_1 (by decide) ?_
  refine mp_putf X fl_X12_71 fp_X12 rfl hK hP (mp_D_of hD rfl) hS 0 rfl rfl rfl (Nat.le_of_ble_eq_true rfl) dX12_pour_2 (fun H locs hP _ hS => ?_)
  replace hP : va_P D mp_cl (k_X12_pour T a_ a_traySort a_trayMany a_numbers a_tape a_c a_kept a_words a_row a_ordered a_orderWas a_room a_ways a_places a_livedLast a_before v_status (nI 0) v_above v_under v_taped v_textEnd v_faultKind v_faultAt v_bad v_badAt v_token v_at v_behind v_number v_letters v_word v_markMany v_orderTold v_newSteps v_orderedMany v_orderBest v_allSixteenths v_safePage v_openMany v_product v_shares v_hasLived v_isOver v_random v_done v_missed v_turns v_found v_leftOver v_numbers v_trayMany v_traySort) H := hP
  refine lv_aload_n hx hb dX12_pour_5 rfl (lv_at hl 0 rfl) ?_
  refine lv_iconst (v := (nI 0)) hx hb dX12_pour_6 (by decide) ?_
  refine mp_putf X fl_X12_74 fp_X12 rfl hK hP (mp_D_of hD rfl) hS 0 rfl rfl rfl (Nat.le_of_ble_eq_true rfl) dX12_pour_7 (fun H locs hP _ hS => ?_)
  replace hP : va_P D mp_cl (k_X12_pour T a_ a_traySort a_trayMany a_numbers a_tape a_c a_kept a_words a_row a_ordered a_orderWas a_room a_ways a_places a_livedLast a_before (nI 0) (nI 0) v_above v_under v_taped v_textEnd v_faultKind v_faultAt v_bad v_badAt v_token v_at v_behind v_number v_letters v_word v_markMany v_orderTold v_newSteps v_orderedMany v_orderBest v_allSixteenths v_safePage v_openMany v_product v_shares v_hasLived v_isOver v_random v_done v_missed v_turns v_found v_leftOver v_numbers v_trayMany v_traySort) H := hP
  refine lv_iload_n hx hb dX12_pour_10 rfl (lv_at hl 1 rfl) ?_
  refine lv_if_lt (tgt := 28) hx hb dX12_pour_11 (by decide) (fun h1 => ?_) (fun h1 => ?_)
  · replace hf := if_t hf h1
    refine lv_aload_n hx hb dX12_pour_28 rfl (lv_at hl 0 rfl) ?_
    refine lv_iconst (v := (nI 1)) hx hb dX12_pour_29 (by decide) ?_
    obtain ⟨⟨r2, u3⟩, c4, hf⟩ := bd_of hf
    dsimp only at hf
    have hPc := hP.sub (ws' := (k_X12_no T a_ a_traySort a_trayMany a_numbers a_tape a_c a_kept a_words a_row a_ordered a_orderWas a_room a_ways a_places a_livedLast a_before (nI 0) (nI 0) v_above v_under v_taped v_textEnd v_faultKind v_faultAt v_bad v_badAt v_token v_at v_behind v_number v_letters v_word v_markMany v_orderTold v_newSteps v_orderedMany v_orderBest v_allSixteenths v_safePage v_openMany v_product v_shares v_hasLived v_isOver v_random v_done v_missed v_turns v_found v_leftOver)) [0] rfl
    have hDc := (mp_D_of (w1 := (k_X12_pour T a_ a_traySort a_trayMany a_numbers a_tape a_c a_kept a_words a_row a_ordered a_orderWas a_room a_ways a_places a_livedLast a_before (nI 0) (nI 0) v_above v_under v_taped v_textEnd v_faultKind v_faultAt v_bad v_badAt v_token v_at v_behind v_number v_letters v_word v_markMany v_orderTold v_newSteps v_orderedMany v_orderBest v_allSixteenths v_safePage v_openMany v_product v_shares v_hasLived v_isOver v_random v_done v_missed v_turns v_found v_leftOver v_numbers v_trayMany v_traySort)) hD rfl).sub (ws' := (k_X12_no T a_ a_traySort a_trayMany a_numbers a_tape a_c a_kept a_words a_row a_ordered a_orderWas a_room a_ways a_places a_livedLast a_before (nI 0) (nI 0) v_above v_under v_taped v_textEnd v_faultKind v_faultAt v_bad v_badAt v_token v_at v_behind v_number v_letters v_word v_markMany v_orderTold v_newSteps v_orderedMany v_orderBest v_allSixteenths v_safePage v_openMany v_product v_shares v_hasLived v_isOver v_random v_done v_missed v_turns v_found v_leftOver)) [0] rfl rfl
    refine mp_calli (isC := [0]) (wc := (k_X12_no T a_ a_traySort a_trayMany a_numbers a_tape a_c a_kept a_words a_row a_ordered a_orderWas a_room a_ways a_places a_livedLast a_before (nI 0) (nI 0) v_above v_under v_taped v_textEnd v_faultKind v_faultAt v_bad v_badAt v_token v_at v_behind v_number v_letters v_word v_markMany v_orderTold v_newSteps v_orderedMany v_orderBest v_allSixteenths v_safePage v_openMany v_product v_shares v_hasLived v_isOver v_random v_done v_missed v_turns v_found v_leftOver)) (w1 := (k_X12_no T a_ a_traySort a_trayMany a_numbers a_tape a_c a_kept a_words a_row a_ordered a_orderWas a_room a_ways a_places a_livedLast a_before u3 (nI 0) v_above v_under v_taped v_textEnd v_faultKind v_faultAt v_bad v_badAt v_token v_at v_behind v_number v_letters v_word v_markMany v_orderTold v_newSteps v_orderedMany v_orderBest v_allSixteenths v_safePage v_openMany v_product v_shares v_hasLived v_isOver v_random v_done v_missed v_turns v_found v_leftOver)) hP (mp_D_of hD rfl) hS hA rfl rfl (mp_runV (As := [.int (nI 1)]) (rest := []) X me_X12_no lk_X12_86 (c_X12_no l D T a_ a_traySort a_trayMany a_numbers a_tape a_c a_kept a_words a_row a_ordered a_orderWas a_room a_ways a_places a_livedLast a_before (nI 1) (nI 0) v_above v_under v_taped v_textEnd v_faultKind v_faultAt v_bad v_badAt v_token v_at v_behind v_number v_letters v_word v_markMany v_orderTold v_newSteps v_orderedMany v_orderBest v_allSixteenths v_safePage v_openMany v_product v_shares v_hasLived v_isOver v_random v_done v_missed v_turns v_found v_leftOver (nI 0) r2 u3 c4) rfl rfl ⟨(Nat.le_of_ble_eq_true rfl), (Nat.le_of_ble_eq_true rfl)⟩ hK hPc hDc rfl rfl rfl rfl hl.1 rfl (Nat.le_of_ble_eq_true rfl) dX12_pour_30 ⟨Nat.zero_le _, Nat.zero_le _⟩) (fun H locs hP _ hS => ?_)
    replace hP : va_P D mp_cl (k_X12_pour T a_ a_traySort a_trayMany a_numbers a_tape a_c a_kept a_words a_row a_ordered a_orderWas a_room a_ways a_places a_livedLast a_before u3 (nI 0) v_above v_under v_taped v_textEnd v_faultKind v_faultAt v_bad v_badAt v_token v_at v_behind v_number v_letters v_word v_markMany v_orderTold v_newSteps v_orderedMany v_orderBest v_allSixteenths v_safePage v_openMany v_product v_shares v_hasLived v_isOver v_random v_done v_missed v_turns v_found v_leftOver v_numbers v_trayMany v_traySort) H := hP
    obtain ⟨h5, hf⟩ := gd_of hf
    cases hf
    exact mp_retz X hP hS rfl h5 dX12_pour_33
  · replace hf := if_f hf h1
    refine lv_iload_n hx hb dX12_pour_14 rfl (lv_at hl 1 rfl) ?_
    refine lv_iconst (v := (nI 4)) hx hb dX12_pour_15 (by decide) ?_
    refine lv_icmp_ge (tgt := 28) hx hb dX12_pour_16 (by decide) (fun h6 => ?_) (fun h6 => ?_)
    · replace hf := if_t hf h6
      refine lv_aload_n hx hb dX12_pour_28 rfl (lv_at hl 0 rfl) ?_
      refine lv_iconst (v := (nI 1)) hx hb dX12_pour_29 (by decide) ?_
      obtain ⟨⟨r7, u8⟩, c9, hf⟩ := bd_of hf
      dsimp only at hf
      have hPc := hP.sub (ws' := (k_X12_no T a_ a_traySort a_trayMany a_numbers a_tape a_c a_kept a_words a_row a_ordered a_orderWas a_room a_ways a_places a_livedLast a_before (nI 0) (nI 0) v_above v_under v_taped v_textEnd v_faultKind v_faultAt v_bad v_badAt v_token v_at v_behind v_number v_letters v_word v_markMany v_orderTold v_newSteps v_orderedMany v_orderBest v_allSixteenths v_safePage v_openMany v_product v_shares v_hasLived v_isOver v_random v_done v_missed v_turns v_found v_leftOver)) [0] rfl
      have hDc := (mp_D_of (w1 := (k_X12_pour T a_ a_traySort a_trayMany a_numbers a_tape a_c a_kept a_words a_row a_ordered a_orderWas a_room a_ways a_places a_livedLast a_before (nI 0) (nI 0) v_above v_under v_taped v_textEnd v_faultKind v_faultAt v_bad v_badAt v_token v_at v_behind v_number v_letters v_word v_markMany v_orderTold v_newSteps v_orderedMany v_orderBest v_allSixteenths v_safePage v_openMany v_product v_shares v_hasLived v_isOver v_random v_done v_missed v_turns v_found v_leftOver v_numbers v_trayMany v_traySort)) hD rfl).sub (ws' := (k_X12_no T a_ a_traySort a_trayMany a_numbers a_tape a_c a_kept a_words a_row a_ordered a_orderWas a_room a_ways a_places a_livedLast a_before (nI 0) (nI 0) v_above v_under v_taped v_textEnd v_faultKind v_faultAt v_bad v_badAt v_token v_at v_behind v_number v_letters v_word v_markMany v_orderTold v_newSteps v_orderedMany v_orderBest v_allSixteenths v_safePage v_openMany v_product v_shares v_hasLived v_isOver v_random v_done v_missed v_turns v_found v_leftOver)) [0] rfl rfl
      refine mp_calli (isC := [0]) (wc := (k_X12_no T a_ a_traySort a_trayMany a_numbers a_tape a_c a_kept a_words a_row a_ordered a_orderWas a_room a_ways a_places a_livedLast a_before (nI 0) (nI 0) v_above v_under v_taped v_textEnd v_faultKind v_faultAt v_bad v_badAt v_token v_at v_behind v_number v_letters v_word v_markMany v_orderTold v_newSteps v_orderedMany v_orderBest v_allSixteenths v_safePage v_openMany v_product v_shares v_hasLived v_isOver v_random v_done v_missed v_turns v_found v_leftOver)) (w1 := (k_X12_no T a_ a_traySort a_trayMany a_numbers a_tape a_c a_kept a_words a_row a_ordered a_orderWas a_room a_ways a_places a_livedLast a_before u8 (nI 0) v_above v_under v_taped v_textEnd v_faultKind v_faultAt v_bad v_badAt v_token v_at v_behind v_number v_letters v_word v_markMany v_orderTold v_newSteps v_orderedMany v_orderBest v_allSixteenths v_safePage v_openMany v_product v_shares v_hasLived v_isOver v_random v_done v_missed v_turns v_found v_leftOver)) hP (mp_D_of hD rfl) hS hA rfl rfl (mp_runV (As := [.int (nI 1)]) (rest := []) X me_X12_no lk_X12_86 (c_X12_no l D T a_ a_traySort a_trayMany a_numbers a_tape a_c a_kept a_words a_row a_ordered a_orderWas a_room a_ways a_places a_livedLast a_before (nI 1) (nI 0) v_above v_under v_taped v_textEnd v_faultKind v_faultAt v_bad v_badAt v_token v_at v_behind v_number v_letters v_word v_markMany v_orderTold v_newSteps v_orderedMany v_orderBest v_allSixteenths v_safePage v_openMany v_product v_shares v_hasLived v_isOver v_random v_done v_missed v_turns v_found v_leftOver (nI 0) r7 u8 c9) rfl rfl ⟨(Nat.le_of_ble_eq_true rfl), (Nat.le_of_ble_eq_true rfl)⟩ hK hPc hDc rfl rfl rfl rfl hl.1 rfl (Nat.le_of_ble_eq_true rfl) dX12_pour_30 ⟨Nat.zero_le _, Nat.zero_le _⟩) (fun H locs hP _ hS => ?_)
      replace hP : va_P D mp_cl (k_X12_pour T a_ a_traySort a_trayMany a_numbers a_tape a_c a_kept a_words a_row a_ordered a_orderWas a_room a_ways a_places a_livedLast a_before u8 (nI 0) v_above v_under v_taped v_textEnd v_faultKind v_faultAt v_bad v_badAt v_token v_at v_behind v_number v_letters v_word v_markMany v_orderTold v_newSteps v_orderedMany v_orderBest v_allSixteenths v_safePage v_openMany v_product v_shares v_hasLived v_isOver v_random v_done v_missed v_turns v_found v_leftOver v_numbers v_trayMany v_traySort) H := hP
      obtain ⟨h10, hf⟩ := gd_of hf
      cases hf
      exact mp_retz X hP hS rfl h10 dX12_pour_33
    · replace hf := if_f hf h6
      refine lv_iload_n hx hb dX12_pour_19 rfl (lv_at hl 3 rfl) ?_
      refine lv_if_lt (tgt := 28) hx hb dX12_pour_20 (by decide) (fun h11 => ?_) (fun h11 => ?_)
      · replace hf := if_t hf h11
        refine lv_aload_n hx hb dX12_pour_28 rfl (lv_at hl 0 rfl) ?_
        refine lv_iconst (v := (nI 1)) hx hb dX12_pour_29 (by decide) ?_
        obtain ⟨⟨r12, u13⟩, c14, hf⟩ := bd_of hf
        dsimp only at hf
        have hPc := hP.sub (ws' := (k_X12_no T a_ a_traySort a_trayMany a_numbers a_tape a_c a_kept a_words a_row a_ordered a_orderWas a_room a_ways a_places a_livedLast a_before (nI 0) (nI 0) v_above v_under v_taped v_textEnd v_faultKind v_faultAt v_bad v_badAt v_token v_at v_behind v_number v_letters v_word v_markMany v_orderTold v_newSteps v_orderedMany v_orderBest v_allSixteenths v_safePage v_openMany v_product v_shares v_hasLived v_isOver v_random v_done v_missed v_turns v_found v_leftOver)) [0] rfl
        have hDc := (mp_D_of (w1 := (k_X12_pour T a_ a_traySort a_trayMany a_numbers a_tape a_c a_kept a_words a_row a_ordered a_orderWas a_room a_ways a_places a_livedLast a_before (nI 0) (nI 0) v_above v_under v_taped v_textEnd v_faultKind v_faultAt v_bad v_badAt v_token v_at v_behind v_number v_letters v_word v_markMany v_orderTold v_newSteps v_orderedMany v_orderBest v_allSixteenths v_safePage v_openMany v_product v_shares v_hasLived v_isOver v_random v_done v_missed v_turns v_found v_leftOver v_numbers v_trayMany v_traySort)) hD rfl).sub (ws' := (k_X12_no T a_ a_traySort a_trayMany a_numbers a_tape a_c a_kept a_words a_row a_ordered a_orderWas a_room a_ways a_places a_livedLast a_before (nI 0) (nI 0) v_above v_under v_taped v_textEnd v_faultKind v_faultAt v_bad v_badAt v_token v_at v_behind v_number v_letters v_word v_markMany v_orderTold v_newSteps v_orderedMany v_orderBest v_allSixteenths v_safePage v_openMany v_product v_shares v_hasLived v_isOver v_random v_done v_missed v_turns v_found v_leftOver)) [0] rfl rfl
        refine mp_calli (isC := [0]) (wc := (k_X12_no T a_ a_traySort a_trayMany a_numbers a_tape a_c a_kept a_words a_row a_ordered a_orderWas a_room a_ways a_places a_livedLast a_before (nI 0) (nI 0) v_above v_under v_taped v_textEnd v_faultKind v_faultAt v_bad v_badAt v_token v_at v_behind v_number v_letters v_word v_markMany v_orderTold v_newSteps v_orderedMany v_orderBest v_allSixteenths v_safePage v_openMany v_product v_shares v_hasLived v_isOver v_random v_done v_missed v_turns v_found v_leftOver)) (w1 := (k_X12_no T a_ a_traySort a_trayMany a_numbers a_tape a_c a_kept a_words a_row a_ordered a_orderWas a_room a_ways a_places a_livedLast a_before u13 (nI 0) v_above v_under v_taped v_textEnd v_faultKind v_faultAt v_bad v_badAt v_token v_at v_behind v_number v_letters v_word v_markMany v_orderTold v_newSteps v_orderedMany v_orderBest v_allSixteenths v_safePage v_openMany v_product v_shares v_hasLived v_isOver v_random v_done v_missed v_turns v_found v_leftOver)) hP (mp_D_of hD rfl) hS hA rfl rfl (mp_runV (As := [.int (nI 1)]) (rest := []) X me_X12_no lk_X12_86 (c_X12_no l D T a_ a_traySort a_trayMany a_numbers a_tape a_c a_kept a_words a_row a_ordered a_orderWas a_room a_ways a_places a_livedLast a_before (nI 1) (nI 0) v_above v_under v_taped v_textEnd v_faultKind v_faultAt v_bad v_badAt v_token v_at v_behind v_number v_letters v_word v_markMany v_orderTold v_newSteps v_orderedMany v_orderBest v_allSixteenths v_safePage v_openMany v_product v_shares v_hasLived v_isOver v_random v_done v_missed v_turns v_found v_leftOver (nI 0) r12 u13 c14) rfl rfl ⟨(Nat.le_of_ble_eq_true rfl), (Nat.le_of_ble_eq_true rfl)⟩ hK hPc hDc rfl rfl rfl rfl hl.1 rfl (Nat.le_of_ble_eq_true rfl) dX12_pour_30 ⟨Nat.zero_le _, Nat.zero_le _⟩) (fun H locs hP _ hS => ?_)
        replace hP : va_P D mp_cl (k_X12_pour T a_ a_traySort a_trayMany a_numbers a_tape a_c a_kept a_words a_row a_ordered a_orderWas a_room a_ways a_places a_livedLast a_before u13 (nI 0) v_above v_under v_taped v_textEnd v_faultKind v_faultAt v_bad v_badAt v_token v_at v_behind v_number v_letters v_word v_markMany v_orderTold v_newSteps v_orderedMany v_orderBest v_allSixteenths v_safePage v_openMany v_product v_shares v_hasLived v_isOver v_random v_done v_missed v_turns v_found v_leftOver v_numbers v_trayMany v_traySort) H := hP
        obtain ⟨h15, hf⟩ := gd_of hf
        cases hf
        exact mp_retz X hP hS rfl h15 dX12_pour_33
      · replace hf := if_f hf h11
        refine lv_iload_n hx hb dX12_pour_23 rfl (lv_at hl 3 rfl) ?_
        refine lv_iconst (v := (nI 4)) hx hb dX12_pour_24 (by decide) ?_
        refine lv_icmp_lt (tgt := 34) hx hb dX12_pour_25 (by decide) (fun h16 => ?_) (fun h16 => ?_)
        · replace hf := if_t hf h16
          refine lv_aload_n hx hb dX12_pour_34 rfl (lv_at hl 0 rfl) ?_
          refine mp_get X fl_X12_17 hK hP 0 rfl rfl dX12_pour_35 ?_
          refine lv_iload_n hx hb dX12_pour_38 rfl (lv_at hl 1 rfl) ?_
          obtain ⟨h17, hf⟩ := gi_of hf
          refine va_iald hx hb hK hP 2 0 rfl rfl h17 dX12_pour_39 ?_
          refine lv_if_lt (tgt := 52) hx hb dX12_pour_40 (by decide) (fun h18 => ?_) (fun h18 => ?_)
          · replace hf := if_t hf h18
            refine lv_aload_n hx hb dX12_pour_52 rfl (lv_at hl 0 rfl) ?_
            refine lv_iconst (v := (nI 3)) hx hb dX12_pour_53 (by decide) ?_
            obtain ⟨⟨r19, u20⟩, c21, hf⟩ := bd_of hf
            dsimp only at hf
            have hPc := hP.sub (ws' := (k_X12_no T a_ a_traySort a_trayMany a_numbers a_tape a_c a_kept a_words a_row a_ordered a_orderWas a_room a_ways a_places a_livedLast a_before (nI 0) (nI 0) v_above v_under v_taped v_textEnd v_faultKind v_faultAt v_bad v_badAt v_token v_at v_behind v_number v_letters v_word v_markMany v_orderTold v_newSteps v_orderedMany v_orderBest v_allSixteenths v_safePage v_openMany v_product v_shares v_hasLived v_isOver v_random v_done v_missed v_turns v_found v_leftOver)) [0] rfl
            have hDc := (mp_D_of (w1 := (k_X12_pour T a_ a_traySort a_trayMany a_numbers a_tape a_c a_kept a_words a_row a_ordered a_orderWas a_room a_ways a_places a_livedLast a_before (nI 0) (nI 0) v_above v_under v_taped v_textEnd v_faultKind v_faultAt v_bad v_badAt v_token v_at v_behind v_number v_letters v_word v_markMany v_orderTold v_newSteps v_orderedMany v_orderBest v_allSixteenths v_safePage v_openMany v_product v_shares v_hasLived v_isOver v_random v_done v_missed v_turns v_found v_leftOver v_numbers v_trayMany v_traySort)) hD rfl).sub (ws' := (k_X12_no T a_ a_traySort a_trayMany a_numbers a_tape a_c a_kept a_words a_row a_ordered a_orderWas a_room a_ways a_places a_livedLast a_before (nI 0) (nI 0) v_above v_under v_taped v_textEnd v_faultKind v_faultAt v_bad v_badAt v_token v_at v_behind v_number v_letters v_word v_markMany v_orderTold v_newSteps v_orderedMany v_orderBest v_allSixteenths v_safePage v_openMany v_product v_shares v_hasLived v_isOver v_random v_done v_missed v_turns v_found v_leftOver)) [0] rfl rfl
            refine mp_calli (isC := [0]) (wc := (k_X12_no T a_ a_traySort a_trayMany a_numbers a_tape a_c a_kept a_words a_row a_ordered a_orderWas a_room a_ways a_places a_livedLast a_before (nI 0) (nI 0) v_above v_under v_taped v_textEnd v_faultKind v_faultAt v_bad v_badAt v_token v_at v_behind v_number v_letters v_word v_markMany v_orderTold v_newSteps v_orderedMany v_orderBest v_allSixteenths v_safePage v_openMany v_product v_shares v_hasLived v_isOver v_random v_done v_missed v_turns v_found v_leftOver)) (w1 := (k_X12_no T a_ a_traySort a_trayMany a_numbers a_tape a_c a_kept a_words a_row a_ordered a_orderWas a_room a_ways a_places a_livedLast a_before u20 (nI 0) v_above v_under v_taped v_textEnd v_faultKind v_faultAt v_bad v_badAt v_token v_at v_behind v_number v_letters v_word v_markMany v_orderTold v_newSteps v_orderedMany v_orderBest v_allSixteenths v_safePage v_openMany v_product v_shares v_hasLived v_isOver v_random v_done v_missed v_turns v_found v_leftOver)) hP (mp_D_of hD rfl) hS hA rfl rfl (mp_runV (As := [.int (nI 3)]) (rest := []) X me_X12_no lk_X12_86 (c_X12_no l D T a_ a_traySort a_trayMany a_numbers a_tape a_c a_kept a_words a_row a_ordered a_orderWas a_room a_ways a_places a_livedLast a_before (nI 3) (nI 0) v_above v_under v_taped v_textEnd v_faultKind v_faultAt v_bad v_badAt v_token v_at v_behind v_number v_letters v_word v_markMany v_orderTold v_newSteps v_orderedMany v_orderBest v_allSixteenths v_safePage v_openMany v_product v_shares v_hasLived v_isOver v_random v_done v_missed v_turns v_found v_leftOver (nI 0) r19 u20 c21) rfl rfl ⟨(Nat.le_of_ble_eq_true rfl), (Nat.le_of_ble_eq_true rfl)⟩ hK hPc hDc rfl rfl rfl rfl hl.1 rfl (Nat.le_of_ble_eq_true rfl) dX12_pour_54 ⟨Nat.zero_le _, Nat.zero_le _⟩) (fun H locs hP _ hS => ?_)
            replace hP : va_P D mp_cl (k_X12_pour T a_ a_traySort a_trayMany a_numbers a_tape a_c a_kept a_words a_row a_ordered a_orderWas a_room a_ways a_places a_livedLast a_before u20 (nI 0) v_above v_under v_taped v_textEnd v_faultKind v_faultAt v_bad v_badAt v_token v_at v_behind v_number v_letters v_word v_markMany v_orderTold v_newSteps v_orderedMany v_orderBest v_allSixteenths v_safePage v_openMany v_product v_shares v_hasLived v_isOver v_random v_done v_missed v_turns v_found v_leftOver v_numbers v_trayMany v_traySort) H := hP
            obtain ⟨h22, hf⟩ := gd_of hf
            cases hf
            exact mp_retz X hP hS rfl h22 dX12_pour_57
          · replace hf := if_f hf h18
            refine lv_aload_n hx hb dX12_pour_43 rfl (lv_at hl 0 rfl) ?_
            refine mp_get X fl_X12_17 hK hP 0 rfl rfl dX12_pour_44 ?_
            refine lv_iload_n hx hb dX12_pour_47 rfl (lv_at hl 3 rfl) ?_
            obtain ⟨h23, hf⟩ := gi_of hf
            refine va_iald hx hb hK hP 2 0 rfl rfl h23 dX12_pour_48 ?_
            refine lv_if_ge (tgt := 58) hx hb dX12_pour_49 (by decide) (fun h24 => ?_) (fun h24 => ?_)
            · replace hf := if_t hf h24
              refine lv_aload_n hx hb dX12_pour_58 rfl (lv_at hl 0 rfl) ?_
              refine mp_get X fl_X12_13 hK hP 0 rfl rfl dX12_pour_59 ?_
              refine lv_iload_n hx hb dX12_pour_62 rfl (lv_at hl 1 rfl) ?_
              obtain ⟨h25, hf⟩ := gi_of hf
              refine va_iald hx hb hK hP 3 0 rfl rfl h25 dX12_pour_63 ?_
              refine lv_aload_n hx hb dX12_pour_64 rfl (lv_at hl 0 rfl) ?_
              refine mp_get X fl_X12_13 hK hP 0 rfl rfl dX12_pour_65 ?_
              refine lv_iload_n hx hb dX12_pour_68 rfl (lv_at hl 3 rfl) ?_
              obtain ⟨h26, hf⟩ := gi_of hf
              refine va_iald hx hb hK hP 3 0 rfl rfl h26 dX12_pour_69 ?_
              refine lv_icmp_eq (tgt := 80) hx hb dX12_pour_70 (by decide) (fun h27 => ?_) (fun h27 => ?_)
              · replace hf := if_t hf h27
                refine lv_iload hx hb dX12_pour_80 (lv_at hl 5 rfl) ?_
                refine lv_if_ge (tgt := 92) hx hb dX12_pour_82 (by decide) (fun h28 => ?_) (fun h28 => ?_)
                · replace hf := if_t hf h28
                  refine lv_iload_n hx hb dX12_pour_92 rfl (lv_at hl 2 rfl) ?_
                  refine lv_if_lt (tgt := 136) hx hb dX12_pour_93 (by decide) (fun h29 => ?_) (fun h29 => ?_)
                  · replace hf := if_t hf h29
                    refine lv_aload_n hx hb dX12_pour_136 rfl (lv_at hl 0 rfl) ?_
                    refine lv_iconst (v := (nI 4)) hx hb dX12_pour_137 (by decide) ?_
                    obtain ⟨⟨r30, u31⟩, c32, hf⟩ := bd_of hf
                    dsimp only at hf
                    have hPc := hP.sub (ws' := (k_X12_no T a_ a_traySort a_trayMany a_numbers a_tape a_c a_kept a_words a_row a_ordered a_orderWas a_room a_ways a_places a_livedLast a_before (nI 0) (nI 0) v_above v_under v_taped v_textEnd v_faultKind v_faultAt v_bad v_badAt v_token v_at v_behind v_number v_letters v_word v_markMany v_orderTold v_newSteps v_orderedMany v_orderBest v_allSixteenths v_safePage v_openMany v_product v_shares v_hasLived v_isOver v_random v_done v_missed v_turns v_found v_leftOver)) [0] rfl
                    have hDc := (mp_D_of (w1 := (k_X12_pour T a_ a_traySort a_trayMany a_numbers a_tape a_c a_kept a_words a_row a_ordered a_orderWas a_room a_ways a_places a_livedLast a_before (nI 0) (nI 0) v_above v_under v_taped v_textEnd v_faultKind v_faultAt v_bad v_badAt v_token v_at v_behind v_number v_letters v_word v_markMany v_orderTold v_newSteps v_orderedMany v_orderBest v_allSixteenths v_safePage v_openMany v_product v_shares v_hasLived v_isOver v_random v_done v_missed v_turns v_found v_leftOver v_numbers v_trayMany v_traySort)) hD rfl).sub (ws' := (k_X12_no T a_ a_traySort a_trayMany a_numbers a_tape a_c a_kept a_words a_row a_ordered a_orderWas a_room a_ways a_places a_livedLast a_before (nI 0) (nI 0) v_above v_under v_taped v_textEnd v_faultKind v_faultAt v_bad v_badAt v_token v_at v_behind v_number v_letters v_word v_markMany v_orderTold v_newSteps v_orderedMany v_orderBest v_allSixteenths v_safePage v_openMany v_product v_shares v_hasLived v_isOver v_random v_done v_missed v_turns v_found v_leftOver)) [0] rfl rfl
                    refine mp_calli (isC := [0]) (wc := (k_X12_no T a_ a_traySort a_trayMany a_numbers a_tape a_c a_kept a_words a_row a_ordered a_orderWas a_room a_ways a_places a_livedLast a_before (nI 0) (nI 0) v_above v_under v_taped v_textEnd v_faultKind v_faultAt v_bad v_badAt v_token v_at v_behind v_number v_letters v_word v_markMany v_orderTold v_newSteps v_orderedMany v_orderBest v_allSixteenths v_safePage v_openMany v_product v_shares v_hasLived v_isOver v_random v_done v_missed v_turns v_found v_leftOver)) (w1 := (k_X12_no T a_ a_traySort a_trayMany a_numbers a_tape a_c a_kept a_words a_row a_ordered a_orderWas a_room a_ways a_places a_livedLast a_before u31 (nI 0) v_above v_under v_taped v_textEnd v_faultKind v_faultAt v_bad v_badAt v_token v_at v_behind v_number v_letters v_word v_markMany v_orderTold v_newSteps v_orderedMany v_orderBest v_allSixteenths v_safePage v_openMany v_product v_shares v_hasLived v_isOver v_random v_done v_missed v_turns v_found v_leftOver)) hP (mp_D_of hD rfl) hS hA rfl rfl (mp_runV (As := [.int (nI 4)]) (rest := []) X me_X12_no lk_X12_86 (c_X12_no l D T a_ a_traySort a_trayMany a_numbers a_tape a_c a_kept a_words a_row a_ordered a_orderWas a_room a_ways a_places a_livedLast a_before (nI 4) (nI 0) v_above v_under v_taped v_textEnd v_faultKind v_faultAt v_bad v_badAt v_token v_at v_behind v_number v_letters v_word v_markMany v_orderTold v_newSteps v_orderedMany v_orderBest v_allSixteenths v_safePage v_openMany v_product v_shares v_hasLived v_isOver v_random v_done v_missed v_turns v_found v_leftOver (nI 0) r30 u31 c32) rfl rfl ⟨(Nat.le_of_ble_eq_true rfl), (Nat.le_of_ble_eq_true rfl)⟩ hK hPc hDc rfl rfl rfl rfl hl.1 rfl (Nat.le_of_ble_eq_true rfl) dX12_pour_138 ⟨Nat.zero_le _, Nat.zero_le _⟩) (fun H locs hP _ hS => ?_)
                    replace hP : va_P D mp_cl (k_X12_pour T a_ a_traySort a_trayMany a_numbers a_tape a_c a_kept a_words a_row a_ordered a_orderWas a_room a_ways a_places a_livedLast a_before u31 (nI 0) v_above v_under v_taped v_textEnd v_faultKind v_faultAt v_bad v_badAt v_token v_at v_behind v_number v_letters v_word v_markMany v_orderTold v_newSteps v_orderedMany v_orderBest v_allSixteenths v_safePage v_openMany v_product v_shares v_hasLived v_isOver v_random v_done v_missed v_turns v_found v_leftOver v_numbers v_trayMany v_traySort) H := hP
                    obtain ⟨h33, hf⟩ := gd_of hf
                    cases hf
                    exact mp_retz X hP hS rfl h33 dX12_pour_141
                  · replace hf := if_f hf h29
                    refine lv_iload hx hb dX12_pour_96 (lv_at hl 4 rfl) ?_
                    refine lv_if_lt (tgt := 136) hx hb dX12_pour_98 (by decide) (fun h34 => ?_) (fun h34 => ?_)
                    · replace hf := if_t hf h34
                      refine lv_aload_n hx hb dX12_pour_136 rfl (lv_at hl 0 rfl) ?_
                      refine lv_iconst (v := (nI 4)) hx hb dX12_pour_137 (by decide) ?_
                      obtain ⟨⟨r35, u36⟩, c37, hf⟩ := bd_of hf
                      dsimp only at hf
                      have hPc := hP.sub (ws' := (k_X12_no T a_ a_traySort a_trayMany a_numbers a_tape a_c a_kept a_words a_row a_ordered a_orderWas a_room a_ways a_places a_livedLast a_before (nI 0) (nI 0) v_above v_under v_taped v_textEnd v_faultKind v_faultAt v_bad v_badAt v_token v_at v_behind v_number v_letters v_word v_markMany v_orderTold v_newSteps v_orderedMany v_orderBest v_allSixteenths v_safePage v_openMany v_product v_shares v_hasLived v_isOver v_random v_done v_missed v_turns v_found v_leftOver)) [0] rfl
                      have hDc := (mp_D_of (w1 := (k_X12_pour T a_ a_traySort a_trayMany a_numbers a_tape a_c a_kept a_words a_row a_ordered a_orderWas a_room a_ways a_places a_livedLast a_before (nI 0) (nI 0) v_above v_under v_taped v_textEnd v_faultKind v_faultAt v_bad v_badAt v_token v_at v_behind v_number v_letters v_word v_markMany v_orderTold v_newSteps v_orderedMany v_orderBest v_allSixteenths v_safePage v_openMany v_product v_shares v_hasLived v_isOver v_random v_done v_missed v_turns v_found v_leftOver v_numbers v_trayMany v_traySort)) hD rfl).sub (ws' := (k_X12_no T a_ a_traySort a_trayMany a_numbers a_tape a_c a_kept a_words a_row a_ordered a_orderWas a_room a_ways a_places a_livedLast a_before (nI 0) (nI 0) v_above v_under v_taped v_textEnd v_faultKind v_faultAt v_bad v_badAt v_token v_at v_behind v_number v_letters v_word v_markMany v_orderTold v_newSteps v_orderedMany v_orderBest v_allSixteenths v_safePage v_openMany v_product v_shares v_hasLived v_isOver v_random v_done v_missed v_turns v_found v_leftOver)) [0] rfl rfl
                      refine mp_calli (isC := [0]) (wc := (k_X12_no T a_ a_traySort a_trayMany a_numbers a_tape a_c a_kept a_words a_row a_ordered a_orderWas a_room a_ways a_places a_livedLast a_before (nI 0) (nI 0) v_above v_under v_taped v_textEnd v_faultKind v_faultAt v_bad v_badAt v_token v_at v_behind v_number v_letters v_word v_markMany v_orderTold v_newSteps v_orderedMany v_orderBest v_allSixteenths v_safePage v_openMany v_product v_shares v_hasLived v_isOver v_random v_done v_missed v_turns v_found v_leftOver)) (w1 := (k_X12_no T a_ a_traySort a_trayMany a_numbers a_tape a_c a_kept a_words a_row a_ordered a_orderWas a_room a_ways a_places a_livedLast a_before u36 (nI 0) v_above v_under v_taped v_textEnd v_faultKind v_faultAt v_bad v_badAt v_token v_at v_behind v_number v_letters v_word v_markMany v_orderTold v_newSteps v_orderedMany v_orderBest v_allSixteenths v_safePage v_openMany v_product v_shares v_hasLived v_isOver v_random v_done v_missed v_turns v_found v_leftOver)) hP (mp_D_of hD rfl) hS hA rfl rfl (mp_runV (As := [.int (nI 4)]) (rest := []) X me_X12_no lk_X12_86 (c_X12_no l D T a_ a_traySort a_trayMany a_numbers a_tape a_c a_kept a_words a_row a_ordered a_orderWas a_room a_ways a_places a_livedLast a_before (nI 4) (nI 0) v_above v_under v_taped v_textEnd v_faultKind v_faultAt v_bad v_badAt v_token v_at v_behind v_number v_letters v_word v_markMany v_orderTold v_newSteps v_orderedMany v_orderBest v_allSixteenths v_safePage v_openMany v_product v_shares v_hasLived v_isOver v_random v_done v_missed v_turns v_found v_leftOver (nI 0) r35 u36 c37) rfl rfl ⟨(Nat.le_of_ble_eq_true rfl), (Nat.le_of_ble_eq_true rfl)⟩ hK hPc hDc rfl rfl rfl rfl hl.1 rfl (Nat.le_of_ble_eq_true rfl) dX12_pour_138 ⟨Nat.zero_le _, Nat.zero_le _⟩) (fun H locs hP _ hS => ?_)
                      replace hP : va_P D mp_cl (k_X12_pour T a_ a_traySort a_trayMany a_numbers a_tape a_c a_kept a_words a_row a_ordered a_orderWas a_room a_ways a_places a_livedLast a_before u36 (nI 0) v_above v_under v_taped v_textEnd v_faultKind v_faultAt v_bad v_badAt v_token v_at v_behind v_number v_letters v_word v_markMany v_orderTold v_newSteps v_orderedMany v_orderBest v_allSixteenths v_safePage v_openMany v_product v_shares v_hasLived v_isOver v_random v_done v_missed v_turns v_found v_leftOver v_numbers v_trayMany v_traySort) H := hP
                      obtain ⟨h38, hf⟩ := gd_of hf
                      cases hf
                      exact mp_retz X hP hS rfl h38 dX12_pour_141
                    · replace hf := if_f hf h34
                      refine lv_iload_n hx hb dX12_pour_101 rfl (lv_at hl 2 rfl) ?_
                      refine lv_i2l hx hb dX12_pour_102 rfl ?_
                      refine lv_iload hx hb dX12_pour_103 (lv_at hl 5 rfl) ?_
                      refine lv_i2l hx hb dX12_pour_105 rfl ?_
                      refine lv_ladd hx hb dX12_pour_106 ?_
                      refine lv_aload_n hx hb dX12_pour_107 rfl (lv_at hl 0 rfl) ?_
                      refine mp_get X fl_X12_17 hK hP 0 rfl rfl dX12_pour_108 ?_
                      refine lv_iload_n hx hb dX12_pour_111 rfl (lv_at hl 1 rfl) ?_
                      obtain ⟨h39, hf⟩ := gi_of hf
                      refine va_iald hx hb hK hP 2 0 rfl rfl h39 dX12_pour_112 ?_
                      refine lv_i2l hx hb dX12_pour_113 rfl ?_
                      refine W.lcmp hx hb dX12_pour_114 ?_
                      refine lv_if_gt (tgt := 136) hx hb dX12_pour_115 (by decide) (fun h40 => ?_) (fun h40 => ?_)
                      · replace hf := if_t hf h40
                        refine lv_aload_n hx hb dX12_pour_136 rfl (lv_at hl 0 rfl) ?_
                        refine lv_iconst (v := (nI 4)) hx hb dX12_pour_137 (by decide) ?_
                        obtain ⟨⟨r41, u42⟩, c43, hf⟩ := bd_of hf
                        dsimp only at hf
                        have hPc := hP.sub (ws' := (k_X12_no T a_ a_traySort a_trayMany a_numbers a_tape a_c a_kept a_words a_row a_ordered a_orderWas a_room a_ways a_places a_livedLast a_before (nI 0) (nI 0) v_above v_under v_taped v_textEnd v_faultKind v_faultAt v_bad v_badAt v_token v_at v_behind v_number v_letters v_word v_markMany v_orderTold v_newSteps v_orderedMany v_orderBest v_allSixteenths v_safePage v_openMany v_product v_shares v_hasLived v_isOver v_random v_done v_missed v_turns v_found v_leftOver)) [0] rfl
                        have hDc := (mp_D_of (w1 := (k_X12_pour T a_ a_traySort a_trayMany a_numbers a_tape a_c a_kept a_words a_row a_ordered a_orderWas a_room a_ways a_places a_livedLast a_before (nI 0) (nI 0) v_above v_under v_taped v_textEnd v_faultKind v_faultAt v_bad v_badAt v_token v_at v_behind v_number v_letters v_word v_markMany v_orderTold v_newSteps v_orderedMany v_orderBest v_allSixteenths v_safePage v_openMany v_product v_shares v_hasLived v_isOver v_random v_done v_missed v_turns v_found v_leftOver v_numbers v_trayMany v_traySort)) hD rfl).sub (ws' := (k_X12_no T a_ a_traySort a_trayMany a_numbers a_tape a_c a_kept a_words a_row a_ordered a_orderWas a_room a_ways a_places a_livedLast a_before (nI 0) (nI 0) v_above v_under v_taped v_textEnd v_faultKind v_faultAt v_bad v_badAt v_token v_at v_behind v_number v_letters v_word v_markMany v_orderTold v_newSteps v_orderedMany v_orderBest v_allSixteenths v_safePage v_openMany v_product v_shares v_hasLived v_isOver v_random v_done v_missed v_turns v_found v_leftOver)) [0] rfl rfl
                        refine mp_calli (isC := [0]) (wc := (k_X12_no T a_ a_traySort a_trayMany a_numbers a_tape a_c a_kept a_words a_row a_ordered a_orderWas a_room a_ways a_places a_livedLast a_before (nI 0) (nI 0) v_above v_under v_taped v_textEnd v_faultKind v_faultAt v_bad v_badAt v_token v_at v_behind v_number v_letters v_word v_markMany v_orderTold v_newSteps v_orderedMany v_orderBest v_allSixteenths v_safePage v_openMany v_product v_shares v_hasLived v_isOver v_random v_done v_missed v_turns v_found v_leftOver)) (w1 := (k_X12_no T a_ a_traySort a_trayMany a_numbers a_tape a_c a_kept a_words a_row a_ordered a_orderWas a_room a_ways a_places a_livedLast a_before u42 (nI 0) v_above v_under v_taped v_textEnd v_faultKind v_faultAt v_bad v_badAt v_token v_at v_behind v_number v_letters v_word v_markMany v_orderTold v_newSteps v_orderedMany v_orderBest v_allSixteenths v_safePage v_openMany v_product v_shares v_hasLived v_isOver v_random v_done v_missed v_turns v_found v_leftOver)) hP (mp_D_of hD rfl) hS hA rfl rfl (mp_runV (As := [.int (nI 4)]) (rest := []) X me_X12_no lk_X12_86 (c_X12_no l D T a_ a_traySort a_trayMany a_numbers a_tape a_c a_kept a_words a_row a_ordered a_orderWas a_room a_ways a_places a_livedLast a_before (nI 4) (nI 0) v_above v_under v_taped v_textEnd v_faultKind v_faultAt v_bad v_badAt v_token v_at v_behind v_number v_letters v_word v_markMany v_orderTold v_newSteps v_orderedMany v_orderBest v_allSixteenths v_safePage v_openMany v_product v_shares v_hasLived v_isOver v_random v_done v_missed v_turns v_found v_leftOver (nI 0) r41 u42 c43) rfl rfl ⟨(Nat.le_of_ble_eq_true rfl), (Nat.le_of_ble_eq_true rfl)⟩ hK hPc hDc rfl rfl rfl rfl hl.1 rfl (Nat.le_of_ble_eq_true rfl) dX12_pour_138 ⟨Nat.zero_le _, Nat.zero_le _⟩) (fun H locs hP _ hS => ?_)
                        replace hP : va_P D mp_cl (k_X12_pour T a_ a_traySort a_trayMany a_numbers a_tape a_c a_kept a_words a_row a_ordered a_orderWas a_room a_ways a_places a_livedLast a_before u42 (nI 0) v_above v_under v_taped v_textEnd v_faultKind v_faultAt v_bad v_badAt v_token v_at v_behind v_number v_letters v_word v_markMany v_orderTold v_newSteps v_orderedMany v_orderBest v_allSixteenths v_safePage v_openMany v_product v_shares v_hasLived v_isOver v_random v_done v_missed v_turns v_found v_leftOver v_numbers v_trayMany v_traySort) H := hP
                        obtain ⟨h44, hf⟩ := gd_of hf
                        cases hf
                        exact mp_retz X hP hS rfl h44 dX12_pour_141
                      · replace hf := if_f hf h40
                        refine lv_iload hx hb dX12_pour_118 (lv_at hl 4 rfl) ?_
                        refine lv_i2l hx hb dX12_pour_120 rfl ?_
                        refine lv_iload hx hb dX12_pour_121 (lv_at hl 5 rfl) ?_
                        refine lv_i2l hx hb dX12_pour_123 rfl ?_
                        refine lv_ladd hx hb dX12_pour_124 ?_
                        refine lv_aload_n hx hb dX12_pour_125 rfl (lv_at hl 0 rfl) ?_
                        refine mp_get X fl_X12_17 hK hP 0 rfl rfl dX12_pour_126 ?_
                        refine lv_iload_n hx hb dX12_pour_129 rfl (lv_at hl 3 rfl) ?_
                        obtain ⟨h45, hf⟩ := gi_of hf
                        refine va_iald hx hb hK hP 2 0 rfl rfl h45 dX12_pour_130 ?_
                        refine lv_i2l hx hb dX12_pour_131 rfl ?_
                        refine W.lcmp hx hb dX12_pour_132 ?_
                        refine lv_if_le (tgt := 142) hx hb dX12_pour_133 (by decide) (fun h46 => ?_) (fun h46 => ?_)
                        · replace hf := if_t hf h46
                          refine lv_iload_n hx hb dX12_pour_142 rfl (lv_at hl 2 rfl) ?_
                          refine lv_iload hx hb dX12_pour_143 (lv_at hl 4 rfl) ?_
                          refine lv_icmp_ge (tgt := 152) hx hb dX12_pour_145 (by decide) (fun h47 => ?_) (fun h47 => ?_)
                          · replace hf := if_t hf h47
                            refine lv_iconst (v := (nI 0)) hx hb dX12_pour_152 (by decide) ?_
                            refine lv_istore (lv' := [(6, .int (nI 0)), (0, .ref a_), (1, .int x1), (2, .int x2), (3, .int x3), (4, .int x4), (5, .int x5)]) hx hb dX12_pour_153 hl (by decide) rfl (fun ls hl => ?_)
                            refine lv_iconst (v := (nI 0)) hx hb dX12_pour_155 (by decide) ?_
                            refine lv_istore (lv' := [(7, .int (nI 0)), (6, .int (nI 0)), (0, .ref a_), (1, .int x1), (2, .int x2), (3, .int x3), (4, .int x4), (5, .int x5)]) hx hb dX12_pour_156 hl (by decide) rfl (fun ls hl => ?_)
                            exact w_X12_pour_158 X hK hA  fu a_ a_traySort a_trayMany a_numbers a_tape a_c a_kept a_words a_row a_ordered a_orderWas a_room a_ways a_places a_livedLast a_before v_above v_under v_taped v_textEnd v_faultKind v_faultAt v_bad v_badAt v_token v_at v_behind v_number v_letters v_word v_markMany v_orderTold v_newSteps v_orderedMany v_orderBest v_allSixteenths v_safePage v_openMany v_product v_shares v_hasLived v_isOver v_random v_done v_missed v_turns v_found v_leftOver v_trayMany v_traySort r_ o_status o_thrown o_numbers   fu x1 x2 x3 x4 x5 (nI 0) (nI 0) (nI 0) (nI 0) v_numbers hf _ _ _ hP (mp_D_of hD rfl) hS (lv_sub hl [2, 3, 4, 5, 6, 7, 1, 0] rfl)
                          · replace hf := if_f hf h47
                            refine lv_iconst (v := (nI 1)) hx hb dX12_pour_148 (by decide) ?_
                            refine lv_goto (tgt := 153) hx hb dX12_pour_149 (by decide) ?_
                            refine lv_istore (lv' := [(6, .int (nI 1)), (0, .ref a_), (1, .int x1), (2, .int x2), (3, .int x3), (4, .int x4), (5, .int x5)]) hx hb dX12_pour_153 hl (by decide) rfl (fun ls hl => ?_)
                            refine lv_iconst (v := (nI 0)) hx hb dX12_pour_155 (by decide) ?_
                            refine lv_istore (lv' := [(7, .int (nI 0)), (6, .int (nI 1)), (0, .ref a_), (1, .int x1), (2, .int x2), (3, .int x3), (4, .int x4), (5, .int x5)]) hx hb dX12_pour_156 hl (by decide) rfl (fun ls hl => ?_)
                            exact w_X12_pour_158 X hK hA  fu a_ a_traySort a_trayMany a_numbers a_tape a_c a_kept a_words a_row a_ordered a_orderWas a_room a_ways a_places a_livedLast a_before v_above v_under v_taped v_textEnd v_faultKind v_faultAt v_bad v_badAt v_token v_at v_behind v_number v_letters v_word v_markMany v_orderTold v_newSteps v_orderedMany v_orderBest v_allSixteenths v_safePage v_openMany v_product v_shares v_hasLived v_isOver v_random v_done v_missed v_turns v_found v_leftOver v_trayMany v_traySort r_ o_status o_thrown o_numbers   fu x1 x2 x3 x4 x5 (nI 1) (nI 0) (nI 0) (nI 0) v_numbers hf _ _ _ hP (mp_D_of hD rfl) hS (lv_sub hl [2, 3, 4, 5, 6, 7, 1, 0] rfl)
                        · replace hf := if_f hf h46
                          refine lv_aload_n hx hb dX12_pour_136 rfl (lv_at hl 0 rfl) ?_
                          refine lv_iconst (v := (nI 4)) hx hb dX12_pour_137 (by decide) ?_
                          obtain ⟨⟨r48, u49⟩, c50, hf⟩ := bd_of hf
                          dsimp only at hf
                          have hPc := hP.sub (ws' := (k_X12_no T a_ a_traySort a_trayMany a_numbers a_tape a_c a_kept a_words a_row a_ordered a_orderWas a_room a_ways a_places a_livedLast a_before (nI 0) (nI 0) v_above v_under v_taped v_textEnd v_faultKind v_faultAt v_bad v_badAt v_token v_at v_behind v_number v_letters v_word v_markMany v_orderTold v_newSteps v_orderedMany v_orderBest v_allSixteenths v_safePage v_openMany v_product v_shares v_hasLived v_isOver v_random v_done v_missed v_turns v_found v_leftOver)) [0] rfl
                          have hDc := (mp_D_of (w1 := (k_X12_pour T a_ a_traySort a_trayMany a_numbers a_tape a_c a_kept a_words a_row a_ordered a_orderWas a_room a_ways a_places a_livedLast a_before (nI 0) (nI 0) v_above v_under v_taped v_textEnd v_faultKind v_faultAt v_bad v_badAt v_token v_at v_behind v_number v_letters v_word v_markMany v_orderTold v_newSteps v_orderedMany v_orderBest v_allSixteenths v_safePage v_openMany v_product v_shares v_hasLived v_isOver v_random v_done v_missed v_turns v_found v_leftOver v_numbers v_trayMany v_traySort)) hD rfl).sub (ws' := (k_X12_no T a_ a_traySort a_trayMany a_numbers a_tape a_c a_kept a_words a_row a_ordered a_orderWas a_room a_ways a_places a_livedLast a_before (nI 0) (nI 0) v_above v_under v_taped v_textEnd v_faultKind v_faultAt v_bad v_badAt v_token v_at v_behind v_number v_letters v_word v_markMany v_orderTold v_newSteps v_orderedMany v_orderBest v_allSixteenths v_safePage v_openMany v_product v_shares v_hasLived v_isOver v_random v_done v_missed v_turns v_found v_leftOver)) [0] rfl rfl
                          refine mp_calli (isC := [0]) (wc := (k_X12_no T a_ a_traySort a_trayMany a_numbers a_tape a_c a_kept a_words a_row a_ordered a_orderWas a_room a_ways a_places a_livedLast a_before (nI 0) (nI 0) v_above v_under v_taped v_textEnd v_faultKind v_faultAt v_bad v_badAt v_token v_at v_behind v_number v_letters v_word v_markMany v_orderTold v_newSteps v_orderedMany v_orderBest v_allSixteenths v_safePage v_openMany v_product v_shares v_hasLived v_isOver v_random v_done v_missed v_turns v_found v_leftOver)) (w1 := (k_X12_no T a_ a_traySort a_trayMany a_numbers a_tape a_c a_kept a_words a_row a_ordered a_orderWas a_room a_ways a_places a_livedLast a_before u49 (nI 0) v_above v_under v_taped v_textEnd v_faultKind v_faultAt v_bad v_badAt v_token v_at v_behind v_number v_letters v_word v_markMany v_orderTold v_newSteps v_orderedMany v_orderBest v_allSixteenths v_safePage v_openMany v_product v_shares v_hasLived v_isOver v_random v_done v_missed v_turns v_found v_leftOver)) hP (mp_D_of hD rfl) hS hA rfl rfl (mp_runV (As := [.int (nI 4)]) (rest := []) X me_X12_no lk_X12_86 (c_X12_no l D T a_ a_traySort a_trayMany a_numbers a_tape a_c a_kept a_words a_row a_ordered a_orderWas a_room a_ways a_places a_livedLast a_before (nI 4) (nI 0) v_above v_under v_taped v_textEnd v_faultKind v_faultAt v_bad v_badAt v_token v_at v_behind v_number v_letters v_word v_markMany v_orderTold v_newSteps v_orderedMany v_orderBest v_allSixteenths v_safePage v_openMany v_product v_shares v_hasLived v_isOver v_random v_done v_missed v_turns v_found v_leftOver (nI 0) r48 u49 c50) rfl rfl ⟨(Nat.le_of_ble_eq_true rfl), (Nat.le_of_ble_eq_true rfl)⟩ hK hPc hDc rfl rfl rfl rfl hl.1 rfl (Nat.le_of_ble_eq_true rfl) dX12_pour_138 ⟨Nat.zero_le _, Nat.zero_le _⟩) (fun H locs hP _ hS => ?_)
                          replace hP : va_P D mp_cl (k_X12_pour T a_ a_traySort a_trayMany a_numbers a_tape a_c a_kept a_words a_row a_ordered a_orderWas a_room a_ways a_places a_livedLast a_before u49 (nI 0) v_above v_under v_taped v_textEnd v_faultKind v_faultAt v_bad v_badAt v_token v_at v_behind v_number v_letters v_word v_markMany v_orderTold v_newSteps v_orderedMany v_orderBest v_allSixteenths v_safePage v_openMany v_product v_shares v_hasLived v_isOver v_random v_done v_missed v_turns v_found v_leftOver v_numbers v_trayMany v_traySort) H := hP
                          obtain ⟨h51, hf⟩ := gd_of hf
                          cases hf
                          exact mp_retz X hP hS rfl h51 dX12_pour_141
                · replace hf := if_f hf h28
                  refine lv_aload_n hx hb dX12_pour_85 rfl (lv_at hl 0 rfl) ?_
                  refine lv_bipush (v := (nI 6)) hx hb dX12_pour_86 (by decide) ?_
                  obtain ⟨⟨r52, u53⟩, c54, hf⟩ := bd_of hf
                  dsimp only at hf
                  have hPc := hP.sub (ws' := (k_X12_no T a_ a_traySort a_trayMany a_numbers a_tape a_c a_kept a_words a_row a_ordered a_orderWas a_room a_ways a_places a_livedLast a_before (nI 0) (nI 0) v_above v_under v_taped v_textEnd v_faultKind v_faultAt v_bad v_badAt v_token v_at v_behind v_number v_letters v_word v_markMany v_orderTold v_newSteps v_orderedMany v_orderBest v_allSixteenths v_safePage v_openMany v_product v_shares v_hasLived v_isOver v_random v_done v_missed v_turns v_found v_leftOver)) [0] rfl
                  have hDc := (mp_D_of (w1 := (k_X12_pour T a_ a_traySort a_trayMany a_numbers a_tape a_c a_kept a_words a_row a_ordered a_orderWas a_room a_ways a_places a_livedLast a_before (nI 0) (nI 0) v_above v_under v_taped v_textEnd v_faultKind v_faultAt v_bad v_badAt v_token v_at v_behind v_number v_letters v_word v_markMany v_orderTold v_newSteps v_orderedMany v_orderBest v_allSixteenths v_safePage v_openMany v_product v_shares v_hasLived v_isOver v_random v_done v_missed v_turns v_found v_leftOver v_numbers v_trayMany v_traySort)) hD rfl).sub (ws' := (k_X12_no T a_ a_traySort a_trayMany a_numbers a_tape a_c a_kept a_words a_row a_ordered a_orderWas a_room a_ways a_places a_livedLast a_before (nI 0) (nI 0) v_above v_under v_taped v_textEnd v_faultKind v_faultAt v_bad v_badAt v_token v_at v_behind v_number v_letters v_word v_markMany v_orderTold v_newSteps v_orderedMany v_orderBest v_allSixteenths v_safePage v_openMany v_product v_shares v_hasLived v_isOver v_random v_done v_missed v_turns v_found v_leftOver)) [0] rfl rfl
                  refine mp_calli (isC := [0]) (wc := (k_X12_no T a_ a_traySort a_trayMany a_numbers a_tape a_c a_kept a_words a_row a_ordered a_orderWas a_room a_ways a_places a_livedLast a_before (nI 0) (nI 0) v_above v_under v_taped v_textEnd v_faultKind v_faultAt v_bad v_badAt v_token v_at v_behind v_number v_letters v_word v_markMany v_orderTold v_newSteps v_orderedMany v_orderBest v_allSixteenths v_safePage v_openMany v_product v_shares v_hasLived v_isOver v_random v_done v_missed v_turns v_found v_leftOver)) (w1 := (k_X12_no T a_ a_traySort a_trayMany a_numbers a_tape a_c a_kept a_words a_row a_ordered a_orderWas a_room a_ways a_places a_livedLast a_before u53 (nI 0) v_above v_under v_taped v_textEnd v_faultKind v_faultAt v_bad v_badAt v_token v_at v_behind v_number v_letters v_word v_markMany v_orderTold v_newSteps v_orderedMany v_orderBest v_allSixteenths v_safePage v_openMany v_product v_shares v_hasLived v_isOver v_random v_done v_missed v_turns v_found v_leftOver)) hP (mp_D_of hD rfl) hS hA rfl rfl (mp_runV (As := [.int (nI 6)]) (rest := []) X me_X12_no lk_X12_86 (c_X12_no l D T a_ a_traySort a_trayMany a_numbers a_tape a_c a_kept a_words a_row a_ordered a_orderWas a_room a_ways a_places a_livedLast a_before (nI 6) (nI 0) v_above v_under v_taped v_textEnd v_faultKind v_faultAt v_bad v_badAt v_token v_at v_behind v_number v_letters v_word v_markMany v_orderTold v_newSteps v_orderedMany v_orderBest v_allSixteenths v_safePage v_openMany v_product v_shares v_hasLived v_isOver v_random v_done v_missed v_turns v_found v_leftOver (nI 0) r52 u53 c54) rfl rfl ⟨(Nat.le_of_ble_eq_true rfl), (Nat.le_of_ble_eq_true rfl)⟩ hK hPc hDc rfl rfl rfl rfl hl.1 rfl (Nat.le_of_ble_eq_true rfl) dX12_pour_88 ⟨Nat.zero_le _, Nat.zero_le _⟩) (fun H locs hP _ hS => ?_)
                  replace hP : va_P D mp_cl (k_X12_pour T a_ a_traySort a_trayMany a_numbers a_tape a_c a_kept a_words a_row a_ordered a_orderWas a_room a_ways a_places a_livedLast a_before u53 (nI 0) v_above v_under v_taped v_textEnd v_faultKind v_faultAt v_bad v_badAt v_token v_at v_behind v_number v_letters v_word v_markMany v_orderTold v_newSteps v_orderedMany v_orderBest v_allSixteenths v_safePage v_openMany v_product v_shares v_hasLived v_isOver v_random v_done v_missed v_turns v_found v_leftOver v_numbers v_trayMany v_traySort) H := hP
                  obtain ⟨h55, hf⟩ := gd_of hf
                  cases hf
                  exact mp_retz X hP hS rfl h55 dX12_pour_91
              · replace hf := if_f hf h27
                refine lv_aload_n hx hb dX12_pour_73 rfl (lv_at hl 0 rfl) ?_
                refine lv_bipush (v := (nI 11)) hx hb dX12_pour_74 (by decide) ?_
                obtain ⟨⟨r56, u57⟩, c58, hf⟩ := bd_of hf
                dsimp only at hf
                have hPc := hP.sub (ws' := (k_X12_no T a_ a_traySort a_trayMany a_numbers a_tape a_c a_kept a_words a_row a_ordered a_orderWas a_room a_ways a_places a_livedLast a_before (nI 0) (nI 0) v_above v_under v_taped v_textEnd v_faultKind v_faultAt v_bad v_badAt v_token v_at v_behind v_number v_letters v_word v_markMany v_orderTold v_newSteps v_orderedMany v_orderBest v_allSixteenths v_safePage v_openMany v_product v_shares v_hasLived v_isOver v_random v_done v_missed v_turns v_found v_leftOver)) [0] rfl
                have hDc := (mp_D_of (w1 := (k_X12_pour T a_ a_traySort a_trayMany a_numbers a_tape a_c a_kept a_words a_row a_ordered a_orderWas a_room a_ways a_places a_livedLast a_before (nI 0) (nI 0) v_above v_under v_taped v_textEnd v_faultKind v_faultAt v_bad v_badAt v_token v_at v_behind v_number v_letters v_word v_markMany v_orderTold v_newSteps v_orderedMany v_orderBest v_allSixteenths v_safePage v_openMany v_product v_shares v_hasLived v_isOver v_random v_done v_missed v_turns v_found v_leftOver v_numbers v_trayMany v_traySort)) hD rfl).sub (ws' := (k_X12_no T a_ a_traySort a_trayMany a_numbers a_tape a_c a_kept a_words a_row a_ordered a_orderWas a_room a_ways a_places a_livedLast a_before (nI 0) (nI 0) v_above v_under v_taped v_textEnd v_faultKind v_faultAt v_bad v_badAt v_token v_at v_behind v_number v_letters v_word v_markMany v_orderTold v_newSteps v_orderedMany v_orderBest v_allSixteenths v_safePage v_openMany v_product v_shares v_hasLived v_isOver v_random v_done v_missed v_turns v_found v_leftOver)) [0] rfl rfl
                refine mp_calli (isC := [0]) (wc := (k_X12_no T a_ a_traySort a_trayMany a_numbers a_tape a_c a_kept a_words a_row a_ordered a_orderWas a_room a_ways a_places a_livedLast a_before (nI 0) (nI 0) v_above v_under v_taped v_textEnd v_faultKind v_faultAt v_bad v_badAt v_token v_at v_behind v_number v_letters v_word v_markMany v_orderTold v_newSteps v_orderedMany v_orderBest v_allSixteenths v_safePage v_openMany v_product v_shares v_hasLived v_isOver v_random v_done v_missed v_turns v_found v_leftOver)) (w1 := (k_X12_no T a_ a_traySort a_trayMany a_numbers a_tape a_c a_kept a_words a_row a_ordered a_orderWas a_room a_ways a_places a_livedLast a_before u57 (nI 0) v_above v_under v_taped v_textEnd v_faultKind v_faultAt v_bad v_badAt v_token v_at v_behind v_number v_letters v_word v_markMany v_orderTold v_newSteps v_orderedMany v_orderBest v_allSixteenths v_safePage v_openMany v_product v_shares v_hasLived v_isOver v_random v_done v_missed v_turns v_found v_leftOver)) hP (mp_D_of hD rfl) hS hA rfl rfl (mp_runV (As := [.int (nI 11)]) (rest := []) X me_X12_no lk_X12_86 (c_X12_no l D T a_ a_traySort a_trayMany a_numbers a_tape a_c a_kept a_words a_row a_ordered a_orderWas a_room a_ways a_places a_livedLast a_before (nI 11) (nI 0) v_above v_under v_taped v_textEnd v_faultKind v_faultAt v_bad v_badAt v_token v_at v_behind v_number v_letters v_word v_markMany v_orderTold v_newSteps v_orderedMany v_orderBest v_allSixteenths v_safePage v_openMany v_product v_shares v_hasLived v_isOver v_random v_done v_missed v_turns v_found v_leftOver (nI 0) r56 u57 c58) rfl rfl ⟨(Nat.le_of_ble_eq_true rfl), (Nat.le_of_ble_eq_true rfl)⟩ hK hPc hDc rfl rfl rfl rfl hl.1 rfl (Nat.le_of_ble_eq_true rfl) dX12_pour_76 ⟨Nat.zero_le _, Nat.zero_le _⟩) (fun H locs hP _ hS => ?_)
                replace hP : va_P D mp_cl (k_X12_pour T a_ a_traySort a_trayMany a_numbers a_tape a_c a_kept a_words a_row a_ordered a_orderWas a_room a_ways a_places a_livedLast a_before u57 (nI 0) v_above v_under v_taped v_textEnd v_faultKind v_faultAt v_bad v_badAt v_token v_at v_behind v_number v_letters v_word v_markMany v_orderTold v_newSteps v_orderedMany v_orderBest v_allSixteenths v_safePage v_openMany v_product v_shares v_hasLived v_isOver v_random v_done v_missed v_turns v_found v_leftOver v_numbers v_trayMany v_traySort) H := hP
                obtain ⟨h59, hf⟩ := gd_of hf
                cases hf
                exact mp_retz X hP hS rfl h59 dX12_pour_79
            · replace hf := if_f hf h24
              refine lv_aload_n hx hb dX12_pour_52 rfl (lv_at hl 0 rfl) ?_
              refine lv_iconst (v := (nI 3)) hx hb dX12_pour_53 (by decide) ?_
              obtain ⟨⟨r60, u61⟩, c62, hf⟩ := bd_of hf
              dsimp only at hf
              have hPc := hP.sub (ws' := (k_X12_no T a_ a_traySort a_trayMany a_numbers a_tape a_c a_kept a_words a_row a_ordered a_orderWas a_room a_ways a_places a_livedLast a_before (nI 0) (nI 0) v_above v_under v_taped v_textEnd v_faultKind v_faultAt v_bad v_badAt v_token v_at v_behind v_number v_letters v_word v_markMany v_orderTold v_newSteps v_orderedMany v_orderBest v_allSixteenths v_safePage v_openMany v_product v_shares v_hasLived v_isOver v_random v_done v_missed v_turns v_found v_leftOver)) [0] rfl
              have hDc := (mp_D_of (w1 := (k_X12_pour T a_ a_traySort a_trayMany a_numbers a_tape a_c a_kept a_words a_row a_ordered a_orderWas a_room a_ways a_places a_livedLast a_before (nI 0) (nI 0) v_above v_under v_taped v_textEnd v_faultKind v_faultAt v_bad v_badAt v_token v_at v_behind v_number v_letters v_word v_markMany v_orderTold v_newSteps v_orderedMany v_orderBest v_allSixteenths v_safePage v_openMany v_product v_shares v_hasLived v_isOver v_random v_done v_missed v_turns v_found v_leftOver v_numbers v_trayMany v_traySort)) hD rfl).sub (ws' := (k_X12_no T a_ a_traySort a_trayMany a_numbers a_tape a_c a_kept a_words a_row a_ordered a_orderWas a_room a_ways a_places a_livedLast a_before (nI 0) (nI 0) v_above v_under v_taped v_textEnd v_faultKind v_faultAt v_bad v_badAt v_token v_at v_behind v_number v_letters v_word v_markMany v_orderTold v_newSteps v_orderedMany v_orderBest v_allSixteenths v_safePage v_openMany v_product v_shares v_hasLived v_isOver v_random v_done v_missed v_turns v_found v_leftOver)) [0] rfl rfl
              refine mp_calli (isC := [0]) (wc := (k_X12_no T a_ a_traySort a_trayMany a_numbers a_tape a_c a_kept a_words a_row a_ordered a_orderWas a_room a_ways a_places a_livedLast a_before (nI 0) (nI 0) v_above v_under v_taped v_textEnd v_faultKind v_faultAt v_bad v_badAt v_token v_at v_behind v_number v_letters v_word v_markMany v_orderTold v_newSteps v_orderedMany v_orderBest v_allSixteenths v_safePage v_openMany v_product v_shares v_hasLived v_isOver v_random v_done v_missed v_turns v_found v_leftOver)) (w1 := (k_X12_no T a_ a_traySort a_trayMany a_numbers a_tape a_c a_kept a_words a_row a_ordered a_orderWas a_room a_ways a_places a_livedLast a_before u61 (nI 0) v_above v_under v_taped v_textEnd v_faultKind v_faultAt v_bad v_badAt v_token v_at v_behind v_number v_letters v_word v_markMany v_orderTold v_newSteps v_orderedMany v_orderBest v_allSixteenths v_safePage v_openMany v_product v_shares v_hasLived v_isOver v_random v_done v_missed v_turns v_found v_leftOver)) hP (mp_D_of hD rfl) hS hA rfl rfl (mp_runV (As := [.int (nI 3)]) (rest := []) X me_X12_no lk_X12_86 (c_X12_no l D T a_ a_traySort a_trayMany a_numbers a_tape a_c a_kept a_words a_row a_ordered a_orderWas a_room a_ways a_places a_livedLast a_before (nI 3) (nI 0) v_above v_under v_taped v_textEnd v_faultKind v_faultAt v_bad v_badAt v_token v_at v_behind v_number v_letters v_word v_markMany v_orderTold v_newSteps v_orderedMany v_orderBest v_allSixteenths v_safePage v_openMany v_product v_shares v_hasLived v_isOver v_random v_done v_missed v_turns v_found v_leftOver (nI 0) r60 u61 c62) rfl rfl ⟨(Nat.le_of_ble_eq_true rfl), (Nat.le_of_ble_eq_true rfl)⟩ hK hPc hDc rfl rfl rfl rfl hl.1 rfl (Nat.le_of_ble_eq_true rfl) dX12_pour_54 ⟨Nat.zero_le _, Nat.zero_le _⟩) (fun H locs hP _ hS => ?_)
              replace hP : va_P D mp_cl (k_X12_pour T a_ a_traySort a_trayMany a_numbers a_tape a_c a_kept a_words a_row a_ordered a_orderWas a_room a_ways a_places a_livedLast a_before u61 (nI 0) v_above v_under v_taped v_textEnd v_faultKind v_faultAt v_bad v_badAt v_token v_at v_behind v_number v_letters v_word v_markMany v_orderTold v_newSteps v_orderedMany v_orderBest v_allSixteenths v_safePage v_openMany v_product v_shares v_hasLived v_isOver v_random v_done v_missed v_turns v_found v_leftOver v_numbers v_trayMany v_traySort) H := hP
              obtain ⟨h63, hf⟩ := gd_of hf
              cases hf
              exact mp_retz X hP hS rfl h63 dX12_pour_57
        · replace hf := if_f hf h16
          refine lv_aload_n hx hb dX12_pour_28 rfl (lv_at hl 0 rfl) ?_
          refine lv_iconst (v := (nI 1)) hx hb dX12_pour_29 (by decide) ?_
          obtain ⟨⟨r64, u65⟩, c66, hf⟩ := bd_of hf
          dsimp only at hf
          have hPc := hP.sub (ws' := (k_X12_no T a_ a_traySort a_trayMany a_numbers a_tape a_c a_kept a_words a_row a_ordered a_orderWas a_room a_ways a_places a_livedLast a_before (nI 0) (nI 0) v_above v_under v_taped v_textEnd v_faultKind v_faultAt v_bad v_badAt v_token v_at v_behind v_number v_letters v_word v_markMany v_orderTold v_newSteps v_orderedMany v_orderBest v_allSixteenths v_safePage v_openMany v_product v_shares v_hasLived v_isOver v_random v_done v_missed v_turns v_found v_leftOver)) [0] rfl
          have hDc := (mp_D_of (w1 := (k_X12_pour T a_ a_traySort a_trayMany a_numbers a_tape a_c a_kept a_words a_row a_ordered a_orderWas a_room a_ways a_places a_livedLast a_before (nI 0) (nI 0) v_above v_under v_taped v_textEnd v_faultKind v_faultAt v_bad v_badAt v_token v_at v_behind v_number v_letters v_word v_markMany v_orderTold v_newSteps v_orderedMany v_orderBest v_allSixteenths v_safePage v_openMany v_product v_shares v_hasLived v_isOver v_random v_done v_missed v_turns v_found v_leftOver v_numbers v_trayMany v_traySort)) hD rfl).sub (ws' := (k_X12_no T a_ a_traySort a_trayMany a_numbers a_tape a_c a_kept a_words a_row a_ordered a_orderWas a_room a_ways a_places a_livedLast a_before (nI 0) (nI 0) v_above v_under v_taped v_textEnd v_faultKind v_faultAt v_bad v_badAt v_token v_at v_behind v_number v_letters v_word v_markMany v_orderTold v_newSteps v_orderedMany v_orderBest v_allSixteenths v_safePage v_openMany v_product v_shares v_hasLived v_isOver v_random v_done v_missed v_turns v_found v_leftOver)) [0] rfl rfl
          refine mp_calli (isC := [0]) (wc := (k_X12_no T a_ a_traySort a_trayMany a_numbers a_tape a_c a_kept a_words a_row a_ordered a_orderWas a_room a_ways a_places a_livedLast a_before (nI 0) (nI 0) v_above v_under v_taped v_textEnd v_faultKind v_faultAt v_bad v_badAt v_token v_at v_behind v_number v_letters v_word v_markMany v_orderTold v_newSteps v_orderedMany v_orderBest v_allSixteenths v_safePage v_openMany v_product v_shares v_hasLived v_isOver v_random v_done v_missed v_turns v_found v_leftOver)) (w1 := (k_X12_no T a_ a_traySort a_trayMany a_numbers a_tape a_c a_kept a_words a_row a_ordered a_orderWas a_room a_ways a_places a_livedLast a_before u65 (nI 0) v_above v_under v_taped v_textEnd v_faultKind v_faultAt v_bad v_badAt v_token v_at v_behind v_number v_letters v_word v_markMany v_orderTold v_newSteps v_orderedMany v_orderBest v_allSixteenths v_safePage v_openMany v_product v_shares v_hasLived v_isOver v_random v_done v_missed v_turns v_found v_leftOver)) hP (mp_D_of hD rfl) hS hA rfl rfl (mp_runV (As := [.int (nI 1)]) (rest := []) X me_X12_no lk_X12_86 (c_X12_no l D T a_ a_traySort a_trayMany a_numbers a_tape a_c a_kept a_words a_row a_ordered a_orderWas a_room a_ways a_places a_livedLast a_before (nI 1) (nI 0) v_above v_under v_taped v_textEnd v_faultKind v_faultAt v_bad v_badAt v_token v_at v_behind v_number v_letters v_word v_markMany v_orderTold v_newSteps v_orderedMany v_orderBest v_allSixteenths v_safePage v_openMany v_product v_shares v_hasLived v_isOver v_random v_done v_missed v_turns v_found v_leftOver (nI 0) r64 u65 c66) rfl rfl ⟨(Nat.le_of_ble_eq_true rfl), (Nat.le_of_ble_eq_true rfl)⟩ hK hPc hDc rfl rfl rfl rfl hl.1 rfl (Nat.le_of_ble_eq_true rfl) dX12_pour_30 ⟨Nat.zero_le _, Nat.zero_le _⟩) (fun H locs hP _ hS => ?_)
          replace hP : va_P D mp_cl (k_X12_pour T a_ a_traySort a_trayMany a_numbers a_tape a_c a_kept a_words a_row a_ordered a_orderWas a_room a_ways a_places a_livedLast a_before u65 (nI 0) v_above v_under v_taped v_textEnd v_faultKind v_faultAt v_bad v_badAt v_token v_at v_behind v_number v_letters v_word v_markMany v_orderTold v_newSteps v_orderedMany v_orderBest v_allSixteenths v_safePage v_openMany v_product v_shares v_hasLived v_isOver v_random v_done v_missed v_turns v_found v_leftOver v_numbers v_trayMany v_traySort) H := hP
          obtain ⟨h67, hf⟩ := gd_of hf
          cases hf
          exact mp_retz X hP hS rfl h67 dX12_pour_33


def k_X12_numberOf (T : Nat → ClassId) (a_ a_traySort a_trayMany a_numbers a_tape a_c a_kept a_words a_row a_ordered a_orderWas a_room a_ways a_places a_livedLast a_before : Nat) (v_status : Int32) (v_thrown : Int32) (v_above : Int64) (v_under : Int64) (v_taped : Int32) (v_textEnd : Int32) (v_faultKind : Int32) (v_faultAt : Int32) (v_bad : Int32) (v_badAt : Int32) (v_token : Int32) (v_at : Int32) (v_behind : Int32) (v_number : Int32) (v_letters : Int32) (v_word : Int64) (v_markMany : Int32) (v_orderTold : Int32) (v_newSteps : Int32) (v_orderedMany : Int32) (v_orderBest : Int32) (v_allSixteenths : Int64) (v_safePage : Int32) (v_openMany : Int32) (v_product : Int64) (v_shares : Int64) (v_hasLived : Int32) (v_isOver : Int32) (v_random : Int32) (v_done : Int32) (v_missed : Int32) (v_turns : Int32) (v_found : Int32) (v_leftOver : Int32) (v_numbers : (Nat → Int64)) : va_W := [(a_, oX12 v_status v_thrown v_above v_under a_traySort a_trayMany a_numbers a_tape v_taped v_textEnd v_faultKind v_faultAt v_bad v_badAt v_token v_at v_behind v_number v_letters v_word a_c a_kept a_words v_markMany v_orderTold v_newSteps a_row a_ordered a_orderWas v_orderedMany v_orderBest a_room v_allSixteenths v_safePage v_openMany v_product v_shares a_ways a_places a_livedLast a_before v_hasLived v_isOver v_random v_done v_missed v_turns v_found v_leftOver), (a_numbers, mp_aJ T 240 v_numbers)]
set_option maxHeartbeats 4000000 in
set_option maxRecDepth 100000 in
theorem c_X12_numberOf (l : Launch) (D : va_G) (T : Nat → ClassId) (a_ a_traySort a_trayMany a_numbers a_tape a_c a_kept a_words a_row a_ordered a_orderWas a_room a_ways a_places a_livedLast a_before : Nat) (x1 : Int32) (x2 : Int32) (v_status : Int32) (v_thrown : Int32) (v_above : Int64) (v_under : Int64) (v_taped : Int32) (v_textEnd : Int32) (v_faultKind : Int32) (v_faultAt : Int32) (v_bad : Int32) (v_badAt : Int32) (v_token : Int32) (v_at : Int32) (v_behind : Int32) (v_number : Int32) (v_letters : Int32) (v_word : Int64) (v_markMany : Int32) (v_orderTold : Int32) (v_newSteps : Int32) (v_orderedMany : Int32) (v_orderBest : Int32) (v_allSixteenths : Int64) (v_safePage : Int32) (v_openMany : Int32) (v_product : Int64) (v_shares : Int64) (v_hasLived : Int32) (v_isOver : Int32) (v_random : Int32) (v_done : Int32) (v_missed : Int32) (v_turns : Int32) (v_found : Int32) (v_leftOver : Int32) (v_numbers : (Nat → Int64)) (r_ : Int64) (hf : f_X12_numberOf x1 x2 v_numbers = some r_) :
    mp_M l D T yX12_numberOf cX12_numberOf 3 (some .long) ({ frames := 0, cells := 0, slots := 0, locals := 0 }) 0 0 [.ref a_, .int x1, .int x2] (k_X12_numberOf T a_ a_traySort a_trayMany a_numbers a_tape a_c a_kept a_words a_row a_ordered a_orderWas a_room a_ways a_places a_livedLast a_before v_status v_thrown v_above v_under v_taped v_textEnd v_faultKind v_faultAt v_bad v_badAt v_token v_at v_behind v_number v_letters v_word v_markMany v_orderTold v_newSteps v_orderedMany v_orderBest v_allSixteenths v_safePage v_openMany v_product v_shares v_hasLived v_isOver v_random v_done v_missed v_turns v_found v_leftOver v_numbers) (mp_Ql D r_ (k_X12_numberOf T a_ a_traySort a_trayMany a_numbers a_tape a_c a_kept a_words a_row a_ordered a_orderWas a_room a_ways a_places a_livedLast a_before v_status v_thrown v_above v_under v_taped v_textEnd v_faultKind v_faultAt v_bad v_badAt v_token v_at v_behind v_number v_letters v_word v_markMany v_orderTold v_newSteps v_orderedMany v_orderBest v_allSixteenths v_safePage v_openMany v_product v_shares v_hasLived v_isOver v_random v_done v_missed v_turns v_found v_leftOver v_numbers)) := by
  refine mp_of (by decide) (Nat.le_of_ble_eq_true rfl) rfl ?_
  intro p e s m args below meth c A ls X hK hP hD hS hA hl
  replace X : mp_X p s m meth c args RX12 "numberOf" cX12_numberOf 3 (some .long) := X
  have hx := X.1
  have hb := X.2.1
  have hml := X.2.2.1
  have hown := X.2.2.2.2.1
  have hts := X.2.2.2.2.2.1
  replace hl : lv_has ls 3 [(0, .ref a_), (1, .int x1), (2, .int x2)] := hl
  replace hf : gi_ (((nI 60) * x1) + x2) 240 (some (v_numbers (((nI 60) * x1) + x2).toNatClampNeg)) = some r_ := hf
  refine lv_aload_n hx hb dX12_numberOf_0 rfl (lv_at hl 0 rfl) ?_
  refine mp_get X fl_X12_20 hK hP 0 rfl rfl dX12_numberOf_1 ?_
  refine lv_bipush (v := (nI 60)) hx hb dX12_numberOf_4 (by decide) ?_
  refine lv_iload_n hx hb dX12_numberOf_6 rfl (lv_at hl 1 rfl) ?_
  refine lv_imul hx hb dX12_numberOf_7 ?_
  refine lv_iload_n hx hb dX12_numberOf_8 rfl (lv_at hl 2 rfl) ?_
  refine lv_iadd hx hb dX12_numberOf_9 ?_
  obtain ⟨h1, hf⟩ := gi_of hf
  refine va_lald hx hb hK hP 1 1 rfl rfl h1 dX12_numberOf_10 ?_
  cases hf
  exact mp_retl X hP hS rfl dX12_numberOf_11


def k_X12_isTray (T : Nat → ClassId) (a_ a_traySort a_trayMany a_numbers a_tape a_c a_kept a_words a_row a_ordered a_orderWas a_room a_ways a_places a_livedLast a_before : Nat) (v_status : Int32) (v_thrown : Int32) (v_above : Int64) (v_under : Int64) (v_taped : Int32) (v_textEnd : Int32) (v_faultKind : Int32) (v_faultAt : Int32) (v_bad : Int32) (v_badAt : Int32) (v_token : Int32) (v_at : Int32) (v_behind : Int32) (v_number : Int32) (v_letters : Int32) (v_word : Int64) (v_markMany : Int32) (v_orderTold : Int32) (v_newSteps : Int32) (v_orderedMany : Int32) (v_orderBest : Int32) (v_allSixteenths : Int64) (v_safePage : Int32) (v_openMany : Int32) (v_product : Int64) (v_shares : Int64) (v_hasLived : Int32) (v_isOver : Int32) (v_random : Int32) (v_done : Int32) (v_missed : Int32) (v_turns : Int32) (v_found : Int32) (v_leftOver : Int32) : va_W := [(a_, oX12 v_status v_thrown v_above v_under a_traySort a_trayMany a_numbers a_tape v_taped v_textEnd v_faultKind v_faultAt v_bad v_badAt v_token v_at v_behind v_number v_letters v_word a_c a_kept a_words v_markMany v_orderTold v_newSteps a_row a_ordered a_orderWas v_orderedMany v_orderBest a_room v_allSixteenths v_safePage v_openMany v_product v_shares a_ways a_places a_livedLast a_before v_hasLived v_isOver v_random v_done v_missed v_turns v_found v_leftOver)]
set_option maxHeartbeats 4000000 in
set_option maxRecDepth 100000 in
theorem c_X12_isTray (l : Launch) (D : va_G) (T : Nat → ClassId) (a_ a_traySort a_trayMany a_numbers a_tape a_c a_kept a_words a_row a_ordered a_orderWas a_room a_ways a_places a_livedLast a_before : Nat) (x1 : Int32) (v_status : Int32) (v_thrown : Int32) (v_above : Int64) (v_under : Int64) (v_taped : Int32) (v_textEnd : Int32) (v_faultKind : Int32) (v_faultAt : Int32) (v_bad : Int32) (v_badAt : Int32) (v_token : Int32) (v_at : Int32) (v_behind : Int32) (v_number : Int32) (v_letters : Int32) (v_word : Int64) (v_markMany : Int32) (v_orderTold : Int32) (v_newSteps : Int32) (v_orderedMany : Int32) (v_orderBest : Int32) (v_allSixteenths : Int64) (v_safePage : Int32) (v_openMany : Int32) (v_product : Int64) (v_shares : Int64) (v_hasLived : Int32) (v_isOver : Int32) (v_random : Int32) (v_done : Int32) (v_missed : Int32) (v_turns : Int32) (v_found : Int32) (v_leftOver : Int32) (r_ : Int32) (hf : f_X12_isTray x1 = some r_) :
    mp_M l D T yX12_isTray cX12_isTray 2 (some .boolean) ({ frames := 1, cells := 0, slots := 0, locals := 25 }) 0 0 [.ref a_, .int x1] (k_X12_isTray T a_ a_traySort a_trayMany a_numbers a_tape a_c a_kept a_words a_row a_ordered a_orderWas a_room a_ways a_places a_livedLast a_before v_status v_thrown v_above v_under v_taped v_textEnd v_faultKind v_faultAt v_bad v_badAt v_token v_at v_behind v_number v_letters v_word v_markMany v_orderTold v_newSteps v_orderedMany v_orderBest v_allSixteenths v_safePage v_openMany v_product v_shares v_hasLived v_isOver v_random v_done v_missed v_turns v_found v_leftOver) (mp_Qi D r_ (k_X12_isTray T a_ a_traySort a_trayMany a_numbers a_tape a_c a_kept a_words a_row a_ordered a_orderWas a_room a_ways a_places a_livedLast a_before v_status v_thrown v_above v_under v_taped v_textEnd v_faultKind v_faultAt v_bad v_badAt v_token v_at v_behind v_number v_letters v_word v_markMany v_orderTold v_newSteps v_orderedMany v_orderBest v_allSixteenths v_safePage v_openMany v_product v_shares v_hasLived v_isOver v_random v_done v_missed v_turns v_found v_leftOver)) := by
  refine mp_of (by decide) (Nat.le_of_ble_eq_true rfl) rfl ?_
  intro p e s m args below meth c A ls X hK hP hD hS hA hl
  replace X : mp_X p s m meth c args RX12 "isTray" cX12_isTray 2 (some .boolean) := X
  have hx := X.1
  have hb := X.2.1
  have hml := X.2.2.1
  have hown := X.2.2.2.2.1
  have hts := X.2.2.2.2.2.1
  replace hl : lv_has ls 2 [(0, .ref a_), (1, .int x1)] := hl
  replace hf : bd_ (f_X12_isIn (x1).toInt64 (lN 0) (lN 3)) (fun (r1 : Int32) => gd_ (r1 = 0 ∨ r1 = 1) (some (r1))) = some r_ := hf
  refine lv_iload_n hx hb dX12_isTray_0 rfl (lv_at hl 1 rfl) ?_
  refine lv_i2l hx hb dX12_isTray_1 rfl ?_
  refine lv_lconst (v := (lN 0)) hx hb dX12_isTray_2 (by decide) ?_
  refine lv_ldc2 (v := (lN 3)) hx hb hown (hts _ (cw_X12_104)) dX12_isTray_3 ?_
  obtain ⟨r1, c2, hf⟩ := bd_of hf
  have hPc := hP.sub (ws' := (k_X12_isIn T )) [] rfl
  have hDc := (mp_D_of (w1 := (k_X12_isTray T a_ a_traySort a_trayMany a_numbers a_tape a_c a_kept a_words a_row a_ordered a_orderWas a_room a_ways a_places a_livedLast a_before v_status v_thrown v_above v_under v_taped v_textEnd v_faultKind v_faultAt v_bad v_badAt v_token v_at v_behind v_number v_letters v_word v_markMany v_orderTold v_newSteps v_orderedMany v_orderBest v_allSixteenths v_safePage v_openMany v_product v_shares v_hasLived v_isOver v_random v_done v_missed v_turns v_found v_leftOver)) hD rfl).sub (ws' := (k_X12_isIn T )) [] rfl rfl
  refine mp_calli (isC := []) (wc := (k_X12_isIn T )) (w1 := (k_X12_isIn T )) hP (mp_D_of hD rfl) hS hA rfl rfl (mp_runS (As := [.long (x1).toInt64, .long (lN 0), .long (lN 3)]) (rest := []) X me_X12_isIn lk_X12_106 (c_X12_isIn l D T (x1).toInt64 (lN 0) (lN 3) r1 c2) rfl rfl ⟨(Nat.le_of_ble_eq_true rfl), (Nat.le_of_ble_eq_true rfl)⟩ hK hPc hDc rfl hl.1 rfl (Nat.le_of_ble_eq_true rfl) dX12_isTray_6 ⟨Nat.zero_le _, Nat.zero_le _⟩) (fun H locs hP _ hS => ?_)
  replace hP : va_P D mp_cl (k_X12_isTray T a_ a_traySort a_trayMany a_numbers a_tape a_c a_kept a_words a_row a_ordered a_orderWas a_room a_ways a_places a_livedLast a_before v_status v_thrown v_above v_under v_taped v_textEnd v_faultKind v_faultAt v_bad v_badAt v_token v_at v_behind v_number v_letters v_word v_markMany v_orderTold v_newSteps v_orderedMany v_orderBest v_allSixteenths v_safePage v_openMany v_product v_shares v_hasLived v_isOver v_random v_done v_missed v_turns v_found v_leftOver) H := hP
  obtain ⟨h3, hf⟩ := gd_of hf
  cases hf
  exact mp_retz X hP hS rfl h3 dX12_isTray_9


def k_X12_has (T : Nat → ClassId) : va_W := []
set_option maxHeartbeats 4000000 in
set_option maxRecDepth 100000 in
theorem c_X12_has (l : Launch) (D : va_G) (T : Nat → ClassId) (x1 : Int32) (x2 : Int32) (r_ : Int32) (hf : f_X12_has x1 x2 = some r_) :
    mp_M l D T yX12_has cX12_has 2 (some .boolean) ({ frames := 0, cells := 0, slots := 0, locals := 0 }) 0 0 [.int x1, .int x2] (k_X12_has T ) (mp_Qi D r_ (k_X12_has T )) := by
  refine mp_of (by decide) (Nat.le_of_ble_eq_true rfl) rfl ?_
  intro p e s m args below meth c A ls X hK hP hD hS hA hl
  replace X : mp_X p s m meth c args RX12 "has" cX12_has 2 (some .boolean) := X
  have hx := X.1
  have hb := X.2.1
  have hml := X.2.2.1
  have hown := X.2.2.2.2.1
  have hts := X.2.2.2.2.2.1
  replace hl : lv_has ls 2 [(0, .int x1), (1, .int x2)] := hl
  replace hf : (if ((x1 >>> (x2 &&& (31 : Int32))) &&& (nI 1)) = (nI 1) then some ((nI 1)) else some ((nI 0))) = some r_ := hf
  refine lv_iload_n hx hb dX12_has_0 rfl (lv_at hl 0 rfl) ?_
  refine lv_iload_n hx hb dX12_has_1 rfl (lv_at hl 1 rfl) ?_
  refine lv_ishr hx hb dX12_has_2 ?_
  refine lv_iconst (v := (nI 1)) hx hb dX12_has_3 (by decide) ?_
  refine lv_iand hx hb dX12_has_4 ?_
  refine lv_iconst (v := (nI 1)) hx hb dX12_has_5 (by decide) ?_
  refine lv_icmp_ne (tgt := 13) hx hb dX12_has_6 (by decide) (fun h1 => ?_) (fun h1 => ?_)
  · replace hf := if_f hf h1
    refine lv_iconst (v := (nI 0)) hx hb dX12_has_13 (by decide) ?_
    cases hf
    exact mp_retz X hP hS rfl (Or.inl rfl) dX12_has_14
  · replace hf := if_t hf h1
    refine lv_iconst (v := (nI 1)) hx hb dX12_has_9 (by decide) ?_
    refine lv_goto (tgt := 14) hx hb dX12_has_10 (by decide) ?_
    cases hf
    exact mp_retz X hP hS rfl (Or.inr rfl) dX12_has_14


def k_X12_sizeOf (T : Nat → ClassId) : va_W := []
set_option maxHeartbeats 4000000 in
set_option maxRecDepth 100000 in
theorem w_X12_sizeOf_4 {p : Program} {l : Launch} {e : Env} {s : State} {m : MethodId} {args : Array Value} {below : List Frame} {meth : Method} {c : Code} {D : va_G} {T : Nat → ClassId} {A : Nat → Prop} (X : mp_X p s m meth c args RX12 "sizeOf" cX12_sizeOf 3 (some .int)) (hK : va_K D mp_cl (mp_ty T) s) (hA : ∀ q, s.heap.size ≤ q → A q) (fu : Nat) (r_ : Int32) :
    ∀ (n : Nat) (z0 : Int32) (z1 : Int32) (z2 : Int32), f_X12_sizeOf_4 fu   n z0 z1 z2 = some r_ → ∀ (H : Heap) (locs : List Loc) (ls : Array Slot), va_P D mp_cl (k_X12_sizeOf T ) H → va_D A (k_X12_sizeOf T ) → va_S A s.heap H locs → lv_has ls 3 [(0, .int z0), (1, .int z1), (2, .int z2)] → W p l e ({ frames := 1, cells := 0, slots := 0, locals := 21 }) s m args below meth c H locs 0 0 (MQ below ((mp_Qi D r_ (k_X12_sizeOf T )) A) args s 0 0 A) (F0 m 4 ls []) := by
  have hx := X.1
  have hb := X.2.1
  have hml := X.2.2.1
  have hown := X.2.2.2.2.1
  have hts := X.2.2.2.2.2.1
  intro n
  induction n with
  | zero => intro z0 z1 z2 hf; exact absurd hf (by intro h; cases h)
  | succ n ih =>
    intro z0 z1 z2 hf H locs ls hP hD hS hl
    replace hf : (if (nI 8) ≤ z2 then some (z1) else bd_ (f_X12_has z0 z2) (fun (r2 : Int32) => (if r2 = 0 then lt_ (z1 + (nI 0)) (fun (y5 : Int32) => lt_ (z2 + (nI 1)) (fun (y6 : Int32) => f_X12_sizeOf_4 fu   n z0 y5 y6)) else lt_ (z1 + (nI 1)) (fun (y7 : Int32) => lt_ (z2 + (nI 1)) (fun (y8 : Int32) => f_X12_sizeOf_4 fu   n z0 y7 y8))))) = some r_ := hf
    refine lv_iload_n hx hb dX12_sizeOf_4 rfl (lv_at hl 2 rfl) ?_
    refine lv_bipush (v := (nI 8)) hx hb dX12_sizeOf_5 (by decide) ?_
    refine lv_icmp_ge (tgt := 32) hx hb dX12_sizeOf_7 (by decide) (fun h1 => ?_) (fun h1 => ?_)
    · replace hf := if_t hf h1
      refine lv_iload_n hx hb dX12_sizeOf_32 rfl (lv_at hl 1 rfl) ?_
      cases hf
      exact mp_reti X hP hS rfl dX12_sizeOf_33
    · replace hf := if_f hf h1
      refine lv_iload_n hx hb dX12_sizeOf_10 rfl (lv_at hl 1 rfl) ?_
      refine lv_iload_n hx hb dX12_sizeOf_11 rfl (lv_at hl 0 rfl) ?_
      refine lv_iload_n hx hb dX12_sizeOf_12 rfl (lv_at hl 2 rfl) ?_
      obtain ⟨r2, c3, hf⟩ := bd_of hf
      have hPc := hP.sub (ws' := (k_X12_has T )) [] rfl
      have hDc := (mp_D_of (w1 := (k_X12_sizeOf T )) hD rfl).sub (ws' := (k_X12_has T )) [] rfl rfl
      refine mp_calli (isC := []) (wc := (k_X12_has T )) (w1 := (k_X12_has T )) hP (mp_D_of hD rfl) hS hA rfl rfl (mp_runS (As := [.int z0, .int z2]) (rest := [.int z1]) X me_X12_has lk_X12_110 (c_X12_has l D T z0 z2 r2 c3) rfl rfl ⟨(Nat.le_of_ble_eq_true rfl), (Nat.le_of_ble_eq_true rfl)⟩ hK hPc hDc rfl hl.1 rfl (Nat.le_of_ble_eq_true rfl) dX12_sizeOf_13 ⟨Nat.zero_le _, Nat.zero_le _⟩) (fun H locs hP _ hS => ?_)
      replace hP : va_P D mp_cl (k_X12_sizeOf T ) H := hP
      refine lv_if_eq (tgt := 23) hx hb dX12_sizeOf_16 (by decide) (fun h4 => ?_) (fun h4 => ?_)
      · replace hf := if_t hf h4
        refine lv_iconst (v := (nI 0)) hx hb dX12_sizeOf_23 (by decide) ?_
        refine lv_iadd hx hb dX12_sizeOf_24 ?_
        refine lv_topi (fun y5 e5 => ?_)
        replace hf := lt_of e5 hf
        refine lv_istore_n (lv' := [(1, .int y5), (0, .int z0), (2, .int z2)]) hx hb dX12_sizeOf_25 rfl hl (by decide) rfl (fun ls hl => ?_)
        obtain ⟨y6, e6⟩ : ∃ y : Int32, y = z2 + (nI 1) := ⟨_, rfl⟩
        replace hf := lt_of e6 hf
        refine lv_iinc (v := y6) (lv' := [(2, .int y6), (1, .int y5), (0, .int z0)]) hx hb dX12_sizeOf_26 hl (k := 2) rfl (by rw [e6]; rfl) (by decide) rfl (fun ls hl => ?_)
        refine lv_goto (tgt := 4) hx hb dX12_sizeOf_29 (by decide) ?_
        exact ih z0 y5 y6 hf _ _ _ hP (mp_D_of hD rfl) hS (lv_sub hl [2, 1, 0] rfl)
      · replace hf := if_f hf h4
        refine lv_iconst (v := (nI 1)) hx hb dX12_sizeOf_19 (by decide) ?_
        refine lv_goto (tgt := 24) hx hb dX12_sizeOf_20 (by decide) ?_
        refine lv_iadd hx hb dX12_sizeOf_24 ?_
        refine lv_topi (fun y7 e7 => ?_)
        replace hf := lt_of e7 hf
        refine lv_istore_n (lv' := [(1, .int y7), (0, .int z0), (2, .int z2)]) hx hb dX12_sizeOf_25 rfl hl (by decide) rfl (fun ls hl => ?_)
        obtain ⟨y8, e8⟩ : ∃ y : Int32, y = z2 + (nI 1) := ⟨_, rfl⟩
        replace hf := lt_of e8 hf
        refine lv_iinc (v := y8) (lv' := [(2, .int y8), (1, .int y7), (0, .int z0)]) hx hb dX12_sizeOf_26 hl (k := 2) rfl (by rw [e8]; rfl) (by decide) rfl (fun ls hl => ?_)
        refine lv_goto (tgt := 4) hx hb dX12_sizeOf_29 (by decide) ?_
        exact ih z0 y7 y8 hf _ _ _ hP (mp_D_of hD rfl) hS (lv_sub hl [2, 1, 0] rfl)

set_option maxHeartbeats 4000000 in
set_option maxRecDepth 100000 in
theorem c_X12_sizeOf (l : Launch) (D : va_G) (T : Nat → ClassId) (fu : Nat) (x1 : Int32) (r_ : Int32) (hf : f_X12_sizeOf fu x1 = some r_) :
    mp_M l D T yX12_sizeOf cX12_sizeOf 3 (some .int) ({ frames := 1, cells := 0, slots := 0, locals := 21 }) 0 0 [.int x1] (k_X12_sizeOf T ) (mp_Qi D r_ (k_X12_sizeOf T )) := by
  refine mp_of (by decide) (Nat.le_of_ble_eq_true rfl) rfl ?_
  intro p e s m args below meth c A ls X hK hP hD hS hA hl
  replace X : mp_X p s m meth c args RX12 "sizeOf" cX12_sizeOf 3 (some .int) := X
  have hx := X.1
  have hb := X.2.1
  have hml := X.2.2.1
  have hown := X.2.2.2.2.1
  have hts := X.2.2.2.2.2.1
  replace hl : lv_has ls 3 [(0, .int x1)] := hl
  replace hf : f_X12_sizeOf_4 fu   fu x1 (nI 0) (nI 0) = some r_ := hf
  refine lv_iconst (v := (nI 0)) hx hb dX12_sizeOf_0 (by decide) ?_
  refine lv_istore_n (lv' := [(1, .int (nI 0)), (0, .int x1)]) hx hb dX12_sizeOf_1 rfl hl (by decide) rfl (fun ls hl => ?_)
  refine lv_iconst (v := (nI 0)) hx hb dX12_sizeOf_2 (by decide) ?_
  refine lv_istore_n (lv' := [(2, .int (nI 0)), (1, .int (nI 0)), (0, .int x1)]) hx hb dX12_sizeOf_3 rfl hl (by decide) rfl (fun ls hl => ?_)
  exact w_X12_sizeOf_4 X hK hA  fu r_   fu x1 (nI 0) (nI 0) hf _ _ _ hP (mp_D_of hD rfl) hS (lv_sub hl [2, 1, 0] rfl)


def k_X12_look2 (T : Nat → ClassId) (a_ a_traySort a_trayMany a_numbers a_tape a_c a_kept a_words a_row a_ordered a_orderWas a_room a_ways a_places a_livedLast a_before : Nat) (v_status : Int32) (v_thrown : Int32) (v_above : Int64) (v_under : Int64) (v_taped : Int32) (v_textEnd : Int32) (v_faultKind : Int32) (v_faultAt : Int32) (v_bad : Int32) (v_badAt : Int32) (v_token : Int32) (v_at : Int32) (v_behind : Int32) (v_number : Int32) (v_letters : Int32) (v_word : Int64) (v_markMany : Int32) (v_orderTold : Int32) (v_newSteps : Int32) (v_orderedMany : Int32) (v_orderBest : Int32) (v_allSixteenths : Int64) (v_safePage : Int32) (v_openMany : Int32) (v_product : Int64) (v_shares : Int64) (v_hasLived : Int32) (v_isOver : Int32) (v_random : Int32) (v_done : Int32) (v_missed : Int32) (v_turns : Int32) (v_found : Int32) (v_leftOver : Int32) (v_tape : (Nat → Int32)) : va_W := [(a_, oX12 v_status v_thrown v_above v_under a_traySort a_trayMany a_numbers a_tape v_taped v_textEnd v_faultKind v_faultAt v_bad v_badAt v_token v_at v_behind v_number v_letters v_word a_c a_kept a_words v_markMany v_orderTold v_newSteps a_row a_ordered a_orderWas v_orderedMany v_orderBest a_room v_allSixteenths v_safePage v_openMany v_product v_shares a_ways a_places a_livedLast a_before v_hasLived v_isOver v_random v_done v_missed v_turns v_found v_leftOver), (a_tape, mp_aB T 900 v_tape)]
set_option maxHeartbeats 4000000 in
set_option maxRecDepth 100000 in
theorem c_X12_look2 (l : Launch) (D : va_G) (T : Nat → ClassId) (a_ a_traySort a_trayMany a_numbers a_tape a_c a_kept a_words a_row a_ordered a_orderWas a_room a_ways a_places a_livedLast a_before : Nat) (x1 : Int32) (v_status : Int32) (v_thrown : Int32) (v_above : Int64) (v_under : Int64) (v_taped : Int32) (v_faultKind : Int32) (v_faultAt : Int32) (v_bad : Int32) (v_badAt : Int32) (v_token : Int32) (v_at : Int32) (v_behind : Int32) (v_number : Int32) (v_letters : Int32) (v_word : Int64) (v_markMany : Int32) (v_orderTold : Int32) (v_newSteps : Int32) (v_orderedMany : Int32) (v_orderBest : Int32) (v_allSixteenths : Int64) (v_safePage : Int32) (v_openMany : Int32) (v_product : Int64) (v_shares : Int64) (v_hasLived : Int32) (v_isOver : Int32) (v_random : Int32) (v_done : Int32) (v_missed : Int32) (v_turns : Int32) (v_found : Int32) (v_leftOver : Int32) (v_textEnd : Int32) (v_tape : (Nat → Int32)) (r_ : Int32) (hf : f_X12_look2 x1 v_textEnd v_tape = some r_) :
    mp_M l D T yX12_look2 cX12_look2 2 (some .int) ({ frames := 0, cells := 0, slots := 0, locals := 0 }) 0 0 [.ref a_, .int x1] (k_X12_look2 T a_ a_traySort a_trayMany a_numbers a_tape a_c a_kept a_words a_row a_ordered a_orderWas a_room a_ways a_places a_livedLast a_before v_status v_thrown v_above v_under v_taped v_textEnd v_faultKind v_faultAt v_bad v_badAt v_token v_at v_behind v_number v_letters v_word v_markMany v_orderTold v_newSteps v_orderedMany v_orderBest v_allSixteenths v_safePage v_openMany v_product v_shares v_hasLived v_isOver v_random v_done v_missed v_turns v_found v_leftOver v_tape) (mp_Qi D r_ (k_X12_look2 T a_ a_traySort a_trayMany a_numbers a_tape a_c a_kept a_words a_row a_ordered a_orderWas a_room a_ways a_places a_livedLast a_before v_status v_thrown v_above v_under v_taped v_textEnd v_faultKind v_faultAt v_bad v_badAt v_token v_at v_behind v_number v_letters v_word v_markMany v_orderTold v_newSteps v_orderedMany v_orderBest v_allSixteenths v_safePage v_openMany v_product v_shares v_hasLived v_isOver v_random v_done v_missed v_turns v_found v_leftOver v_tape)) := by
  refine mp_of (by decide) (Nat.le_of_ble_eq_true rfl) rfl ?_
  intro p e s m args below meth c A ls X hK hP hD hS hA hl
  replace X : mp_X p s m meth c args RX12 "look2" cX12_look2 2 (some .int) := X
  have hx := X.1
  have hb := X.2.1
  have hml := X.2.2.1
  have hown := X.2.2.2.2.1
  have hts := X.2.2.2.2.2.1
  replace hl : lv_has ls 2 [(0, .ref a_), (1, .int x1)] := hl
  replace hf : (if v_textEnd ≤ x1 then some ((nI 0)) else gi_ x1 900 (some ((v_tape (x1).toNatClampNeg) &&& (nI 255)))) = some r_ := hf
  refine lv_iload_n hx hb dX12_look2_0 rfl (lv_at hl 1 rfl) ?_
  refine lv_aload_n hx hb dX12_look2_1 rfl (lv_at hl 0 rfl) ?_
  refine mp_get X fl_X12_114 hK hP 0 rfl rfl dX12_look2_2 ?_
  refine lv_icmp_ge (tgt := 21) hx hb dX12_look2_5 (by decide) (fun h1 => ?_) (fun h1 => ?_)
  · replace hf := if_t hf h1
    refine lv_iconst (v := (nI 0)) hx hb dX12_look2_21 (by decide) ?_
    cases hf
    exact mp_reti X hP hS rfl dX12_look2_22
  · replace hf := if_f hf h1
    refine lv_aload_n hx hb dX12_look2_8 rfl (lv_at hl 0 rfl) ?_
    refine mp_get X fl_X12_24 hK hP 0 rfl rfl dX12_look2_9 ?_
    refine lv_iload_n hx hb dX12_look2_12 rfl (lv_at hl 1 rfl) ?_
    obtain ⟨h2, hf⟩ := gi_of hf
    refine va_bald hx hb hK hP 1 2 rfl rfl h2 dX12_look2_13 ?_
    refine lv_sipush (v := (nI 255)) hx hb dX12_look2_14 (by decide) ?_
    refine lv_iand hx hb dX12_look2_17 ?_
    refine lv_goto (tgt := 22) hx hb dX12_look2_18 (by decide) ?_
    cases hf
    exact mp_reti X hP hS rfl dX12_look2_22


def k_X12_isLetter (T : Nat → ClassId) : va_W := []
set_option maxHeartbeats 4000000 in
set_option maxRecDepth 100000 in
theorem c_X12_isLetter (l : Launch) (D : va_G) (T : Nat → ClassId) (x1 : Int32) (r_ : Int32) (hf : f_X12_isLetter x1 = some r_) :
    mp_M l D T yX12_isLetter cX12_isLetter 1 (some .boolean) ({ frames := 0, cells := 0, slots := 0, locals := 0 }) 0 0 [.int x1] (k_X12_isLetter T ) (mp_Qi D r_ (k_X12_isLetter T )) := by
  refine mp_of (by decide) (Nat.le_of_ble_eq_true rfl) rfl ?_
  intro p e s m args below meth c A ls X hK hP hD hS hA hl
  replace X : mp_X p s m meth c args RX12 "isLetter" cX12_isLetter 1 (some .boolean) := X
  have hx := X.1
  have hb := X.2.1
  have hml := X.2.2.1
  have hown := X.2.2.2.2.1
  have hts := X.2.2.2.2.2.1
  replace hl : lv_has ls 1 [(0, .int x1)] := hl
  replace hf : (if x1 < (nI 97) then some ((nI 0)) else (if (nI 122) < x1 then some ((nI 0)) else some ((nI 1)))) = some r_ := hf
  refine lv_iload_n hx hb dX12_isLetter_0 rfl (lv_at hl 0 rfl) ?_
  refine lv_bipush (v := (nI 97)) hx hb dX12_isLetter_1 (by decide) ?_
  refine lv_icmp_lt (tgt := 16) hx hb dX12_isLetter_3 (by decide) (fun h1 => ?_) (fun h1 => ?_)
  · replace hf := if_t hf h1
    refine lv_iconst (v := (nI 0)) hx hb dX12_isLetter_16 (by decide) ?_
    cases hf
    exact mp_retz X hP hS rfl (Or.inl rfl) dX12_isLetter_17
  · replace hf := if_f hf h1
    refine lv_iload_n hx hb dX12_isLetter_6 rfl (lv_at hl 0 rfl) ?_
    refine lv_bipush (v := (nI 122)) hx hb dX12_isLetter_7 (by decide) ?_
    refine lv_icmp_gt (tgt := 16) hx hb dX12_isLetter_9 (by decide) (fun h2 => ?_) (fun h2 => ?_)
    · replace hf := if_t hf h2
      refine lv_iconst (v := (nI 0)) hx hb dX12_isLetter_16 (by decide) ?_
      cases hf
      exact mp_retz X hP hS rfl (Or.inl rfl) dX12_isLetter_17
    · replace hf := if_f hf h2
      refine lv_iconst (v := (nI 1)) hx hb dX12_isLetter_12 (by decide) ?_
      refine lv_goto (tgt := 17) hx hb dX12_isLetter_13 (by decide) ?_
      cases hf
      exact mp_retz X hP hS rfl (Or.inr rfl) dX12_isLetter_17


def k_X12_isDigit (T : Nat → ClassId) : va_W := []
set_option maxHeartbeats 4000000 in
set_option maxRecDepth 100000 in
theorem c_X12_isDigit (l : Launch) (D : va_G) (T : Nat → ClassId) (x1 : Int32) (r_ : Int32) (hf : f_X12_isDigit x1 = some r_) :
    mp_M l D T yX12_isDigit cX12_isDigit 1 (some .boolean) ({ frames := 0, cells := 0, slots := 0, locals := 0 }) 0 0 [.int x1] (k_X12_isDigit T ) (mp_Qi D r_ (k_X12_isDigit T )) := by
  refine mp_of (by decide) (Nat.le_of_ble_eq_true rfl) rfl ?_
  intro p e s m args below meth c A ls X hK hP hD hS hA hl
  replace X : mp_X p s m meth c args RX12 "isDigit" cX12_isDigit 1 (some .boolean) := X
  have hx := X.1
  have hb := X.2.1
  have hml := X.2.2.1
  have hown := X.2.2.2.2.1
  have hts := X.2.2.2.2.2.1
  replace hl : lv_has ls 1 [(0, .int x1)] := hl
  replace hf : (if x1 < (nI 48) then some ((nI 0)) else (if (nI 57) < x1 then some ((nI 0)) else some ((nI 1)))) = some r_ := hf
  refine lv_iload_n hx hb dX12_isDigit_0 rfl (lv_at hl 0 rfl) ?_
  refine lv_bipush (v := (nI 48)) hx hb dX12_isDigit_1 (by decide) ?_
  refine lv_icmp_lt (tgt := 16) hx hb dX12_isDigit_3 (by decide) (fun h1 => ?_) (fun h1 => ?_)
  · replace hf := if_t hf h1
    refine lv_iconst (v := (nI 0)) hx hb dX12_isDigit_16 (by decide) ?_
    cases hf
    exact mp_retz X hP hS rfl (Or.inl rfl) dX12_isDigit_17
  · replace hf := if_f hf h1
    refine lv_iload_n hx hb dX12_isDigit_6 rfl (lv_at hl 0 rfl) ?_
    refine lv_bipush (v := (nI 57)) hx hb dX12_isDigit_7 (by decide) ?_
    refine lv_icmp_gt (tgt := 16) hx hb dX12_isDigit_9 (by decide) (fun h2 => ?_) (fun h2 => ?_)
    · replace hf := if_t hf h2
      refine lv_iconst (v := (nI 0)) hx hb dX12_isDigit_16 (by decide) ?_
      cases hf
      exact mp_retz X hP hS rfl (Or.inl rfl) dX12_isDigit_17
    · replace hf := if_f hf h2
      refine lv_iconst (v := (nI 1)) hx hb dX12_isDigit_12 (by decide) ?_
      refine lv_goto (tgt := 17) hx hb dX12_isDigit_13 (by decide) ?_
      cases hf
      exact mp_retz X hP hS rfl (Or.inr rfl) dX12_isDigit_17


def k_X12_isSignByte (T : Nat → ClassId) (a_ a_traySort a_trayMany a_numbers a_tape a_c a_kept a_words a_row a_ordered a_orderWas a_room a_ways a_places a_livedLast a_before : Nat) (v_status : Int32) (v_thrown : Int32) (v_above : Int64) (v_under : Int64) (v_taped : Int32) (v_textEnd : Int32) (v_faultKind : Int32) (v_faultAt : Int32) (v_bad : Int32) (v_badAt : Int32) (v_token : Int32) (v_at : Int32) (v_behind : Int32) (v_number : Int32) (v_letters : Int32) (v_word : Int64) (v_markMany : Int32) (v_orderTold : Int32) (v_newSteps : Int32) (v_orderedMany : Int32) (v_orderBest : Int32) (v_allSixteenths : Int64) (v_safePage : Int32) (v_openMany : Int32) (v_product : Int64) (v_shares : Int64) (v_hasLived : Int32) (v_isOver : Int32) (v_random : Int32) (v_done : Int32) (v_missed : Int32) (v_turns : Int32) (v_found : Int32) (v_leftOver : Int32) : va_W := [(a_, oX12 v_status v_thrown v_above v_under a_traySort a_trayMany a_numbers a_tape v_taped v_textEnd v_faultKind v_faultAt v_bad v_badAt v_token v_at v_behind v_number v_letters v_word a_c a_kept a_words v_markMany v_orderTold v_newSteps a_row a_ordered a_orderWas v_orderedMany v_orderBest a_room v_allSixteenths v_safePage v_openMany v_product v_shares a_ways a_places a_livedLast a_before v_hasLived v_isOver v_random v_done v_missed v_turns v_found v_leftOver)]
set_option maxHeartbeats 4000000 in
set_option maxRecDepth 100000 in
theorem c_X12_isSignByte (l : Launch) (D : va_G) (T : Nat → ClassId) (a_ a_traySort a_trayMany a_numbers a_tape a_c a_kept a_words a_row a_ordered a_orderWas a_room a_ways a_places a_livedLast a_before : Nat) (x1 : Int32) (v_status : Int32) (v_thrown : Int32) (v_above : Int64) (v_under : Int64) (v_taped : Int32) (v_textEnd : Int32) (v_faultKind : Int32) (v_faultAt : Int32) (v_bad : Int32) (v_badAt : Int32) (v_token : Int32) (v_at : Int32) (v_behind : Int32) (v_number : Int32) (v_letters : Int32) (v_word : Int64) (v_markMany : Int32) (v_orderTold : Int32) (v_newSteps : Int32) (v_orderedMany : Int32) (v_orderBest : Int32) (v_allSixteenths : Int64) (v_safePage : Int32) (v_openMany : Int32) (v_product : Int64) (v_shares : Int64) (v_hasLived : Int32) (v_isOver : Int32) (v_random : Int32) (v_done : Int32) (v_missed : Int32) (v_turns : Int32) (v_found : Int32) (v_leftOver : Int32) (r_ : Int32) (hf : f_X12_isSignByte x1 = some r_) :
    mp_M l D T yX12_isSignByte cX12_isSignByte 2 (some .boolean) ({ frames := 0, cells := 0, slots := 0, locals := 0 }) 0 0 [.ref a_, .int x1] (k_X12_isSignByte T a_ a_traySort a_trayMany a_numbers a_tape a_c a_kept a_words a_row a_ordered a_orderWas a_room a_ways a_places a_livedLast a_before v_status v_thrown v_above v_under v_taped v_textEnd v_faultKind v_faultAt v_bad v_badAt v_token v_at v_behind v_number v_letters v_word v_markMany v_orderTold v_newSteps v_orderedMany v_orderBest v_allSixteenths v_safePage v_openMany v_product v_shares v_hasLived v_isOver v_random v_done v_missed v_turns v_found v_leftOver) (mp_Qi D r_ (k_X12_isSignByte T a_ a_traySort a_trayMany a_numbers a_tape a_c a_kept a_words a_row a_ordered a_orderWas a_room a_ways a_places a_livedLast a_before v_status v_thrown v_above v_under v_taped v_textEnd v_faultKind v_faultAt v_bad v_badAt v_token v_at v_behind v_number v_letters v_word v_markMany v_orderTold v_newSteps v_orderedMany v_orderBest v_allSixteenths v_safePage v_openMany v_product v_shares v_hasLived v_isOver v_random v_done v_missed v_turns v_found v_leftOver)) := by
  refine mp_of (by decide) (Nat.le_of_ble_eq_true rfl) rfl ?_
  intro p e s m args below meth c A ls X hK hP hD hS hA hl
  replace X : mp_X p s m meth c args RX12 "isSignByte" cX12_isSignByte 2 (some .boolean) := X
  have hx := X.1
  have hb := X.2.1
  have hml := X.2.2.1
  have hown := X.2.2.2.2.1
  have hts := X.2.2.2.2.2.1
  replace hl : lv_has ls 2 [(0, .ref a_), (1, .int x1)] := hl
  replace hf : (if x1 = (nI 59) then some ((nI 1)) else (if x1 = (nI 60) then some ((nI 1)) else (if x1 = (nI 62) then some ((nI 1)) else (if x1 = (nI 61) then some ((nI 1)) else some ((nI 0)))))) = some r_ := hf
  refine lv_iload_n hx hb dX12_isSignByte_0 rfl (lv_at hl 1 rfl) ?_
  refine lv_bipush (v := (nI 59)) hx hb dX12_isSignByte_1 (by decide) ?_
  refine lv_icmp_eq (tgt := 24) hx hb dX12_isSignByte_3 (by decide) (fun h1 => ?_) (fun h1 => ?_)
  · replace hf := if_t hf h1
    refine lv_iconst (v := (nI 1)) hx hb dX12_isSignByte_24 (by decide) ?_
    refine lv_goto (tgt := 29) hx hb dX12_isSignByte_25 (by decide) ?_
    cases hf
    exact mp_retz X hP hS rfl (Or.inr rfl) dX12_isSignByte_29
  · replace hf := if_f hf h1
    refine lv_iload_n hx hb dX12_isSignByte_6 rfl (lv_at hl 1 rfl) ?_
    refine lv_bipush (v := (nI 60)) hx hb dX12_isSignByte_7 (by decide) ?_
    refine lv_icmp_eq (tgt := 24) hx hb dX12_isSignByte_9 (by decide) (fun h2 => ?_) (fun h2 => ?_)
    · replace hf := if_t hf h2
      refine lv_iconst (v := (nI 1)) hx hb dX12_isSignByte_24 (by decide) ?_
      refine lv_goto (tgt := 29) hx hb dX12_isSignByte_25 (by decide) ?_
      cases hf
      exact mp_retz X hP hS rfl (Or.inr rfl) dX12_isSignByte_29
    · replace hf := if_f hf h2
      refine lv_iload_n hx hb dX12_isSignByte_12 rfl (lv_at hl 1 rfl) ?_
      refine lv_bipush (v := (nI 62)) hx hb dX12_isSignByte_13 (by decide) ?_
      refine lv_icmp_eq (tgt := 24) hx hb dX12_isSignByte_15 (by decide) (fun h3 => ?_) (fun h3 => ?_)
      · replace hf := if_t hf h3
        refine lv_iconst (v := (nI 1)) hx hb dX12_isSignByte_24 (by decide) ?_
        refine lv_goto (tgt := 29) hx hb dX12_isSignByte_25 (by decide) ?_
        cases hf
        exact mp_retz X hP hS rfl (Or.inr rfl) dX12_isSignByte_29
      · replace hf := if_f hf h3
        refine lv_iload_n hx hb dX12_isSignByte_18 rfl (lv_at hl 1 rfl) ?_
        refine lv_bipush (v := (nI 61)) hx hb dX12_isSignByte_19 (by decide) ?_
        refine lv_icmp_ne (tgt := 28) hx hb dX12_isSignByte_21 (by decide) (fun h4 => ?_) (fun h4 => ?_)
        · replace hf := if_f hf h4
          refine lv_iconst (v := (nI 0)) hx hb dX12_isSignByte_28 (by decide) ?_
          cases hf
          exact mp_retz X hP hS rfl (Or.inl rfl) dX12_isSignByte_29
        · replace hf := if_t hf h4
          refine lv_iconst (v := (nI 1)) hx hb dX12_isSignByte_24 (by decide) ?_
          refine lv_goto (tgt := 29) hx hb dX12_isSignByte_25 (by decide) ?_
          cases hf
          exact mp_retz X hP hS rfl (Or.inr rfl) dX12_isSignByte_29


