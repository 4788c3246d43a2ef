def k_X11_status (T : Nat → ClassId) (a_ a_trays a_words a_odds a_tokens a_bookReader a_roundsReader a_book a_draft a_marks a_ahead a_life a_lifeTold : Nat) (v_status : Int32) (v_marked : Int32) (v_hasLived : Int32) : va_W := [(a_, oX11 v_status a_trays a_words a_odds a_tokens a_bookReader a_roundsReader a_book a_draft a_marks v_marked a_ahead a_life a_lifeTold v_hasLived)]
set_option maxHeartbeats 4000000 in
set_option maxRecDepth 100000 in
theorem c_X11_status (l : Launch) (D : va_G) (T : Nat → ClassId) (a_ a_trays a_words a_odds a_tokens a_bookReader a_roundsReader a_book a_draft a_marks a_ahead a_life a_lifeTold : Nat) (v_marked : Int32) (v_hasLived : Int32) (v_status : Int32) (r_ : Int32) (hf : f_X11_status v_status = some r_) :
    mp_M l D T yX11_status cX11_status 1 (some .int) ({ frames := 0, cells := 0, slots := 0, locals := 0 }) 0 0 [.ref a_] (k_X11_status T a_ a_trays a_words a_odds a_tokens a_bookReader a_roundsReader a_book a_draft a_marks a_ahead a_life a_lifeTold v_status v_marked v_hasLived) (mp_Qi D r_ (k_X11_status T a_ a_trays a_words a_odds a_tokens a_bookReader a_roundsReader a_book a_draft a_marks a_ahead a_life a_lifeTold v_status v_marked v_hasLived)) := by
  refine mp_of (by decide) (Nat.le_of_ble_eq_true rfl) rfl ?_
  intro p e s m args below meth c A ls X hK hP hD hS hA hl
  replace X : mp_X p s m meth c args RX11 "status" cX11_status 1 (some .int) := X
  have hx := X.1
  have hb := X.2.1
  have hml := X.2.2.1
  have hown := X.2.2.2.2.1
  have hts := X.2.2.2.2.2.1
  replace hl : lv_has ls 1 [(0, .ref a_)] := hl
  replace hf : some (v_status) = some r_ := hf
  refine lv_aload_n hx hb dX11_status_0 rfl (lv_at hl 0 rfl) ?_
  refine mp_get X fl_X11_9 hK hP 0 rfl rfl dX11_status_1 ?_
  cases hf
  exact mp_reti X hP hS rfl dX11_status_4


def k_X11_top (T : Nat → ClassId) (a_ a_trays a_words a_odds a_tokens a_bookReader a_roundsReader a_book a_draft a_marks a_ahead a_life a_lifeTold a_odds_holds a_odds_lettersOf : Nat) (v_status : Int32) (v_marked : Int32) (v_hasLived : Int32) (v_odds_above : Int64) (v_odds_below : Int64) : va_W := [(a_, oX11 v_status a_trays a_words a_odds a_tokens a_bookReader a_roundsReader a_book a_draft a_marks v_marked a_ahead a_life a_lifeTold v_hasLived), (a_odds, oX4 v_odds_above v_odds_below a_odds_holds a_odds_lettersOf)]
set_option maxHeartbeats 4000000 in
set_option maxRecDepth 100000 in
theorem c_X11_top (l : Launch) (D : va_G) (T : Nat → ClassId) (a_ a_trays a_words a_odds a_tokens a_bookReader a_roundsReader a_book a_draft a_marks a_ahead a_life a_lifeTold a_odds_holds a_odds_lettersOf : Nat) (v_status : Int32) (v_marked : Int32) (v_hasLived : Int32) (v_odds_below : Int64) (v_odds_above : Int64) (r_ : Int64) (hf : f_X11_top v_odds_above = some r_) :
    mp_M l D T yX11_top cX11_top 1 (some .long) ({ frames := 0, cells := 0, slots := 0, locals := 0 }) 0 0 [.ref a_] (k_X11_top T a_ a_trays a_words a_odds a_tokens a_bookReader a_roundsReader a_book a_draft a_marks a_ahead a_life a_lifeTold a_odds_holds a_odds_lettersOf v_status v_marked v_hasLived v_odds_above v_odds_below) (mp_Ql D r_ (k_X11_top T a_ a_trays a_words a_odds a_tokens a_bookReader a_roundsReader a_book a_draft a_marks a_ahead a_life a_lifeTold a_odds_holds a_odds_lettersOf v_status v_marked v_hasLived v_odds_above v_odds_below)) := by
  refine mp_of (by decide) (Nat.le_of_ble_eq_true rfl) rfl ?_
  intro p e s m args below meth c A ls X hK hP hD hS hA hl
  replace X : mp_X p s m meth c args RX11 "top" cX11_top 1 (some .long) := X
  have hx := X.1
  have hb := X.2.1
  have hml := X.2.2.1
  have hown := X.2.2.2.2.1
  have hts := X.2.2.2.2.2.1
  replace hl : lv_has ls 1 [(0, .ref a_)] := hl
  replace hf : some (v_odds_above) = some r_ := hf
  refine lv_aload_n hx hb dX11_top_0 rfl (lv_at hl 0 rfl) ?_
  refine mp_get X fl_X11_30 hK hP 0 rfl rfl dX11_top_1 ?_
  refine mp_get X fl_X11_94 hK hP 1 rfl rfl dX11_top_4 ?_
  cases hf
  exact mp_retl X hP hS rfl dX11_top_7


def k_X11_bottom (T : Nat → ClassId) (a_ a_trays a_words a_odds a_tokens a_bookReader a_roundsReader a_book a_draft a_marks a_ahead a_life a_lifeTold a_odds_holds a_odds_lettersOf : Nat) (v_status : Int32) (v_marked : Int32) (v_hasLived : Int32) (v_odds_above : Int64) (v_odds_below : Int64) : va_W := [(a_, oX11 v_status a_trays a_words a_odds a_tokens a_bookReader a_roundsReader a_book a_draft a_marks v_marked a_ahead a_life a_lifeTold v_hasLived), (a_odds, oX4 v_odds_above v_odds_below a_odds_holds a_odds_lettersOf)]
set_option maxHeartbeats 4000000 in
set_option maxRecDepth 100000 in
theorem c_X11_bottom (l : Launch) (D : va_G) (T : Nat → ClassId) (a_ a_trays a_words a_odds a_tokens a_bookReader a_roundsReader a_book a_draft a_marks a_ahead a_life a_lifeTold a_odds_holds a_odds_lettersOf : Nat) (v_status : Int32) (v_marked : Int32) (v_hasLived : Int32) (v_odds_above : Int64) (v_odds_below : Int64) (r_ : Int64) (hf : f_X11_bottom v_odds_below = some r_) :
    mp_M l D T yX11_bottom cX11_bottom 1 (some .long) ({ frames := 0, cells := 0, slots := 0, locals := 0 }) 0 0 [.ref a_] (k_X11_bottom T a_ a_trays a_words a_odds a_tokens a_bookReader a_roundsReader a_book a_draft a_marks a_ahead a_life a_lifeTold a_odds_holds a_odds_lettersOf v_status v_marked v_hasLived v_odds_above v_odds_below) (mp_Ql D r_ (k_X11_bottom T a_ a_trays a_words a_odds a_tokens a_bookReader a_roundsReader a_book a_draft a_marks a_ahead a_life a_lifeTold a_odds_holds a_odds_lettersOf v_status v_marked v_hasLived v_odds_above v_odds_below)) := by
  refine mp_of (by decide) (Nat.le_of_ble_eq_true rfl) rfl ?_
  intro p e s m args below meth c A ls X hK hP hD hS hA hl
  replace X : mp_X p s m meth c args RX11 "bottom" cX11_bottom 1 (some .long) := X
  have hx := X.1
  have hb := X.2.1
  have hml := X.2.2.1
  have hown := X.2.2.2.2.1
  have hts := X.2.2.2.2.2.1
  replace hl : lv_has ls 1 [(0, .ref a_)] := hl
  replace hf : some (v_odds_below) = some r_ := hf
  refine lv_aload_n hx hb dX11_bottom_0 rfl (lv_at hl 0 rfl) ?_
  refine mp_get X fl_X11_30 hK hP 0 rfl rfl dX11_bottom_1 ?_
  refine mp_get X fl_X11_98 hK hP 1 rfl rfl dX11_bottom_4 ?_
  cases hf
  exact mp_retl X hP hS rfl dX11_bottom_7


def k_X11_refuse (T : Nat → ClassId) (a_ a_trays a_words a_odds a_tokens a_bookReader a_roundsReader a_book a_draft a_marks a_ahead a_life a_lifeTold : Nat) (v_status : Int32) (v_marked : Int32) (v_hasLived : Int32) : va_W := [(a_, oX11 v_status a_trays a_words a_odds a_tokens a_bookReader a_roundsReader a_book a_draft a_marks v_marked a_ahead a_life a_lifeTold v_hasLived)]
set_option maxHeartbeats 4000000 in
set_option maxRecDepth 100000 in
theorem c_X11_refuse (l : Launch) (D : va_G) (T : Nat → ClassId) (a_ a_trays a_words a_odds a_tokens a_bookReader a_roundsReader a_book a_draft a_marks a_ahead a_life a_lifeTold : Nat) (x1 : Int32) (v_marked : Int32) (v_hasLived : Int32) (v_status : Int32) (r_ : Int32) (o_status : Int32) (hf : f_X11_refuse x1 v_status = some (r_, o_status)) :
    mp_M l D T yX11_refuse cX11_refuse 2 (some .int) ({ frames := 0, cells := 0, slots := 0, locals := 0 }) 0 0 [.ref a_, .int x1] (k_X11_refuse T a_ a_trays a_words a_odds a_tokens a_bookReader a_roundsReader a_book a_draft a_marks a_ahead a_life a_lifeTold v_status v_marked v_hasLived) (mp_Qi D r_ (k_X11_refuse T a_ a_trays a_words a_odds a_tokens a_bookReader a_roundsReader a_book a_draft a_marks a_ahead a_life a_lifeTold o_status v_marked v_hasLived)) := by
  refine mp_of (by decide) (Nat.le_of_ble_eq_true rfl) rfl ?_
  intro p e s m args below meth c A ls X hK hP hD hS hA hl
  replace X : mp_X p s m meth c args RX11 "refuse" cX11_refuse 2 (some .int) := X
  have hx := X.1
  have hb := X.2.1
  have hml := X.2.2.1
  have hown := X.2.2.2.2.1
  have hts := X.2.2.2.2.2.1
  replace hl : lv_has ls 2 [(0, .ref a_), (1, .int x1)] := hl
  replace hf : some ((-1 : Int32), x1) = some (r_, o_status) := hf
  refine lv_aload_n hx hb dX11_refuse_0 rfl (lv_at hl 0 rfl) ?_
  refine lv_iload_n hx hb dX11_refuse_1 rfl (lv_at hl 1 rfl) ?_
  refine mp_putf X fl_X11_9 fp_X11 rfl hK hP (mp_D_of hD rfl) hS 0 rfl rfl rfl (Nat.le_of_ble_eq_true rfl) dX11_refuse_2 (fun H locs hP _ hS => ?_)
  replace hP : va_P D mp_cl (k_X11_refuse T a_ a_trays a_words a_odds a_tokens a_bookReader a_roundsReader a_book a_draft a_marks a_ahead a_life a_lifeTold x1 v_marked v_hasLived) H := hP
  refine lv_iconst (v := (-1 : Int32)) hx hb dX11_refuse_5 (by decide) ?_
  cases hf
  exact mp_reti X hP hS rfl dX11_refuse_6


def k_X11_deny (T : Nat → ClassId) (a_ a_trays a_words a_odds a_tokens a_bookReader a_roundsReader a_book a_draft a_marks a_ahead a_life a_lifeTold : Nat) (v_status : Int32) (v_marked : Int32) (v_hasLived : Int32) : va_W := [(a_, oX11 v_status a_trays a_words a_odds a_tokens a_bookReader a_roundsReader a_book a_draft a_marks v_marked a_ahead a_life a_lifeTold v_hasLived)]
set_option maxHeartbeats 4000000 in
set_option maxRecDepth 100000 in
theorem c_X11_deny (l : Launch) (D : va_G) (T : Nat → ClassId) (a_ a_trays a_words a_odds a_tokens a_bookReader a_roundsReader a_book a_draft a_marks a_ahead a_life a_lifeTold : Nat) (x1 : Int32) (v_marked : Int32) (v_hasLived : Int32) (v_status : Int32) (r_ : Int32) (o_status : Int32) (hf : f_X11_deny x1 v_status = some (r_, o_status)) :
    mp_M l D T yX11_deny cX11_deny 2 (some .boolean) ({ frames := 0, cells := 0, slots := 0, locals := 0 }) 0 0 [.ref a_, .int x1] (k_X11_deny T a_ a_trays a_words a_odds a_tokens a_bookReader a_roundsReader a_book a_draft a_marks a_ahead a_life a_lifeTold v_status v_marked v_hasLived) (mp_Qi D r_ (k_X11_deny T a_ a_trays a_words a_odds a_tokens a_bookReader a_roundsReader a_book a_draft a_marks a_ahead a_life a_lifeTold o_status v_marked v_hasLived)) := by
  refine mp_of (by decide) (Nat.le_of_ble_eq_true rfl) rfl ?_
  intro p e s m args below meth c A ls X hK hP hD hS hA hl
  replace X : mp_X p s m meth c args RX11 "deny" cX11_deny 2 (some .boolean) := X
  have hx := X.1
  have hb := X.2.1
  have hml := X.2.2.1
  have hown := X.2.2.2.2.1
  have hts := X.2.2.2.2.2.1
  replace hl : lv_has ls 2 [(0, .ref a_), (1, .int x1)] := hl
  replace hf : some ((nI 0), x1) = some (r_, o_status) := hf
  refine lv_aload_n hx hb dX11_deny_0 rfl (lv_at hl 0 rfl) ?_
  refine lv_iload_n hx hb dX11_deny_1 rfl (lv_at hl 1 rfl) ?_
  refine mp_putf X fl_X11_9 fp_X11 rfl hK hP (mp_D_of hD rfl) hS 0 rfl rfl rfl (Nat.le_of_ble_eq_true rfl) dX11_deny_2 (fun H locs hP _ hS => ?_)
  replace hP : va_P D mp_cl (k_X11_deny T a_ a_trays a_words a_odds a_tokens a_bookReader a_roundsReader a_book a_draft a_marks a_ahead a_life a_lifeTold x1 v_marked v_hasLived) H := hP
  refine lv_iconst (v := (nI 0)) hx hb dX11_deny_5 (by decide) ?_
  cases hf
  exact mp_retz X hP hS rfl (Or.inl rfl) dX11_deny_6


def k_X11_answer (T : Nat → ClassId) (a_ a_trays a_words a_odds a_tokens a_bookReader a_roundsReader a_book a_draft a_marks a_ahead a_life a_lifeTold : Nat) (v_status : Int32) (v_marked : Int32) (v_hasLived : Int32) : va_W := [(a_, oX11 v_status a_trays a_words a_odds a_tokens a_bookReader a_roundsReader a_book a_draft a_marks v_marked a_ahead a_life a_lifeTold v_hasLived)]
set_option maxHeartbeats 4000000 in
set_option maxRecDepth 100000 in
theorem c_X11_answer (l : Launch) (D : va_G) (T : Nat → ClassId) (a_ a_trays a_words a_odds a_tokens a_bookReader a_roundsReader a_book a_draft a_marks a_ahead a_life a_lifeTold : Nat) (x1 : Int32) (v_marked : Int32) (v_hasLived : Int32) (v_status : Int32) (r_ : Int32) (o_status : Int32) (hf : f_X11_answer x1 v_status = some (r_, o_status)) :
    mp_M l D T yX11_answer cX11_answer 2 (some .int) ({ frames := 0, cells := 0, slots := 0, locals := 0 }) 0 0 [.ref a_, .int x1] (k_X11_answer T a_ a_trays a_words a_odds a_tokens a_bookReader a_roundsReader a_book a_draft a_marks a_ahead a_life a_lifeTold v_status v_marked v_hasLived) (mp_Qi D r_ (k_X11_answer T a_ a_trays a_words a_odds a_tokens a_bookReader a_roundsReader a_book a_draft a_marks a_ahead a_life a_lifeTold o_status v_marked v_hasLived)) := by
  refine mp_of (by decide) (Nat.le_of_ble_eq_true rfl) rfl ?_
  intro p e s m args below meth c A ls X hK hP hD hS hA hl
  replace X : mp_X p s m meth c args RX11 "answer" cX11_answer 2 (some .int) := X
  have hx := X.1
  have hb := X.2.1
  have hml := X.2.2.1
  have hown := X.2.2.2.2.1
  have hts := X.2.2.2.2.2.1
  replace hl : lv_has ls 2 [(0, .ref a_), (1, .int x1)] := hl
  replace hf : some (x1, (nI 0)) = some (r_, o_status) := hf
  refine lv_aload_n hx hb dX11_answer_0 rfl (lv_at hl 0 rfl) ?_
  refine lv_iconst (v := (nI 0)) hx hb dX11_answer_1 (by decide) ?_
  refine mp_putf X fl_X11_9 fp_X11 rfl hK hP (mp_D_of hD rfl) hS 0 rfl rfl rfl (Nat.le_of_ble_eq_true rfl) dX11_answer_2 (fun H locs hP _ hS => ?_)
  replace hP : va_P D mp_cl (k_X11_answer T a_ a_trays a_words a_odds a_tokens a_bookReader a_roundsReader a_book a_draft a_marks a_ahead a_life a_lifeTold (nI 0) v_marked v_hasLived) H := hP
  refine lv_iload_n hx hb dX11_answer_5 rfl (lv_at hl 1 rfl) ?_
  cases hf
  exact mp_reti X hP hS rfl dX11_answer_6


def k_X11_agree (T : Nat → ClassId) (a_ a_trays a_words a_odds a_tokens a_bookReader a_roundsReader a_book a_draft a_marks a_ahead a_life a_lifeTold : Nat) (v_status : Int32) (v_marked : Int32) (v_hasLived : Int32) : va_W := [(a_, oX11 v_status a_trays a_words a_odds a_tokens a_bookReader a_roundsReader a_book a_draft a_marks v_marked a_ahead a_life a_lifeTold v_hasLived)]
set_option maxHeartbeats 4000000 in
set_option maxRecDepth 100000 in
theorem c_X11_agree (l : Launch) (D : va_G) (T : Nat → ClassId) (a_ a_trays a_words a_odds a_tokens a_bookReader a_roundsReader a_book a_draft a_marks a_ahead a_life a_lifeTold : Nat) (v_marked : Int32) (v_hasLived : Int32) (v_status : Int32) (r_ : Int32) (o_status : Int32) (hf : f_X11_agree v_status = some (r_, o_status)) :
    mp_M l D T yX11_agree cX11_agree 1 (some .boolean) ({ frames := 0, cells := 0, slots := 0, locals := 0 }) 0 0 [.ref a_] (k_X11_agree T a_ a_trays a_words a_odds a_tokens a_bookReader a_roundsReader a_book a_draft a_marks a_ahead a_life a_lifeTold v_status v_marked v_hasLived) (mp_Qi D r_ (k_X11_agree T a_ a_trays a_words a_odds a_tokens a_bookReader a_roundsReader a_book a_draft a_marks a_ahead a_life a_lifeTold o_status v_marked v_hasLived)) := by
  refine mp_of (by decide) (Nat.le_of_ble_eq_true rfl) rfl ?_
  intro p e s m args below meth c A ls X hK hP hD hS hA hl
  replace X : mp_X p s m meth c args RX11 "agree" cX11_agree 1 (some .boolean) := X
  have hx := X.1
  have hb := X.2.1
  have hml := X.2.2.1
  have hown := X.2.2.2.2.1
  have hts := X.2.2.2.2.2.1
  replace hl : lv_has ls 1 [(0, .ref a_)] := hl
  replace hf : some ((nI 1), (nI 0)) = some (r_, o_status) := hf
  refine lv_aload_n hx hb dX11_agree_0 rfl (lv_at hl 0 rfl) ?_
  refine lv_iconst (v := (nI 0)) hx hb dX11_agree_1 (by decide) ?_
  refine mp_putf X fl_X11_9 fp_X11 rfl hK hP (mp_D_of hD rfl) hS 0 rfl rfl rfl (Nat.le_of_ble_eq_true rfl) dX11_agree_2 (fun H locs hP _ hS => ?_)
  replace hP : va_P D mp_cl (k_X11_agree T a_ a_trays a_words a_odds a_tokens a_bookReader a_roundsReader a_book a_draft a_marks a_ahead a_life a_lifeTold (nI 0) v_marked v_hasLived) H := hP
  refine lv_iconst (v := (nI 1)) hx hb dX11_agree_5 (by decide) ?_
  cases hf
  exact mp_retz X hP hS rfl (Or.inr rfl) dX11_agree_6


def k_X11_answerIfAny (T : Nat → ClassId) (a_ a_trays a_words a_odds a_tokens a_bookReader a_roundsReader a_book a_draft a_marks a_ahead a_life a_lifeTold : Nat) (v_status : Int32) (v_marked : Int32) (v_hasLived : Int32) : va_W := [(a_, oX11 v_status a_trays a_words a_odds a_tokens a_bookReader a_roundsReader a_book a_draft a_marks v_marked a_ahead a_life a_lifeTold v_hasLived)]
set_option maxHeartbeats 4000000 in
set_option maxRecDepth 100000 in
theorem c_X11_answerIfAny (l : Launch) (D : va_G) (T : Nat → ClassId) (a_ a_trays a_words a_odds a_tokens a_bookReader a_roundsReader a_book a_draft a_marks a_ahead a_life a_lifeTold : Nat) (x1 : Int32) (v_marked : Int32) (v_hasLived : Int32) (v_status : Int32) (r_ : Int32) (o_status : Int32) (hf : f_X11_answerIfAny x1 v_status = some (r_, o_status)) :
    mp_M l D T yX11_answerIfAny cX11_answerIfAny 2 (some .int) ({ frames := 1, cells := 0, slots := 0, locals := 21 }) 0 0 [.ref a_, .int x1] (k_X11_answerIfAny T a_ a_trays a_words a_odds a_tokens a_bookReader a_roundsReader a_book a_draft a_marks a_ahead a_life a_lifeTold v_status v_marked v_hasLived) (mp_Qi D r_ (k_X11_answerIfAny T a_ a_trays a_words a_odds a_tokens a_bookReader a_roundsReader a_book a_draft a_marks a_ahead a_life a_lifeTold o_status v_marked v_hasLived)) := by
  refine mp_of (by decide) (Nat.le_of_ble_eq_true rfl) rfl ?_
  intro p e s m args below meth c A ls X hK hP hD hS hA hl
  replace X : mp_X p s m meth c args RX11 "answerIfAny" cX11_answerIfAny 2 (some .int) := X
  have hx := X.1
  have hb := X.2.1
  have hml := X.2.2.1
  have hown := X.2.2.2.2.1
  have hts := X.2.2.2.2.2.1
  replace hl : lv_has ls 2 [(0, .ref a_), (1, .int x1)] := hl
  replace hf : (if x1 = (-1 : Int32) then bd_ (f_X11_refuse (nI 8) v_status) (fun (z : Int32 × Int32) => match z with | (r5, u6) => some (r5, u6)) else bd_ (f_X11_answer x1 v_status) (fun (z : Int32 × Int32) => match z with | (r2, u3) => some (r2, u3))) = some (r_, o_status) := hf
  refine lv_iload_n hx hb dX11_answerIfAny_0 rfl (lv_at hl 1 rfl) ?_
  refine lv_iconst (v := (-1 : Int32)) hx hb dX11_answerIfAny_1 (by decide) ?_
  refine lv_icmp_ne (tgt := 14) hx hb dX11_answerIfAny_2 (by decide) (fun h1 => ?_) (fun h1 => ?_)
  · replace hf := if_f hf h1
    refine lv_aload_n hx hb dX11_answerIfAny_14 rfl (lv_at hl 0 rfl) ?_
    refine lv_iload_n hx hb dX11_answerIfAny_15 rfl (lv_at hl 1 rfl) ?_
    obtain ⟨⟨r2, u3⟩, c4, hf⟩ := bd_of hf
    dsimp only at hf
    have hPc := hP.sub (ws' := (k_X11_answer T a_ a_trays a_words a_odds a_tokens a_bookReader a_roundsReader a_book a_draft a_marks a_ahead a_life a_lifeTold v_status v_marked v_hasLived)) [0] rfl
    have hDc := (mp_D_of (w1 := (k_X11_answerIfAny T a_ a_trays a_words a_odds a_tokens a_bookReader a_roundsReader a_book a_draft a_marks a_ahead a_life a_lifeTold v_status v_marked v_hasLived)) hD rfl).sub (ws' := (k_X11_answer T a_ a_trays a_words a_odds a_tokens a_bookReader a_roundsReader a_book a_draft a_marks a_ahead a_life a_lifeTold v_status v_marked v_hasLived)) [0] rfl rfl
    refine mp_calli (isC := [0]) (wc := (k_X11_answer T a_ a_trays a_words a_odds a_tokens a_bookReader a_roundsReader a_book a_draft a_marks a_ahead a_life a_lifeTold v_status v_marked v_hasLived)) (w1 := (k_X11_answer T a_ a_trays a_words a_odds a_tokens a_bookReader a_roundsReader a_book a_draft a_marks a_ahead a_life a_lifeTold u3 v_marked v_hasLived)) hP (mp_D_of hD rfl) hS hA rfl rfl (mp_runV (As := [.int x1]) (rest := []) X me_X11_answer lk_X11_105 (c_X11_answer l D T a_ a_trays a_words a_odds a_tokens a_bookReader a_roundsReader a_book a_draft a_marks a_ahead a_life a_lifeTold x1 v_marked v_hasLived v_status r2 u3 c4) rfl rfl ⟨(Nat.le_of_ble_eq_true rfl), (Nat.le_of_ble_eq_true rfl)⟩ hK hPc hDc rfl rfl rfl rfl hl.1 rfl (Nat.le_of_ble_eq_true rfl) dX11_answerIfAny_16 ⟨Nat.zero_le _, Nat.zero_le _⟩) (fun H locs hP _ hS => ?_)
    replace hP : va_P D mp_cl (k_X11_answerIfAny T a_ a_trays a_words a_odds a_tokens a_bookReader a_roundsReader a_book a_draft a_marks a_ahead a_life a_lifeTold u3 v_marked v_hasLived) H := hP
    cases hf
    exact mp_reti X hP hS rfl dX11_answerIfAny_19
  · replace hf := if_t hf h1
    refine lv_aload_n hx hb dX11_answerIfAny_5 rfl (lv_at hl 0 rfl) ?_
    refine lv_bipush (v := (nI 8)) hx hb dX11_answerIfAny_6 (by decide) ?_
    obtain ⟨⟨r5, u6⟩, c7, hf⟩ := bd_of hf
    dsimp only at hf
    have hPc := hP.sub (ws' := (k_X11_refuse T a_ a_trays a_words a_odds a_tokens a_bookReader a_roundsReader a_book a_draft a_marks a_ahead a_life a_lifeTold v_status v_marked v_hasLived)) [0] rfl
    have hDc := (mp_D_of (w1 := (k_X11_answerIfAny T a_ a_trays a_words a_odds a_tokens a_bookReader a_roundsReader a_book a_draft a_marks a_ahead a_life a_lifeTold v_status v_marked v_hasLived)) hD rfl).sub (ws' := (k_X11_refuse T a_ a_trays a_words a_odds a_tokens a_bookReader a_roundsReader a_book a_draft a_marks a_ahead a_life a_lifeTold v_status v_marked v_hasLived)) [0] rfl rfl
    refine mp_calli (isC := [0]) (wc := (k_X11_refuse T a_ a_trays a_words a_odds a_tokens a_bookReader a_roundsReader a_book a_draft a_marks a_ahead a_life a_lifeTold v_status v_marked v_hasLived)) (w1 := (k_X11_refuse T a_ a_trays a_words a_odds a_tokens a_bookReader a_roundsReader a_book a_draft a_marks a_ahead a_life a_lifeTold u6 v_marked v_hasLived)) hP (mp_D_of hD rfl) hS hA rfl rfl (mp_runV (As := [.int (nI 8)]) (rest := []) X me_X11_refuse lk_X11_101 (c_X11_refuse l D T a_ a_trays a_words a_odds a_tokens a_bookReader a_roundsReader a_book a_draft a_marks a_ahead a_life a_lifeTold (nI 8) v_marked v_hasLived v_status r5 u6 c7) rfl rfl ⟨(Nat.le_of_ble_eq_true rfl), (Nat.le_of_ble_eq_true rfl)⟩ hK hPc hDc rfl rfl rfl rfl hl.1 rfl (Nat.le_of_ble_eq_true rfl) dX11_answerIfAny_8 ⟨Nat.zero_le _, Nat.zero_le _⟩) (fun H locs hP _ hS => ?_)
    replace hP : va_P D mp_cl (k_X11_answerIfAny T a_ a_trays a_words a_odds a_tokens a_bookReader a_roundsReader a_book a_draft a_marks a_ahead a_life a_lifeTold u6 v_marked v_hasLived) H := hP
    refine lv_goto (tgt := 19) hx hb dX11_answerIfAny_11 (by decide) ?_
    cases hf
    exact mp_reti X hP hS rfl dX11_answerIfAny_19


def k_X11_tray (T : Nat → ClassId) (a_ a_trays a_words a_odds a_tokens a_bookReader a_roundsReader a_book a_draft a_marks a_ahead a_life a_lifeTold a_trays_rows a_trays_sorts a_trays_lengths a_trays_rows_0 a_trays_rows_1 a_trays_rows_2 a_trays_rows_3 : Nat) (v_status : Int32) (v_marked : Int32) (v_hasLived : Int32) (v_trays_lengths : (Nat → Int32)) (v_trays_rows_0 : (Nat → Int64)) (v_trays_rows_1 : (Nat → Int64)) (v_trays_rows_2 : (Nat → Int64)) (v_trays_rows_3 : (Nat → Int64)) (v_trays_sorts : (Nat → Int32)) : va_W := [(a_, oX11 v_status a_trays a_words a_odds a_tokens a_bookReader a_roundsReader a_book a_draft a_marks v_marked a_ahead a_life a_lifeTold v_hasLived), (a_trays, oX9 a_trays_rows a_trays_sorts a_trays_lengths), (a_trays_lengths, mp_aI T 4 v_trays_lengths), (a_trays_rows, mp_aR T 3 4 [a_trays_rows_0, a_trays_rows_1, a_trays_rows_2, a_trays_rows_3]), (a_trays_rows_0, mp_aJ T 60 v_trays_rows_0), (a_trays_rows_1, mp_aJ T 60 v_trays_rows_1), (a_trays_rows_2, mp_aJ T 60 v_trays_rows_2), (a_trays_rows_3, mp_aJ T 60 v_trays_rows_3), (a_trays_sorts, mp_aI T 4 v_trays_sorts)]
set_option maxHeartbeats 4000000 in
set_option maxRecDepth 100000 in
theorem c_X11_tray (l : Launch) (D : va_G) (T : Nat → ClassId) (fu : Nat) (a_ a_trays a_words a_odds a_tokens a_bookReader a_roundsReader a_book a_draft a_marks a_ahead a_life a_lifeTold a_trays_rows a_trays_sorts a_trays_lengths a_trays_rows_0 a_trays_rows_1 a_trays_rows_2 a_trays_rows_3 : Nat) (x1 : Int32) (x2 : Int32) (x3 : Int32) (v_marked : Int32) (v_hasLived : Int32) (v_status : Int32) (v_trays_lengths : (Nat → Int32)) (v_trays_rows_0 : (Nat → Int64)) (v_trays_rows_1 : (Nat → Int64)) (v_trays_rows_2 : (Nat → Int64)) (v_trays_rows_3 : (Nat → Int64)) (v_trays_sorts : (Nat → Int32)) (r_ : Int32) (o_status : Int32) (o_trays_lengths : (Nat → Int32)) (o_trays_rows_0 : (Nat → Int64)) (o_trays_rows_1 : (Nat → Int64)) (o_trays_rows_2 : (Nat → Int64)) (o_trays_rows_3 : (Nat → Int64)) (o_trays_sorts : (Nat → Int32)) (hf : f_X11_tray fu x1 x2 x3 v_status v_trays_lengths v_trays_rows_0 v_trays_rows_1 v_trays_rows_2 v_trays_rows_3 v_trays_sorts = some (r_, o_status, o_trays_lengths, o_trays_rows_0, o_trays_rows_1, o_trays_rows_2, o_trays_rows_3, o_trays_sorts)) :
    mp_M l D T yX11_tray cX11_tray 4 (some .boolean) ({ frames := 2, cells := 0, slots := 0, locals := 47 }) 0 0 [.ref a_, .int x1, .int x2, .int x3] (k_X11_tray T a_ a_trays a_words a_odds a_tokens a_bookReader a_roundsReader a_book a_draft a_marks a_ahead a_life a_lifeTold a_trays_rows a_trays_sorts a_trays_lengths a_trays_rows_0 a_trays_rows_1 a_trays_rows_2 a_trays_rows_3 v_status v_marked v_hasLived v_trays_lengths v_trays_rows_0 v_trays_rows_1 v_trays_rows_2 v_trays_rows_3 v_trays_sorts) (mp_Qi D r_ (k_X11_tray T a_ a_trays a_words a_odds a_tokens a_bookReader a_roundsReader a_book a_draft a_marks a_ahead a_life a_lifeTold a_trays_rows a_trays_sorts a_trays_lengths a_trays_rows_0 a_trays_rows_1 a_trays_rows_2 a_trays_rows_3 o_status v_marked v_hasLived o_trays_lengths o_trays_rows_0 o_trays_rows_1 o_trays_rows_2 o_trays_rows_3 o_trays_sorts)) := by
  refine mp_of (by decide) (Nat.le_of_ble_eq_true rfl) rfl ?_
  intro p e s m args below meth c A ls X hK hP hD hS hA hl
  replace X : mp_X p s m meth c args RX11 "tray" cX11_tray 4 (some .boolean) := X
  have hx := X.1
  have hb := X.2.1
  have hml := X.2.2.1
  have hown := X.2.2.2.2.1
  have hts := X.2.2.2.2.2.1
  replace hl : lv_has ls 4 [(0, .ref a_), (1, .int x1), (2, .int x2), (3, .int x3)] := hl
  replace hf : bd_ (f_X9_isKnown x1) (fun (r1 : Int32) => (if r1 = 0 then bd_ (f_X11_deny (nI 1) v_status) (fun (z : Int32 × Int32) => match z with | (r4, u5) => gd_ (r4 = 0 ∨ r4 = 1) (some (r4, u5, v_trays_lengths, v_trays_rows_0, v_trays_rows_1, v_trays_rows_2, v_trays_rows_3, v_trays_sorts))) else (if x2 < 0 then bd_ (f_X11_deny (nI 1) v_status) (fun (z : Int32 × Int32) => match z with | (r9, u10) => gd_ (r9 = 0 ∨ r9 = 1) (some (r9, u10, v_trays_lengths, v_trays_rows_0, v_trays_rows_1, v_trays_rows_2, v_trays_rows_3, v_trays_sorts))) else (if x2 < (nI 4) then (if x3 ≤ (nI 60) then (if 0 ≤ x3 then bd_ (f_X9_make fu x1 x2 x3 v_trays_lengths v_trays_rows_0 v_trays_rows_1 v_trays_rows_2 v_trays_rows_3 v_trays_sorts) (fun (z : (Nat → Int32) × (Nat → Int64) × (Nat → Int64) × (Nat → Int64) × (Nat → Int64) × (Nat → Int32)) => match z with | (u16, u17, u18, u19, u20, u21) => bd_ (f_X11_agree v_status) (fun (z : Int32 × Int32) => match z with | (r23, u24) => gd_ (r23 = 0 ∨ r23 = 1) (some (r23, u24, u16, u17, u18, u19, u20, u21)))) else bd_ (f_X11_deny (nI 6) v_status) (fun (z : Int32 × Int32) => match z with | (r27, u28) => gd_ (r27 = 0 ∨ r27 = 1) (some (r27, u28, v_trays_lengths, v_trays_rows_0, v_trays_rows_1, v_trays_rows_2, v_trays_rows_3, v_trays_sorts)))) else bd_ (f_X11_deny (nI 5) v_status) (fun (z : Int32 × Int32) => match z with | (r31, u32) => gd_ (r31 = 0 ∨ r31 = 1) (some (r31, u32, v_trays_lengths, v_trays_rows_0, v_trays_rows_1, v_trays_rows_2, v_trays_rows_3, v_trays_sorts)))) else bd_ (f_X11_deny (nI 1) v_status) (fun (z : Int32 × Int32) => match z with | (r35, u36) => gd_ (r35 = 0 ∨ r35 = 1) (some (r35, u36, v_trays_lengths, v_trays_rows_0, v_trays_rows_1, v_trays_rows_2, v_trays_rows_3, v_trays_sorts))))))) = some (r_, o_status, o_trays_lengths, o_trays_rows_0, o_trays_rows_1, o_trays_rows_2, o_trays_rows_3, o_trays_sorts) := hf
  refine lv_aload_n hx hb dX11_tray_0 rfl (lv_at hl 0 rfl) ?_
  refine mp_get X fl_X11_16 hK hP 0 rfl rfl dX11_tray_1 ?_
  refine lv_iload_n hx hb dX11_tray_4 rfl (lv_at hl 1 rfl) ?_
  obtain ⟨r1, c2, hf⟩ := bd_of hf
  have hPc := hP.sub (ws' := (k_X9_isKnown T a_trays a_trays_rows a_trays_sorts a_trays_lengths)) [1] rfl
  have hDc := (mp_D_of (w1 := (k_X11_tray T a_ a_trays a_words a_odds a_tokens a_bookReader a_roundsReader a_book a_draft a_marks a_ahead a_life a_lifeTold a_trays_rows a_trays_sorts a_trays_lengths a_trays_rows_0 a_trays_rows_1 a_trays_rows_2 a_trays_rows_3 v_status v_marked v_hasLived v_trays_lengths v_trays_rows_0 v_trays_rows_1 v_trays_rows_2 v_trays_rows_3 v_trays_sorts)) hD rfl).sub (ws' := (k_X9_isKnown T a_trays a_trays_rows a_trays_sorts a_trays_lengths)) [1] rfl rfl
  refine mp_calli (isC := [1]) (wc := (k_X9_isKnown T a_trays a_trays_rows a_trays_sorts a_trays_lengths)) (w1 := (k_X9_isKnown T a_trays a_trays_rows a_trays_sorts a_trays_lengths)) hP (mp_D_of hD rfl) hS hA rfl rfl (mp_runV (As := [.int x1]) (rest := []) X me_X9_isKnown lk_X11_108 (c_X9_isKnown l D T a_trays a_trays_rows a_trays_sorts a_trays_lengths x1 r1 c2) rfl rfl ⟨(Nat.le_of_ble_eq_true rfl), (Nat.le_of_ble_eq_true rfl)⟩ hK hPc hDc rfl rfl rfl rfl hl.1 rfl (Nat.le_of_ble_eq_true rfl) dX11_tray_5 ⟨Nat.zero_le _, Nat.zero_le _⟩) (fun H locs hP _ hS => ?_)
  replace hP : va_P D mp_cl (k_X11_tray T a_ a_trays a_words a_odds a_tokens a_bookReader a_roundsReader a_book a_draft a_marks a_ahead a_life a_lifeTold a_trays_rows a_trays_sorts a_trays_lengths a_trays_rows_0 a_trays_rows_1 a_trays_rows_2 a_trays_rows_3 v_status v_marked v_hasLived v_trays_lengths v_trays_rows_0 v_trays_rows_1 v_trays_rows_2 v_trays_rows_3 v_trays_sorts) H := hP
  refine lv_if_eq (tgt := 20) hx hb dX11_tray_8 (by decide) (fun h3 => ?_) (fun h3 => ?_)
  · replace hf := if_t hf h3
    refine lv_aload_n hx hb dX11_tray_20 rfl (lv_at hl 0 rfl) ?_
    refine lv_iconst (v := (nI 1)) hx hb dX11_tray_21 (by decide) ?_
    obtain ⟨⟨r4, u5⟩, c6, hf⟩ := bd_of hf
    dsimp only at hf
    have hPc := hP.sub (ws' := (k_X11_deny T a_ a_trays a_words a_odds a_tokens a_bookReader a_roundsReader a_book a_draft a_marks a_ahead a_life a_lifeTold v_status v_marked v_hasLived)) [0] rfl
    have hDc := (mp_D_of (w1 := (k_X11_tray T a_ a_trays a_words a_odds a_tokens a_bookReader a_roundsReader a_book a_draft a_marks a_ahead a_life a_lifeTold a_trays_rows a_trays_sorts a_trays_lengths a_trays_rows_0 a_trays_rows_1 a_trays_rows_2 a_trays_rows_3 v_status v_marked v_hasLived v_trays_lengths v_trays_rows_0 v_trays_rows_1 v_trays_rows_2 v_trays_rows_3 v_trays_sorts)) hD rfl).sub (ws' := (k_X11_deny T a_ a_trays a_words a_odds a_tokens a_bookReader a_roundsReader a_book a_draft a_marks a_ahead a_life a_lifeTold v_status v_marked v_hasLived)) [0] rfl rfl
    refine mp_calli (isC := [0]) (wc := (k_X11_deny T a_ a_trays a_words a_odds a_tokens a_bookReader a_roundsReader a_book a_draft a_marks a_ahead a_life a_lifeTold v_status v_marked v_hasLived)) (w1 := (k_X11_deny T a_ a_trays a_words a_odds a_tokens a_bookReader a_roundsReader a_book a_draft a_marks a_ahead a_life a_lifeTold u5 v_marked v_hasLived)) hP (mp_D_of hD rfl) hS hA rfl rfl (mp_runV (As := [.int (nI 1)]) (rest := []) X me_X11_deny lk_X11_112 (c_X11_deny l D T a_ a_trays a_words a_odds a_tokens a_bookReader a_roundsReader a_book a_draft a_marks a_ahead a_life a_lifeTold (nI 1) v_marked v_hasLived v_status r4 u5 c6) rfl rfl ⟨(Nat.le_of_ble_eq_true rfl), (Nat.le_of_ble_eq_true rfl)⟩ hK hPc hDc rfl rfl rfl rfl hl.1 rfl (Nat.le_of_ble_eq_true rfl) dX11_tray_22 ⟨Nat.zero_le _, Nat.zero_le _⟩) (fun H locs hP _ hS => ?_)
    replace hP : va_P D mp_cl (k_X11_tray T a_ a_trays a_words a_odds a_tokens a_bookReader a_roundsReader a_book a_draft a_marks a_ahead a_life a_lifeTold a_trays_rows a_trays_sorts a_trays_lengths a_trays_rows_0 a_trays_rows_1 a_trays_rows_2 a_trays_rows_3 u5 v_marked v_hasLived v_trays_lengths v_trays_rows_0 v_trays_rows_1 v_trays_rows_2 v_trays_rows_3 v_trays_sorts) H := hP
    obtain ⟨h7, hf⟩ := gd_of hf
    cases hf
    exact mp_retz X hP hS rfl h7 dX11_tray_25
  · replace hf := if_f hf h3
    refine lv_iload_n hx hb dX11_tray_11 rfl (lv_at hl 2 rfl) ?_
    refine lv_if_lt (tgt := 20) hx hb dX11_tray_12 (by decide) (fun h8 => ?_) (fun h8 => ?_)
    · replace hf := if_t hf h8
      refine lv_aload_n hx hb dX11_tray_20 rfl (lv_at hl 0 rfl) ?_
      refine lv_iconst (v := (nI 1)) hx hb dX11_tray_21 (by decide) ?_
      obtain ⟨⟨r9, u10⟩, c11, hf⟩ := bd_of hf
      dsimp only at hf
      have hPc := hP.sub (ws' := (k_X11_deny T a_ a_trays a_words a_odds a_tokens a_bookReader a_roundsReader a_book a_draft a_marks a_ahead a_life a_lifeTold v_status v_marked v_hasLived)) [0] rfl
      have hDc := (mp_D_of (w1 := (k_X11_tray T a_ a_trays a_words a_odds a_tokens a_bookReader a_roundsReader a_book a_draft a_marks a_ahead a_life a_lifeTold a_trays_rows a_trays_sorts a_trays_lengths a_trays_rows_0 a_trays_rows_1 a_trays_rows_2 a_trays_rows_3 v_status v_marked v_hasLived v_trays_lengths v_trays_rows_0 v_trays_rows_1 v_trays_rows_2 v_trays_rows_3 v_trays_sorts)) hD rfl).sub (ws' := (k_X11_deny T a_ a_trays a_words a_odds a_tokens a_bookReader a_roundsReader a_book a_draft a_marks a_ahead a_life a_lifeTold v_status v_marked v_hasLived)) [0] rfl rfl
      refine mp_calli (isC := [0]) (wc := (k_X11_deny T a_ a_trays a_words a_odds a_tokens a_bookReader a_roundsReader a_book a_draft a_marks a_ahead a_life a_lifeTold v_status v_marked v_hasLived)) (w1 := (k_X11_deny T a_ a_trays a_words a_odds a_tokens a_bookReader a_roundsReader a_book a_draft a_marks a_ahead a_life a_lifeTold u10 v_marked v_hasLived)) hP (mp_D_of hD rfl) hS hA rfl rfl (mp_runV (As := [.int (nI 1)]) (rest := []) X me_X11_deny lk_X11_112 (c_X11_deny l D T a_ a_trays a_words a_odds a_tokens a_bookReader a_roundsReader a_book a_draft a_marks a_ahead a_life a_lifeTold (nI 1) v_marked v_hasLived v_status r9 u10 c11) rfl rfl ⟨(Nat.le_of_ble_eq_true rfl), (Nat.le_of_ble_eq_true rfl)⟩ hK hPc hDc rfl rfl rfl rfl hl.1 rfl (Nat.le_of_ble_eq_true rfl) dX11_tray_22 ⟨Nat.zero_le _, Nat.zero_le _⟩) (fun H locs hP _ hS => ?_)
      replace hP : va_P D mp_cl (k_X11_tray T a_ a_trays a_words a_odds a_tokens a_bookReader a_roundsReader a_book a_draft a_marks a_ahead a_life a_lifeTold a_trays_rows a_trays_sorts a_trays_lengths a_trays_rows_0 a_trays_rows_1 a_trays_rows_2 a_trays_rows_3 u10 v_marked v_hasLived v_trays_lengths v_trays_rows_0 v_trays_rows_1 v_trays_rows_2 v_trays_rows_3 v_trays_sorts) H := hP
      obtain ⟨h12, hf⟩ := gd_of hf
      cases hf
      exact mp_retz X hP hS rfl h12 dX11_tray_25
    · replace hf := if_f hf h8
      refine lv_iload_n hx hb dX11_tray_15 rfl (lv_at hl 2 rfl) ?_
      refine lv_iconst (v := (nI 4)) hx hb dX11_tray_16 (by decide) ?_
      refine lv_icmp_lt (tgt := 26) hx hb dX11_tray_17 (by decide) (fun h13 => ?_) (fun h13 => ?_)
      · replace hf := if_t hf h13
        refine lv_iload_n hx hb dX11_tray_26 rfl (lv_at hl 3 rfl) ?_
        refine lv_bipush (v := (nI 60)) hx hb dX11_tray_27 (by decide) ?_
        refine lv_icmp_le (tgt := 38) hx hb dX11_tray_29 (by decide) (fun h14 => ?_) (fun h14 => ?_)
        · replace hf := if_t hf h14
          refine lv_iload_n hx hb dX11_tray_38 rfl (lv_at hl 3 rfl) ?_
          refine lv_if_ge (tgt := 49) hx hb dX11_tray_39 (by decide) (fun h15 => ?_) (fun h15 => ?_)
          · replace hf := if_t hf h15
            refine lv_aload_n hx hb dX11_tray_49 rfl (lv_at hl 0 rfl) ?_
            refine mp_get X fl_X11_16 hK hP 0 rfl rfl dX11_tray_50 ?_
            refine lv_iload_n hx hb dX11_tray_53 rfl (lv_at hl 1 rfl) ?_
            refine lv_iload_n hx hb dX11_tray_54 rfl (lv_at hl 2 rfl) ?_
            refine lv_iload_n hx hb dX11_tray_55 rfl (lv_at hl 3 rfl) ?_
            obtain ⟨⟨u16, u17, u18, u19, u20, u21⟩, c22, hf⟩ := bd_of hf
            dsimp only at hf
            have hPc := hP.sub (ws' := (k_X9_make T a_trays a_trays_rows a_trays_sorts a_trays_lengths a_trays_rows_0 a_trays_rows_1 a_trays_rows_2 a_trays_rows_3 v_trays_lengths v_trays_rows_0 v_trays_rows_1 v_trays_rows_2 v_trays_rows_3 v_trays_sorts)) [1, 2, 3, 4, 5, 6, 7, 8] rfl
            have hDc := (mp_D_of (w1 := (k_X11_tray T a_ a_trays a_words a_odds a_tokens a_bookReader a_roundsReader a_book a_draft a_marks a_ahead a_life a_lifeTold a_trays_rows a_trays_sorts a_trays_lengths a_trays_rows_0 a_trays_rows_1 a_trays_rows_2 a_trays_rows_3 v_status v_marked v_hasLived v_trays_lengths v_trays_rows_0 v_trays_rows_1 v_trays_rows_2 v_trays_rows_3 v_trays_sorts)) hD rfl).sub (ws' := (k_X9_make T a_trays a_trays_rows a_trays_sorts a_trays_lengths a_trays_rows_0 a_trays_rows_1 a_trays_rows_2 a_trays_rows_3 v_trays_lengths v_trays_rows_0 v_trays_rows_1 v_trays_rows_2 v_trays_rows_3 v_trays_sorts)) [1, 2, 3, 4, 5, 6, 7, 8] rfl rfl
            refine mp_callv2 (isC := [1, 2, 3, 4, 5, 6, 7, 8]) (isO := [0]) (wc := (k_X9_make T a_trays a_trays_rows a_trays_sorts a_trays_lengths a_trays_rows_0 a_trays_rows_1 a_trays_rows_2 a_trays_rows_3 v_trays_lengths v_trays_rows_0 v_trays_rows_1 v_trays_rows_2 v_trays_rows_3 v_trays_sorts)) (w1 := (k_X9_make T a_trays a_trays_rows a_trays_sorts a_trays_lengths a_trays_rows_0 a_trays_rows_1 a_trays_rows_2 a_trays_rows_3 u16 u17 u18 u19 u20 u21)) (wo := [(a_, oX11 v_status a_trays a_words a_odds a_tokens a_bookReader a_roundsReader a_book a_draft a_marks v_marked a_ahead a_life a_lifeTold v_hasLived)]) (w2 := (k_X11_tray T a_ a_trays a_words a_odds a_tokens a_bookReader a_roundsReader a_book a_draft a_marks a_ahead a_life a_lifeTold a_trays_rows a_trays_sorts a_trays_lengths a_trays_rows_0 a_trays_rows_1 a_trays_rows_2 a_trays_rows_3 v_status v_marked v_hasLived u16 u17 u18 u19 u20 u21)) (n := 9) hP (mp_D_of hD rfl) hS hA rfl rfl rfl rfl rfl rfl (by decide +kernel) (mp_runV (As := [.int x1, .int x2, .int x3]) (rest := []) X me_X9_make lk_X11_115 (c_X9_make l D T fu a_trays a_trays_rows a_trays_sorts a_trays_lengths a_trays_rows_0 a_trays_rows_1 a_trays_rows_2 a_trays_rows_3 x1 x2 x3 v_trays_lengths v_trays_rows_0 v_trays_rows_1 v_trays_rows_2 v_trays_rows_3 v_trays_sorts u16 u17 u18 u19 u20 u21 c22) rfl rfl ⟨(Nat.le_of_ble_eq_true rfl), (Nat.le_of_ble_eq_true rfl)⟩ hK hPc hDc rfl rfl rfl rfl hl.1 rfl (Nat.le_of_ble_eq_true rfl) dX11_tray_56 ⟨Nat.zero_le _, Nat.zero_le _⟩) (fun H locs hP _ hS => ?_)
            refine lv_aload_n hx hb dX11_tray_59 rfl (lv_at hl 0 rfl) ?_
            obtain ⟨⟨r23, u24⟩, c25, hf⟩ := bd_of hf
            dsimp only at hf
            have hPc := hP.sub (ws' := (k_X11_agree T a_ a_trays a_words a_odds a_tokens a_bookReader a_roundsReader a_book a_draft a_marks a_ahead a_life a_lifeTold v_status v_marked v_hasLived)) [0] rfl
            have hDc := (mp_D_of (w1 := (k_X11_tray T a_ a_trays a_words a_odds a_tokens a_bookReader a_roundsReader a_book a_draft a_marks a_ahead a_life a_lifeTold a_trays_rows a_trays_sorts a_trays_lengths a_trays_rows_0 a_trays_rows_1 a_trays_rows_2 a_trays_rows_3 v_status v_marked v_hasLived u16 u17 u18 u19 u20 u21)) hD rfl).sub (ws' := (k_X11_agree T a_ a_trays a_words a_odds a_tokens a_bookReader a_roundsReader a_book a_draft a_marks a_ahead a_life a_lifeTold v_status v_marked v_hasLived)) [0] rfl rfl
            refine mp_calli (isC := [0]) (wc := (k_X11_agree T a_ a_trays a_words a_odds a_tokens a_bookReader a_roundsReader a_book a_draft a_marks a_ahead a_life a_lifeTold v_status v_marked v_hasLived)) (w1 := (k_X11_agree T a_ a_trays a_words a_odds a_tokens a_bookReader a_roundsReader a_book a_draft a_marks a_ahead a_life a_lifeTold u24 v_marked v_hasLived)) hP (mp_D_of hD rfl) hS hA rfl rfl (mp_runV (As := []) (rest := []) X me_X11_agree lk_X11_119 (c_X11_agree l D T a_ a_trays a_words a_odds a_tokens a_bookReader a_roundsReader a_book a_draft a_marks a_ahead a_life a_lifeTold v_marked v_hasLived v_status r23 u24 c25) rfl rfl ⟨(Nat.le_of_ble_eq_true rfl), (Nat.le_of_ble_eq_true rfl)⟩ hK hPc hDc rfl rfl rfl rfl hl.1 rfl (Nat.le_of_ble_eq_true rfl) dX11_tray_60 ⟨Nat.zero_le _, Nat.zero_le _⟩) (fun H locs hP _ hS => ?_)
            replace hP : va_P D mp_cl (k_X11_tray T a_ a_trays a_words a_odds a_tokens a_bookReader a_roundsReader a_book a_draft a_marks a_ahead a_life a_lifeTold a_trays_rows a_trays_sorts a_trays_lengths a_trays_rows_0 a_trays_rows_1 a_trays_rows_2 a_trays_rows_3 u24 v_marked v_hasLived u16 u17 u18 u19 u20 u21) H := hP
            obtain ⟨h26, hf⟩ := gd_of hf
            cases hf
            exact mp_retz X hP hS rfl h26 dX11_tray_63
          · replace hf := if_f hf h15
            refine lv_aload_n hx hb dX11_tray_42 rfl (lv_at hl 0 rfl) ?_
            refine lv_bipush (v := (nI 6)) hx hb dX11_tray_43 (by decide) ?_
            obtain ⟨⟨r27, u28⟩, c29, hf⟩ := bd_of hf
            dsimp only at hf
            have hPc := hP.sub (ws' := (k_X11_deny T a_ a_trays a_words a_odds a_tokens a_bookReader a_roundsReader a_book a_draft a_marks a_ahead a_life a_lifeTold v_status v_marked v_hasLived)) [0] rfl
            have hDc := (mp_D_of (w1 := (k_X11_tray T a_ a_trays a_words a_odds a_tokens a_bookReader a_roundsReader a_book a_draft a_marks a_ahead a_life a_lifeTold a_trays_rows a_trays_sorts a_trays_lengths a_trays_rows_0 a_trays_rows_1 a_trays_rows_2 a_trays_rows_3 v_status v_marked v_hasLived v_trays_lengths v_trays_rows_0 v_trays_rows_1 v_trays_rows_2 v_trays_rows_3 v_trays_sorts)) hD rfl).sub (ws' := (k_X11_deny T a_ a_trays a_words a_odds a_tokens a_bookReader a_roundsReader a_book a_draft a_marks a_ahead a_life a_lifeTold v_status v_marked v_hasLived)) [0] rfl rfl
            refine mp_calli (isC := [0]) (wc := (k_X11_deny T a_ a_trays a_words a_odds a_tokens a_bookReader a_roundsReader a_book a_draft a_marks a_ahead a_life a_lifeTold v_status v_marked v_hasLived)) (w1 := (k_X11_deny T a_ a_trays a_words a_odds a_tokens a_bookReader a_roundsReader a_book a_draft a_marks a_ahead a_life a_lifeTold u28 v_marked v_hasLived)) hP (mp_D_of hD rfl) hS hA rfl rfl (mp_runV (As := [.int (nI 6)]) (rest := []) X me_X11_deny lk_X11_112 (c_X11_deny l D T a_ a_trays a_words a_odds a_tokens a_bookReader a_roundsReader a_book a_draft a_marks a_ahead a_life a_lifeTold (nI 6) v_marked v_hasLived v_status r27 u28 c29) rfl rfl ⟨(Nat.le_of_ble_eq_true rfl), (Nat.le_of_ble_eq_true rfl)⟩ hK hPc hDc rfl rfl rfl rfl hl.1 rfl (Nat.le_of_ble_eq_true rfl) dX11_tray_45 ⟨Nat.zero_le _, Nat.zero_le _⟩) (fun H locs hP _ hS => ?_)
            replace hP : va_P D mp_cl (k_X11_tray T a_ a_trays a_words a_odds a_tokens a_bookReader a_roundsReader a_book a_draft a_marks a_ahead a_life a_lifeTold a_trays_rows a_trays_sorts a_trays_lengths a_trays_rows_0 a_trays_rows_1 a_trays_rows_2 a_trays_rows_3 u28 v_marked v_hasLived v_trays_lengths v_trays_rows_0 v_trays_rows_1 v_trays_rows_2 v_trays_rows_3 v_trays_sorts) H := hP
            obtain ⟨h30, hf⟩ := gd_of hf
            cases hf
            exact mp_retz X hP hS rfl h30 dX11_tray_48
        · replace hf := if_f hf h14
          refine lv_aload_n hx hb dX11_tray_32 rfl (lv_at hl 0 rfl) ?_
          refine lv_iconst (v := (nI 5)) hx hb dX11_tray_33 (by decide) ?_
          obtain ⟨⟨r31, u32⟩, c33, hf⟩ := bd_of hf
          dsimp only at hf
          have hPc := hP.sub (ws' := (k_X11_deny T a_ a_trays a_words a_odds a_tokens a_bookReader a_roundsReader a_book a_draft a_marks a_ahead a_life a_lifeTold v_status v_marked v_hasLived)) [0] rfl
          have hDc := (mp_D_of (w1 := (k_X11_tray T a_ a_trays a_words a_odds a_tokens a_bookReader a_roundsReader a_book a_draft a_marks a_ahead a_life a_lifeTold a_trays_rows a_trays_sorts a_trays_lengths a_trays_rows_0 a_trays_rows_1 a_trays_rows_2 a_trays_rows_3 v_status v_marked v_hasLived v_trays_lengths v_trays_rows_0 v_trays_rows_1 v_trays_rows_2 v_trays_rows_3 v_trays_sorts)) hD rfl).sub (ws' := (k_X11_deny T a_ a_trays a_words a_odds a_tokens a_bookReader a_roundsReader a_book a_draft a_marks a_ahead a_life a_lifeTold v_status v_marked v_hasLived)) [0] rfl rfl
          refine mp_calli (isC := [0]) (wc := (k_X11_deny T a_ a_trays a_words a_odds a_tokens a_bookReader a_roundsReader a_book a_draft a_marks a_ahead a_life a_lifeTold v_status v_marked v_hasLived)) (w1 := (k_X11_deny T a_ a_trays a_words a_odds a_tokens a_bookReader a_roundsReader a_book a_draft a_marks a_ahead a_life a_lifeTold u32 v_marked v_hasLived)) hP (mp_D_of hD rfl) hS hA rfl rfl (mp_runV (As := [.int (nI 5)]) (rest := []) X me_X11_deny lk_X11_112 (c_X11_deny l D T a_ a_trays a_words a_odds a_tokens a_bookReader a_roundsReader a_book a_draft a_marks a_ahead a_life a_lifeTold (nI 5) v_marked v_hasLived v_status r31 u32 c33) rfl rfl ⟨(Nat.le_of_ble_eq_true rfl), (Nat.le_of_ble_eq_true rfl)⟩ hK hPc hDc rfl rfl rfl rfl hl.1 rfl (Nat.le_of_ble_eq_true rfl) dX11_tray_34 ⟨Nat.zero_le _, Nat.zero_le _⟩) (fun H locs hP _ hS => ?_)
          replace hP : va_P D mp_cl (k_X11_tray T a_ a_trays a_words a_odds a_tokens a_bookReader a_roundsReader a_book a_draft a_marks a_ahead a_life a_lifeTold a_trays_rows a_trays_sorts a_trays_lengths a_trays_rows_0 a_trays_rows_1 a_trays_rows_2 a_trays_rows_3 u32 v_marked v_hasLived v_trays_lengths v_trays_rows_0 v_trays_rows_1 v_trays_rows_2 v_trays_rows_3 v_trays_sorts) H := hP
          obtain ⟨h34, hf⟩ := gd_of hf
          cases hf
          exact mp_retz X hP hS rfl h34 dX11_tray_37
      · replace hf := if_f hf h13
        refine lv_aload_n hx hb dX11_tray_20 rfl (lv_at hl 0 rfl) ?_
        refine lv_iconst (v := (nI 1)) hx hb dX11_tray_21 (by decide) ?_
        obtain ⟨⟨r35, u36⟩, c37, hf⟩ := bd_of hf
        dsimp only at hf
        have hPc := hP.sub (ws' := (k_X11_deny T a_ a_trays a_words a_odds a_tokens a_bookReader a_roundsReader a_book a_draft a_marks a_ahead a_life a_lifeTold v_status v_marked v_hasLived)) [0] rfl
        have hDc := (mp_D_of (w1 := (k_X11_tray T a_ a_trays a_words a_odds a_tokens a_bookReader a_roundsReader a_book a_draft a_marks a_ahead a_life a_lifeTold a_trays_rows a_trays_sorts a_trays_lengths a_trays_rows_0 a_trays_rows_1 a_trays_rows_2 a_trays_rows_3 v_status v_marked v_hasLived v_trays_lengths v_trays_rows_0 v_trays_rows_1 v_trays_rows_2 v_trays_rows_3 v_trays_sorts)) hD rfl).sub (ws' := (k_X11_deny T a_ a_trays a_words a_odds a_tokens a_bookReader a_roundsReader a_book a_draft a_marks a_ahead a_life a_lifeTold v_status v_marked v_hasLived)) [0] rfl rfl
        refine mp_calli (isC := [0]) (wc := (k_X11_deny T a_ a_trays a_words a_odds a_tokens a_bookReader a_roundsReader a_book a_draft a_marks a_ahead a_life a_lifeTold v_status v_marked v_hasLived)) (w1 := (k_X11_deny T a_ a_trays a_words a_odds a_tokens a_bookReader a_roundsReader a_book a_draft a_marks a_ahead a_life a_lifeTold u36 v_marked v_hasLived)) hP (mp_D_of hD rfl) hS hA rfl rfl (mp_runV (As := [.int (nI 1)]) (rest := []) X me_X11_deny lk_X11_112 (c_X11_deny l D T a_ a_trays a_words a_odds a_tokens a_bookReader a_roundsReader a_book a_draft a_marks a_ahead a_life a_lifeTold (nI 1) v_marked v_hasLived v_status r35 u36 c37) rfl rfl ⟨(Nat.le_of_ble_eq_true rfl), (Nat.le_of_ble_eq_true rfl)⟩ hK hPc hDc rfl rfl rfl rfl hl.1 rfl (Nat.le_of_ble_eq_true rfl) dX11_tray_22 ⟨Nat.zero_le _, Nat.zero_le _⟩) (fun H locs hP _ hS => ?_)
        replace hP : va_P D mp_cl (k_X11_tray T a_ a_trays a_words a_odds a_tokens a_bookReader a_roundsReader a_book a_draft a_marks a_ahead a_life a_lifeTold a_trays_rows a_trays_sorts a_trays_lengths a_trays_rows_0 a_trays_rows_1 a_trays_rows_2 a_trays_rows_3 u36 v_marked v_hasLived v_trays_lengths v_trays_rows_0 v_trays_rows_1 v_trays_rows_2 v_trays_rows_3 v_trays_sorts) H := hP
        obtain ⟨h38, hf⟩ := gd_of hf
        cases hf
        exact mp_retz X hP hS rfl h38 dX11_tray_25


def k_X11_write (T : Nat → ClassId) (a_ a_trays a_words a_odds a_tokens a_bookReader a_roundsReader a_book a_draft a_marks a_ahead a_life a_lifeTold a_trays_rows a_trays_sorts a_trays_lengths a_trays_rows_0 a_trays_rows_1 a_trays_rows_2 a_trays_rows_3 : Nat) (v_status : Int32) (v_marked : Int32) (v_hasLived : Int32) (v_trays_lengths : (Nat → Int32)) (v_trays_rows_0 : (Nat → Int64)) (v_trays_rows_1 : (Nat → Int64)) (v_trays_rows_2 : (Nat → Int64)) (v_trays_rows_3 : (Nat → Int64)) (v_trays_sorts : (Nat → Int32)) : va_W := [(a_, oX11 v_status a_trays a_words a_odds a_tokens a_bookReader a_roundsReader a_book a_draft a_marks v_marked a_ahead a_life a_lifeTold v_hasLived), (a_trays, oX9 a_trays_rows a_trays_sorts a_trays_lengths), (a_trays_lengths, mp_aI T 4 v_trays_lengths), (a_trays_rows, mp_aR T 3 4 [a_trays_rows_0, a_trays_rows_1, a_trays_rows_2, a_trays_rows_3]), (a_trays_rows_0, mp_aJ T 60 v_trays_rows_0), (a_trays_rows_1, mp_aJ T 60 v_trays_rows_1), (a_trays_rows_2, mp_aJ T 60 v_trays_rows_2), (a_trays_rows_3, mp_aJ T 60 v_trays_rows_3), (a_trays_sorts, mp_aI T 4 v_trays_sorts)]
set_option maxHeartbeats 4000000 in
set_option maxRecDepth 100000 in
theorem c_X11_write (l : Launch) (D : va_G) (T : Nat → ClassId) (a_ a_trays a_words a_odds a_tokens a_bookReader a_roundsReader a_book a_draft a_marks a_ahead a_life a_lifeTold a_trays_rows a_trays_sorts a_trays_lengths a_trays_rows_0 a_trays_rows_1 a_trays_rows_2 a_trays_rows_3 : Nat) (x1 : Int32) (x2 : Int32) (x3 : Int64) (v_marked : Int32) (v_hasLived : Int32) (v_status : Int32) (v_trays_lengths : (Nat → Int32)) (v_trays_rows_0 : (Nat → Int64)) (v_trays_rows_1 : (Nat → Int64)) (v_trays_rows_2 : (Nat → Int64)) (v_trays_rows_3 : (Nat → Int64)) (v_trays_sorts : (Nat → Int32)) (r_ : Int32) (o_status : Int32) (o_trays_rows_0 : (Nat → Int64)) (o_trays_rows_1 : (Nat → Int64)) (o_trays_rows_2 : (Nat → Int64)) (o_trays_rows_3 : (Nat → Int64)) (hf : f_X11_write x1 x2 x3 v_status v_trays_lengths v_trays_rows_0 v_trays_rows_1 v_trays_rows_2 v_trays_rows_3 v_trays_sorts = some (r_, o_status, o_trays_rows_0, o_trays_rows_1, o_trays_rows_2, o_trays_rows_3)) :
    mp_M l D T yX11_write cX11_write 6 (some .boolean) ({ frames := 2, cells := 0, slots := 0, locals := 46 }) 0 0 [.ref a_, .int x1, .int x2, .long x3] (k_X11_write T a_ a_trays a_words a_odds a_tokens a_bookReader a_roundsReader a_book a_draft a_marks a_ahead a_life a_lifeTold a_trays_rows a_trays_sorts a_trays_lengths a_trays_rows_0 a_trays_rows_1 a_trays_rows_2 a_trays_rows_3 v_status v_marked v_hasLived v_trays_lengths v_trays_rows_0 v_trays_rows_1 v_trays_rows_2 v_trays_rows_3 v_trays_sorts) (mp_Qi D r_ (k_X11_write T a_ a_trays a_words a_odds a_tokens a_bookReader a_roundsReader a_book a_draft a_marks a_ahead a_life a_lifeTold a_trays_rows a_trays_sorts a_trays_lengths a_trays_rows_0 a_trays_rows_1 a_trays_rows_2 a_trays_rows_3 o_status v_marked v_hasLived v_trays_lengths o_trays_rows_0 o_trays_rows_1 o_trays_rows_2 o_trays_rows_3 v_trays_sorts)) := by
  refine mp_of (by decide) (Nat.le_of_ble_eq_true rfl) rfl ?_
  intro p e s m args below meth c A ls X hK hP hD hS hA hl
  replace X : mp_X p s m meth c args RX11 "write" cX11_write 6 (some .boolean) := X
  have hx := X.1
  have hb := X.2.1
  have hml := X.2.2.1
  have hown := X.2.2.2.2.1
  have hts := X.2.2.2.2.2.1
  replace hl : lv_has ls 6 [(0, .ref a_), (1, .int x1), (2, .int x2), (3, .long x3)] := hl
  replace hf : bd_ (f_X9_placeStatus x1 x2 v_trays_lengths) (fun (r1 : Int32) => (if r1 = 0 then bd_ (f_X9_put x1 x2 x3 v_trays_rows_0 v_trays_rows_1 v_trays_rows_2 v_trays_rows_3 v_trays_sorts) (fun (z : (Nat → Int64) × (Nat → Int64) × (Nat → Int64) × (Nat → Int64)) => match z with | (u4, u5, u6, u7) => bd_ (f_X11_agree v_status) (fun (z : Int32 × Int32) => match z with | (r9, u10) => gd_ (r9 = 0 ∨ r9 = 1) (some (r9, u10, u4, u5, u6, u7)))) else bd_ (f_X11_deny r1 v_status) (fun (z : Int32 × Int32) => match z with | (r13, u14) => gd_ (r13 = 0 ∨ r13 = 1) (some (r13, u14, v_trays_rows_0, v_trays_rows_1, v_trays_rows_2, v_trays_rows_3))))) = some (r_, o_status, o_trays_rows_0, o_trays_rows_1, o_trays_rows_2, o_trays_rows_3) := hf
  refine lv_aload_n hx hb dX11_write_0 rfl (lv_at hl 0 rfl) ?_
  refine mp_get X fl_X11_16 hK hP 0 rfl rfl dX11_write_1 ?_
  refine lv_iload_n hx hb dX11_write_4 rfl (lv_at hl 1 rfl) ?_
  refine lv_iload_n hx hb dX11_write_5 rfl (lv_at hl 2 rfl) ?_
  obtain ⟨r1, c2, hf⟩ := bd_of hf
  have hPc := hP.sub (ws' := (k_X9_placeStatus T a_trays a_trays_rows a_trays_sorts a_trays_lengths v_trays_lengths)) [1, 2] rfl
  have hDc := (mp_D_of (w1 := (k_X11_write T a_ a_trays a_words a_odds a_tokens a_bookReader a_roundsReader a_book a_draft a_marks a_ahead a_life a_lifeTold a_trays_rows a_trays_sorts a_trays_lengths a_trays_rows_0 a_trays_rows_1 a_trays_rows_2 a_trays_rows_3 v_status v_marked v_hasLived v_trays_lengths v_trays_rows_0 v_trays_rows_1 v_trays_rows_2 v_trays_rows_3 v_trays_sorts)) hD rfl).sub (ws' := (k_X9_placeStatus T a_trays a_trays_rows a_trays_sorts a_trays_lengths v_trays_lengths)) [1, 2] rfl rfl
  refine mp_calli (isC := [1, 2]) (wc := (k_X9_placeStatus T a_trays a_trays_rows a_trays_sorts a_trays_lengths v_trays_lengths)) (w1 := (k_X9_placeStatus T a_trays a_trays_rows a_trays_sorts a_trays_lengths v_trays_lengths)) hP (mp_D_of hD rfl) hS hA rfl rfl (mp_runV (As := [.int x1, .int x2]) (rest := []) X me_X9_placeStatus lk_X11_123 (c_X9_placeStatus l D T a_trays a_trays_rows a_trays_sorts a_trays_lengths x1 x2 v_trays_lengths r1 c2) rfl rfl ⟨(Nat.le_of_ble_eq_true rfl), (Nat.le_of_ble_eq_true rfl)⟩ hK hPc hDc rfl rfl rfl rfl hl.1 rfl (Nat.le_of_ble_eq_true rfl) dX11_write_6 ⟨Nat.zero_le _, Nat.zero_le _⟩) (fun H locs hP _ hS => ?_)
  replace hP : va_P D mp_cl (k_X11_write T a_ a_trays a_words a_odds a_tokens a_bookReader a_roundsReader a_book a_draft a_marks a_ahead a_life a_lifeTold a_trays_rows a_trays_sorts a_trays_lengths a_trays_rows_0 a_trays_rows_1 a_trays_rows_2 a_trays_rows_3 v_status v_marked v_hasLived v_trays_lengths v_trays_rows_0 v_trays_rows_1 v_trays_rows_2 v_trays_rows_3 v_trays_sorts) H := hP
  refine lv_istore (lv' := [(5, .int r1), (0, .ref a_), (1, .int x1), (2, .int x2), (3, .long x3)]) hx hb dX11_write_9 hl (by decide) rfl (fun ls hl => ?_)
  refine lv_iload hx hb dX11_write_11 (lv_at hl 0 rfl) ?_
  refine lv_if_eq (tgt := 23) hx hb dX11_write_13 (by decide) (fun h3 => ?_) (fun h3 => ?_)
  · replace hf := if_t hf h3
    refine lv_aload_n hx hb dX11_write_23 rfl (lv_at hl 1 rfl) ?_
    refine mp_get X fl_X11_16 hK hP 0 rfl rfl dX11_write_24 ?_
    refine lv_iload_n hx hb dX11_write_27 rfl (lv_at hl 2 rfl) ?_
    refine lv_iload_n hx hb dX11_write_28 rfl (lv_at hl 3 rfl) ?_
    refine lv_lload_n hx hb dX11_write_29 rfl (lv_at hl 4 rfl) ?_
    obtain ⟨⟨u4, u5, u6, u7⟩, c8, hf⟩ := bd_of hf
    dsimp only at hf
    have hPc := hP.sub (ws' := (k_X9_put T a_trays a_trays_rows a_trays_sorts a_trays_lengths a_trays_rows_0 a_trays_rows_1 a_trays_rows_2 a_trays_rows_3 v_trays_rows_0 v_trays_rows_1 v_trays_rows_2 v_trays_rows_3 v_trays_sorts)) [1, 3, 4, 5, 6, 7, 8] rfl
    have hDc := (mp_D_of (w1 := (k_X11_write T a_ a_trays a_words a_odds a_tokens a_bookReader a_roundsReader a_book a_draft a_marks a_ahead a_life a_lifeTold a_trays_rows a_trays_sorts a_trays_lengths a_trays_rows_0 a_trays_rows_1 a_trays_rows_2 a_trays_rows_3 v_status v_marked v_hasLived v_trays_lengths v_trays_rows_0 v_trays_rows_1 v_trays_rows_2 v_trays_rows_3 v_trays_sorts)) hD rfl).sub (ws' := (k_X9_put T a_trays a_trays_rows a_trays_sorts a_trays_lengths a_trays_rows_0 a_trays_rows_1 a_trays_rows_2 a_trays_rows_3 v_trays_rows_0 v_trays_rows_1 v_trays_rows_2 v_trays_rows_3 v_trays_sorts)) [1, 3, 4, 5, 6, 7, 8] rfl rfl
    refine mp_callv2 (isC := [1, 3, 4, 5, 6, 7, 8]) (isO := [0, 2]) (wc := (k_X9_put T a_trays a_trays_rows a_trays_sorts a_trays_lengths a_trays_rows_0 a_trays_rows_1 a_trays_rows_2 a_trays_rows_3 v_trays_rows_0 v_trays_rows_1 v_trays_rows_2 v_trays_rows_3 v_trays_sorts)) (w1 := (k_X9_put T a_trays a_trays_rows a_trays_sorts a_trays_lengths a_trays_rows_0 a_trays_rows_1 a_trays_rows_2 a_trays_rows_3 u4 u5 u6 u7 v_trays_sorts)) (wo := [(a_, oX11 v_status a_trays a_words a_odds a_tokens a_bookReader a_roundsReader a_book a_draft a_marks v_marked a_ahead a_life a_lifeTold v_hasLived), (a_trays_lengths, mp_aI T 4 v_trays_lengths)]) (w2 := (k_X11_write T a_ a_trays a_words a_odds a_tokens a_bookReader a_roundsReader a_book a_draft a_marks a_ahead a_life a_lifeTold a_trays_rows a_trays_sorts a_trays_lengths a_trays_rows_0 a_trays_rows_1 a_trays_rows_2 a_trays_rows_3 v_status v_marked v_hasLived v_trays_lengths u4 u5 u6 u7 v_trays_sorts)) (n := 9) hP (mp_D_of hD rfl) hS hA rfl rfl rfl rfl rfl rfl (by decide +kernel) (mp_runV (As := [.int x1, .int x2, .long x3]) (rest := []) X me_X9_put lk_X11_127 (c_X9_put l D T a_trays a_trays_rows a_trays_sorts a_trays_lengths a_trays_rows_0 a_trays_rows_1 a_trays_rows_2 a_trays_rows_3 x1 x2 x3 v_trays_rows_0 v_trays_rows_1 v_trays_rows_2 v_trays_rows_3 v_trays_sorts u4 u5 u6 u7 c8) rfl rfl ⟨(Nat.le_of_ble_eq_true rfl), (Nat.le_of_ble_eq_true rfl)⟩ hK hPc hDc rfl rfl rfl rfl hl.1 rfl (Nat.le_of_ble_eq_true rfl) dX11_write_30 ⟨Nat.zero_le _, Nat.zero_le _⟩) (fun H locs hP _ hS => ?_)
    refine lv_aload_n hx hb dX11_write_33 rfl (lv_at hl 1 rfl) ?_
    obtain ⟨⟨r9, u10⟩, c11, hf⟩ := bd_of hf
    dsimp only at hf
    have hPc := hP.sub (ws' := (k_X11_agree T a_ a_trays a_words a_odds a_tokens a_bookReader a_roundsReader a_book a_draft a_marks a_ahead a_life a_lifeTold v_status v_marked v_hasLived)) [0] rfl
    have hDc := (mp_D_of (w1 := (k_X11_write T a_ a_trays a_words a_odds a_tokens a_bookReader a_roundsReader a_book a_draft a_marks a_ahead a_life a_lifeTold a_trays_rows a_trays_sorts a_trays_lengths a_trays_rows_0 a_trays_rows_1 a_trays_rows_2 a_trays_rows_3 v_status v_marked v_hasLived v_trays_lengths u4 u5 u6 u7 v_trays_sorts)) hD rfl).sub (ws' := (k_X11_agree T a_ a_trays a_words a_odds a_tokens a_bookReader a_roundsReader a_book a_draft a_marks a_ahead a_life a_lifeTold v_status v_marked v_hasLived)) [0] rfl rfl
    refine mp_calli (isC := [0]) (wc := (k_X11_agree T a_ a_trays a_words a_odds a_tokens a_bookReader a_roundsReader a_book a_draft a_marks a_ahead a_life a_lifeTold v_status v_marked v_hasLived)) (w1 := (k_X11_agree T a_ a_trays a_words a_odds a_tokens a_bookReader a_roundsReader a_book a_draft a_marks a_ahead a_life a_lifeTold u10 v_marked v_hasLived)) hP (mp_D_of hD rfl) hS hA rfl rfl (mp_runV (As := []) (rest := []) X me_X11_agree lk_X11_119 (c_X11_agree l D T a_ a_trays a_words a_odds a_tokens a_bookReader a_roundsReader a_book a_draft a_marks a_ahead a_life a_lifeTold v_marked v_hasLived v_status r9 u10 c11) rfl rfl ⟨(Nat.le_of_ble_eq_true rfl), (Nat.le_of_ble_eq_true rfl)⟩ hK hPc hDc rfl rfl rfl rfl hl.1 rfl (Nat.le_of_ble_eq_true rfl) dX11_write_34 ⟨Nat.zero_le _, Nat.zero_le _⟩) (fun H locs hP _ hS => ?_)
    replace hP : va_P D mp_cl (k_X11_write T a_ a_trays a_words a_odds a_tokens a_bookReader a_roundsReader a_book a_draft a_marks a_ahead a_life a_lifeTold a_trays_rows a_trays_sorts a_trays_lengths a_trays_rows_0 a_trays_rows_1 a_trays_rows_2 a_trays_rows_3 u10 v_marked v_hasLived v_trays_lengths u4 u5 u6 u7 v_trays_sorts) H := hP
    obtain ⟨h12, hf⟩ := gd_of hf
    cases hf
    exact mp_retz X hP hS rfl h12 dX11_write_37
  · replace hf := if_f hf h3
    refine lv_aload_n hx hb dX11_write_16 rfl (lv_at hl 1 rfl) ?_
    refine lv_iload hx hb dX11_write_17 (lv_at hl 0 rfl) ?_
    obtain ⟨⟨r13, u14⟩, c15, hf⟩ := bd_of hf
    dsimp only at hf
    have hPc := hP.sub (ws' := (k_X11_deny T a_ a_trays a_words a_odds a_tokens a_bookReader a_roundsReader a_book a_draft a_marks a_ahead a_life a_lifeTold v_status v_marked v_hasLived)) [0] rfl
    have hDc := (mp_D_of (w1 := (k_X11_write T a_ a_trays a_words a_odds a_tokens a_bookReader a_roundsReader a_book a_draft a_marks a_ahead a_life a_lifeTold a_trays_rows a_trays_sorts a_trays_lengths a_trays_rows_0 a_trays_rows_1 a_trays_rows_2 a_trays_rows_3 v_status v_marked v_hasLived v_trays_lengths v_trays_rows_0 v_trays_rows_1 v_trays_rows_2 v_trays_rows_3 v_trays_sorts)) hD rfl).sub (ws' := (k_X11_deny T a_ a_trays a_words a_odds a_tokens a_bookReader a_roundsReader a_book a_draft a_marks a_ahead a_life a_lifeTold v_status v_marked v_hasLived)) [0] rfl rfl
    refine mp_calli (isC := [0]) (wc := (k_X11_deny T a_ a_trays a_words a_odds a_tokens a_bookReader a_roundsReader a_book a_draft a_marks a_ahead a_life a_lifeTold v_status v_marked v_hasLived)) (w1 := (k_X11_deny T a_ a_trays a_words a_odds a_tokens a_bookReader a_roundsReader a_book a_draft a_marks a_ahead a_life a_lifeTold u14 v_marked v_hasLived)) hP (mp_D_of hD rfl) hS hA rfl rfl (mp_runV (As := [.int r1]) (rest := []) X me_X11_deny lk_X11_112 (c_X11_deny l D T a_ a_trays a_words a_odds a_tokens a_bookReader a_roundsReader a_book a_draft a_marks a_ahead a_life a_lifeTold r1 v_marked v_hasLived v_status r13 u14 c15) rfl rfl ⟨(Nat.le_of_ble_eq_true rfl), (Nat.le_of_ble_eq_true rfl)⟩ hK hPc hDc rfl rfl rfl rfl hl.1 rfl (Nat.le_of_ble_eq_true rfl) dX11_write_19 ⟨Nat.zero_le _, Nat.zero_le _⟩) (fun H locs hP _ hS => ?_)
    replace hP : va_P D mp_cl (k_X11_write T a_ a_trays a_words a_odds a_tokens a_bookReader a_roundsReader a_book a_draft a_marks a_ahead a_life a_lifeTold a_trays_rows a_trays_sorts a_trays_lengths a_trays_rows_0 a_trays_rows_1 a_trays_rows_2 a_trays_rows_3 u14 v_marked v_hasLived v_trays_lengths v_trays_rows_0 v_trays_rows_1 v_trays_rows_2 v_trays_rows_3 v_trays_sorts) H := hP
    obtain ⟨h16, hf⟩ := gd_of hf
    cases hf
    exact mp_retz X hP hS rfl h16 dX11_write_22


def k_X11_read (T : Nat → ClassId) (a_ a_trays a_words a_odds a_tokens a_bookReader a_roundsReader a_book a_draft a_marks a_ahead a_life a_lifeTold a_trays_rows a_trays_sorts a_trays_lengths a_trays_rows_0 a_trays_rows_1 a_trays_rows_2 a_trays_rows_3 : Nat) (v_status : Int32) (v_marked : Int32) (v_hasLived : Int32) (v_trays_lengths : (Nat → Int32)) (v_trays_rows_0 : (Nat → Int64)) (v_trays_rows_1 : (Nat → Int64)) (v_trays_rows_2 : (Nat → Int64)) (v_trays_rows_3 : (Nat → Int64)) : va_W := [(a_, oX11 v_status a_trays a_words a_odds a_tokens a_bookReader a_roundsReader a_book a_draft a_marks v_marked a_ahead a_life a_lifeTold v_hasLived), (a_trays, oX9 a_trays_rows a_trays_sorts a_trays_lengths), (a_trays_lengths, mp_aI T 4 v_trays_lengths), (a_trays_rows, mp_aR T 3 4 [a_trays_rows_0, a_trays_rows_1, a_trays_rows_2, a_trays_rows_3]), (a_trays_rows_0, mp_aJ T 60 v_trays_rows_0), (a_trays_rows_1, mp_aJ T 60 v_trays_rows_1), (a_trays_rows_2, mp_aJ T 60 v_trays_rows_2), (a_trays_rows_3, mp_aJ T 60 v_trays_rows_3)]
set_option maxHeartbeats 4000000 in
set_option maxRecDepth 100000 in
theorem c_X11_read (l : Launch) (D : va_G) (T : Nat → ClassId) (a_ a_trays a_words a_odds a_tokens a_bookReader a_roundsReader a_book a_draft a_marks a_ahead a_life a_lifeTold a_trays_rows a_trays_sorts a_trays_lengths a_trays_rows_0 a_trays_rows_1 a_trays_rows_2 a_trays_rows_3 : Nat) (x1 : Int32) (x2 : Int32) (v_marked : Int32) (v_hasLived : Int32) (v_status : Int32) (v_trays_lengths : (Nat → Int32)) (v_trays_rows_0 : (Nat → Int64)) (v_trays_rows_1 : (Nat → Int64)) (v_trays_rows_2 : (Nat → Int64)) (v_trays_rows_3 : (Nat → Int64)) (r_ : Int64) (o_status : Int32) (hf : f_X11_read x1 x2 v_status v_trays_lengths v_trays_rows_0 v_trays_rows_1 v_trays_rows_2 v_trays_rows_3 = some (r_, o_status)) :
    mp_M l D T yX11_read cX11_read 4 (some .long) ({ frames := 2, cells := 0, slots := 0, locals := 43 }) 0 0 [.ref a_, .int x1, .int x2] (k_X11_read T a_ a_trays a_words a_odds a_tokens a_bookReader a_roundsReader a_book a_draft a_marks a_ahead a_life a_lifeTold a_trays_rows a_trays_sorts a_trays_lengths a_trays_rows_0 a_trays_rows_1 a_trays_rows_2 a_trays_rows_3 v_status v_marked v_hasLived v_trays_lengths v_trays_rows_0 v_trays_rows_1 v_trays_rows_2 v_trays_rows_3) (mp_Ql D r_ (k_X11_read T a_ a_trays a_words a_odds a_tokens a_bookReader a_roundsReader a_book a_draft a_marks a_ahead a_life a_lifeTold a_trays_rows a_trays_sorts a_trays_lengths a_trays_rows_0 a_trays_rows_1 a_trays_rows_2 a_trays_rows_3 o_status v_marked v_hasLived v_trays_lengths v_trays_rows_0 v_trays_rows_1 v_trays_rows_2 v_trays_rows_3)) := by
  refine mp_of (by decide) (Nat.le_of_ble_eq_true rfl) rfl ?_
  intro p e s m args below meth c A ls X hK hP hD hS hA hl
  replace X : mp_X p s m meth c args RX11 "read" cX11_read 4 (some .long) := X
  have hx := X.1
  have hb := X.2.1
  have hml := X.2.2.1
  have hown := X.2.2.2.2.1
  have hts := X.2.2.2.2.2.1
  replace hl : lv_has ls 4 [(0, .ref a_), (1, .int x1), (2, .int x2)] := hl
  replace hf : bd_ (f_X9_placeStatus x1 x2 v_trays_lengths) (fun (r1 : Int32) => (if r1 = 0 then gi_ x1 4 ((if x1 = (nI 0) then gi_ x2 60 (some (v_trays_rows_0 (x2).toNatClampNeg, (nI 0))) else (if x1 = (nI 1) then gi_ x2 60 (some (v_trays_rows_1 (x2).toNatClampNeg, (nI 0))) else (if x1 = (nI 2) then gi_ x2 60 (some (v_trays_rows_2 (x2).toNatClampNeg, (nI 0))) else gi_ x2 60 (some (v_trays_rows_3 (x2).toNatClampNeg, (nI 0))))))) else bd_ (f_X11_refuse r1 v_status) (fun (z : Int32 × Int32) => match z with | (r13, u14) => some ((r13).toInt64, u14)))) = some (r_, o_status) := hf
  refine lv_aload_n hx hb dX11_read_0 rfl (lv_at hl 0 rfl) ?_
  refine mp_get X fl_X11_16 hK hP 0 rfl rfl dX11_read_1 ?_
  refine lv_iload_n hx hb dX11_read_4 rfl (lv_at hl 1 rfl) ?_
  refine lv_iload_n hx hb dX11_read_5 rfl (lv_at hl 2 rfl) ?_
  obtain ⟨r1, c2, hf⟩ := bd_of hf
  have hPc := hP.sub (ws' := (k_X9_placeStatus T a_trays a_trays_rows a_trays_sorts a_trays_lengths v_trays_lengths)) [1, 2] rfl
  have hDc := (mp_D_of (w1 := (k_X11_read T a_ a_trays a_words a_odds a_tokens a_bookReader a_roundsReader a_book a_draft a_marks a_ahead a_life a_lifeTold a_trays_rows a_trays_sorts a_trays_lengths a_trays_rows_0 a_trays_rows_1 a_trays_rows_2 a_trays_rows_3 v_status v_marked v_hasLived v_trays_lengths v_trays_rows_0 v_trays_rows_1 v_trays_rows_2 v_trays_rows_3)) hD rfl).sub (ws' := (k_X9_placeStatus T a_trays a_trays_rows a_trays_sorts a_trays_lengths v_trays_lengths)) [1, 2] rfl rfl
  refine mp_calli (isC := [1, 2]) (wc := (k_X9_placeStatus T a_trays a_trays_rows a_trays_sorts a_trays_lengths v_trays_lengths)) (w1 := (k_X9_placeStatus T a_trays a_trays_rows a_trays_sorts a_trays_lengths v_trays_lengths)) hP (mp_D_of hD rfl) hS hA rfl rfl (mp_runV (As := [.int x1, .int x2]) (rest := []) X me_X9_placeStatus lk_X11_123 (c_X9_placeStatus l D T a_trays a_trays_rows a_trays_sorts a_trays_lengths x1 x2 v_trays_lengths r1 c2) rfl rfl ⟨(Nat.le_of_ble_eq_true rfl), (Nat.le_of_ble_eq_true rfl)⟩ hK hPc hDc rfl rfl rfl rfl hl.1 rfl (Nat.le_of_ble_eq_true rfl) dX11_read_6 ⟨Nat.zero_le _, Nat.zero_le _⟩) (fun H locs hP _ hS => ?_)
  replace hP : va_P D mp_cl (k_X11_read T a_ a_trays a_words a_odds a_tokens a_bookReader a_roundsReader a_book a_draft a_marks a_ahead a_life a_lifeTold a_trays_rows a_trays_sorts a_trays_lengths a_trays_rows_0 a_trays_rows_1 a_trays_rows_2 a_trays_rows_3 v_status v_marked v_hasLived v_trays_lengths v_trays_rows_0 v_trays_rows_1 v_trays_rows_2 v_trays_rows_3) H := hP
  refine lv_istore_n (lv' := [(3, .int r1), (0, .ref a_), (1, .int x1), (2, .int x2)]) hx hb dX11_read_9 rfl hl (by decide) rfl (fun ls hl => ?_)
  refine lv_iload_n hx hb dX11_read_10 rfl (lv_at hl 0 rfl) ?_
  refine lv_if_eq (tgt := 21) hx hb dX11_read_11 (by decide) (fun h3 => ?_) (fun h3 => ?_)
  · replace hf := if_t hf h3
    refine lv_aload_n hx hb dX11_read_21 rfl (lv_at hl 1 rfl) ?_
    refine lv_iconst (v := (nI 0)) hx hb dX11_read_22 (by decide) ?_
    refine mp_putf X fl_X11_9 fp_X11 rfl hK hP (mp_D_of hD rfl) hS 0 rfl rfl rfl (Nat.le_of_ble_eq_true rfl) dX11_read_23 (fun H locs hP _ hS => ?_)
    replace hP : va_P D mp_cl (k_X11_read T a_ a_trays a_words a_odds a_tokens a_bookReader a_roundsReader a_book a_draft a_marks a_ahead a_life a_lifeTold a_trays_rows a_trays_sorts a_trays_lengths a_trays_rows_0 a_trays_rows_1 a_trays_rows_2 a_trays_rows_3 (nI 0) v_marked v_hasLived v_trays_lengths v_trays_rows_0 v_trays_rows_1 v_trays_rows_2 v_trays_rows_3) H := hP
    refine lv_aload_n hx hb dX11_read_26 rfl (lv_at hl 1 rfl) ?_
    refine mp_get X fl_X11_16 hK hP 0 rfl rfl dX11_read_27 ?_
    refine mp_get X fl_X11_131 hK hP 1 rfl rfl dX11_read_30 ?_
    refine lv_iload_n hx hb dX11_read_33 rfl (lv_at hl 2 rfl) ?_
    obtain ⟨h4, hf⟩ := gi_of hf
    refine va_aldqA hx hb hK hP 3 3 rfl rfl h4 dX11_read_34 ?_
    by_cases h5 : x1 = (nI 0)
    · replace hf := if_t hf h5
      rw [show va_rf (mp_ol [a_trays_rows_0, a_trays_rows_1, a_trays_rows_2, a_trays_rows_3] (x1).toNatClampNeg) = .ref a_trays_rows_0 from by rw [h5]; rfl]
      refine lv_iload_n hx hb dX11_read_35 rfl (lv_at hl 3 rfl) ?_
      obtain ⟨h6, hf⟩ := gi_of hf
      refine va_lald hx hb hK hP 4 1 rfl rfl h6 dX11_read_36 ?_
      cases hf
      exact mp_retl X hP hS rfl dX11_read_37
    replace hf := if_f hf h5
    by_cases h7 : x1 = (nI 1)
    · replace hf := if_t hf h7
      rw [show va_rf (mp_ol [a_trays_rows_0, a_trays_rows_1, a_trays_rows_2, a_trays_rows_3] (x1).toNatClampNeg) = .ref a_trays_rows_1 from by rw [h7]; rfl]
      refine lv_iload_n hx hb dX11_read_35 rfl (lv_at hl 3 rfl) ?_
      obtain ⟨h8, hf⟩ := gi_of hf
      refine va_lald hx hb hK hP 5 1 rfl rfl h8 dX11_read_36 ?_
      cases hf
      exact mp_retl X hP hS rfl dX11_read_37
    replace hf := if_f hf h7
    by_cases h9 : x1 = (nI 2)
    · replace hf := if_t hf h9
      rw [show va_rf (mp_ol [a_trays_rows_0, a_trays_rows_1, a_trays_rows_2, a_trays_rows_3] (x1).toNatClampNeg) = .ref a_trays_rows_2 from by rw [h9]; rfl]
      refine lv_iload_n hx hb dX11_read_35 rfl (lv_at hl 3 rfl) ?_
      obtain ⟨h10, hf⟩ := gi_of hf
      refine va_lald hx hb hK hP 6 1 rfl rfl h10 dX11_read_36 ?_
      cases hf
      exact mp_retl X hP hS rfl dX11_read_37
    replace hf := if_f hf h9
    have h11 : x1 = (nI 3) := mp_last4 h4 h5 h7 h9
    rw [show va_rf (mp_ol [a_trays_rows_0, a_trays_rows_1, a_trays_rows_2, a_trays_rows_3] (x1).toNatClampNeg) = .ref a_trays_rows_3 from by rw [h11]; rfl]
    refine lv_iload_n hx hb dX11_read_35 rfl (lv_at hl 3 rfl) ?_
    obtain ⟨h12, hf⟩ := gi_of hf
    refine va_lald hx hb hK hP 7 1 rfl rfl h12 dX11_read_36 ?_
    cases hf
    exact mp_retl X hP hS rfl dX11_read_37
  · replace hf := if_f hf h3
    refine lv_aload_n hx hb dX11_read_14 rfl (lv_at hl 1 rfl) ?_
    refine lv_iload_n hx hb dX11_read_15 rfl (lv_at hl 0 rfl) ?_
    obtain ⟨⟨r13, u14⟩, c15, hf⟩ := bd_of hf
    dsimp only at hf
    have hPc := hP.sub (ws' := (k_X11_refuse T a_ a_trays a_words a_odds a_tokens a_bookReader a_roundsReader a_book a_draft a_marks a_ahead a_life a_lifeTold v_status v_marked v_hasLived)) [0] rfl
    have hDc := (mp_D_of (w1 := (k_X11_read T a_ a_trays a_words a_odds a_tokens a_bookReader a_roundsReader a_book a_draft a_marks a_ahead a_life a_lifeTold a_trays_rows a_trays_sorts a_trays_lengths a_trays_rows_0 a_trays_rows_1 a_trays_rows_2 a_trays_rows_3 v_status v_marked v_hasLived v_trays_lengths v_trays_rows_0 v_trays_rows_1 v_trays_rows_2 v_trays_rows_3)) hD rfl).sub (ws' := (k_X11_refuse T a_ a_trays a_words a_odds a_tokens a_bookReader a_roundsReader a_book a_draft a_marks a_ahead a_life a_lifeTold v_status v_marked v_hasLived)) [0] rfl rfl
    refine mp_calli (isC := [0]) (wc := (k_X11_refuse T a_ a_trays a_words a_odds a_tokens a_bookReader a_roundsReader a_book a_draft a_marks a_ahead a_life a_lifeTold v_status v_marked v_hasLived)) (w1 := (k_X11_refuse T a_ a_trays a_words a_odds a_tokens a_bookReader a_roundsReader a_book a_draft a_marks a_ahead a_life a_lifeTold u14 v_marked v_hasLived)) hP (mp_D_of hD rfl) hS hA rfl rfl (mp_runV (As := [.int r1]) (rest := []) X me_X11_refuse lk_X11_101 (c_X11_refuse l D T a_ a_trays a_words a_odds a_tokens a_bookReader a_roundsReader a_book a_draft a_marks a_ahead a_life a_lifeTold r1 v_marked v_hasLived v_status r13 u14 c15) rfl rfl ⟨(Nat.le_of_ble_eq_true rfl), (Nat.le_of_ble_eq_true rfl)⟩ hK hPc hDc rfl rfl rfl rfl hl.1 rfl (Nat.le_of_ble_eq_true rfl) dX11_read_16 ⟨Nat.zero_le _, Nat.zero_le _⟩) (fun H locs hP _ hS => ?_)
    replace hP : va_P D mp_cl (k_X11_read T a_ a_trays a_words a_odds a_tokens a_bookReader a_roundsReader a_book a_draft a_marks a_ahead a_life a_lifeTold a_trays_rows a_trays_sorts a_trays_lengths a_trays_rows_0 a_trays_rows_1 a_trays_rows_2 a_trays_rows_3 u14 v_marked v_hasLived v_trays_lengths v_trays_rows_0 v_trays_rows_1 v_trays_rows_2 v_trays_rows_3) H := hP
    refine lv_i2l hx hb dX11_read_19 rfl ?_
    cases hf
    exact mp_retl X hP hS rfl dX11_read_20


def k_X11_pour (T : Nat → ClassId) (a_ a_trays a_words a_odds a_tokens a_bookReader a_roundsReader a_book a_draft a_marks a_ahead a_life a_lifeTold a_trays_rows a_trays_sorts a_trays_lengths a_trays_rows_0 a_trays_rows_1 a_trays_rows_2 a_trays_rows_3 : Nat) (v_status : Int32) (v_marked : Int32) (v_hasLived : Int32) (v_trays_lengths : (Nat → Int32)) (v_trays_rows_0 : (Nat → Int64)) (v_trays_rows_1 : (Nat → Int64)) (v_trays_rows_2 : (Nat → Int64)) (v_trays_rows_3 : (Nat → Int64)) (v_trays_sorts : (Nat → Int32)) : va_W := [(a_, oX11 v_status a_trays a_words a_odds a_tokens a_bookReader a_roundsReader a_book a_draft a_marks v_marked a_ahead a_life a_lifeTold v_hasLived), (a_trays, oX9 a_trays_rows a_trays_sorts a_trays_lengths), (a_trays_lengths, mp_aI T 4 v_trays_lengths), (a_trays_rows, mp_aR T 3 4 [a_trays_rows_0, a_trays_rows_1, a_trays_rows_2, a_trays_rows_3]), (a_trays_rows_0, mp_aJ T 60 v_trays_rows_0), (a_trays_rows_1, mp_aJ T 60 v_trays_rows_1), (a_trays_rows_2, mp_aJ T 60 v_trays_rows_2), (a_trays_rows_3, mp_aJ T 60 v_trays_rows_3), (a_trays_sorts, mp_aI T 4 v_trays_sorts)]
set_option maxHeartbeats 4000000 in
set_option maxRecDepth 100000 in
theorem c_X11_pour (l : Launch) (D : va_G) (T : Nat → ClassId) (a_ a_trays a_words a_odds a_tokens a_bookReader a_roundsReader a_book a_draft a_marks a_ahead a_life a_lifeTold a_trays_rows a_trays_sorts a_trays_lengths a_trays_rows_0 a_trays_rows_1 a_trays_rows_2 a_trays_rows_3 : Nat) (x1 : Int32) (x2 : Int32) (x3 : Int32) (x4 : Int32) (x5 : Int32) (v_marked : Int32) (v_hasLived : Int32) (v_status : Int32) (v_trays_lengths : (Nat → Int32)) (v_trays_rows_0 : (Nat → Int64)) (v_trays_rows_1 : (Nat → Int64)) (v_trays_rows_2 : (Nat → Int64)) (v_trays_rows_3 : (Nat → Int64)) (v_trays_sorts : (Nat → Int32)) (r_ : Int32) (o_status : Int32) (o_trays_rows_0 : (Nat → Int64)) (o_trays_rows_1 : (Nat → Int64)) (o_trays_rows_2 : (Nat → Int64)) (o_trays_rows_3 : (Nat → Int64)) (hf : f_X11_pour x1 x2 x3 x4 x5 v_status v_trays_lengths v_trays_rows_0 v_trays_rows_1 v_trays_rows_2 v_trays_rows_3 v_trays_sorts = some (r_, o_status, o_trays_rows_0, o_trays_rows_1, o_trays_rows_2, o_trays_rows_3)) :
    mp_M l D T yX11_pour cX11_pour 7 (some .boolean) ({ frames := 3, cells := 0, slots := 0, locals := 69 }) 0 0 [.ref a_, .int x1, .int x2, .int x3, .int x4, .int x5] (k_X11_pour T a_ a_trays a_words a_odds a_tokens a_bookReader a_roundsReader a_book a_draft a_marks a_ahead a_life a_lifeTold a_trays_rows a_trays_sorts a_trays_lengths a_trays_rows_0 a_trays_rows_1 a_trays_rows_2 a_trays_rows_3 v_status v_marked v_hasLived v_trays_lengths v_trays_rows_0 v_trays_rows_1 v_trays_rows_2 v_trays_rows_3 v_trays_sorts) (mp_Qi D r_ (k_X11_pour T a_ a_trays a_words a_odds a_tokens a_bookReader a_roundsReader a_book a_draft a_marks a_ahead a_life a_lifeTold a_trays_rows a_trays_sorts a_trays_lengths a_trays_rows_0 a_trays_rows_1 a_trays_rows_2 a_trays_rows_3 o_status v_marked v_hasLived v_trays_lengths o_trays_rows_0 o_trays_rows_1 o_trays_rows_2 o_trays_rows_3 v_trays_sorts)) := by
  refine mp_of (by decide) (Nat.le_of_ble_eq_true rfl) rfl ?_
  intro p e s m args below meth c A ls X hK hP hD hS hA hl
  replace X : mp_X p s m meth c args RX11 "pour" cX11_pour 7 (some .boolean) := X
  have hx := X.1
  have hb := X.2.1
  have hml := X.2.2.1
  have hown := X.2.2.2.2.1
  have hts := X.2.2.2.2.2.1
  replace hl : lv_has ls 7 [(0, .ref a_), (1, .int x1), (2, .int x2), (3, .int x3), (4, .int x4), (5, .int x5)] := hl
  replace hf : bd_ (f_X9_pourStatus x1 x2 x3 x4 x5 v_trays_lengths v_trays_sorts) (fun (r1 : Int32) => (if r1 = 0 then gi_ x1 4 ((if x1 = (nI 0) then gi_ x3 4 ((if x3 = (nI 0) then gc_ x2 x4 x5 60 60 (bd_ (f_X11_agree v_status) (fun (z : Int32 × Int32) => match z with | (r9, u10) => gd_ (r9 = 0 ∨ r9 = 1) (some (r9, u10, va_cpy v_trays_rows_0 v_trays_rows_0 (x2).toNatClampNeg (x4).toNatClampNeg (x5).toNatClampNeg, v_trays_rows_1, v_trays_rows_2, v_trays_rows_3)))) else (if x3 = (nI 1) then gc_ x2 x4 x5 60 60 (bd_ (f_X11_agree v_status) (fun (z : Int32 × Int32) => match z with | (r15, u16) => gd_ (r15 = 0 ∨ r15 = 1) (some (r15, u16, v_trays_rows_0, va_cpy v_trays_rows_0 v_trays_rows_1 (x2).toNatClampNeg (x4).toNatClampNeg (x5).toNatClampNeg, v_trays_rows_2, v_trays_rows_3)))) else (if x3 = (nI 2) then gc_ x2 x4 x5 60 60 (bd_ (f_X11_agree v_status) (fun (z : Int32 × Int32) => match z with | (r21, u22) => gd_ (r21 = 0 ∨ r21 = 1) (some (r21, u22, v_trays_rows_0, v_trays_rows_1, va_cpy v_trays_rows_0 v_trays_rows_2 (x2).toNatClampNeg (x4).toNatClampNeg (x5).toNatClampNeg, v_trays_rows_3)))) else gc_ x2 x4 x5 60 60 (bd_ (f_X11_agree v_status) (fun (z : Int32 × Int32) => match z with | (r27, u28) => gd_ (r27 = 0 ∨ r27 = 1) (some (r27, u28, v_trays_rows_0, v_trays_rows_1, v_trays_rows_2, va_cpy v_trays_rows_0 v_trays_rows_3 (x2).toNatClampNeg (x4).toNatClampNeg (x5).toNatClampNeg)))))))) else (if x1 = (nI 1) then gi_ x3 4 ((if x3 = (nI 0) then gc_ x2 x4 x5 60 60 (bd_ (f_X11_agree v_status) (fun (z : Int32 × Int32) => match z with | (r35, u36) => gd_ (r35 = 0 ∨ r35 = 1) (some (r35, u36, va_cpy v_trays_rows_1 v_trays_rows_0 (x2).toNatClampNeg (x4).toNatClampNeg (x5).toNatClampNeg, v_trays_rows_1, v_trays_rows_2, v_trays_rows_3)))) else (if x3 = (nI 1) then gc_ x2 x4 x5 60 60 (bd_ (f_X11_agree v_status) (fun (z : Int32 × Int32) => match z with | (r41, u42) => gd_ (r41 = 0 ∨ r41 = 1) (some (r41, u42, v_trays_rows_0, va_cpy v_trays_rows_1 v_trays_rows_1 (x2).toNatClampNeg (x4).toNatClampNeg (x5).toNatClampNeg, v_trays_rows_2, v_trays_rows_3)))) else (if x3 = (nI 2) then gc_ x2 x4 x5 60 60 (bd_ (f_X11_agree v_status) (fun (z : Int32 × Int32) => match z with | (r47, u48) => gd_ (r47 = 0 ∨ r47 = 1) (some (r47, u48, v_trays_rows_0, v_trays_rows_1, va_cpy v_trays_rows_1 v_trays_rows_2 (x2).toNatClampNeg (x4).toNatClampNeg (x5).toNatClampNeg, v_trays_rows_3)))) else gc_ x2 x4 x5 60 60 (bd_ (f_X11_agree v_status) (fun (z : Int32 × Int32) => match z with | (r53, u54) => gd_ (r53 = 0 ∨ r53 = 1) (some (r53, u54, v_trays_rows_0, v_trays_rows_1, v_trays_rows_2, va_cpy v_trays_rows_1 v_trays_rows_3 (x2).toNatClampNeg (x4).toNatClampNeg (x5).toNatClampNeg)))))))) else (if x1 = (nI 2) then gi_ x3 4 ((if x3 = (nI 0) then gc_ x2 x4 x5 60 60 (bd_ (f_X11_agree v_status) (fun (z : Int32 × Int32) => match z with | (r61, u62) => gd_ (r61 = 0 ∨ r61 = 1) (some (r61, u62, va_cpy v_trays_rows_2 v_trays_rows_0 (x2).toNatClampNeg (x4).toNatClampNeg (x5).toNatClampNeg, v_trays_rows_1, v_trays_rows_2, v_trays_rows_3)))) else (if x3 = (nI 1) then gc_ x2 x4 x5 60 60 (bd_ (f_X11_agree v_status) (fun (z : Int32 × Int32) => match z with | (r67, u68) => gd_ (r67 = 0 ∨ r67 = 1) (some (r67, u68, v_trays_rows_0, va_cpy v_trays_rows_2 v_trays_rows_1 (x2).toNatClampNeg (x4).toNatClampNeg (x5).toNatClampNeg, v_trays_rows_2, v_trays_rows_3)))) else (if x3 = (nI 2) then gc_ x2 x4 x5 60 60 (bd_ (f_X11_agree v_status) (fun (z : Int32 × Int32) => match z with | (r73, u74) => gd_ (r73 = 0 ∨ r73 = 1) (some (r73, u74, v_trays_rows_0, v_trays_rows_1, va_cpy v_trays_rows_2 v_trays_rows_2 (x2).toNatClampNeg (x4).toNatClampNeg (x5).toNatClampNeg, v_trays_rows_3)))) else gc_ x2 x4 x5 60 60 (bd_ (f_X11_agree v_status) (fun (z : Int32 × Int32) => match z with | (r79, u80) => gd_ (r79 = 0 ∨ r79 = 1) (some (r79, u80, v_trays_rows_0, v_trays_rows_1, v_trays_rows_2, va_cpy v_trays_rows_2 v_trays_rows_3 (x2).toNatClampNeg (x4).toNatClampNeg (x5).toNatClampNeg)))))))) else gi_ x3 4 ((if x3 = (nI 0) then gc_ x2 x4 x5 60 60 (bd_ (f_X11_agree v_status) (fun (z : Int32 × Int32) => match z with | (r87, u88) => gd_ (r87 = 0 ∨ r87 = 1) (some (r87, u88, va_cpy v_trays_rows_3 v_trays_rows_0 (x2).toNatClampNeg (x4).toNatClampNeg (x5).toNatClampNeg, v_trays_rows_1, v_trays_rows_2, v_trays_rows_3)))) else (if x3 = (nI 1) then gc_ x2 x4 x5 60 60 (bd_ (f_X11_agree v_status) (fun (z : Int32 × Int32) => match z with | (r93, u94) => gd_ (r93 = 0 ∨ r93 = 1) (some (r93, u94, v_trays_rows_0, va_cpy v_trays_rows_3 v_trays_rows_1 (x2).toNatClampNeg (x4).toNatClampNeg (x5).toNatClampNeg, v_trays_rows_2, v_trays_rows_3)))) else (if x3 = (nI 2) then gc_ x2 x4 x5 60 60 (bd_ (f_X11_agree v_status) (fun (z : Int32 × Int32) => match z with | (r99, u100) => gd_ (r99 = 0 ∨ r99 = 1) (some (r99, u100, v_trays_rows_0, v_trays_rows_1, va_cpy v_trays_rows_3 v_trays_rows_2 (x2).toNatClampNeg (x4).toNatClampNeg (x5).toNatClampNeg, v_trays_rows_3)))) else gc_ x2 x4 x5 60 60 (bd_ (f_X11_agree v_status) (fun (z : Int32 × Int32) => match z with | (r105, u106) => gd_ (r105 = 0 ∨ r105 = 1) (some (r105, u106, v_trays_rows_0, v_trays_rows_1, v_trays_rows_2, va_cpy v_trays_rows_3 v_trays_rows_3 (x2).toNatClampNeg (x4).toNatClampNeg (x5).toNatClampNeg)))))))))))) else bd_ (f_X11_deny r1 v_status) (fun (z : Int32 × Int32) => match z with | (r109, u110) => gd_ (r109 = 0 ∨ r109 = 1) (some (r109, u110, v_trays_rows_0, v_trays_rows_1, v_trays_rows_2, v_trays_rows_3))))) = some (r_, o_status, o_trays_rows_0, o_trays_rows_1, o_trays_rows_2, o_trays_rows_3) := hf
  refine lv_aload_n hx hb dX11_pour_0 rfl (lv_at hl 0 rfl) ?_
  refine mp_get X fl_X11_16 hK hP 0 rfl rfl dX11_pour_1 ?_
  refine lv_iload_n hx hb dX11_pour_4 rfl (lv_at hl 1 rfl) ?_
  refine lv_iload_n hx hb dX11_pour_5 rfl (lv_at hl 2 rfl) ?_
  refine lv_iload_n hx hb dX11_pour_6 rfl (lv_at hl 3 rfl) ?_
  refine lv_iload hx hb dX11_pour_7 (lv_at hl 4 rfl) ?_
  refine lv_iload hx hb dX11_pour_9 (lv_at hl 5 rfl) ?_
  obtain ⟨r1, c2, hf⟩ := bd_of hf
  have hPc := hP.sub (ws' := (k_X9_pourStatus T a_trays a_trays_rows a_trays_sorts a_trays_lengths v_trays_lengths v_trays_sorts)) [1, 2, 8] rfl
  have hDc := (mp_D_of (w1 := (k_X11_pour T a_ a_trays a_words a_odds a_tokens a_bookReader a_roundsReader a_book a_draft a_marks a_ahead a_life a_lifeTold a_trays_rows a_trays_sorts a_trays_lengths a_trays_rows_0 a_trays_rows_1 a_trays_rows_2 a_trays_rows_3 v_status v_marked v_hasLived v_trays_lengths v_trays_rows_0 v_trays_rows_1 v_trays_rows_2 v_trays_rows_3 v_trays_sorts)) hD rfl).sub (ws' := (k_X9_pourStatus T a_trays a_trays_rows a_trays_sorts a_trays_lengths v_trays_lengths v_trays_sorts)) [1, 2, 8] rfl rfl
  refine mp_calli (isC := [1, 2, 8]) (wc := (k_X9_pourStatus T a_trays a_trays_rows a_trays_sorts a_trays_lengths v_trays_lengths v_trays_sorts)) (w1 := (k_X9_pourStatus T a_trays a_trays_rows a_trays_sorts a_trays_lengths v_trays_lengths v_trays_sorts)) hP (mp_D_of hD rfl) hS hA rfl rfl (mp_runV (As := [.int x1, .int x2, .int x3, .int x4, .int x5]) (rest := []) X me_X9_pourStatus lk_X11_135 (c_X9_pourStatus l D T a_trays a_trays_rows a_trays_sorts a_trays_lengths x1 x2 x3 x4 x5 v_trays_lengths v_trays_sorts r1 c2) rfl rfl ⟨(Nat.le_of_ble_eq_true rfl), (Nat.le_of_ble_eq_true rfl)⟩ hK hPc hDc rfl rfl rfl rfl hl.1 rfl (Nat.le_of_ble_eq_true rfl) dX11_pour_11 ⟨Nat.zero_le _, Nat.zero_le _⟩) (fun H locs hP _ hS => ?_)
  replace hP : va_P D mp_cl (k_X11_pour T a_ a_trays a_words a_odds a_tokens a_bookReader a_roundsReader a_book a_draft a_marks a_ahead a_life a_lifeTold a_trays_rows a_trays_sorts a_trays_lengths a_trays_rows_0 a_trays_rows_1 a_trays_rows_2 a_trays_rows_3 v_status v_marked v_hasLived v_trays_lengths v_trays_rows_0 v_trays_rows_1 v_trays_rows_2 v_trays_rows_3 v_trays_sorts) H := hP
  refine lv_istore (lv' := [(6, .int r1), (0, .ref a_), (1, .int x1), (2, .int x2), (3, .int x3), (4, .int x4), (5, .int x5)]) hx hb dX11_pour_14 hl (by decide) rfl (fun ls hl => ?_)
  refine lv_iload hx hb dX11_pour_16 (lv_at hl 0 rfl) ?_
  refine lv_if_eq (tgt := 28) hx hb dX11_pour_18 (by decide) (fun h3 => ?_) (fun h3 => ?_)
  · replace hf := if_t hf h3
    refine lv_aload_n hx hb dX11_pour_28 rfl (lv_at hl 1 rfl) ?_
    refine mp_get X fl_X11_16 hK hP 0 rfl rfl dX11_pour_29 ?_
    refine mp_get X fl_X11_131 hK hP 1 rfl rfl dX11_pour_32 ?_
    refine lv_iload_n hx hb dX11_pour_35 rfl (lv_at hl 2 rfl) ?_
    obtain ⟨h4, hf⟩ := gi_of hf
    refine va_aldqA hx hb hK hP 3 3 rfl rfl h4 dX11_pour_36 ?_
    by_cases h5 : x1 = (nI 0)
    · replace hf := if_t hf h5
      rw [show va_rf (mp_ol [a_trays_rows_0, a_trays_rows_1, a_trays_rows_2, a_trays_rows_3] (x1).toNatClampNeg) = .ref a_trays_rows_0 from by rw [h5]; rfl]
      refine lv_iload_n hx hb dX11_pour_37 rfl (lv_at hl 3 rfl) ?_
      refine lv_aload_n hx hb dX11_pour_38 rfl (lv_at hl 1 rfl) ?_
      refine mp_get X fl_X11_16 hK hP 0 rfl rfl dX11_pour_39 ?_
      refine mp_get X fl_X11_131 hK hP 1 rfl rfl dX11_pour_42 ?_
      refine lv_iload_n hx hb dX11_pour_45 rfl (lv_at hl 4 rfl) ?_
      obtain ⟨h6, hf⟩ := gi_of hf
      refine va_aldqA hx hb hK hP 3 3 rfl rfl h6 dX11_pour_46 ?_
      by_cases h7 : x3 = (nI 0)
      · replace hf := if_t hf h7
        rw [show va_rf (mp_ol [a_trays_rows_0, a_trays_rows_1, a_trays_rows_2, a_trays_rows_3] (x3).toNatClampNeg) = .ref a_trays_rows_0 from by rw [h7]; rfl]
        refine lv_iload hx hb dX11_pour_47 (lv_at hl 5 rfl) ?_
        refine lv_iload hx hb dX11_pour_49 (lv_at hl 6 rfl) ?_
        obtain ⟨h8, hf⟩ := gc_of hf
        refine va_copyl hx hb (hml.trans hl.1.symm) hown (hts _ lk_X11_139_ac) (hts _ ac_nat) (hts _ ac_stat) (hts _ ac_ini) hK hP (mp_D_of hD rfl) hS 4 4 1 1 rfl rfl rfl rfl rfl h8.1 h8.2.1 h8.2.2.1 h8.2.2.2.1 h8.2.2.2.2 (fun _ _ => rfl) (Nat.le_of_ble_eq_true rfl) (Nat.le_of_ble_eq_true rfl) dX11_pour_51 (fun H locs hP _ hS => ?_)
        replace hP : va_P D mp_cl (k_X11_pour T a_ a_trays a_words a_odds a_tokens a_bookReader a_roundsReader a_book a_draft a_marks a_ahead a_life a_lifeTold a_trays_rows a_trays_sorts a_trays_lengths a_trays_rows_0 a_trays_rows_1 a_trays_rows_2 a_trays_rows_3 v_status v_marked v_hasLived v_trays_lengths (va_cpy v_trays_rows_0 v_trays_rows_0 (x2).toNatClampNeg (x4).toNatClampNeg (x5).toNatClampNeg) v_trays_rows_1 v_trays_rows_2 v_trays_rows_3 v_trays_sorts) H := hP
        refine lv_aload_n hx hb dX11_pour_54 rfl (lv_at hl 1 rfl) ?_
        obtain ⟨⟨r9, u10⟩, c11, hf⟩ := bd_of hf
        dsimp only at hf
        have hPc := hP.sub (ws' := (k_X11_agree T a_ a_trays a_words a_odds a_tokens a_bookReader a_roundsReader a_book a_draft a_marks a_ahead a_life a_lifeTold v_status v_marked v_hasLived)) [0] rfl
        have hDc := (mp_D_of (w1 := (k_X11_pour T a_ a_trays a_words a_odds a_tokens a_bookReader a_roundsReader a_book a_draft a_marks a_ahead a_life a_lifeTold a_trays_rows a_trays_sorts a_trays_lengths a_trays_rows_0 a_trays_rows_1 a_trays_rows_2 a_trays_rows_3 v_status v_marked v_hasLived v_trays_lengths (va_cpy v_trays_rows_0 v_trays_rows_0 (x2).toNatClampNeg (x4).toNatClampNeg (x5).toNatClampNeg) v_trays_rows_1 v_trays_rows_2 v_trays_rows_3 v_trays_sorts)) hD rfl).sub (ws' := (k_X11_agree T a_ a_trays a_words a_odds a_tokens a_bookReader a_roundsReader a_book a_draft a_marks a_ahead a_life a_lifeTold v_status v_marked v_hasLived)) [0] rfl rfl
        refine mp_calli (isC := [0]) (wc := (k_X11_agree T a_ a_trays a_words a_odds a_tokens a_bookReader a_roundsReader a_book a_draft a_marks a_ahead a_life a_lifeTold v_status v_marked v_hasLived)) (w1 := (k_X11_agree T a_ a_trays a_words a_odds a_tokens a_bookReader a_roundsReader a_book a_draft a_marks a_ahead a_life a_lifeTold u10 v_marked v_hasLived)) hP (mp_D_of hD rfl) hS hA rfl rfl (mp_runV (As := []) (rest := []) X me_X11_agree lk_X11_119 (c_X11_agree l D T a_ a_trays a_words a_odds a_tokens a_bookReader a_roundsReader a_book a_draft a_marks a_ahead a_life a_lifeTold v_marked v_hasLived v_status r9 u10 c11) rfl rfl ⟨(Nat.le_of_ble_eq_true rfl), (Nat.le_of_ble_eq_true rfl)⟩ hK hPc hDc rfl rfl rfl rfl hl.1 rfl (Nat.le_of_ble_eq_true rfl) dX11_pour_55 ⟨Nat.zero_le _, Nat.zero_le _⟩) (fun H locs hP _ hS => ?_)
        replace hP : va_P D mp_cl (k_X11_pour T a_ a_trays a_words a_odds a_tokens a_bookReader a_roundsReader a_book a_draft a_marks a_ahead a_life a_lifeTold a_trays_rows a_trays_sorts a_trays_lengths a_trays_rows_0 a_trays_rows_1 a_trays_rows_2 a_trays_rows_3 u10 v_marked v_hasLived v_trays_lengths (va_cpy v_trays_rows_0 v_trays_rows_0 (x2).toNatClampNeg (x4).toNatClampNeg (x5).toNatClampNeg) v_trays_rows_1 v_trays_rows_2 v_trays_rows_3 v_trays_sorts) H := hP
        obtain ⟨h12, hf⟩ := gd_of hf
        cases hf
        exact mp_retz X hP hS rfl h12 dX11_pour_58
      replace hf := if_f hf h7
      by_cases h13 : x3 = (nI 1)
      · replace hf := if_t hf h13
        rw [show va_rf (mp_ol [a_trays_rows_0, a_trays_rows_1, a_trays_rows_2, a_trays_rows_3] (x3).toNatClampNeg) = .ref a_trays_rows_1 from by rw [h13]; rfl]
        refine lv_iload hx hb dX11_pour_47 (lv_at hl 5 rfl) ?_
        refine lv_iload hx hb dX11_pour_49 (lv_at hl 6 rfl) ?_
        obtain ⟨h14, hf⟩ := gc_of hf
        refine va_copyl hx hb (hml.trans hl.1.symm) hown (hts _ lk_X11_139_ac) (hts _ ac_nat) (hts _ ac_stat) (hts _ ac_ini) hK hP (mp_D_of hD rfl) hS 4 5 1 1 rfl rfl rfl rfl rfl h14.1 h14.2.1 h14.2.2.1 h14.2.2.2.1 h14.2.2.2.2 (fun _ _ => rfl) (Nat.le_of_ble_eq_true rfl) (Nat.le_of_ble_eq_true rfl) dX11_pour_51 (fun H locs hP _ hS => ?_)
        replace hP : va_P D mp_cl (k_X11_pour T a_ a_trays a_words a_odds a_tokens a_bookReader a_roundsReader a_book a_draft a_marks a_ahead a_life a_lifeTold a_trays_rows a_trays_sorts a_trays_lengths a_trays_rows_0 a_trays_rows_1 a_trays_rows_2 a_trays_rows_3 v_status v_marked v_hasLived v_trays_lengths v_trays_rows_0 (va_cpy v_trays_rows_0 v_trays_rows_1 (x2).toNatClampNeg (x4).toNatClampNeg (x5).toNatClampNeg) v_trays_rows_2 v_trays_rows_3 v_trays_sorts) H := hP
        refine lv_aload_n hx hb dX11_pour_54 rfl (lv_at hl 1 rfl) ?_
        obtain ⟨⟨r15, u16⟩, c17, hf⟩ := bd_of hf
        dsimp only at hf
        have hPc := hP.sub (ws' := (k_X11_agree T a_ a_trays a_words a_odds a_tokens a_bookReader a_roundsReader a_book a_draft a_marks a_ahead a_life a_lifeTold v_status v_marked v_hasLived)) [0] rfl
        have hDc := (mp_D_of (w1 := (k_X11_pour T a_ a_trays a_words a_odds a_tokens a_bookReader a_roundsReader a_book a_draft a_marks a_ahead a_life a_lifeTold a_trays_rows a_trays_sorts a_trays_lengths a_trays_rows_0 a_trays_rows_1 a_trays_rows_2 a_trays_rows_3 v_status v_marked v_hasLived v_trays_lengths v_trays_rows_0 (va_cpy v_trays_rows_0 v_trays_rows_1 (x2).toNatClampNeg (x4).toNatClampNeg (x5).toNatClampNeg) v_trays_rows_2 v_trays_rows_3 v_trays_sorts)) hD rfl).sub (ws' := (k_X11_agree T a_ a_trays a_words a_odds a_tokens a_bookReader a_roundsReader a_book a_draft a_marks a_ahead a_life a_lifeTold v_status v_marked v_hasLived)) [0] rfl rfl
        refine mp_calli (isC := [0]) (wc := (k_X11_agree T a_ a_trays a_words a_odds a_tokens a_bookReader a_roundsReader a_book a_draft a_marks a_ahead a_life a_lifeTold v_status v_marked v_hasLived)) (w1 := (k_X11_agree T a_ a_trays a_words a_odds a_tokens a_bookReader a_roundsReader a_book a_draft a_marks a_ahead a_life a_lifeTold u16 v_marked v_hasLived)) hP (mp_D_of hD rfl) hS hA rfl rfl (mp_runV (As := []) (rest := []) X me_X11_agree lk_X11_119 (c_X11_agree l D T a_ a_trays a_words a_odds a_tokens a_bookReader a_roundsReader a_book a_draft a_marks a_ahead a_life a_lifeTold v_marked v_hasLived v_status r15 u16 c17) rfl rfl ⟨(Nat.le_of_ble_eq_true rfl), (Nat.le_of_ble_eq_true rfl)⟩ hK hPc hDc rfl rfl rfl rfl hl.1 rfl (Nat.le_of_ble_eq_true rfl) dX11_pour_55 ⟨Nat.zero_le _, Nat.zero_le _⟩) (fun H locs hP _ hS => ?_)
        replace hP : va_P D mp_cl (k_X11_pour T a_ a_trays a_words a_odds a_tokens a_bookReader a_roundsReader a_book a_draft a_marks a_ahead a_life a_lifeTold a_trays_rows a_trays_sorts a_trays_lengths a_trays_rows_0 a_trays_rows_1 a_trays_rows_2 a_trays_rows_3 u16 v_marked v_hasLived v_trays_lengths v_trays_rows_0 (va_cpy v_trays_rows_0 v_trays_rows_1 (x2).toNatClampNeg (x4).toNatClampNeg (x5).toNatClampNeg) v_trays_rows_2 v_trays_rows_3 v_trays_sorts) H := hP
        obtain ⟨h18, hf⟩ := gd_of hf
        cases hf
        exact mp_retz X hP hS rfl h18 dX11_pour_58
      replace hf := if_f hf h13
      by_cases h19 : x3 = (nI 2)
      · replace hf := if_t hf h19
        rw [show va_rf (mp_ol [a_trays_rows_0, a_trays_rows_1, a_trays_rows_2, a_trays_rows_3] (x3).toNatClampNeg) = .ref a_trays_rows_2 from by rw [h19]; rfl]
        refine lv_iload hx hb dX11_pour_47 (lv_at hl 5 rfl) ?_
        refine lv_iload hx hb dX11_pour_49 (lv_at hl 6 rfl) ?_
        obtain ⟨h20, hf⟩ := gc_of hf
        refine va_copyl hx hb (hml.trans hl.1.symm) hown (hts _ lk_X11_139_ac) (hts _ ac_nat) (hts _ ac_stat) (hts _ ac_ini) hK hP (mp_D_of hD rfl) hS 4 6 1 1 rfl rfl rfl rfl rfl h20.1 h20.2.1 h20.2.2.1 h20.2.2.2.1 h20.2.2.2.2 (fun _ _ => rfl) (Nat.le_of_ble_eq_true rfl) (Nat.le_of_ble_eq_true rfl) dX11_pour_51 (fun H locs hP _ hS => ?_)
        replace hP : va_P D mp_cl (k_X11_pour T a_ a_trays a_words a_odds a_tokens a_bookReader a_roundsReader a_book a_draft a_marks a_ahead a_life a_lifeTold a_trays_rows a_trays_sorts a_trays_lengths a_trays_rows_0 a_trays_rows_1 a_trays_rows_2 a_trays_rows_3 v_status v_marked v_hasLived v_trays_lengths v_trays_rows_0 v_trays_rows_1 (va_cpy v_trays_rows_0 v_trays_rows_2 (x2).toNatClampNeg (x4).toNatClampNeg (x5).toNatClampNeg) v_trays_rows_3 v_trays_sorts) H := hP
        refine lv_aload_n hx hb dX11_pour_54 rfl (lv_at hl 1 rfl) ?_
        obtain ⟨⟨r21, u22⟩, c23, hf⟩ := bd_of hf
        dsimp only at hf
        have hPc := hP.sub (ws' := (k_X11_agree T a_ a_trays a_words a_odds a_tokens a_bookReader a_roundsReader a_book a_draft a_marks a_ahead a_life a_lifeTold v_status v_marked v_hasLived)) [0] rfl
        have hDc := (mp_D_of (w1 := (k_X11_pour T a_ a_trays a_words a_odds a_tokens a_bookReader a_roundsReader a_book a_draft a_marks a_ahead a_life a_lifeTold a_trays_rows a_trays_sorts a_trays_lengths a_trays_rows_0 a_trays_rows_1 a_trays_rows_2 a_trays_rows_3 v_status v_marked v_hasLived v_trays_lengths v_trays_rows_0 v_trays_rows_1 (va_cpy v_trays_rows_0 v_trays_rows_2 (x2).toNatClampNeg (x4).toNatClampNeg (x5).toNatClampNeg) v_trays_rows_3 v_trays_sorts)) hD rfl).sub (ws' := (k_X11_agree T a_ a_trays a_words a_odds a_tokens a_bookReader a_roundsReader a_book a_draft a_marks a_ahead a_life a_lifeTold v_status v_marked v_hasLived)) [0] rfl rfl
        refine mp_calli (isC := [0]) (wc := (k_X11_agree T a_ a_trays a_words a_odds a_tokens a_bookReader a_roundsReader a_book a_draft a_marks a_ahead a_life a_lifeTold v_status v_marked v_hasLived)) (w1 := (k_X11_agree T a_ a_trays a_words a_odds a_tokens a_bookReader a_roundsReader a_book a_draft a_marks a_ahead a_life a_lifeTold u22 v_marked v_hasLived)) hP (mp_D_of hD rfl) hS hA rfl rfl (mp_runV (As := []) (rest := []) X me_X11_agree lk_X11_119 (c_X11_agree l D T a_ a_trays a_words a_odds a_tokens a_bookReader a_roundsReader a_book a_draft a_marks a_ahead a_life a_lifeTold v_marked v_hasLived v_status r21 u22 c23) rfl rfl ⟨(Nat.le_of_ble_eq_true rfl), (Nat.le_of_ble_eq_true rfl)⟩ hK hPc hDc rfl rfl rfl rfl hl.1 rfl (Nat.le_of_ble_eq_true rfl) dX11_pour_55 ⟨Nat.zero_le _, Nat.zero_le _⟩) (fun H locs hP _ hS => ?_)
        replace hP : va_P D mp_cl (k_X11_pour T a_ a_trays a_words a_odds a_tokens a_bookReader a_roundsReader a_book a_draft a_marks a_ahead a_life a_lifeTold a_trays_rows a_trays_sorts a_trays_lengths a_trays_rows_0 a_trays_rows_1 a_trays_rows_2 a_trays_rows_3 u22 v_marked v_hasLived v_trays_lengths v_trays_rows_0 v_trays_rows_1 (va_cpy v_trays_rows_0 v_trays_rows_2 (x2).toNatClampNeg (x4).toNatClampNeg (x5).toNatClampNeg) v_trays_rows_3 v_trays_sorts) H := hP
        obtain ⟨h24, hf⟩ := gd_of hf
        cases hf
        exact mp_retz X hP hS rfl h24 dX11_pour_58
      replace hf := if_f hf h19
      have h25 : x3 = (nI 3) := mp_last4 h6 h7 h13 h19
      rw [show va_rf (mp_ol [a_trays_rows_0, a_trays_rows_1, a_trays_rows_2, a_trays_rows_3] (x3).toNatClampNeg) = .ref a_trays_rows_3 from by rw [h25]; rfl]
      refine lv_iload hx hb dX11_pour_47 (lv_at hl 5 rfl) ?_
      refine lv_iload hx hb dX11_pour_49 (lv_at hl 6 rfl) ?_
      obtain ⟨h26, hf⟩ := gc_of hf
      refine va_copyl hx hb (hml.trans hl.1.symm) hown (hts _ lk_X11_139_ac) (hts _ ac_nat) (hts _ ac_stat) (hts _ ac_ini) hK hP (mp_D_of hD rfl) hS 4 7 1 1 rfl rfl rfl rfl rfl h26.1 h26.2.1 h26.2.2.1 h26.2.2.2.1 h26.2.2.2.2 (fun _ _ => rfl) (Nat.le_of_ble_eq_true rfl) (Nat.le_of_ble_eq_true rfl) dX11_pour_51 (fun H locs hP _ hS => ?_)
      replace hP : va_P D mp_cl (k_X11_pour T a_ a_trays a_words a_odds a_tokens a_bookReader a_roundsReader a_book a_draft a_marks a_ahead a_life a_lifeTold a_trays_rows a_trays_sorts a_trays_lengths a_trays_rows_0 a_trays_rows_1 a_trays_rows_2 a_trays_rows_3 v_status v_marked v_hasLived v_trays_lengths v_trays_rows_0 v_trays_rows_1 v_trays_rows_2 (va_cpy v_trays_rows_0 v_trays_rows_3 (x2).toNatClampNeg (x4).toNatClampNeg (x5).toNatClampNeg) v_trays_sorts) H := hP
      refine lv_aload_n hx hb dX11_pour_54 rfl (lv_at hl 1 rfl) ?_
      obtain ⟨⟨r27, u28⟩, c29, hf⟩ := bd_of hf
      dsimp only at hf
      have hPc := hP.sub (ws' := (k_X11_agree T a_ a_trays a_words a_odds a_tokens a_bookReader a_roundsReader a_book a_draft a_marks a_ahead a_life a_lifeTold v_status v_marked v_hasLived)) [0] rfl
      have hDc := (mp_D_of (w1 := (k_X11_pour T a_ a_trays a_words a_odds a_tokens a_bookReader a_roundsReader a_book a_draft a_marks a_ahead a_life a_lifeTold a_trays_rows a_trays_sorts a_trays_lengths a_trays_rows_0 a_trays_rows_1 a_trays_rows_2 a_trays_rows_3 v_status v_marked v_hasLived v_trays_lengths v_trays_rows_0 v_trays_rows_1 v_trays_rows_2 (va_cpy v_trays_rows_0 v_trays_rows_3 (x2).toNatClampNeg (x4).toNatClampNeg (x5).toNatClampNeg) v_trays_sorts)) hD rfl).sub (ws' := (k_X11_agree T a_ a_trays a_words a_odds a_tokens a_bookReader a_roundsReader a_book a_draft a_marks a_ahead a_life a_lifeTold v_status v_marked v_hasLived)) [0] rfl rfl
      refine mp_calli (isC := [0]) (wc := (k_X11_agree T a_ a_trays a_words a_odds a_tokens a_bookReader a_roundsReader a_book a_draft a_marks a_ahead a_life a_lifeTold v_status v_marked v_hasLived)) (w1 := (k_X11_agree T a_ a_trays a_words a_odds a_tokens a_bookReader a_roundsReader a_book a_draft a_marks a_ahead a_life a_lifeTold u28 v_marked v_hasLived)) hP (mp_D_of hD rfl) hS hA rfl rfl (mp_runV (As := []) (rest := []) X me_X11_agree lk_X11_119 (c_X11_agree l D T a_ a_trays a_words a_odds a_tokens a_bookReader a_roundsReader a_book a_draft a_marks a_ahead a_life a_lifeTold v_marked v_hasLived v_status r27 u28 c29) rfl rfl ⟨(Nat.le_of_ble_eq_true rfl), (Nat.le_of_ble_eq_true rfl)⟩ hK hPc hDc rfl rfl rfl rfl hl.1 rfl (Nat.le_of_ble_eq_true rfl) dX11_pour_55 ⟨Nat.zero_le _, Nat.zero_le _⟩) (fun H locs hP _ hS => ?_)
      replace hP : va_P D mp_cl (k_X11_pour T a_ a_trays a_words a_odds a_tokens a_bookReader a_roundsReader a_book a_draft a_marks a_ahead a_life a_lifeTold a_trays_rows a_trays_sorts a_trays_lengths a_trays_rows_0 a_trays_rows_1 a_trays_rows_2 a_trays_rows_3 u28 v_marked v_hasLived v_trays_lengths v_trays_rows_0 v_trays_rows_1 v_trays_rows_2 (va_cpy v_trays_rows_0 v_trays_rows_3 (x2).toNatClampNeg (x4).toNatClampNeg (x5).toNatClampNeg) v_trays_sorts) H := hP
      obtain ⟨h30, hf⟩ := gd_of hf
      cases hf
      exact mp_retz X hP hS rfl h30 dX11_pour_58
    replace hf := if_f hf h5
    by_cases h31 : x1 = (nI 1)
    · replace hf := if_t hf h31
      rw [show va_rf (mp_ol [a_trays_rows_0, a_trays_rows_1, a_trays_rows_2, a_trays_rows_3] (x1).toNatClampNeg) = .ref a_trays_rows_1 from by rw [h31]; rfl]
      refine lv_iload_n hx hb dX11_pour_37 rfl (lv_at hl 3 rfl) ?_
      refine lv_aload_n hx hb dX11_pour_38 rfl (lv_at hl 1 rfl) ?_
      refine mp_get X fl_X11_16 hK hP 0 rfl rfl dX11_pour_39 ?_
      refine mp_get X fl_X11_131 hK hP 1 rfl rfl dX11_pour_42 ?_
      refine lv_iload_n hx hb dX11_pour_45 rfl (lv_at hl 4 rfl) ?_
      obtain ⟨h32, hf⟩ := gi_of hf
      refine va_aldqA hx hb hK hP 3 3 rfl rfl h32 dX11_pour_46 ?_
      by_cases h33 : x3 = (nI 0)
      · replace hf := if_t hf h33
        rw [show va_rf (mp_ol [a_trays_rows_0, a_trays_rows_1, a_trays_rows_2, a_trays_rows_3] (x3).toNatClampNeg) = .ref a_trays_rows_0 from by rw [h33]; rfl]
        refine lv_iload hx hb dX11_pour_47 (lv_at hl 5 rfl) ?_
        refine lv_iload hx hb dX11_pour_49 (lv_at hl 6 rfl) ?_
        obtain ⟨h34, hf⟩ := gc_of hf
        refine va_copyl hx hb (hml.trans hl.1.symm) hown (hts _ lk_X11_139_ac) (hts _ ac_nat) (hts _ ac_stat) (hts _ ac_ini) hK hP (mp_D_of hD rfl) hS 5 4 1 1 rfl rfl rfl rfl rfl h34.1 h34.2.1 h34.2.2.1 h34.2.2.2.1 h34.2.2.2.2 (fun _ _ => rfl) (Nat.le_of_ble_eq_true rfl) (Nat.le_of_ble_eq_true rfl) dX11_pour_51 (fun H locs hP _ hS => ?_)
        replace hP : va_P D mp_cl (k_X11_pour T a_ a_trays a_words a_odds a_tokens a_bookReader a_roundsReader a_book a_draft a_marks a_ahead a_life a_lifeTold a_trays_rows a_trays_sorts a_trays_lengths a_trays_rows_0 a_trays_rows_1 a_trays_rows_2 a_trays_rows_3 v_status v_marked v_hasLived v_trays_lengths (va_cpy v_trays_rows_1 v_trays_rows_0 (x2).toNatClampNeg (x4).toNatClampNeg (x5).toNatClampNeg) v_trays_rows_1 v_trays_rows_2 v_trays_rows_3 v_trays_sorts) H := hP
        refine lv_aload_n hx hb dX11_pour_54 rfl (lv_at hl 1 rfl) ?_
        obtain ⟨⟨r35, u36⟩, c37, hf⟩ := bd_of hf
        dsimp only at hf
        have hPc := hP.sub (ws' := (k_X11_agree T a_ a_trays a_words a_odds a_tokens a_bookReader a_roundsReader a_book a_draft a_marks a_ahead a_life a_lifeTold v_status v_marked v_hasLived)) [0] rfl
        have hDc := (mp_D_of (w1 := (k_X11_pour T a_ a_trays a_words a_odds a_tokens a_bookReader a_roundsReader a_book a_draft a_marks a_ahead a_life a_lifeTold a_trays_rows a_trays_sorts a_trays_lengths a_trays_rows_0 a_trays_rows_1 a_trays_rows_2 a_trays_rows_3 v_status v_marked v_hasLived v_trays_lengths (va_cpy v_trays_rows_1 v_trays_rows_0 (x2).toNatClampNeg (x4).toNatClampNeg (x5).toNatClampNeg) v_trays_rows_1 v_trays_rows_2 v_trays_rows_3 v_trays_sorts)) hD rfl).sub (ws' := (k_X11_agree T a_ a_trays a_words a_odds a_tokens a_bookReader a_roundsReader a_book a_draft a_marks a_ahead a_life a_lifeTold v_status v_marked v_hasLived)) [0] rfl rfl
        refine mp_calli (isC := [0]) (wc := (k_X11_agree T a_ a_trays a_words a_odds a_tokens a_bookReader a_roundsReader a_book a_draft a_marks a_ahead a_life a_lifeTold v_status v_marked v_hasLived)) (w1 := (k_X11_agree T a_ a_trays a_words a_odds a_tokens a_bookReader a_roundsReader a_book a_draft a_marks a_ahead a_life a_lifeTold u36 v_marked v_hasLived)) hP (mp_D_of hD rfl) hS hA rfl rfl (mp_runV (As := []) (rest := []) X me_X11_agree lk_X11_119 (c_X11_agree l D T a_ a_trays a_words a_odds a_tokens a_bookReader a_roundsReader a_book a_draft a_marks a_ahead a_life a_lifeTold v_marked v_hasLived v_status r35 u36 c37) rfl rfl ⟨(Nat.le_of_ble_eq_true rfl), (Nat.le_of_ble_eq_true rfl)⟩ hK hPc hDc rfl rfl rfl rfl hl.1 rfl (Nat.le_of_ble_eq_true rfl) dX11_pour_55 ⟨Nat.zero_le _, Nat.zero_le _⟩) (fun H locs hP _ hS => ?_)
        replace hP : va_P D mp_cl (k_X11_pour T a_ a_trays a_words a_odds a_tokens a_bookReader a_roundsReader a_book a_draft a_marks a_ahead a_life a_lifeTold a_trays_rows a_trays_sorts a_trays_lengths a_trays_rows_0 a_trays_rows_1 a_trays_rows_2 a_trays_rows_3 u36 v_marked v_hasLived v_trays_lengths (va_cpy v_trays_rows_1 v_trays_rows_0 (x2).toNatClampNeg (x4).toNatClampNeg (x5).toNatClampNeg) v_trays_rows_1 v_trays_rows_2 v_trays_rows_3 v_trays_sorts) H := hP
        obtain ⟨h38, hf⟩ := gd_of hf
        cases hf
        exact mp_retz X hP hS rfl h38 dX11_pour_58
      replace hf := if_f hf h33
      by_cases h39 : x3 = (nI 1)
      · replace hf := if_t hf h39
        rw [show va_rf (mp_ol [a_trays_rows_0, a_trays_rows_1, a_trays_rows_2, a_trays_rows_3] (x3).toNatClampNeg) = .ref a_trays_rows_1 from by rw [h39]; rfl]
        refine lv_iload hx hb dX11_pour_47 (lv_at hl 5 rfl) ?_
        refine lv_iload hx hb dX11_pour_49 (lv_at hl 6 rfl) ?_
        obtain ⟨h40, hf⟩ := gc_of hf
        refine va_copyl hx hb (hml.trans hl.1.symm) hown (hts _ lk_X11_139_ac) (hts _ ac_nat) (hts _ ac_stat) (hts _ ac_ini) hK hP (mp_D_of hD rfl) hS 5 5 1 1 rfl rfl rfl rfl rfl h40.1 h40.2.1 h40.2.2.1 h40.2.2.2.1 h40.2.2.2.2 (fun _ _ => rfl) (Nat.le_of_ble_eq_true rfl) (Nat.le_of_ble_eq_true rfl) dX11_pour_51 (fun H locs hP _ hS => ?_)
        replace hP : va_P D mp_cl (k_X11_pour T a_ a_trays a_words a_odds a_tokens a_bookReader a_roundsReader a_book a_draft a_marks a_ahead a_life a_lifeTold a_trays_rows a_trays_sorts a_trays_lengths a_trays_rows_0 a_trays_rows_1 a_trays_rows_2 a_trays_rows_3 v_status v_marked v_hasLived v_trays_lengths v_trays_rows_0 (va_cpy v_trays_rows_1 v_trays_rows_1 (x2).toNatClampNeg (x4).toNatClampNeg (x5).toNatClampNeg) v_trays_rows_2 v_trays_rows_3 v_trays_sorts) H := hP
        refine lv_aload_n hx hb dX11_pour_54 rfl (lv_at hl 1 rfl) ?_
        obtain ⟨⟨r41, u42⟩, c43, hf⟩ := bd_of hf
        dsimp only at hf
        have hPc := hP.sub (ws' := (k_X11_agree T a_ a_trays a_words a_odds a_tokens a_bookReader a_roundsReader a_book a_draft a_marks a_ahead a_life a_lifeTold v_status v_marked v_hasLived)) [0] rfl
        have hDc := (mp_D_of (w1 := (k_X11_pour T a_ a_trays a_words a_odds a_tokens a_bookReader a_roundsReader a_book a_draft a_marks a_ahead a_life a_lifeTold a_trays_rows a_trays_sorts a_trays_lengths a_trays_rows_0 a_trays_rows_1 a_trays_rows_2 a_trays_rows_3 v_status v_marked v_hasLived v_trays_lengths v_trays_rows_0 (va_cpy v_trays_rows_1 v_trays_rows_1 (x2).toNatClampNeg (x4).toNatClampNeg (x5).toNatClampNeg) v_trays_rows_2 v_trays_rows_3 v_trays_sorts)) hD rfl).sub (ws' := (k_X11_agree T a_ a_trays a_words a_odds a_tokens a_bookReader a_roundsReader a_book a_draft a_marks a_ahead a_life a_lifeTold v_status v_marked v_hasLived)) [0] rfl rfl
        refine mp_calli (isC := [0]) (wc := (k_X11_agree T a_ a_trays a_words a_odds a_tokens a_bookReader a_roundsReader a_book a_draft a_marks a_ahead a_life a_lifeTold v_status v_marked v_hasLived)) (w1 := (k_X11_agree T a_ a_trays a_words a_odds a_tokens a_bookReader a_roundsReader a_book a_draft a_marks a_ahead a_life a_lifeTold u42 v_marked v_hasLived)) hP (mp_D_of hD rfl) hS hA rfl rfl (mp_runV (As := []) (rest := []) X me_X11_agree lk_X11_119 (c_X11_agree l D T a_ a_trays a_words a_odds a_tokens a_bookReader a_roundsReader a_book a_draft a_marks a_ahead a_life a_lifeTold v_marked v_hasLived v_status r41 u42 c43) rfl rfl ⟨(Nat.le_of_ble_eq_true rfl), (Nat.le_of_ble_eq_true rfl)⟩ hK hPc hDc rfl rfl rfl rfl hl.1 rfl (Nat.le_of_ble_eq_true rfl) dX11_pour_55 ⟨Nat.zero_le _, Nat.zero_le _⟩) (fun H locs hP _ hS => ?_)
        replace hP : va_P D mp_cl (k_X11_pour T a_ a_trays a_words a_odds a_tokens a_bookReader a_roundsReader a_book a_draft a_marks a_ahead a_life a_lifeTold a_trays_rows a_trays_sorts a_trays_lengths a_trays_rows_0 a_trays_rows_1 a_trays_rows_2 a_trays_rows_3 u42 v_marked v_hasLived v_trays_lengths v_trays_rows_0 (va_cpy v_trays_rows_1 v_trays_rows_1 (x2).toNatClampNeg (x4).toNatClampNeg (x5).toNatClampNeg) v_trays_rows_2 v_trays_rows_3 v_trays_sorts) H := hP
        obtain ⟨h44, hf⟩ := gd_of hf
        cases hf
        exact mp_retz X hP hS rfl h44 dX11_pour_58
      replace hf := if_f hf h39
      by_cases h45 : x3 = (nI 2)
      · replace hf := if_t hf h45
        rw [show va_rf (mp_ol [a_trays_rows_0, a_trays_rows_1, a_trays_rows_2, a_trays_rows_3] (x3).toNatClampNeg) = .ref a_trays_rows_2 from by rw [h45]; rfl]
        refine lv_iload hx hb dX11_pour_47 (lv_at hl 5 rfl) ?_
        refine lv_iload hx hb dX11_pour_49 (lv_at hl 6 rfl) ?_
        obtain ⟨h46, hf⟩ := gc_of hf
        refine va_copyl hx hb (hml.trans hl.1.symm) hown (hts _ lk_X11_139_ac) (hts _ ac_nat) (hts _ ac_stat) (hts _ ac_ini) hK hP (mp_D_of hD rfl) hS 5 6 1 1 rfl rfl rfl rfl rfl h46.1 h46.2.1 h46.2.2.1 h46.2.2.2.1 h46.2.2.2.2 (fun _ _ => rfl) (Nat.le_of_ble_eq_true rfl) (Nat.le_of_ble_eq_true rfl) dX11_pour_51 (fun H locs hP _ hS => ?_)
        replace hP : va_P D mp_cl (k_X11_pour T a_ a_trays a_words a_odds a_tokens a_bookReader a_roundsReader a_book a_draft a_marks a_ahead a_life a_lifeTold a_trays_rows a_trays_sorts a_trays_lengths a_trays_rows_0 a_trays_rows_1 a_trays_rows_2 a_trays_rows_3 v_status v_marked v_hasLived v_trays_lengths v_trays_rows_0 v_trays_rows_1 (va_cpy v_trays_rows_1 v_trays_rows_2 (x2).toNatClampNeg (x4).toNatClampNeg (x5).toNatClampNeg) v_trays_rows_3 v_trays_sorts) H := hP
        refine lv_aload_n hx hb dX11_pour_54 rfl (lv_at hl 1 rfl) ?_
        obtain ⟨⟨r47, u48⟩, c49, hf⟩ := bd_of hf
        dsimp only at hf
        have hPc := hP.sub (ws' := (k_X11_agree T a_ a_trays a_words a_odds a_tokens a_bookReader a_roundsReader a_book a_draft a_marks a_ahead a_life a_lifeTold v_status v_marked v_hasLived)) [0] rfl
        have hDc := (mp_D_of (w1 := (k_X11_pour T a_ a_trays a_words a_odds a_tokens a_bookReader a_roundsReader a_book a_draft a_marks a_ahead a_life a_lifeTold a_trays_rows a_trays_sorts a_trays_lengths a_trays_rows_0 a_trays_rows_1 a_trays_rows_2 a_trays_rows_3 v_status v_marked v_hasLived v_trays_lengths v_trays_rows_0 v_trays_rows_1 (va_cpy v_trays_rows_1 v_trays_rows_2 (x2).toNatClampNeg (x4).toNatClampNeg (x5).toNatClampNeg) v_trays_rows_3 v_trays_sorts)) hD rfl).sub (ws' := (k_X11_agree T a_ a_trays a_words a_odds a_tokens a_bookReader a_roundsReader a_book a_draft a_marks a_ahead a_life a_lifeTold v_status v_marked v_hasLived)) [0] rfl rfl
        refine mp_calli (isC := [0]) (wc := (k_X11_agree T a_ a_trays a_words a_odds a_tokens a_bookReader a_roundsReader a_book a_draft a_marks a_ahead a_life a_lifeTold v_status v_marked v_hasLived)) (w1 := (k_X11_agree T a_ a_trays a_words a_odds a_tokens a_bookReader a_roundsReader a_book a_draft a_marks a_ahead a_life a_lifeTold u48 v_marked v_hasLived)) hP (mp_D_of hD rfl) hS hA rfl rfl (mp_runV (As := []) (rest := []) X me_X11_agree lk_X11_119 (c_X11_agree l D T a_ a_trays a_words a_odds a_tokens a_bookReader a_roundsReader a_book a_draft a_marks a_ahead a_life a_lifeTold v_marked v_hasLived v_status r47 u48 c49) rfl rfl ⟨(Nat.le_of_ble_eq_true rfl), (Nat.le_of_ble_eq_true rfl)⟩ hK hPc hDc rfl rfl rfl rfl hl.1 rfl (Nat.le_of_ble_eq_true rfl) dX11_pour_55 ⟨Nat.zero_le _, Nat.zero_le _⟩) (fun H locs hP _ hS => ?_)
        replace hP : va_P D mp_cl (k_X11_pour T a_ a_trays a_words a_odds a_tokens a_bookReader a_roundsReader a_book a_draft a_marks a_ahead a_life a_lifeTold a_trays_rows a_trays_sorts a_trays_lengths a_trays_rows_0 a_trays_rows_1 a_trays_rows_2 a_trays_rows_3 u48 v_marked v_hasLived v_trays_lengths v_trays_rows_0 v_trays_rows_1 (va_cpy v_trays_rows_1 v_trays_rows_2 (x2).toNatClampNeg (x4).toNatClampNeg (x5).toNatClampNeg) v_trays_rows_3 v_trays_sorts) H := hP
        obtain ⟨h50, hf⟩ := gd_of hf
        cases hf
        exact mp_retz X hP hS rfl h50 dX11_pour_58
      replace hf := if_f hf h45
      have h51 : x3 = (nI 3) := mp_last4 h32 h33 h39 h45
      rw [show va_rf (mp_ol [a_trays_rows_0, a_trays_rows_1, a_trays_rows_2, a_trays_rows_3] (x3).toNatClampNeg) = .ref a_trays_rows_3 from by rw [h51]; rfl]
      refine lv_iload hx hb dX11_pour_47 (lv_at hl 5 rfl) ?_
      refine lv_iload hx hb dX11_pour_49 (lv_at hl 6 rfl) ?_
      obtain ⟨h52, hf⟩ := gc_of hf
      refine va_copyl hx hb (hml.trans hl.1.symm) hown (hts _ lk_X11_139_ac) (hts _ ac_nat) (hts _ ac_stat) (hts _ ac_ini) hK hP (mp_D_of hD rfl) hS 5 7 1 1 rfl rfl rfl rfl rfl h52.1 h52.2.1 h52.2.2.1 h52.2.2.2.1 h52.2.2.2.2 (fun _ _ => rfl) (Nat.le_of_ble_eq_true rfl) (Nat.le_of_ble_eq_true rfl) dX11_pour_51 (fun H locs hP _ hS => ?_)
      replace hP : va_P D mp_cl (k_X11_pour T a_ a_trays a_words a_odds a_tokens a_bookReader a_roundsReader a_book a_draft a_marks a_ahead a_life a_lifeTold a_trays_rows a_trays_sorts a_trays_lengths a_trays_rows_0 a_trays_rows_1 a_trays_rows_2 a_trays_rows_3 v_status v_marked v_hasLived v_trays_lengths v_trays_rows_0 v_trays_rows_1 v_trays_rows_2 (va_cpy v_trays_rows_1 v_trays_rows_3 (x2).toNatClampNeg (x4).toNatClampNeg (x5).toNatClampNeg) v_trays_sorts) H := hP
      refine lv_aload_n hx hb dX11_pour_54 rfl (lv_at hl 1 rfl) ?_
      obtain ⟨⟨r53, u54⟩, c55, hf⟩ := bd_of hf
      dsimp only at hf
      have hPc := hP.sub (ws' := (k_X11_agree T a_ a_trays a_words a_odds a_tokens a_bookReader a_roundsReader a_book a_draft a_marks a_ahead a_life a_lifeTold v_status v_marked v_hasLived)) [0] rfl
      have hDc := (mp_D_of (w1 := (k_X11_pour T a_ a_trays a_words a_odds a_tokens a_bookReader a_roundsReader a_book a_draft a_marks a_ahead a_life a_lifeTold a_trays_rows a_trays_sorts a_trays_lengths a_trays_rows_0 a_trays_rows_1 a_trays_rows_2 a_trays_rows_3 v_status v_marked v_hasLived v_trays_lengths v_trays_rows_0 v_trays_rows_1 v_trays_rows_2 (va_cpy v_trays_rows_1 v_trays_rows_3 (x2).toNatClampNeg (x4).toNatClampNeg (x5).toNatClampNeg) v_trays_sorts)) hD rfl).sub (ws' := (k_X11_agree T a_ a_trays a_words a_odds a_tokens a_bookReader a_roundsReader a_book a_draft a_marks a_ahead a_life a_lifeTold v_status v_marked v_hasLived)) [0] rfl rfl
      refine mp_calli (isC := [0]) (wc := (k_X11_agree T a_ a_trays a_words a_odds a_tokens a_bookReader a_roundsReader a_book a_draft a_marks a_ahead a_life a_lifeTold v_status v_marked v_hasLived)) (w1 := (k_X11_agree T a_ a_trays a_words a_odds a_tokens a_bookReader a_roundsReader a_book a_draft a_marks a_ahead a_life a_lifeTold u54 v_marked v_hasLived)) hP (mp_D_of hD rfl) hS hA rfl rfl (mp_runV (As := []) (rest := []) X me_X11_agree lk_X11_119 (c_X11_agree l D T a_ a_trays a_words a_odds a_tokens a_bookReader a_roundsReader a_book a_draft a_marks a_ahead a_life a_lifeTold v_marked v_hasLived v_status r53 u54 c55) rfl rfl ⟨(Nat.le_of_ble_eq_true rfl), (Nat.le_of_ble_eq_true rfl)⟩ hK hPc hDc rfl rfl rfl rfl hl.1 rfl (Nat.le_of_ble_eq_true rfl) dX11_pour_55 ⟨Nat.zero_le _, Nat.zero_le _⟩) (fun H locs hP _ hS => ?_)
      replace hP : va_P D mp_cl (k_X11_pour T a_ a_trays a_words a_odds a_tokens a_bookReader a_roundsReader a_book a_draft a_marks a_ahead a_life a_lifeTold a_trays_rows a_trays_sorts a_trays_lengths a_trays_rows_0 a_trays_rows_1 a_trays_rows_2 a_trays_rows_3 u54 v_marked v_hasLived v_trays_lengths v_trays_rows_0 v_trays_rows_1 v_trays_rows_2 (va_cpy v_trays_rows_1 v_trays_rows_3 (x2).toNatClampNeg (x4).toNatClampNeg (x5).toNatClampNeg) v_trays_sorts) H := hP
      obtain ⟨h56, hf⟩ := gd_of hf
      cases hf
      exact mp_retz X hP hS rfl h56 dX11_pour_58
    replace hf := if_f hf h31
    by_cases h57 : x1 = (nI 2)
    · replace hf := if_t hf h57
      rw [show va_rf (mp_ol [a_trays_rows_0, a_trays_rows_1, a_trays_rows_2, a_trays_rows_3] (x1).toNatClampNeg) = .ref a_trays_rows_2 from by rw [h57]; rfl]
      refine lv_iload_n hx hb dX11_pour_37 rfl (lv_at hl 3 rfl) ?_
      refine lv_aload_n hx hb dX11_pour_38 rfl (lv_at hl 1 rfl) ?_
      refine mp_get X fl_X11_16 hK hP 0 rfl rfl dX11_pour_39 ?_
      refine mp_get X fl_X11_131 hK hP 1 rfl rfl dX11_pour_42 ?_
      refine lv_iload_n hx hb dX11_pour_45 rfl (lv_at hl 4 rfl) ?_
      obtain ⟨h58, hf⟩ := gi_of hf
      refine va_aldqA hx hb hK hP 3 3 rfl rfl h58 dX11_pour_46 ?_
      by_cases h59 : x3 = (nI 0)
      · replace hf := if_t hf h59
        rw [show va_rf (mp_ol [a_trays_rows_0, a_trays_rows_1, a_trays_rows_2, a_trays_rows_3] (x3).toNatClampNeg) = .ref a_trays_rows_0 from by rw [h59]; rfl]
        refine lv_iload hx hb dX11_pour_47 (lv_at hl 5 rfl) ?_
        refine lv_iload hx hb dX11_pour_49 (lv_at hl 6 rfl) ?_
        obtain ⟨h60, hf⟩ := gc_of hf
        refine va_copyl hx hb (hml.trans hl.1.symm) hown (hts _ lk_X11_139_ac) (hts _ ac_nat) (hts _ ac_stat) (hts _ ac_ini) hK hP (mp_D_of hD rfl) hS 6 4 1 1 rfl rfl rfl rfl rfl h60.1 h60.2.1 h60.2.2.1 h60.2.2.2.1 h60.2.2.2.2 (fun _ _ => rfl) (Nat.le_of_ble_eq_true rfl) (Nat.le_of_ble_eq_true rfl) dX11_pour_51 (fun H locs hP _ hS => ?_)
        replace hP : va_P D mp_cl (k_X11_pour T a_ a_trays a_words a_odds a_tokens a_bookReader a_roundsReader a_book a_draft a_marks a_ahead a_life a_lifeTold a_trays_rows a_trays_sorts a_trays_lengths a_trays_rows_0 a_trays_rows_1 a_trays_rows_2 a_trays_rows_3 v_status v_marked v_hasLived v_trays_lengths (va_cpy v_trays_rows_2 v_trays_rows_0 (x2).toNatClampNeg (x4).toNatClampNeg (x5).toNatClampNeg) v_trays_rows_1 v_trays_rows_2 v_trays_rows_3 v_trays_sorts) H := hP
        refine lv_aload_n hx hb dX11_pour_54 rfl (lv_at hl 1 rfl) ?_
        obtain ⟨⟨r61, u62⟩, c63, hf⟩ := bd_of hf
        dsimp only at hf
        have hPc := hP.sub (ws' := (k_X11_agree T a_ a_trays a_words a_odds a_tokens a_bookReader a_roundsReader a_book a_draft a_marks a_ahead a_life a_lifeTold v_status v_marked v_hasLived)) [0] rfl
        have hDc := (mp_D_of (w1 := (k_X11_pour T a_ a_trays a_words a_odds a_tokens a_bookReader a_roundsReader a_book a_draft a_marks a_ahead a_life a_lifeTold a_trays_rows a_trays_sorts a_trays_lengths a_trays_rows_0 a_trays_rows_1 a_trays_rows_2 a_trays_rows_3 v_status v_marked v_hasLived v_trays_lengths (va_cpy v_trays_rows_2 v_trays_rows_0 (x2).toNatClampNeg (x4).toNatClampNeg (x5).toNatClampNeg) v_trays_rows_1 v_trays_rows_2 v_trays_rows_3 v_trays_sorts)) hD rfl).sub (ws' := (k_X11_agree T a_ a_trays a_words a_odds a_tokens a_bookReader a_roundsReader a_book a_draft a_marks a_ahead a_life a_lifeTold v_status v_marked v_hasLived)) [0] rfl rfl
        refine mp_calli (isC := [0]) (wc := (k_X11_agree T a_ a_trays a_words a_odds a_tokens a_bookReader a_roundsReader a_book a_draft a_marks a_ahead a_life a_lifeTold v_status v_marked v_hasLived)) (w1 := (k_X11_agree T a_ a_trays a_words a_odds a_tokens a_bookReader a_roundsReader a_book a_draft a_marks a_ahead a_life a_lifeTold u62 v_marked v_hasLived)) hP (mp_D_of hD rfl) hS hA rfl rfl (mp_runV (As := []) (rest := []) X me_X11_agree lk_X11_119 (c_X11_agree l D T a_ a_trays a_words a_odds a_tokens a_bookReader a_roundsReader a_book a_draft a_marks a_ahead a_life a_lifeTold v_marked v_hasLived v_status r61 u62 c63) rfl rfl ⟨(Nat.le_of_ble_eq_true rfl), (Nat.le_of_ble_eq_true rfl)⟩ hK hPc hDc rfl rfl rfl rfl hl.1 rfl (Nat.le_of_ble_eq_true rfl) dX11_pour_55 ⟨Nat.zero_le _, Nat.zero_le _⟩) (fun H locs hP _ hS => ?_)
        replace hP : va_P D mp_cl (k_X11_pour T a_ a_trays a_words a_odds a_tokens a_bookReader a_roundsReader a_book a_draft a_marks a_ahead a_life a_lifeTold a_trays_rows a_trays_sorts a_trays_lengths a_trays_rows_0 a_trays_rows_1 a_trays_rows_2 a_trays_rows_3 u62 v_marked v_hasLived v_trays_lengths (va_cpy v_trays_rows_2 v_trays_rows_0 (x2).toNatClampNeg (x4).toNatClampNeg (x5).toNatClampNeg) v_trays_rows_1 v_trays_rows_2 v_trays_rows_3 v_trays_sorts) H := hP
        obtain ⟨h64, hf⟩ := gd_of hf
        cases hf
        exact mp_retz X hP hS rfl h64 dX11_pour_58
      replace hf := if_f hf h59
      by_cases h65 : x3 = (nI 1)
      · replace hf := if_t hf h65
        rw [show va_rf (mp_ol [a_trays_rows_0, a_trays_rows_1, a_trays_rows_2, a_trays_rows_3] (x3).toNatClampNeg) = .ref a_trays_rows_1 from by rw [h65]; rfl]
        refine lv_iload hx hb dX11_pour_47 (lv_at hl 5 rfl) ?_
        refine lv_iload hx hb dX11_pour_49 (lv_at hl 6 rfl) ?_
        obtain ⟨h66, hf⟩ := gc_of hf
        refine va_copyl hx hb (hml.trans hl.1.symm) hown (hts _ lk_X11_139_ac) (hts _ ac_nat) (hts _ ac_stat) (hts _ ac_ini) hK hP (mp_D_of hD rfl) hS 6 5 1 1 rfl rfl rfl rfl rfl h66.1 h66.2.1 h66.2.2.1 h66.2.2.2.1 h66.2.2.2.2 (fun _ _ => rfl) (Nat.le_of_ble_eq_true rfl) (Nat.le_of_ble_eq_true rfl) dX11_pour_51 (fun H locs hP _ hS => ?_)
        replace hP : va_P D mp_cl (k_X11_pour T a_ a_trays a_words a_odds a_tokens a_bookReader a_roundsReader a_book a_draft a_marks a_ahead a_life a_lifeTold a_trays_rows a_trays_sorts a_trays_lengths a_trays_rows_0 a_trays_rows_1 a_trays_rows_2 a_trays_rows_3 v_status v_marked v_hasLived v_trays_lengths v_trays_rows_0 (va_cpy v_trays_rows_2 v_trays_rows_1 (x2).toNatClampNeg (x4).toNatClampNeg (x5).toNatClampNeg) v_trays_rows_2 v_trays_rows_3 v_trays_sorts) H := hP
        refine lv_aload_n hx hb dX11_pour_54 rfl (lv_at hl 1 rfl) ?_
        obtain ⟨⟨r67, u68⟩, c69, hf⟩ := bd_of hf
        dsimp only at hf
        have hPc := hP.sub (ws' := (k_X11_agree T a_ a_trays a_words a_odds a_tokens a_bookReader a_roundsReader a_book a_draft a_marks a_ahead a_life a_lifeTold v_status v_marked v_hasLived)) [0] rfl
        have hDc := (mp_D_of (w1 := (k_X11_pour T a_ a_trays a_words a_odds a_tokens a_bookReader a_roundsReader a_book a_draft a_marks a_ahead a_life a_lifeTold a_trays_rows a_trays_sorts a_trays_lengths a_trays_rows_0 a_trays_rows_1 a_trays_rows_2 a_trays_rows_3 v_status v_marked v_hasLived v_trays_lengths v_trays_rows_0 (va_cpy v_trays_rows_2 v_trays_rows_1 (x2).toNatClampNeg (x4).toNatClampNeg (x5).toNatClampNeg) v_trays_rows_2 v_trays_rows_3 v_trays_sorts)) hD rfl).sub (ws' := (k_X11_agree T a_ a_trays a_words a_odds a_tokens a_bookReader a_roundsReader a_book a_draft a_marks a_ahead a_life a_lifeTold v_status v_marked v_hasLived)) [0] rfl rfl
        refine mp_calli (isC := [0]) (wc := (k_X11_agree T a_ a_trays a_words a_odds a_tokens a_bookReader a_roundsReader a_book a_draft a_marks a_ahead a_life a_lifeTold v_status v_marked v_hasLived)) (w1 := (k_X11_agree T a_ a_trays a_words a_odds a_tokens a_bookReader a_roundsReader a_book a_draft a_marks a_ahead a_life a_lifeTold u68 v_marked v_hasLived)) hP (mp_D_of hD rfl) hS hA rfl rfl (mp_runV (As := []) (rest := []) X me_X11_agree lk_X11_119 (c_X11_agree l D T a_ a_trays a_words a_odds a_tokens a_bookReader a_roundsReader a_book a_draft a_marks a_ahead a_life a_lifeTold v_marked v_hasLived v_status r67 u68 c69) rfl rfl ⟨(Nat.le_of_ble_eq_true rfl), (Nat.le_of_ble_eq_true rfl)⟩ hK hPc hDc rfl rfl rfl rfl hl.1 rfl (Nat.le_of_ble_eq_true rfl) dX11_pour_55 ⟨Nat.zero_le _, Nat.zero_le _⟩) (fun H locs hP _ hS => ?_)
        replace hP : va_P D mp_cl (k_X11_pour T a_ a_trays a_words a_odds a_tokens a_bookReader a_roundsReader a_book a_draft a_marks a_ahead a_life a_lifeTold a_trays_rows a_trays_sorts a_trays_lengths a_trays_rows_0 a_trays_rows_1 a_trays_rows_2 a_trays_rows_3 u68 v_marked v_hasLived v_trays_lengths v_trays_rows_0 (va_cpy v_trays_rows_2 v_trays_rows_1 (x2).toNatClampNeg (x4).toNatClampNeg (x5).toNatClampNeg) v_trays_rows_2 v_trays_rows_3 v_trays_sorts) H := hP
        obtain ⟨h70, hf⟩ := gd_of hf
        cases hf
        exact mp_retz X hP hS rfl h70 dX11_pour_58
      replace hf := if_f hf h65
      by_cases h71 : x3 = (nI 2)
      · replace hf := if_t hf h71
        rw [show va_rf (mp_ol [a_trays_rows_0, a_trays_rows_1, a_trays_rows_2, a_trays_rows_3] (x3).toNatClampNeg) = .ref a_trays_rows_2 from by rw [h71]; rfl]
        refine lv_iload hx hb dX11_pour_47 (lv_at hl 5 rfl) ?_
        refine lv_iload hx hb dX11_pour_49 (lv_at hl 6 rfl) ?_
        obtain ⟨h72, hf⟩ := gc_of hf
        refine va_copyl hx hb (hml.trans hl.1.symm) hown (hts _ lk_X11_139_ac) (hts _ ac_nat) (hts _ ac_stat) (hts _ ac_ini) hK hP (mp_D_of hD rfl) hS 6 6 1 1 rfl rfl rfl rfl rfl h72.1 h72.2.1 h72.2.2.1 h72.2.2.2.1 h72.2.2.2.2 (fun _ _ => rfl) (Nat.le_of_ble_eq_true rfl) (Nat.le_of_ble_eq_true rfl) dX11_pour_51 (fun H locs hP _ hS => ?_)
        replace hP : va_P D mp_cl (k_X11_pour T a_ a_trays a_words a_odds a_tokens a_bookReader a_roundsReader a_book a_draft a_marks a_ahead a_life a_lifeTold a_trays_rows a_trays_sorts a_trays_lengths a_trays_rows_0 a_trays_rows_1 a_trays_rows_2 a_trays_rows_3 v_status v_marked v_hasLived v_trays_lengths v_trays_rows_0 v_trays_rows_1 (va_cpy v_trays_rows_2 v_trays_rows_2 (x2).toNatClampNeg (x4).toNatClampNeg (x5).toNatClampNeg) v_trays_rows_3 v_trays_sorts) H := hP
        refine lv_aload_n hx hb dX11_pour_54 rfl (lv_at hl 1 rfl) ?_
        obtain ⟨⟨r73, u74⟩, c75, hf⟩ := bd_of hf
        dsimp only at hf
        have hPc := hP.sub (ws' := (k_X11_agree T a_ a_trays a_words a_odds a_tokens a_bookReader a_roundsReader a_book a_draft a_marks a_ahead a_life a_lifeTold v_status v_marked v_hasLived)) [0] rfl
        have hDc := (mp_D_of (w1 := (k_X11_pour T a_ a_trays a_words a_odds a_tokens a_bookReader a_roundsReader a_book a_draft a_marks a_ahead a_life a_lifeTold a_trays_rows a_trays_sorts a_trays_lengths a_trays_rows_0 a_trays_rows_1 a_trays_rows_2 a_trays_rows_3 v_status v_marked v_hasLived v_trays_lengths v_trays_rows_0 v_trays_rows_1 (va_cpy v_trays_rows_2 v_trays_rows_2 (x2).toNatClampNeg (x4).toNatClampNeg (x5).toNatClampNeg) v_trays_rows_3 v_trays_sorts)) hD rfl).sub (ws' := (k_X11_agree T a_ a_trays a_words a_odds a_tokens a_bookReader a_roundsReader a_book a_draft a_marks a_ahead a_life a_lifeTold v_status v_marked v_hasLived)) [0] rfl rfl
        refine mp_calli (isC := [0]) (wc := (k_X11_agree T a_ a_trays a_words a_odds a_tokens a_bookReader a_roundsReader a_book a_draft a_marks a_ahead a_life a_lifeTold v_status v_marked v_hasLived)) (w1 := (k_X11_agree T a_ a_trays a_words a_odds a_tokens a_bookReader a_roundsReader a_book a_draft a_marks a_ahead a_life a_lifeTold u74 v_marked v_hasLived)) hP (mp_D_of hD rfl) hS hA rfl rfl (mp_runV (As := []) (rest := []) X me_X11_agree lk_X11_119 (c_X11_agree l D T a_ a_trays a_words a_odds a_tokens a_bookReader a_roundsReader a_book a_draft a_marks a_ahead a_life a_lifeTold v_marked v_hasLived v_status r73 u74 c75) rfl rfl ⟨(Nat.le_of_ble_eq_true rfl), (Nat.le_of_ble_eq_true rfl)⟩ hK hPc hDc rfl rfl rfl rfl hl.1 rfl (Nat.le_of_ble_eq_true rfl) dX11_pour_55 ⟨Nat.zero_le _, Nat.zero_le _⟩) (fun H locs hP _ hS => ?_)
        replace hP : va_P D mp_cl (k_X11_pour T a_ a_trays a_words a_odds a_tokens a_bookReader a_roundsReader a_book a_draft a_marks a_ahead a_life a_lifeTold a_trays_rows a_trays_sorts a_trays_lengths a_trays_rows_0 a_trays_rows_1 a_trays_rows_2 a_trays_rows_3 u74 v_marked v_hasLived v_trays_lengths v_trays_rows_0 v_trays_rows_1 (va_cpy v_trays_rows_2 v_trays_rows_2 (x2).toNatClampNeg (x4).toNatClampNeg (x5).toNatClampNeg) v_trays_rows_3 v_trays_sorts) H := hP
        obtain ⟨h76, hf⟩ := gd_of hf
        cases hf
        exact mp_retz X hP hS rfl h76 dX11_pour_58
      replace hf := if_f hf h71
      have h77 : x3 = (nI 3) := mp_last4 h58 h59 h65 h71
      rw [show va_rf (mp_ol [a_trays_rows_0, a_trays_rows_1, a_trays_rows_2, a_trays_rows_3] (x3).toNatClampNeg) = .ref a_trays_rows_3 from by rw [h77]; rfl]
      refine lv_iload hx hb dX11_pour_47 (lv_at hl 5 rfl) ?_
      refine lv_iload hx hb dX11_pour_49 (lv_at hl 6 rfl) ?_
      obtain ⟨h78, hf⟩ := gc_of hf
      refine va_copyl hx hb (hml.trans hl.1.symm) hown (hts _ lk_X11_139_ac) (hts _ ac_nat) (hts _ ac_stat) (hts _ ac_ini) hK hP (mp_D_of hD rfl) hS 6 7 1 1 rfl rfl rfl rfl rfl h78.1 h78.2.1 h78.2.2.1 h78.2.2.2.1 h78.2.2.2.2 (fun _ _ => rfl) (Nat.le_of_ble_eq_true rfl) (Nat.le_of_ble_eq_true rfl) dX11_pour_51 (fun H locs hP _ hS => ?_)
      replace hP : va_P D mp_cl (k_X11_pour T a_ a_trays a_words a_odds a_tokens a_bookReader a_roundsReader a_book a_draft a_marks a_ahead a_life a_lifeTold a_trays_rows a_trays_sorts a_trays_lengths a_trays_rows_0 a_trays_rows_1 a_trays_rows_2 a_trays_rows_3 v_status v_marked v_hasLived v_trays_lengths v_trays_rows_0 v_trays_rows_1 v_trays_rows_2 (va_cpy v_trays_rows_2 v_trays_rows_3 (x2).toNatClampNeg (x4).toNatClampNeg (x5).toNatClampNeg) v_trays_sorts) H := hP
      refine lv_aload_n hx hb dX11_pour_54 rfl (lv_at hl 1 rfl) ?_
      obtain ⟨⟨r79, u80⟩, c81, hf⟩ := bd_of hf
      dsimp only at hf
      have hPc := hP.sub (ws' := (k_X11_agree T a_ a_trays a_words a_odds a_tokens a_bookReader a_roundsReader a_book a_draft a_marks a_ahead a_life a_lifeTold v_status v_marked v_hasLived)) [0] rfl
      have hDc := (mp_D_of (w1 := (k_X11_pour T a_ a_trays a_words a_odds a_tokens a_bookReader a_roundsReader a_book a_draft a_marks a_ahead a_life a_lifeTold a_trays_rows a_trays_sorts a_trays_lengths a_trays_rows_0 a_trays_rows_1 a_trays_rows_2 a_trays_rows_3 v_status v_marked v_hasLived v_trays_lengths v_trays_rows_0 v_trays_rows_1 v_trays_rows_2 (va_cpy v_trays_rows_2 v_trays_rows_3 (x2).toNatClampNeg (x4).toNatClampNeg (x5).toNatClampNeg) v_trays_sorts)) hD rfl).sub (ws' := (k_X11_agree T a_ a_trays a_words a_odds a_tokens a_bookReader a_roundsReader a_book a_draft a_marks a_ahead a_life a_lifeTold v_status v_marked v_hasLived)) [0] rfl rfl
      refine mp_calli (isC := [0]) (wc := (k_X11_agree T a_ a_trays a_words a_odds a_tokens a_bookReader a_roundsReader a_book a_draft a_marks a_ahead a_life a_lifeTold v_status v_marked v_hasLived)) (w1 := (k_X11_agree T a_ a_trays a_words a_odds a_tokens a_bookReader a_roundsReader a_book a_draft a_marks a_ahead a_life a_lifeTold u80 v_marked v_hasLived)) hP (mp_D_of hD rfl) hS hA rfl rfl (mp_runV (As := []) (rest := []) X me_X11_agree lk_X11_119 (c_X11_agree l D T a_ a_trays a_words a_odds a_tokens a_bookReader a_roundsReader a_book a_draft a_marks a_ahead a_life a_lifeTold v_marked v_hasLived v_status r79 u80 c81) rfl rfl ⟨(Nat.le_of_ble_eq_true rfl), (Nat.le_of_ble_eq_true rfl)⟩ hK hPc hDc rfl rfl rfl rfl hl.1 rfl (Nat.le_of_ble_eq_true rfl) dX11_pour_55 ⟨Nat.zero_le _, Nat.zero_le _⟩) (fun H locs hP _ hS => ?_)
      replace hP : va_P D mp_cl (k_X11_pour T a_ a_trays a_words a_odds a_tokens a_bookReader a_roundsReader a_book a_draft a_marks a_ahead a_life a_lifeTold a_trays_rows a_trays_sorts a_trays_lengths a_trays_rows_0 a_trays_rows_1 a_trays_rows_2 a_trays_rows_3 u80 v_marked v_hasLived v_trays_lengths v_trays_rows_0 v_trays_rows_1 v_trays_rows_2 (va_cpy v_trays_rows_2 v_trays_rows_3 (x2).toNatClampNeg (x4).toNatClampNeg (x5).toNatClampNeg) v_trays_sorts) H := hP
      obtain ⟨h82, hf⟩ := gd_of hf
      cases hf
      exact mp_retz X hP hS rfl h82 dX11_pour_58
    replace hf := if_f hf h57
    have h83 : x1 = (nI 3) := mp_last4 h4 h5 h31 h57
    rw [show va_rf (mp_ol [a_trays_rows_0, a_trays_rows_1, a_trays_rows_2, a_trays_rows_3] (x1).toNatClampNeg) = .ref a_trays_rows_3 from by rw [h83]; rfl]
    refine lv_iload_n hx hb dX11_pour_37 rfl (lv_at hl 3 rfl) ?_
    refine lv_aload_n hx hb dX11_pour_38 rfl (lv_at hl 1 rfl) ?_
    refine mp_get X fl_X11_16 hK hP 0 rfl rfl dX11_pour_39 ?_
    refine mp_get X fl_X11_131 hK hP 1 rfl rfl dX11_pour_42 ?_
    refine lv_iload_n hx hb dX11_pour_45 rfl (lv_at hl 4 rfl) ?_
    obtain ⟨h84, hf⟩ := gi_of hf
    refine va_aldqA hx hb hK hP 3 3 rfl rfl h84 dX11_pour_46 ?_
    by_cases h85 : x3 = (nI 0)
    · replace hf := if_t hf h85
      rw [show va_rf (mp_ol [a_trays_rows_0, a_trays_rows_1, a_trays_rows_2, a_trays_rows_3] (x3).toNatClampNeg) = .ref a_trays_rows_0 from by rw [h85]; rfl]
      refine lv_iload hx hb dX11_pour_47 (lv_at hl 5 rfl) ?_
      refine lv_iload hx hb dX11_pour_49 (lv_at hl 6 rfl) ?_
      obtain ⟨h86, hf⟩ := gc_of hf
      refine va_copyl hx hb (hml.trans hl.1.symm) hown (hts _ lk_X11_139_ac) (hts _ ac_nat) (hts _ ac_stat) (hts _ ac_ini) hK hP (mp_D_of hD rfl) hS 7 4 1 1 rfl rfl rfl rfl rfl h86.1 h86.2.1 h86.2.2.1 h86.2.2.2.1 h86.2.2.2.2 (fun _ _ => rfl) (Nat.le_of_ble_eq_true rfl) (Nat.le_of_ble_eq_true rfl) dX11_pour_51 (fun H locs hP _ hS => ?_)
      replace hP : va_P D mp_cl (k_X11_pour T a_ a_trays a_words a_odds a_tokens a_bookReader a_roundsReader a_book a_draft a_marks a_ahead a_life a_lifeTold a_trays_rows a_trays_sorts a_trays_lengths a_trays_rows_0 a_trays_rows_1 a_trays_rows_2 a_trays_rows_3 v_status v_marked v_hasLived v_trays_lengths (va_cpy v_trays_rows_3 v_trays_rows_0 (x2).toNatClampNeg (x4).toNatClampNeg (x5).toNatClampNeg) v_trays_rows_1 v_trays_rows_2 v_trays_rows_3 v_trays_sorts) H := hP
      refine lv_aload_n hx hb dX11_pour_54 rfl (lv_at hl 1 rfl) ?_
      obtain ⟨⟨r87, u88⟩, c89, hf⟩ := bd_of hf
      dsimp only at hf
      have hPc := hP.sub (ws' := (k_X11_agree T a_ a_trays a_words a_odds a_tokens a_bookReader a_roundsReader a_book a_draft a_marks a_ahead a_life a_lifeTold v_status v_marked v_hasLived)) [0] rfl
      have hDc := (mp_D_of (w1 := (k_X11_pour T a_ a_trays a_words a_odds a_tokens a_bookReader a_roundsReader a_book a_draft a_marks a_ahead a_life a_lifeTold a_trays_rows a_trays_sorts a_trays_lengths a_trays_rows_0 a_trays_rows_1 a_trays_rows_2 a_trays_rows_3 v_status v_marked v_hasLived v_trays_lengths (va_cpy v_trays_rows_3 v_trays_rows_0 (x2).toNatClampNeg (x4).toNatClampNeg (x5).toNatClampNeg) v_trays_rows_1 v_trays_rows_2 v_trays_rows_3 v_trays_sorts)) hD rfl).sub (ws' := (k_X11_agree T a_ a_trays a_words a_odds a_tokens a_bookReader a_roundsReader a_book a_draft a_marks a_ahead a_life a_lifeTold v_status v_marked v_hasLived)) [0] rfl rfl
      refine mp_calli (isC := [0]) (wc := (k_X11_agree T a_ a_trays a_words a_odds a_tokens a_bookReader a_roundsReader a_book a_draft a_marks a_ahead a_life a_lifeTold v_status v_marked v_hasLived)) (w1 := (k_X11_agree T a_ a_trays a_words a_odds a_tokens a_bookReader a_roundsReader a_book a_draft a_marks a_ahead a_life a_lifeTold u88 v_marked v_hasLived)) hP (mp_D_of hD rfl) hS hA rfl rfl (mp_runV (As := []) (rest := []) X me_X11_agree lk_X11_119 (c_X11_agree l D T a_ a_trays a_words a_odds a_tokens a_bookReader a_roundsReader a_book a_draft a_marks a_ahead a_life a_lifeTold v_marked v_hasLived v_status r87 u88 c89) rfl rfl ⟨(Nat.le_of_ble_eq_true rfl), (Nat.le_of_ble_eq_true rfl)⟩ hK hPc hDc rfl rfl rfl rfl hl.1 rfl (Nat.le_of_ble_eq_true rfl) dX11_pour_55 ⟨Nat.zero_le _, Nat.zero_le _⟩) (fun H locs hP _ hS => ?_)
      replace hP : va_P D mp_cl (k_X11_pour T a_ a_trays a_words a_odds a_tokens a_bookReader a_roundsReader a_book a_draft a_marks a_ahead a_life a_lifeTold a_trays_rows a_trays_sorts a_trays_lengths a_trays_rows_0 a_trays_rows_1 a_trays_rows_2 a_trays_rows_3 u88 v_marked v_hasLived v_trays_lengths (va_cpy v_trays_rows_3 v_trays_rows_0 (x2).toNatClampNeg (x4).toNatClampNeg (x5).toNatClampNeg) v_trays_rows_1 v_trays_rows_2 v_trays_rows_3 v_trays_sorts) H := hP
      obtain ⟨h90, hf⟩ := gd_of hf
      cases hf
      exact mp_retz X hP hS rfl h90 dX11_pour_58
    replace hf := if_f hf h85
    by_cases h91 : x3 = (nI 1)
    · replace hf := if_t hf h91
      rw [show va_rf (mp_ol [a_trays_rows_0, a_trays_rows_1, a_trays_rows_2, a_trays_rows_3] (x3).toNatClampNeg) = .ref a_trays_rows_1 from by rw [h91]; rfl]
      refine lv_iload hx hb dX11_pour_47 (lv_at hl 5 rfl) ?_
      refine lv_iload hx hb dX11_pour_49 (lv_at hl 6 rfl) ?_
      obtain ⟨h92, hf⟩ := gc_of hf
      refine va_copyl hx hb (hml.trans hl.1.symm) hown (hts _ lk_X11_139_ac) (hts _ ac_nat) (hts _ ac_stat) (hts _ ac_ini) hK hP (mp_D_of hD rfl) hS 7 5 1 1 rfl rfl rfl rfl rfl h92.1 h92.2.1 h92.2.2.1 h92.2.2.2.1 h92.2.2.2.2 (fun _ _ => rfl) (Nat.le_of_ble_eq_true rfl) (Nat.le_of_ble_eq_true rfl) dX11_pour_51 (fun H locs hP _ hS => ?_)
      replace hP : va_P D mp_cl (k_X11_pour T a_ a_trays a_words a_odds a_tokens a_bookReader a_roundsReader a_book a_draft a_marks a_ahead a_life a_lifeTold a_trays_rows a_trays_sorts a_trays_lengths a_trays_rows_0 a_trays_rows_1 a_trays_rows_2 a_trays_rows_3 v_status v_marked v_hasLived v_trays_lengths v_trays_rows_0 (va_cpy v_trays_rows_3 v_trays_rows_1 (x2).toNatClampNeg (x4).toNatClampNeg (x5).toNatClampNeg) v_trays_rows_2 v_trays_rows_3 v_trays_sorts) H := hP
      refine lv_aload_n hx hb dX11_pour_54 rfl (lv_at hl 1 rfl) ?_
      obtain ⟨⟨r93, u94⟩, c95, hf⟩ := bd_of hf
      dsimp only at hf
      have hPc := hP.sub (ws' := (k_X11_agree T a_ a_trays a_words a_odds a_tokens a_bookReader a_roundsReader a_book a_draft a_marks a_ahead a_life a_lifeTold v_status v_marked v_hasLived)) [0] rfl
      have hDc := (mp_D_of (w1 := (k_X11_pour T a_ a_trays a_words a_odds a_tokens a_bookReader a_roundsReader a_book a_draft a_marks a_ahead a_life a_lifeTold a_trays_rows a_trays_sorts a_trays_lengths a_trays_rows_0 a_trays_rows_1 a_trays_rows_2 a_trays_rows_3 v_status v_marked v_hasLived v_trays_lengths v_trays_rows_0 (va_cpy v_trays_rows_3 v_trays_rows_1 (x2).toNatClampNeg (x4).toNatClampNeg (x5).toNatClampNeg) v_trays_rows_2 v_trays_rows_3 v_trays_sorts)) hD rfl).sub (ws' := (k_X11_agree T a_ a_trays a_words a_odds a_tokens a_bookReader a_roundsReader a_book a_draft a_marks a_ahead a_life a_lifeTold v_status v_marked v_hasLived)) [0] rfl rfl
      refine mp_calli (isC := [0]) (wc := (k_X11_agree T a_ a_trays a_words a_odds a_tokens a_bookReader a_roundsReader a_book a_draft a_marks a_ahead a_life a_lifeTold v_status v_marked v_hasLived)) (w1 := (k_X11_agree T a_ a_trays a_words a_odds a_tokens a_bookReader a_roundsReader a_book a_draft a_marks a_ahead a_life a_lifeTold u94 v_marked v_hasLived)) hP (mp_D_of hD rfl) hS hA rfl rfl (mp_runV (As := []) (rest := []) X me_X11_agree lk_X11_119 (c_X11_agree l D T a_ a_trays a_words a_odds a_tokens a_bookReader a_roundsReader a_book a_draft a_marks a_ahead a_life a_lifeTold v_marked v_hasLived v_status r93 u94 c95) rfl rfl ⟨(Nat.le_of_ble_eq_true rfl), (Nat.le_of_ble_eq_true rfl)⟩ hK hPc hDc rfl rfl rfl rfl hl.1 rfl (Nat.le_of_ble_eq_true rfl) dX11_pour_55 ⟨Nat.zero_le _, Nat.zero_le _⟩) (fun H locs hP _ hS => ?_)
      replace hP : va_P D mp_cl (k_X11_pour T a_ a_trays a_words a_odds a_tokens a_bookReader a_roundsReader a_book a_draft a_marks a_ahead a_life a_lifeTold a_trays_rows a_trays_sorts a_trays_lengths a_trays_rows_0 a_trays_rows_1 a_trays_rows_2 a_trays_rows_3 u94 v_marked v_hasLived v_trays_lengths v_trays_rows_0 (va_cpy v_trays_rows_3 v_trays_rows_1 (x2).toNatClampNeg (x4).toNatClampNeg (x5).toNatClampNeg) v_trays_rows_2 v_trays_rows_3 v_trays_sorts) H := hP
      obtain ⟨h96, hf⟩ := gd_of hf
      cases hf
      exact mp_retz X hP hS rfl h96 dX11_pour_58
    replace hf := if_f hf h91
    by_cases h97 : x3 = (nI 2)
    · replace hf := if_t hf h97
      rw [show va_rf (mp_ol [a_trays_rows_0, a_trays_rows_1, a_trays_rows_2, a_trays_rows_3] (x3).toNatClampNeg) = .ref a_trays_rows_2 from by rw [h97]; rfl]
      refine lv_iload hx hb dX11_pour_47 (lv_at hl 5 rfl) ?_
      refine lv_iload hx hb dX11_pour_49 (lv_at hl 6 rfl) ?_
      obtain ⟨h98, hf⟩ := gc_of hf
      refine va_copyl hx hb (hml.trans hl.1.symm) hown (hts _ lk_X11_139_ac) (hts _ ac_nat) (hts _ ac_stat) (hts _ ac_ini) hK hP (mp_D_of hD rfl) hS 7 6 1 1 rfl rfl rfl rfl rfl h98.1 h98.2.1 h98.2.2.1 h98.2.2.2.1 h98.2.2.2.2 (fun _ _ => rfl) (Nat.le_of_ble_eq_true rfl) (Nat.le_of_ble_eq_true rfl) dX11_pour_51 (fun H locs hP _ hS => ?_)
      replace hP : va_P D mp_cl (k_X11_pour T a_ a_trays a_words a_odds a_tokens a_bookReader a_roundsReader a_book a_draft a_marks a_ahead a_life a_lifeTold a_trays_rows a_trays_sorts a_trays_lengths a_trays_rows_0 a_trays_rows_1 a_trays_rows_2 a_trays_rows_3 v_status v_marked v_hasLived v_trays_lengths v_trays_rows_0 v_trays_rows_1 (va_cpy v_trays_rows_3 v_trays_rows_2 (x2).toNatClampNeg (x4).toNatClampNeg (x5).toNatClampNeg) v_trays_rows_3 v_trays_sorts) H := hP
      refine lv_aload_n hx hb dX11_pour_54 rfl (lv_at hl 1 rfl) ?_
      obtain ⟨⟨r99, u100⟩, c101, hf⟩ := bd_of hf
      dsimp only at hf
      have hPc := hP.sub (ws' := (k_X11_agree T a_ a_trays a_words a_odds a_tokens a_bookReader a_roundsReader a_book a_draft a_marks a_ahead a_life a_lifeTold v_status v_marked v_hasLived)) [0] rfl
      have hDc := (mp_D_of (w1 := (k_X11_pour T a_ a_trays a_words a_odds a_tokens a_bookReader a_roundsReader a_book a_draft a_marks a_ahead a_life a_lifeTold a_trays_rows a_trays_sorts a_trays_lengths a_trays_rows_0 a_trays_rows_1 a_trays_rows_2 a_trays_rows_3 v_status v_marked v_hasLived v_trays_lengths v_trays_rows_0 v_trays_rows_1 (va_cpy v_trays_rows_3 v_trays_rows_2 (x2).toNatClampNeg (x4).toNatClampNeg (x5).toNatClampNeg) v_trays_rows_3 v_trays_sorts)) hD rfl).sub (ws' := (k_X11_agree T a_ a_trays a_words a_odds a_tokens a_bookReader a_roundsReader a_book a_draft a_marks a_ahead a_life a_lifeTold v_status v_marked v_hasLived)) [0] rfl rfl
      refine mp_calli (isC := [0]) (wc := (k_X11_agree T a_ a_trays a_words a_odds a_tokens a_bookReader a_roundsReader a_book a_draft a_marks a_ahead a_life a_lifeTold v_status v_marked v_hasLived)) (w1 := (k_X11_agree T a_ a_trays a_words a_odds a_tokens a_bookReader a_roundsReader a_book a_draft a_marks a_ahead a_life a_lifeTold u100 v_marked v_hasLived)) hP (mp_D_of hD rfl) hS hA rfl rfl (mp_runV (As := []) (rest := []) X me_X11_agree lk_X11_119 (c_X11_agree l D T a_ a_trays a_words a_odds a_tokens a_bookReader a_roundsReader a_book a_draft a_marks a_ahead a_life a_lifeTold v_marked v_hasLived v_status r99 u100 c101) rfl rfl ⟨(Nat.le_of_ble_eq_true rfl), (Nat.le_of_ble_eq_true rfl)⟩ hK hPc hDc rfl rfl rfl rfl hl.1 rfl (Nat.le_of_ble_eq_true rfl) dX11_pour_55 ⟨Nat.zero_le _, Nat.zero_le _⟩) (fun H locs hP _ hS => ?_)
      replace hP : va_P D mp_cl (k_X11_pour T a_ a_trays a_words a_odds a_tokens a_bookReader a_roundsReader a_book a_draft a_marks a_ahead a_life a_lifeTold a_trays_rows a_trays_sorts a_trays_lengths a_trays_rows_0 a_trays_rows_1 a_trays_rows_2 a_trays_rows_3 u100 v_marked v_hasLived v_trays_lengths v_trays_rows_0 v_trays_rows_1 (va_cpy v_trays_rows_3 v_trays_rows_2 (x2).toNatClampNeg (x4).toNatClampNeg (x5).toNatClampNeg) v_trays_rows_3 v_trays_sorts) H := hP
      obtain ⟨h102, hf⟩ := gd_of hf
      cases hf
      exact mp_retz X hP hS rfl h102 dX11_pour_58
    replace hf := if_f hf h97
    have h103 : x3 = (nI 3) := mp_last4 h84 h85 h91 h97
    rw [show va_rf (mp_ol [a_trays_rows_0, a_trays_rows_1, a_trays_rows_2, a_trays_rows_3] (x3).toNatClampNeg) = .ref a_trays_rows_3 from by rw [h103]; rfl]
    refine lv_iload hx hb dX11_pour_47 (lv_at hl 5 rfl) ?_
    refine lv_iload hx hb dX11_pour_49 (lv_at hl 6 rfl) ?_
    obtain ⟨h104, hf⟩ := gc_of hf
    refine va_copyl hx hb (hml.trans hl.1.symm) hown (hts _ lk_X11_139_ac) (hts _ ac_nat) (hts _ ac_stat) (hts _ ac_ini) hK hP (mp_D_of hD rfl) hS 7 7 1 1 rfl rfl rfl rfl rfl h104.1 h104.2.1 h104.2.2.1 h104.2.2.2.1 h104.2.2.2.2 (fun _ _ => rfl) (Nat.le_of_ble_eq_true rfl) (Nat.le_of_ble_eq_true rfl) dX11_pour_51 (fun H locs hP _ hS => ?_)
    replace hP : va_P D mp_cl (k_X11_pour T a_ a_trays a_words a_odds a_tokens a_bookReader a_roundsReader a_book a_draft a_marks a_ahead a_life a_lifeTold a_trays_rows a_trays_sorts a_trays_lengths a_trays_rows_0 a_trays_rows_1 a_trays_rows_2 a_trays_rows_3 v_status v_marked v_hasLived v_trays_lengths v_trays_rows_0 v_trays_rows_1 v_trays_rows_2 (va_cpy v_trays_rows_3 v_trays_rows_3 (x2).toNatClampNeg (x4).toNatClampNeg (x5).toNatClampNeg) v_trays_sorts) H := hP
    refine lv_aload_n hx hb dX11_pour_54 rfl (lv_at hl 1 rfl) ?_
    obtain ⟨⟨r105, u106⟩, c107, hf⟩ := bd_of hf
    dsimp only at hf
    have hPc := hP.sub (ws' := (k_X11_agree T a_ a_trays a_words a_odds a_tokens a_bookReader a_roundsReader a_book a_draft a_marks a_ahead a_life a_lifeTold v_status v_marked v_hasLived)) [0] rfl
    have hDc := (mp_D_of (w1 := (k_X11_pour T a_ a_trays a_words a_odds a_tokens a_bookReader a_roundsReader a_book a_draft a_marks a_ahead a_life a_lifeTold a_trays_rows a_trays_sorts a_trays_lengths a_trays_rows_0 a_trays_rows_1 a_trays_rows_2 a_trays_rows_3 v_status v_marked v_hasLived v_trays_lengths v_trays_rows_0 v_trays_rows_1 v_trays_rows_2 (va_cpy v_trays_rows_3 v_trays_rows_3 (x2).toNatClampNeg (x4).toNatClampNeg (x5).toNatClampNeg) v_trays_sorts)) hD rfl).sub (ws' := (k_X11_agree T a_ a_trays a_words a_odds a_tokens a_bookReader a_roundsReader a_book a_draft a_marks a_ahead a_life a_lifeTold v_status v_marked v_hasLived)) [0] rfl rfl
    refine mp_calli (isC := [0]) (wc := (k_X11_agree T a_ a_trays a_words a_odds a_tokens a_bookReader a_roundsReader a_book a_draft a_marks a_ahead a_life a_lifeTold v_status v_marked v_hasLived)) (w1 := (k_X11_agree T a_ a_trays a_words a_odds a_tokens a_bookReader a_roundsReader a_book a_draft a_marks a_ahead a_life a_lifeTold u106 v_marked v_hasLived)) hP (mp_D_of hD rfl) hS hA rfl rfl (mp_runV (As := []) (rest := []) X me_X11_agree lk_X11_119 (c_X11_agree l D T a_ a_trays a_words a_odds a_tokens a_bookReader a_roundsReader a_book a_draft a_marks a_ahead a_life a_lifeTold v_marked v_hasLived v_status r105 u106 c107) rfl rfl ⟨(Nat.le_of_ble_eq_true rfl), (Nat.le_of_ble_eq_true rfl)⟩ hK hPc hDc rfl rfl rfl rfl hl.1 rfl (Nat.le_of_ble_eq_true rfl) dX11_pour_55 ⟨Nat.zero_le _, Nat.zero_le _⟩) (fun H locs hP _ hS => ?_)
    replace hP : va_P D mp_cl (k_X11_pour T a_ a_trays a_words a_odds a_tokens a_bookReader a_roundsReader a_book a_draft a_marks a_ahead a_life a_lifeTold a_trays_rows a_trays_sorts a_trays_lengths a_trays_rows_0 a_trays_rows_1 a_trays_rows_2 a_trays_rows_3 u106 v_marked v_hasLived v_trays_lengths v_trays_rows_0 v_trays_rows_1 v_trays_rows_2 (va_cpy v_trays_rows_3 v_trays_rows_3 (x2).toNatClampNeg (x4).toNatClampNeg (x5).toNatClampNeg) v_trays_sorts) H := hP
    obtain ⟨h108, hf⟩ := gd_of hf
    cases hf
    exact mp_retz X hP hS rfl h108 dX11_pour_58
  · replace hf := if_f hf h3
    refine lv_aload_n hx hb dX11_pour_21 rfl (lv_at hl 1 rfl) ?_
    refine lv_iload hx hb dX11_pour_22 (lv_at hl 0 rfl) ?_
    obtain ⟨⟨r109, u110⟩, c111, hf⟩ := bd_of hf
    dsimp only at hf
    have hPc := hP.sub (ws' := (k_X11_deny T a_ a_trays a_words a_odds a_tokens a_bookReader a_roundsReader a_book a_draft a_marks a_ahead a_life a_lifeTold v_status v_marked v_hasLived)) [0] rfl
    have hDc := (mp_D_of (w1 := (k_X11_pour T a_ a_trays a_words a_odds a_tokens a_bookReader a_roundsReader a_book a_draft a_marks a_ahead a_life a_lifeTold a_trays_rows a_trays_sorts a_trays_lengths a_trays_rows_0 a_trays_rows_1 a_trays_rows_2 a_trays_rows_3 v_status v_marked v_hasLived v_trays_lengths v_trays_rows_0 v_trays_rows_1 v_trays_rows_2 v_trays_rows_3 v_trays_sorts)) hD rfl).sub (ws' := (k_X11_deny T a_ a_trays a_words a_odds a_tokens a_bookReader a_roundsReader a_book a_draft a_marks a_ahead a_life a_lifeTold v_status v_marked v_hasLived)) [0] rfl rfl
    refine mp_calli (isC := [0]) (wc := (k_X11_deny T a_ a_trays a_words a_odds a_tokens a_bookReader a_roundsReader a_book a_draft a_marks a_ahead a_life a_lifeTold v_status v_marked v_hasLived)) (w1 := (k_X11_deny T a_ a_trays a_words a_odds a_tokens a_bookReader a_roundsReader a_book a_draft a_marks a_ahead a_life a_lifeTold u110 v_marked v_hasLived)) hP (mp_D_of hD rfl) hS hA rfl rfl (mp_runV (As := [.int r1]) (rest := []) X me_X11_deny lk_X11_112 (c_X11_deny l D T a_ a_trays a_words a_odds a_tokens a_bookReader a_roundsReader a_book a_draft a_marks a_ahead a_life a_lifeTold r1 v_marked v_hasLived v_status r109 u110 c111) rfl rfl ⟨(Nat.le_of_ble_eq_true rfl), (Nat.le_of_ble_eq_true rfl)⟩ hK hPc hDc rfl rfl rfl rfl hl.1 rfl (Nat.le_of_ble_eq_true rfl) dX11_pour_24 ⟨Nat.zero_le _, Nat.zero_le _⟩) (fun H locs hP _ hS => ?_)
    replace hP : va_P D mp_cl (k_X11_pour T a_ a_trays a_words a_odds a_tokens a_bookReader a_roundsReader a_book a_draft a_marks a_ahead a_life a_lifeTold a_trays_rows a_trays_sorts a_trays_lengths a_trays_rows_0 a_trays_rows_1 a_trays_rows_2 a_trays_rows_3 u110 v_marked v_hasLived v_trays_lengths v_trays_rows_0 v_trays_rows_1 v_trays_rows_2 v_trays_rows_3 v_trays_sorts) H := hP
    obtain ⟨h112, hf⟩ := gd_of hf
    cases hf
    exact mp_retz X hP hS rfl h112 dX11_pour_27


def k_X11_feed (T : Nat → ClassId) (a_ a_trays a_words a_odds a_tokens a_bookReader a_roundsReader a_book a_draft a_marks a_ahead a_life a_lifeTold a_tokens_tape a_tokens_keys : Nat) (v_status : Int32) (v_marked : Int32) (v_hasLived : Int32) (v_tokens_filled : Int32) (v_tokens_end : Int32) (v_tokens_at : Int32) (v_tokens_kind : Int32) (v_tokens_place : Int32) (v_tokens_word : Int64) (v_tokens_key : Int32) (v_tokens_number : Int32) (v_tokens_faultKind : Int32) (v_tokens_faultPlace : Int32) (v_tokens_tape : (Nat → Int32)) : va_W := [(a_, oX11 v_status a_trays a_words a_odds a_tokens a_bookReader a_roundsReader a_book a_draft a_marks v_marked a_ahead a_life a_lifeTold v_hasLived), (a_tokens, oX8 a_tokens_tape v_tokens_filled v_tokens_end v_tokens_at v_tokens_kind v_tokens_place v_tokens_word v_tokens_key v_tokens_number v_tokens_faultKind v_tokens_faultPlace a_tokens_keys), (a_tokens_tape, mp_aB T 900 v_tokens_tape)]
set_option maxHeartbeats 4000000 in
set_option maxRecDepth 100000 in
theorem c_X11_feed (l : Launch) (D : va_G) (T : Nat → ClassId) (fu : Nat) (a_ a_trays a_words a_odds a_tokens a_bookReader a_roundsReader a_book a_draft a_marks a_ahead a_life a_lifeTold a_tokens_tape a_tokens_keys : Nat) (x1 : Int32) (x2 : Int32) (x3 : Int32) (x4 : Int32) (x5 : Int32) (v_status : Int32) (v_marked : Int32) (v_hasLived : Int32) (v_tokens_end : Int32) (v_tokens_at : Int32) (v_tokens_kind : Int32) (v_tokens_place : Int32) (v_tokens_word : Int64) (v_tokens_key : Int32) (v_tokens_number : Int32) (v_tokens_faultKind : Int32) (v_tokens_faultPlace : Int32) (v_tokens_filled : Int32) (v_tokens_tape : (Nat → Int32)) (r_ : Int32) (o_tokens_filled : Int32) (o_tokens_tape : (Nat → Int32)) (hf : f_X11_feed fu x1 x2 x3 x4 x5 v_tokens_filled v_tokens_tape = some (r_, o_tokens_filled, o_tokens_tape)) :
    mp_M l D T yX11_feed cX11_feed 6 (some .int) ({ frames := 1, cells := 0, slots := 0, locals := 22 }) 0 0 [.ref a_, .int x1, .int x2, .int x3, .int x4, .int x5] (k_X11_feed T a_ a_trays a_words a_odds a_tokens a_bookReader a_roundsReader a_book a_draft a_marks a_ahead a_life a_lifeTold a_tokens_tape a_tokens_keys v_status v_marked v_hasLived v_tokens_filled v_tokens_end v_tokens_at v_tokens_kind v_tokens_place v_tokens_word v_tokens_key v_tokens_number v_tokens_faultKind v_tokens_faultPlace v_tokens_tape) (mp_Qi D r_ (k_X11_feed T a_ a_trays a_words a_odds a_tokens a_bookReader a_roundsReader a_book a_draft a_marks a_ahead a_life a_lifeTold a_tokens_tape a_tokens_keys v_status v_marked v_hasLived o_tokens_filled v_tokens_end v_tokens_at v_tokens_kind v_tokens_place v_tokens_word v_tokens_key v_tokens_number v_tokens_faultKind v_tokens_faultPlace o_tokens_tape)) := by
  refine mp_of (by decide) (Nat.le_of_ble_eq_true rfl) rfl ?_
  intro p e s m args below meth c A ls X hK hP hD hS hA hl
  replace X : mp_X p s m meth c args RX11 "feed" cX11_feed 6 (some .int) := X
  have hx := X.1
  have hb := X.2.1
  have hml := X.2.2.1
  have hown := X.2.2.2.2.1
  have hts := X.2.2.2.2.2.1
  replace hl : lv_has ls 6 [(0, .ref a_), (1, .int x1), (2, .int x2), (3, .int x3), (4, .int x4), (5, .int x5)] := hl
  replace hf : bd_ (f_X8_hasRoomFor (nI 20) v_tokens_filled) (fun (r1 : Int32) => (if r1 = 0 then some ((-1 : Int32), v_tokens_filled, v_tokens_tape) else bd_ (f_X8_append fu x1 v_tokens_filled v_tokens_tape) (fun (z : Int32 × (Nat → Int32)) => match z with | (u4, u5) => bd_ (f_X8_append fu x2 u4 u5) (fun (z : Int32 × (Nat → Int32)) => match z with | (u7, u8) => bd_ (f_X8_append fu x3 u7 u8) (fun (z : Int32 × (Nat → Int32)) => match z with | (u10, u11) => bd_ (f_X8_append fu x4 u10 u11) (fun (z : Int32 × (Nat → Int32)) => match z with | (u13, u14) => bd_ (f_X8_append fu x5 u13 u14) (fun (z : Int32 × (Nat → Int32)) => match z with | (u16, u17) => some (u16, u16, u17)))))))) = some (r_, o_tokens_filled, o_tokens_tape) := hf
  refine lv_aload_n hx hb dX11_feed_0 rfl (lv_at hl 0 rfl) ?_
  refine mp_get X fl_X11_37 hK hP 0 rfl rfl dX11_feed_1 ?_
  refine lv_bipush (v := (nI 20)) hx hb dX11_feed_4 (by decide) ?_
  obtain ⟨r1, c2, hf⟩ := bd_of hf
  have hPc := hP.sub (ws' := (k_X8_hasRoomFor T a_tokens a_tokens_tape a_tokens_keys v_tokens_filled v_tokens_end v_tokens_at v_tokens_kind v_tokens_place v_tokens_word v_tokens_key v_tokens_number v_tokens_faultKind v_tokens_faultPlace)) [1] rfl
  have hDc := (mp_D_of (w1 := (k_X11_feed T a_ a_trays a_words a_odds a_tokens a_bookReader a_roundsReader a_book a_draft a_marks a_ahead a_life a_lifeTold a_tokens_tape a_tokens_keys v_status v_marked v_hasLived v_tokens_filled v_tokens_end v_tokens_at v_tokens_kind v_tokens_place v_tokens_word v_tokens_key v_tokens_number v_tokens_faultKind v_tokens_faultPlace v_tokens_tape)) hD rfl).sub (ws' := (k_X8_hasRoomFor T a_tokens a_tokens_tape a_tokens_keys v_tokens_filled v_tokens_end v_tokens_at v_tokens_kind v_tokens_place v_tokens_word v_tokens_key v_tokens_number v_tokens_faultKind v_tokens_faultPlace)) [1] rfl rfl
  refine mp_calli (isC := [1]) (wc := (k_X8_hasRoomFor T a_tokens a_tokens_tape a_tokens_keys v_tokens_filled v_tokens_end v_tokens_at v_tokens_kind v_tokens_place v_tokens_word v_tokens_key v_tokens_number v_tokens_faultKind v_tokens_faultPlace)) (w1 := (k_X8_hasRoomFor T a_tokens a_tokens_tape a_tokens_keys v_tokens_filled v_tokens_end v_tokens_at v_tokens_kind v_tokens_place v_tokens_word v_tokens_key v_tokens_number v_tokens_faultKind v_tokens_faultPlace)) hP (mp_D_of hD rfl) hS hA rfl rfl (mp_runV (As := [.int (nI 20)]) (rest := []) X me_X8_hasRoomFor lk_X11_145 (c_X8_hasRoomFor l D T a_tokens a_tokens_tape a_tokens_keys (nI 20) v_tokens_end v_tokens_at v_tokens_kind v_tokens_place v_tokens_word v_tokens_key v_tokens_number v_tokens_faultKind v_tokens_faultPlace v_tokens_filled r1 c2) rfl rfl ⟨(Nat.le_of_ble_eq_true rfl), (Nat.le_of_ble_eq_true rfl)⟩ hK hPc hDc rfl rfl rfl rfl hl.1 rfl (Nat.le_of_ble_eq_true rfl) dX11_feed_6 ⟨Nat.zero_le _, Nat.zero_le _⟩) (fun H locs hP _ hS => ?_)
  replace hP : va_P D mp_cl (k_X11_feed T a_ a_trays a_words a_odds a_tokens a_bookReader a_roundsReader a_book a_draft a_marks a_ahead a_life a_lifeTold a_tokens_tape a_tokens_keys v_status v_marked v_hasLived v_tokens_filled v_tokens_end v_tokens_at v_tokens_kind v_tokens_place v_tokens_word v_tokens_key v_tokens_number v_tokens_faultKind v_tokens_faultPlace v_tokens_tape) H := hP
  refine lv_if_ne (tgt := 14) hx hb dX11_feed_9 (by decide) (fun h3 => ?_) (fun h3 => ?_)
  · replace hf := if_f hf h3
    refine lv_aload_n hx hb dX11_feed_14 rfl (lv_at hl 0 rfl) ?_
    refine mp_get X fl_X11_37 hK hP 0 rfl rfl dX11_feed_15 ?_
    refine lv_iload_n hx hb dX11_feed_18 rfl (lv_at hl 1 rfl) ?_
    obtain ⟨⟨u4, u5⟩, c6, hf⟩ := bd_of hf
    dsimp only at hf
    have hPc := hP.sub (ws' := (k_X8_append T a_tokens a_tokens_tape a_tokens_keys v_tokens_filled v_tokens_end v_tokens_at v_tokens_kind v_tokens_place v_tokens_word v_tokens_key v_tokens_number v_tokens_faultKind v_tokens_faultPlace v_tokens_tape)) [1, 2] rfl
    have hDc := (mp_D_of (w1 := (k_X11_feed T a_ a_trays a_words a_odds a_tokens a_bookReader a_roundsReader a_book a_draft a_marks a_ahead a_life a_lifeTold a_tokens_tape a_tokens_keys v_status v_marked v_hasLived v_tokens_filled v_tokens_end v_tokens_at v_tokens_kind v_tokens_place v_tokens_word v_tokens_key v_tokens_number v_tokens_faultKind v_tokens_faultPlace v_tokens_tape)) hD rfl).sub (ws' := (k_X8_append T a_tokens a_tokens_tape a_tokens_keys v_tokens_filled v_tokens_end v_tokens_at v_tokens_kind v_tokens_place v_tokens_word v_tokens_key v_tokens_number v_tokens_faultKind v_tokens_faultPlace v_tokens_tape)) [1, 2] rfl rfl
    refine mp_callv (isC := [1, 2]) (wc := (k_X8_append T a_tokens a_tokens_tape a_tokens_keys v_tokens_filled v_tokens_end v_tokens_at v_tokens_kind v_tokens_place v_tokens_word v_tokens_key v_tokens_number v_tokens_faultKind v_tokens_faultPlace v_tokens_tape)) (w1 := (k_X8_append T a_tokens a_tokens_tape a_tokens_keys u4 v_tokens_end v_tokens_at v_tokens_kind v_tokens_place v_tokens_word v_tokens_key v_tokens_number v_tokens_faultKind v_tokens_faultPlace u5)) hP (mp_D_of hD rfl) hS hA rfl rfl (mp_runV (As := [.int x1]) (rest := []) X me_X8_append lk_X11_148 (c_X8_append l D T fu a_tokens a_tokens_tape a_tokens_keys x1 v_tokens_end v_tokens_at v_tokens_kind v_tokens_place v_tokens_word v_tokens_key v_tokens_number v_tokens_faultKind v_tokens_faultPlace v_tokens_filled v_tokens_tape u4 u5 c6) rfl rfl ⟨(Nat.le_of_ble_eq_true rfl), (Nat.le_of_ble_eq_true rfl)⟩ hK hPc hDc rfl rfl rfl rfl hl.1 rfl (Nat.le_of_ble_eq_true rfl) dX11_feed_19 ⟨Nat.zero_le _, Nat.zero_le _⟩) (fun H locs hP _ hS => ?_)
    replace hP : va_P D mp_cl (k_X11_feed T a_ a_trays a_words a_odds a_tokens a_bookReader a_roundsReader a_book a_draft a_marks a_ahead a_life a_lifeTold a_tokens_tape a_tokens_keys v_status v_marked v_hasLived u4 v_tokens_end v_tokens_at v_tokens_kind v_tokens_place v_tokens_word v_tokens_key v_tokens_number v_tokens_faultKind v_tokens_faultPlace u5) H := hP
    refine lv_aload_n hx hb dX11_feed_22 rfl (lv_at hl 0 rfl) ?_
    refine mp_get X fl_X11_37 hK hP 0 rfl rfl dX11_feed_23 ?_
    refine lv_iload_n hx hb dX11_feed_26 rfl (lv_at hl 2 rfl) ?_
    obtain ⟨⟨u7, u8⟩, c9, hf⟩ := bd_of hf
    dsimp only at hf
    have hPc := hP.sub (ws' := (k_X8_append T a_tokens a_tokens_tape a_tokens_keys u4 v_tokens_end v_tokens_at v_tokens_kind v_tokens_place v_tokens_word v_tokens_key v_tokens_number v_tokens_faultKind v_tokens_faultPlace u5)) [1, 2] rfl
    have hDc := (mp_D_of (w1 := (k_X11_feed T a_ a_trays a_words a_odds a_tokens a_bookReader a_roundsReader a_book a_draft a_marks a_ahead a_life a_lifeTold a_tokens_tape a_tokens_keys v_status v_marked v_hasLived u4 v_tokens_end v_tokens_at v_tokens_kind v_tokens_place v_tokens_word v_tokens_key v_tokens_number v_tokens_faultKind v_tokens_faultPlace u5)) hD rfl).sub (ws' := (k_X8_append T a_tokens a_tokens_tape a_tokens_keys u4 v_tokens_end v_tokens_at v_tokens_kind v_tokens_place v_tokens_word v_tokens_key v_tokens_number v_tokens_faultKind v_tokens_faultPlace u5)) [1, 2] rfl rfl
    refine mp_callv (isC := [1, 2]) (wc := (k_X8_append T a_tokens a_tokens_tape a_tokens_keys u4 v_tokens_end v_tokens_at v_tokens_kind v_tokens_place v_tokens_word v_tokens_key v_tokens_number v_tokens_faultKind v_tokens_faultPlace u5)) (w1 := (k_X8_append T a_tokens a_tokens_tape a_tokens_keys u7 v_tokens_end v_tokens_at v_tokens_kind v_tokens_place v_tokens_word v_tokens_key v_tokens_number v_tokens_faultKind v_tokens_faultPlace u8)) hP (mp_D_of hD rfl) hS hA rfl rfl (mp_runV (As := [.int x2]) (rest := []) X me_X8_append lk_X11_148 (c_X8_append l D T fu a_tokens a_tokens_tape a_tokens_keys x2 v_tokens_end v_tokens_at v_tokens_kind v_tokens_place v_tokens_word v_tokens_key v_tokens_number v_tokens_faultKind v_tokens_faultPlace u4 u5 u7 u8 c9) rfl rfl ⟨(Nat.le_of_ble_eq_true rfl), (Nat.le_of_ble_eq_true rfl)⟩ hK hPc hDc rfl rfl rfl rfl hl.1 rfl (Nat.le_of_ble_eq_true rfl) dX11_feed_27 ⟨Nat.zero_le _, Nat.zero_le _⟩) (fun H locs hP _ hS => ?_)
    replace hP : va_P D mp_cl (k_X11_feed T a_ a_trays a_words a_odds a_tokens a_bookReader a_roundsReader a_book a_draft a_marks a_ahead a_life a_lifeTold a_tokens_tape a_tokens_keys v_status v_marked v_hasLived u7 v_tokens_end v_tokens_at v_tokens_kind v_tokens_place v_tokens_word v_tokens_key v_tokens_number v_tokens_faultKind v_tokens_faultPlace u8) H := hP
    refine lv_aload_n hx hb dX11_feed_30 rfl (lv_at hl 0 rfl) ?_
    refine mp_get X fl_X11_37 hK hP 0 rfl rfl dX11_feed_31 ?_
    refine lv_iload_n hx hb dX11_feed_34 rfl (lv_at hl 3 rfl) ?_
    obtain ⟨⟨u10, u11⟩, c12, hf⟩ := bd_of hf
    dsimp only at hf
    have hPc := hP.sub (ws' := (k_X8_append T a_tokens a_tokens_tape a_tokens_keys u7 v_tokens_end v_tokens_at v_tokens_kind v_tokens_place v_tokens_word v_tokens_key v_tokens_number v_tokens_faultKind v_tokens_faultPlace u8)) [1, 2] rfl
    have hDc := (mp_D_of (w1 := (k_X11_feed T a_ a_trays a_words a_odds a_tokens a_bookReader a_roundsReader a_book a_draft a_marks a_ahead a_life a_lifeTold a_tokens_tape a_tokens_keys v_status v_marked v_hasLived u7 v_tokens_end v_tokens_at v_tokens_kind v_tokens_place v_tokens_word v_tokens_key v_tokens_number v_tokens_faultKind v_tokens_faultPlace u8)) hD rfl).sub (ws' := (k_X8_append T a_tokens a_tokens_tape a_tokens_keys u7 v_tokens_end v_tokens_at v_tokens_kind v_tokens_place v_tokens_word v_tokens_key v_tokens_number v_tokens_faultKind v_tokens_faultPlace u8)) [1, 2] rfl rfl
    refine mp_callv (isC := [1, 2]) (wc := (k_X8_append T a_tokens a_tokens_tape a_tokens_keys u7 v_tokens_end v_tokens_at v_tokens_kind v_tokens_place v_tokens_word v_tokens_key v_tokens_number v_tokens_faultKind v_tokens_faultPlace u8)) (w1 := (k_X8_append T a_tokens a_tokens_tape a_tokens_keys u10 v_tokens_end v_tokens_at v_tokens_kind v_tokens_place v_tokens_word v_tokens_key v_tokens_number v_tokens_faultKind v_tokens_faultPlace u11)) hP (mp_D_of hD rfl) hS hA rfl rfl (mp_runV (As := [.int x3]) (rest := []) X me_X8_append lk_X11_148 (c_X8_append l D T fu a_tokens a_tokens_tape a_tokens_keys x3 v_tokens_end v_tokens_at v_tokens_kind v_tokens_place v_tokens_word v_tokens_key v_tokens_number v_tokens_faultKind v_tokens_faultPlace u7 u8 u10 u11 c12) rfl rfl ⟨(Nat.le_of_ble_eq_true rfl), (Nat.le_of_ble_eq_true rfl)⟩ hK hPc hDc rfl rfl rfl rfl hl.1 rfl (Nat.le_of_ble_eq_true rfl) dX11_feed_35 ⟨Nat.zero_le _, Nat.zero_le _⟩) (fun H locs hP _ hS => ?_)
    replace hP : va_P D mp_cl (k_X11_feed T a_ a_trays a_words a_odds a_tokens a_bookReader a_roundsReader a_book a_draft a_marks a_ahead a_life a_lifeTold a_tokens_tape a_tokens_keys v_status v_marked v_hasLived u10 v_tokens_end v_tokens_at v_tokens_kind v_tokens_place v_tokens_word v_tokens_key v_tokens_number v_tokens_faultKind v_tokens_faultPlace u11) H := hP
    refine lv_aload_n hx hb dX11_feed_38 rfl (lv_at hl 0 rfl) ?_
    refine mp_get X fl_X11_37 hK hP 0 rfl rfl dX11_feed_39 ?_
    refine lv_iload hx hb dX11_feed_42 (lv_at hl 4 rfl) ?_
    obtain ⟨⟨u13, u14⟩, c15, hf⟩ := bd_of hf
    dsimp only at hf
    have hPc := hP.sub (ws' := (k_X8_append T a_tokens a_tokens_tape a_tokens_keys u10 v_tokens_end v_tokens_at v_tokens_kind v_tokens_place v_tokens_word v_tokens_key v_tokens_number v_tokens_faultKind v_tokens_faultPlace u11)) [1, 2] rfl
    have hDc := (mp_D_of (w1 := (k_X11_feed T a_ a_trays a_words a_odds a_tokens a_bookReader a_roundsReader a_book a_draft a_marks a_ahead a_life a_lifeTold a_tokens_tape a_tokens_keys v_status v_marked v_hasLived u10 v_tokens_end v_tokens_at v_tokens_kind v_tokens_place v_tokens_word v_tokens_key v_tokens_number v_tokens_faultKind v_tokens_faultPlace u11)) hD rfl).sub (ws' := (k_X8_append T a_tokens a_tokens_tape a_tokens_keys u10 v_tokens_end v_tokens_at v_tokens_kind v_tokens_place v_tokens_word v_tokens_key v_tokens_number v_tokens_faultKind v_tokens_faultPlace u11)) [1, 2] rfl rfl
    refine mp_callv (isC := [1, 2]) (wc := (k_X8_append T a_tokens a_tokens_tape a_tokens_keys u10 v_tokens_end v_tokens_at v_tokens_kind v_tokens_place v_tokens_word v_tokens_key v_tokens_number v_tokens_faultKind v_tokens_faultPlace u11)) (w1 := (k_X8_append T a_tokens a_tokens_tape a_tokens_keys u13 v_tokens_end v_tokens_at v_tokens_kind v_tokens_place v_tokens_word v_tokens_key v_tokens_number v_tokens_faultKind v_tokens_faultPlace u14)) hP (mp_D_of hD rfl) hS hA rfl rfl (mp_runV (As := [.int x4]) (rest := []) X me_X8_append lk_X11_148 (c_X8_append l D T fu a_tokens a_tokens_tape a_tokens_keys x4 v_tokens_end v_tokens_at v_tokens_kind v_tokens_place v_tokens_word v_tokens_key v_tokens_number v_tokens_faultKind v_tokens_faultPlace u10 u11 u13 u14 c15) rfl rfl ⟨(Nat.le_of_ble_eq_true rfl), (Nat.le_of_ble_eq_true rfl)⟩ hK hPc hDc rfl rfl rfl rfl hl.1 rfl (Nat.le_of_ble_eq_true rfl) dX11_feed_44 ⟨Nat.zero_le _, Nat.zero_le _⟩) (fun H locs hP _ hS => ?_)
    replace hP : va_P D mp_cl (k_X11_feed T a_ a_trays a_words a_odds a_tokens a_bookReader a_roundsReader a_book a_draft a_marks a_ahead a_life a_lifeTold a_tokens_tape a_tokens_keys v_status v_marked v_hasLived u13 v_tokens_end v_tokens_at v_tokens_kind v_tokens_place v_tokens_word v_tokens_key v_tokens_number v_tokens_faultKind v_tokens_faultPlace u14) H := hP
    refine lv_aload_n hx hb dX11_feed_47 rfl (lv_at hl 0 rfl) ?_
    refine mp_get X fl_X11_37 hK hP 0 rfl rfl dX11_feed_48 ?_
    refine lv_iload hx hb dX11_feed_51 (lv_at hl 5 rfl) ?_
    obtain ⟨⟨u16, u17⟩, c18, hf⟩ := bd_of hf
    dsimp only at hf
    have hPc := hP.sub (ws' := (k_X8_append T a_tokens a_tokens_tape a_tokens_keys u13 v_tokens_end v_tokens_at v_tokens_kind v_tokens_place v_tokens_word v_tokens_key v_tokens_number v_tokens_faultKind v_tokens_faultPlace u14)) [1, 2] rfl
    have hDc := (mp_D_of (w1 := (k_X11_feed T a_ a_trays a_words a_odds a_tokens a_bookReader a_roundsReader a_book a_draft a_marks a_ahead a_life a_lifeTold a_tokens_tape a_tokens_keys v_status v_marked v_hasLived u13 v_tokens_end v_tokens_at v_tokens_kind v_tokens_place v_tokens_word v_tokens_key v_tokens_number v_tokens_faultKind v_tokens_faultPlace u14)) hD rfl).sub (ws' := (k_X8_append T a_tokens a_tokens_tape a_tokens_keys u13 v_tokens_end v_tokens_at v_tokens_kind v_tokens_place v_tokens_word v_tokens_key v_tokens_number v_tokens_faultKind v_tokens_faultPlace u14)) [1, 2] rfl rfl
    refine mp_callv (isC := [1, 2]) (wc := (k_X8_append T a_tokens a_tokens_tape a_tokens_keys u13 v_tokens_end v_tokens_at v_tokens_kind v_tokens_place v_tokens_word v_tokens_key v_tokens_number v_tokens_faultKind v_tokens_faultPlace u14)) (w1 := (k_X8_append T a_tokens a_tokens_tape a_tokens_keys u16 v_tokens_end v_tokens_at v_tokens_kind v_tokens_place v_tokens_word v_tokens_key v_tokens_number v_tokens_faultKind v_tokens_faultPlace u17)) hP (mp_D_of hD rfl) hS hA rfl rfl (mp_runV (As := [.int x5]) (rest := []) X me_X8_append lk_X11_148 (c_X8_append l D T fu a_tokens a_tokens_tape a_tokens_keys x5 v_tokens_end v_tokens_at v_tokens_kind v_tokens_place v_tokens_word v_tokens_key v_tokens_number v_tokens_faultKind v_tokens_faultPlace u13 u14 u16 u17 c18) rfl rfl ⟨(Nat.le_of_ble_eq_true rfl), (Nat.le_of_ble_eq_true rfl)⟩ hK hPc hDc rfl rfl rfl rfl hl.1 rfl (Nat.le_of_ble_eq_true rfl) dX11_feed_53 ⟨Nat.zero_le _, Nat.zero_le _⟩) (fun H locs hP _ hS => ?_)
    replace hP : va_P D mp_cl (k_X11_feed T a_ a_trays a_words a_odds a_tokens a_bookReader a_roundsReader a_book a_draft a_marks a_ahead a_life a_lifeTold a_tokens_tape a_tokens_keys v_status v_marked v_hasLived u16 v_tokens_end v_tokens_at v_tokens_kind v_tokens_place v_tokens_word v_tokens_key v_tokens_number v_tokens_faultKind v_tokens_faultPlace u17) H := hP
    refine lv_aload_n hx hb dX11_feed_56 rfl (lv_at hl 0 rfl) ?_
    refine mp_get X fl_X11_37 hK hP 0 rfl rfl dX11_feed_57 ?_
    refine mp_get X fl_X11_152 hK hP 1 rfl rfl dX11_feed_60 ?_
    cases hf
    exact mp_reti X hP hS rfl dX11_feed_63
  · replace hf := if_t hf h3
    refine lv_iconst (v := (-1 : Int32)) hx hb dX11_feed_12 (by decide) ?_
    cases hf
    exact mp_reti X hP hS rfl dX11_feed_13


def k_X11_fault (T : Nat → ClassId) (a_ a_trays a_words a_odds a_tokens a_bookReader a_roundsReader a_book a_draft a_marks a_ahead a_life a_lifeTold a_tokens_tape a_tokens_keys : Nat) (v_status : Int32) (v_marked : Int32) (v_hasLived : Int32) (v_tokens_filled : Int32) (v_tokens_end : Int32) (v_tokens_at : Int32) (v_tokens_kind : Int32) (v_tokens_place : Int32) (v_tokens_word : Int64) (v_tokens_key : Int32) (v_tokens_number : Int32) (v_tokens_faultKind : Int32) (v_tokens_faultPlace : Int32) : va_W := [(a_, oX11 v_status a_trays a_words a_odds a_tokens a_bookReader a_roundsReader a_book a_draft a_marks v_marked a_ahead a_life a_lifeTold v_hasLived), (a_tokens, oX8 a_tokens_tape v_tokens_filled v_tokens_end v_tokens_at v_tokens_kind v_tokens_place v_tokens_word v_tokens_key v_tokens_number v_tokens_faultKind v_tokens_faultPlace a_tokens_keys)]
set_option maxHeartbeats 4000000 in
set_option maxRecDepth 100000 in
theorem c_X11_fault (l : Launch) (D : va_G) (T : Nat → ClassId) (a_ a_trays a_words a_odds a_tokens a_bookReader a_roundsReader a_book a_draft a_marks a_ahead a_life a_lifeTold a_tokens_tape a_tokens_keys : Nat) (x1 : Int32) (v_status : Int32) (v_marked : Int32) (v_hasLived : Int32) (v_tokens_filled : Int32) (v_tokens_end : Int32) (v_tokens_at : Int32) (v_tokens_kind : Int32) (v_tokens_place : Int32) (v_tokens_word : Int64) (v_tokens_key : Int32) (v_tokens_number : Int32) (v_tokens_faultKind : Int32) (v_tokens_faultPlace : Int32) (r_ : Int32) (hf : f_X11_fault x1 v_tokens_faultKind v_tokens_faultPlace = some r_) :
    mp_M l D T yX11_fault cX11_fault 2 (some .int) ({ frames := 0, cells := 0, slots := 0, locals := 0 }) 0 0 [.ref a_, .int x1] (k_X11_fault T a_ a_trays a_words a_odds a_tokens a_bookReader a_roundsReader a_book a_draft a_marks a_ahead a_life a_lifeTold a_tokens_tape a_tokens_keys v_status v_marked v_hasLived v_tokens_filled v_tokens_end v_tokens_at v_tokens_kind v_tokens_place v_tokens_word v_tokens_key v_tokens_number v_tokens_faultKind v_tokens_faultPlace) (mp_Qi D r_ (k_X11_fault T a_ a_trays a_words a_odds a_tokens a_bookReader a_roundsReader a_book a_draft a_marks a_ahead a_life a_lifeTold a_tokens_tape a_tokens_keys v_status v_marked v_hasLived v_tokens_filled v_tokens_end v_tokens_at v_tokens_kind v_tokens_place v_tokens_word v_tokens_key v_tokens_number v_tokens_faultKind v_tokens_faultPlace)) := by
  refine mp_of (by decide) (Nat.le_of_ble_eq_true rfl) rfl ?_
  intro p e s m args below meth c A ls X hK hP hD hS hA hl
  replace X : mp_X p s m meth c args RX11 "fault" cX11_fault 2 (some .int) := X
  have hx := X.1
  have hb := X.2.1
  have hml := X.2.2.1
  have hown := X.2.2.2.2.1
  have hts := X.2.2.2.2.2.1
  replace hl : lv_has ls 2 [(0, .ref a_), (1, .int x1)] := hl
  replace hf : (if x1 = 0 then some (v_tokens_faultKind) else (if x1 = (nI 1) then some (v_tokens_faultPlace) else some ((-1 : Int32)))) = some r_ := hf
  refine lv_iload_n hx hb dX11_fault_0 rfl (lv_at hl 1 rfl) ?_
  refine lv_if_ne (tgt := 12) hx hb dX11_fault_1 (by decide) (fun h1 => ?_) (fun h1 => ?_)
  · replace hf := if_f hf h1
    refine lv_iload_n hx hb dX11_fault_12 rfl (lv_at hl 1 rfl) ?_
    refine lv_iconst (v := (nI 1)) hx hb dX11_fault_13 (by decide) ?_
    refine lv_icmp_ne (tgt := 27) hx hb dX11_fault_14 (by decide) (fun h2 => ?_) (fun h2 => ?_)
    · replace hf := if_f hf h2
      refine lv_iconst (v := (-1 : Int32)) hx hb dX11_fault_27 (by decide) ?_
      cases hf
      exact mp_reti X hP hS rfl dX11_fault_28
    · replace hf := if_t hf h2
      refine lv_aload_n hx hb dX11_fault_17 rfl (lv_at hl 0 rfl) ?_
      refine mp_get X fl_X11_37 hK hP 0 rfl rfl dX11_fault_18 ?_
      refine mp_get X fl_X11_190 hK hP 1 rfl rfl dX11_fault_21 ?_
      refine lv_goto (tgt := 28) hx hb dX11_fault_24 (by decide) ?_
      cases hf
      exact mp_reti X hP hS rfl dX11_fault_28
  · replace hf := if_t hf h1
    refine lv_aload_n hx hb dX11_fault_4 rfl (lv_at hl 0 rfl) ?_
    refine mp_get X fl_X11_37 hK hP 0 rfl rfl dX11_fault_5 ?_
    refine mp_get X fl_X11_187 hK hP 1 rfl rfl dX11_fault_8 ?_
    cases hf
    exact mp_reti X hP hS rfl dX11_fault_11


def k_X11_many (T : Nat → ClassId) (a_ a_trays a_words a_odds a_tokens a_bookReader a_roundsReader a_book a_draft a_marks a_ahead a_life a_lifeTold a_book_cellNames a_book_secretNames a_book_pageNames a_book_speed a_book_letters a_book_room a_book_now a_book_rounds a_book_now_order a_book_now_knows a_book_now_made a_book_now_sixteenths a_book_now_dots a_book_now_used a_book_now_stands : Nat) (v_status : Int32) (v_marked : Int32) (v_hasLived : Int32) (v_book_cells : Int32) (v_book_secrets : Int32) (v_book_pages : Int32) (v_book_blind : Int32) (v_book_rubs : Int32) (v_book_now_inOrder : Int32) (v_book_now_place : Int32) (v_book_now_ill : Int32) (v_book_now_shut : Int32) (v_book_now_turns : Int32) (v_book_now_madeInAll : Int32) (v_book_now_used : (Nat → Int32)) : va_W := [(a_, oX11 v_status a_trays a_words a_odds a_tokens a_bookReader a_roundsReader a_book a_draft a_marks v_marked a_ahead a_life a_lifeTold v_hasLived), (a_book, oX1 v_book_cells v_book_secrets v_book_pages a_book_cellNames a_book_secretNames a_book_pageNames a_book_speed v_book_blind v_book_rubs a_book_letters a_book_room a_book_now a_book_rounds), (a_book_now, oX7 a_book_now_order v_book_now_inOrder v_book_now_place a_book_now_knows a_book_now_made a_book_now_sixteenths a_book_now_dots a_book_now_used a_book_now_stands v_book_now_ill v_book_now_shut v_book_now_turns v_book_now_madeInAll), (a_book_now_used, mp_aI T 6 v_book_now_used)]
set_option maxHeartbeats 4000000 in
set_option maxRecDepth 100000 in
theorem c_X11_many (l : Launch) (D : va_G) (T : Nat → ClassId) (fu : Nat) (a_ a_trays a_words a_odds a_tokens a_bookReader a_roundsReader a_book a_draft a_marks a_ahead a_life a_lifeTold a_book_cellNames a_book_secretNames a_book_pageNames a_book_speed a_book_letters a_book_room a_book_now a_book_rounds a_book_now_order a_book_now_knows a_book_now_made a_book_now_sixteenths a_book_now_dots a_book_now_used a_book_now_stands : Nat) (x1 : Int32) (v_marked : Int32) (v_hasLived : Int32) (v_book_blind : Int32) (v_book_rubs : Int32) (v_book_now_place : Int32) (v_status : Int32) (v_book_cells : Int32) (v_book_secrets : Int32) (v_book_pages : Int32) (v_book_now_inOrder : Int32) (v_book_now_ill : Int32) (v_book_now_shut : Int32) (v_book_now_turns : Int32) (v_book_now_madeInAll : Int32) (v_book_now_used : (Nat → Int32)) (r_ : Int32) (o_status : Int32) (hf : f_X11_many fu x1 v_status v_book_cells v_book_secrets v_book_pages v_book_now_inOrder v_book_now_ill v_book_now_shut v_book_now_turns v_book_now_madeInAll v_book_now_used = some (r_, o_status)) :
    mp_M l D T yX11_many cX11_many 3 (some .int) ({ frames := 1, cells := 0, slots := 0, locals := 22 }) 0 0 [.ref a_, .int x1] (k_X11_many T a_ a_trays a_words a_odds a_tokens a_bookReader a_roundsReader a_book a_draft a_marks a_ahead a_life a_lifeTold a_book_cellNames a_book_secretNames a_book_pageNames a_book_speed a_book_letters a_book_room a_book_now a_book_rounds a_book_now_order a_book_now_knows a_book_now_made a_book_now_sixteenths a_book_now_dots a_book_now_used a_book_now_stands v_status v_marked v_hasLived v_book_cells v_book_secrets v_book_pages v_book_blind v_book_rubs v_book_now_inOrder v_book_now_place v_book_now_ill v_book_now_shut v_book_now_turns v_book_now_madeInAll v_book_now_used) (mp_Qi D r_ (k_X11_many T a_ a_trays a_words a_odds a_tokens a_bookReader a_roundsReader a_book a_draft a_marks a_ahead a_life a_lifeTold a_book_cellNames a_book_secretNames a_book_pageNames a_book_speed a_book_letters a_book_room a_book_now a_book_rounds a_book_now_order a_book_now_knows a_book_now_made a_book_now_sixteenths a_book_now_dots a_book_now_used a_book_now_stands o_status v_marked v_hasLived v_book_cells v_book_secrets v_book_pages v_book_blind v_book_rubs v_book_now_inOrder v_book_now_place v_book_now_ill v_book_now_shut v_book_now_turns v_book_now_madeInAll v_book_now_used)) := by
  refine mp_of (by decide) (Nat.le_of_ble_eq_true rfl) rfl ?_
  intro p e s m args below meth c A ls X hK hP hD hS hA hl
  replace X : mp_X p s m meth c args RX11 "many" cX11_many 3 (some .int) := X
  have hx := X.1
  have hb := X.2.1
  have hml := X.2.2.1
  have hown := X.2.2.2.2.1
  have hts := X.2.2.2.2.2.1
  replace hl : lv_has ls 3 [(0, .ref a_), (1, .int x1)] := hl
  replace hf : (if x1 = (nI 0) then bd_ (f_X11_answer v_book_cells v_status) (fun (z : Int32 × Int32) => match z with | (r2, u3) => some (r2, u3)) else (if x1 = (nI 1) then bd_ (f_X11_answer v_book_secrets v_status) (fun (z : Int32 × Int32) => match z with | (r6, u7) => some (r6, u7)) else (if x1 = (nI 2) then bd_ (f_X11_answer v_book_pages v_status) (fun (z : Int32 × Int32) => match z with | (r10, u11) => some (r10, u11)) else (if x1 = (nI 3) then bd_ (f_X11_answer v_book_now_inOrder v_status) (fun (z : Int32 × Int32) => match z with | (r14, u15) => some (r14, u15)) else (if x1 = (nI 4) then bd_ (f_X11_answer v_book_now_turns v_status) (fun (z : Int32 × Int32) => match z with | (r18, u19) => some (r18, u19)) else (if x1 = (nI 5) then bd_ (f_X7_usedInAll fu v_book_now_used) (fun (r22 : Int32) => bd_ (f_X11_answer r22 v_status) (fun (z : Int32 × Int32) => match z with | (r24, u25) => some (r24, u25))) else (if x1 = (nI 6) then bd_ (f_X11_answer v_book_now_madeInAll v_status) (fun (z : Int32 × Int32) => match z with | (r28, u29) => some (r28, u29)) else (if x1 = (nI 7) then bd_ (f_X11_answer v_book_now_ill v_status) (fun (z : Int32 × Int32) => match z with | (r32, u33) => some (r32, u33)) else (if x1 = (nI 8) then bd_ (f_X11_answer v_book_now_shut v_status) (fun (z : Int32 × Int32) => match z with | (r36, u37) => some (r36, u37)) else bd_ (f_X11_refuse (nI 5) v_status) (fun (z : Int32 × Int32) => match z with | (r39, u40) => some (r39, u40))))))))))) = some (r_, o_status) := hf
  refine lv_aload_n hx hb dX11_many_0 rfl (lv_at hl 0 rfl) ?_
  refine mp_get X fl_X11_58 hK hP 0 rfl rfl dX11_many_1 ?_
  refine mp_get X fl_X11_193 hK hP 1 rfl rfl dX11_many_4 ?_
  refine lv_astore_n (lv' := [(2, .ref a_book_now), (0, .ref a_), (1, .int x1)]) hx hb dX11_many_7 rfl hl (by decide) rfl (fun ls hl => ?_)
  refine lv_iload_n hx hb dX11_many_8 rfl (lv_at hl 2 rfl) ?_
  by_cases h1 : x1 = (nI 0)
  · replace hf := if_t hf h1
    refine lv_tableIn (off := 51) (tgt := 60) hx hb dX11_many_9 (by rw [h1]; decide) (by rw [h1]; decide) (by rw [h1]; decide) (by decide) ?_
    refine lv_aload_n hx hb dX11_many_60 rfl (lv_at hl 1 rfl) ?_
    refine lv_aload_n hx hb dX11_many_61 rfl (lv_at hl 1 rfl) ?_
    refine mp_get X fl_X11_58 hK hP 0 rfl rfl dX11_many_62 ?_
    refine mp_get X fl_X11_169 hK hP 1 rfl rfl dX11_many_65 ?_
    obtain ⟨⟨r2, u3⟩, c4, hf⟩ := bd_of hf
    dsimp only at hf
    have hPc := hP.sub (ws' := (k_X11_answer T a_ a_trays a_words a_odds a_tokens a_bookReader a_roundsReader a_book a_draft a_marks a_ahead a_life a_lifeTold v_status v_marked v_hasLived)) [0] rfl
    have hDc := (mp_D_of (w1 := (k_X11_many T a_ a_trays a_words a_odds a_tokens a_bookReader a_roundsReader a_book a_draft a_marks a_ahead a_life a_lifeTold a_book_cellNames a_book_secretNames a_book_pageNames a_book_speed a_book_letters a_book_room a_book_now a_book_rounds a_book_now_order a_book_now_knows a_book_now_made a_book_now_sixteenths a_book_now_dots a_book_now_used a_book_now_stands v_status v_marked v_hasLived v_book_cells v_book_secrets v_book_pages v_book_blind v_book_rubs v_book_now_inOrder v_book_now_place v_book_now_ill v_book_now_shut v_book_now_turns v_book_now_madeInAll v_book_now_used)) hD rfl).sub (ws' := (k_X11_answer T a_ a_trays a_words a_odds a_tokens a_bookReader a_roundsReader a_book a_draft a_marks a_ahead a_life a_lifeTold v_status v_marked v_hasLived)) [0] rfl rfl
    refine mp_calli (isC := [0]) (wc := (k_X11_answer T a_ a_trays a_words a_odds a_tokens a_bookReader a_roundsReader a_book a_draft a_marks a_ahead a_life a_lifeTold v_status v_marked v_hasLived)) (w1 := (k_X11_answer T a_ a_trays a_words a_odds a_tokens a_bookReader a_roundsReader a_book a_draft a_marks a_ahead a_life a_lifeTold u3 v_marked v_hasLived)) hP (mp_D_of hD rfl) hS hA rfl rfl (mp_runV (As := [.int v_book_cells]) (rest := []) X me_X11_answer lk_X11_105 (c_X11_answer l D T a_ a_trays a_words a_odds a_tokens a_bookReader a_roundsReader a_book a_draft a_marks a_ahead a_life a_lifeTold v_book_cells v_marked v_hasLived v_status r2 u3 c4) rfl rfl ⟨(Nat.le_of_ble_eq_true rfl), (Nat.le_of_ble_eq_true rfl)⟩ hK hPc hDc rfl rfl rfl rfl hl.1 rfl (Nat.le_of_ble_eq_true rfl) dX11_many_68 ⟨Nat.zero_le _, Nat.zero_le _⟩) (fun H locs hP _ hS => ?_)
    replace hP : va_P D mp_cl (k_X11_many T a_ a_trays a_words a_odds a_tokens a_bookReader a_roundsReader a_book a_draft a_marks a_ahead a_life a_lifeTold a_book_cellNames a_book_secretNames a_book_pageNames a_book_speed a_book_letters a_book_room a_book_now a_book_rounds a_book_now_order a_book_now_knows a_book_now_made a_book_now_sixteenths a_book_now_dots a_book_now_used a_book_now_stands u3 v_marked v_hasLived v_book_cells v_book_secrets v_book_pages v_book_blind v_book_rubs v_book_now_inOrder v_book_now_place v_book_now_ill v_book_now_shut v_book_now_turns v_book_now_madeInAll v_book_now_used) H := hP
    cases hf
    exact mp_reti X hP hS rfl dX11_many_71
  replace hf := if_f hf h1
  by_cases h5 : x1 = (nI 1)
  · replace hf := if_t hf h5
    refine lv_tableIn (off := 63) (tgt := 72) hx hb dX11_many_9 (by rw [h5]; decide) (by rw [h5]; decide) (by rw [h5]; decide) (by decide) ?_
    refine lv_aload_n hx hb dX11_many_72 rfl (lv_at hl 1 rfl) ?_
    refine lv_aload_n hx hb dX11_many_73 rfl (lv_at hl 1 rfl) ?_
    refine mp_get X fl_X11_58 hK hP 0 rfl rfl dX11_many_74 ?_
    refine mp_get X fl_X11_197 hK hP 1 rfl rfl dX11_many_77 ?_
    obtain ⟨⟨r6, u7⟩, c8, hf⟩ := bd_of hf
    dsimp only at hf
    have hPc := hP.sub (ws' := (k_X11_answer T a_ a_trays a_words a_odds a_tokens a_bookReader a_roundsReader a_book a_draft a_marks a_ahead a_life a_lifeTold v_status v_marked v_hasLived)) [0] rfl
    have hDc := (mp_D_of (w1 := (k_X11_many T a_ a_trays a_words a_odds a_tokens a_bookReader a_roundsReader a_book a_draft a_marks a_ahead a_life a_lifeTold a_book_cellNames a_book_secretNames a_book_pageNames a_book_speed a_book_letters a_book_room a_book_now a_book_rounds a_book_now_order a_book_now_knows a_book_now_made a_book_now_sixteenths a_book_now_dots a_book_now_used a_book_now_stands v_status v_marked v_hasLived v_book_cells v_book_secrets v_book_pages v_book_blind v_book_rubs v_book_now_inOrder v_book_now_place v_book_now_ill v_book_now_shut v_book_now_turns v_book_now_madeInAll v_book_now_used)) hD rfl).sub (ws' := (k_X11_answer T a_ a_trays a_words a_odds a_tokens a_bookReader a_roundsReader a_book a_draft a_marks a_ahead a_life a_lifeTold v_status v_marked v_hasLived)) [0] rfl rfl
    refine mp_calli (isC := [0]) (wc := (k_X11_answer T a_ a_trays a_words a_odds a_tokens a_bookReader a_roundsReader a_book a_draft a_marks a_ahead a_life a_lifeTold v_status v_marked v_hasLived)) (w1 := (k_X11_answer T a_ a_trays a_words a_odds a_tokens a_bookReader a_roundsReader a_book a_draft a_marks a_ahead a_life a_lifeTold u7 v_marked v_hasLived)) hP (mp_D_of hD rfl) hS hA rfl rfl (mp_runV (As := [.int v_book_secrets]) (rest := []) X me_X11_answer lk_X11_105 (c_X11_answer l D T a_ a_trays a_words a_odds a_tokens a_bookReader a_roundsReader a_book a_draft a_marks a_ahead a_life a_lifeTold v_book_secrets v_marked v_hasLived v_status r6 u7 c8) rfl rfl ⟨(Nat.le_of_ble_eq_true rfl), (Nat.le_of_ble_eq_true rfl)⟩ hK hPc hDc rfl rfl rfl rfl hl.1 rfl (Nat.le_of_ble_eq_true rfl) dX11_many_80 ⟨Nat.zero_le _, Nat.zero_le _⟩) (fun H locs hP _ hS => ?_)
    replace hP : va_P D mp_cl (k_X11_many T a_ a_trays a_words a_odds a_tokens a_bookReader a_roundsReader a_book a_draft a_marks a_ahead a_life a_lifeTold a_book_cellNames a_book_secretNames a_book_pageNames a_book_speed a_book_letters a_book_room a_book_now a_book_rounds a_book_now_order a_book_now_knows a_book_now_made a_book_now_sixteenths a_book_now_dots a_book_now_used a_book_now_stands u7 v_marked v_hasLived v_book_cells v_book_secrets v_book_pages v_book_blind v_book_rubs v_book_now_inOrder v_book_now_place v_book_now_ill v_book_now_shut v_book_now_turns v_book_now_madeInAll v_book_now_used) H := hP
    cases hf
    exact mp_reti X hP hS rfl dX11_many_83
  replace hf := if_f hf h5
  by_cases h9 : x1 = (nI 2)
  · replace hf := if_t hf h9
    refine lv_tableIn (off := 75) (tgt := 84) hx hb dX11_many_9 (by rw [h9]; decide) (by rw [h9]; decide) (by rw [h9]; decide) (by decide) ?_
    refine lv_aload_n hx hb dX11_many_84 rfl (lv_at hl 1 rfl) ?_
    refine lv_aload_n hx hb dX11_many_85 rfl (lv_at hl 1 rfl) ?_
    refine mp_get X fl_X11_58 hK hP 0 rfl rfl dX11_many_86 ?_
    refine mp_get X fl_X11_200 hK hP 1 rfl rfl dX11_many_89 ?_
    obtain ⟨⟨r10, u11⟩, c12, hf⟩ := bd_of hf
    dsimp only at hf
    have hPc := hP.sub (ws' := (k_X11_answer T a_ a_trays a_words a_odds a_tokens a_bookReader a_roundsReader a_book a_draft a_marks a_ahead a_life a_lifeTold v_status v_marked v_hasLived)) [0] rfl
    have hDc := (mp_D_of (w1 := (k_X11_many T a_ a_trays a_words a_odds a_tokens a_bookReader a_roundsReader a_book a_draft a_marks a_ahead a_life a_lifeTold a_book_cellNames a_book_secretNames a_book_pageNames a_book_speed a_book_letters a_book_room a_book_now a_book_rounds a_book_now_order a_book_now_knows a_book_now_made a_book_now_sixteenths a_book_now_dots a_book_now_used a_book_now_stands v_status v_marked v_hasLived v_book_cells v_book_secrets v_book_pages v_book_blind v_book_rubs v_book_now_inOrder v_book_now_place v_book_now_ill v_book_now_shut v_book_now_turns v_book_now_madeInAll v_book_now_used)) hD rfl).sub (ws' := (k_X11_answer T a_ a_trays a_words a_odds a_tokens a_bookReader a_roundsReader a_book a_draft a_marks a_ahead a_life a_lifeTold v_status v_marked v_hasLived)) [0] rfl rfl
    refine mp_calli (isC := [0]) (wc := (k_X11_answer T a_ a_trays a_words a_odds a_tokens a_bookReader a_roundsReader a_book a_draft a_marks a_ahead a_life a_lifeTold v_status v_marked v_hasLived)) (w1 := (k_X11_answer T a_ a_trays a_words a_odds a_tokens a_bookReader a_roundsReader a_book a_draft a_marks a_ahead a_life a_lifeTold u11 v_marked v_hasLived)) hP (mp_D_of hD rfl) hS hA rfl rfl (mp_runV (As := [.int v_book_pages]) (rest := []) X me_X11_answer lk_X11_105 (c_X11_answer l D T a_ a_trays a_words a_odds a_tokens a_bookReader a_roundsReader a_book a_draft a_marks a_ahead a_life a_lifeTold v_book_pages v_marked v_hasLived v_status r10 u11 c12) rfl rfl ⟨(Nat.le_of_ble_eq_true rfl), (Nat.le_of_ble_eq_true rfl)⟩ hK hPc hDc rfl rfl rfl rfl hl.1 rfl (Nat.le_of_ble_eq_true rfl) dX11_many_92 ⟨Nat.zero_le _, Nat.zero_le _⟩) (fun H locs hP _ hS => ?_)
    replace hP : va_P D mp_cl (k_X11_many T a_ a_trays a_words a_odds a_tokens a_bookReader a_roundsReader a_book a_draft a_marks a_ahead a_life a_lifeTold a_book_cellNames a_book_secretNames a_book_pageNames a_book_speed a_book_letters a_book_room a_book_now a_book_rounds a_book_now_order a_book_now_knows a_book_now_made a_book_now_sixteenths a_book_now_dots a_book_now_used a_book_now_stands u11 v_marked v_hasLived v_book_cells v_book_secrets v_book_pages v_book_blind v_book_rubs v_book_now_inOrder v_book_now_place v_book_now_ill v_book_now_shut v_book_now_turns v_book_now_madeInAll v_book_now_used) H := hP
    cases hf
    exact mp_reti X hP hS rfl dX11_many_95
  replace hf := if_f hf h9
  by_cases h13 : x1 = (nI 3)
  · replace hf := if_t hf h13
    refine lv_tableIn (off := 87) (tgt := 96) hx hb dX11_many_9 (by rw [h13]; decide) (by rw [h13]; decide) (by rw [h13]; decide) (by decide) ?_
    refine lv_aload_n hx hb dX11_many_96 rfl (lv_at hl 1 rfl) ?_
    refine lv_aload_n hx hb dX11_many_97 rfl (lv_at hl 0 rfl) ?_
    refine mp_get X fl_X11_203 hK hP 2 rfl rfl dX11_many_98 ?_
    obtain ⟨⟨r14, u15⟩, c16, hf⟩ := bd_of hf
    dsimp only at hf
    have hPc := hP.sub (ws' := (k_X11_answer T a_ a_trays a_words a_odds a_tokens a_bookReader a_roundsReader a_book a_draft a_marks a_ahead a_life a_lifeTold v_status v_marked v_hasLived)) [0] rfl
    have hDc := (mp_D_of (w1 := (k_X11_many T a_ a_trays a_words a_odds a_tokens a_bookReader a_roundsReader a_book a_draft a_marks a_ahead a_life a_lifeTold a_book_cellNames a_book_secretNames a_book_pageNames a_book_speed a_book_letters a_book_room a_book_now a_book_rounds a_book_now_order a_book_now_knows a_book_now_made a_book_now_sixteenths a_book_now_dots a_book_now_used a_book_now_stands v_status v_marked v_hasLived v_book_cells v_book_secrets v_book_pages v_book_blind v_book_rubs v_book_now_inOrder v_book_now_place v_book_now_ill v_book_now_shut v_book_now_turns v_book_now_madeInAll v_book_now_used)) hD rfl).sub (ws' := (k_X11_answer T a_ a_trays a_words a_odds a_tokens a_bookReader a_roundsReader a_book a_draft a_marks a_ahead a_life a_lifeTold v_status v_marked v_hasLived)) [0] rfl rfl
    refine mp_calli (isC := [0]) (wc := (k_X11_answer T a_ a_trays a_words a_odds a_tokens a_bookReader a_roundsReader a_book a_draft a_marks a_ahead a_life a_lifeTold v_status v_marked v_hasLived)) (w1 := (k_X11_answer T a_ a_trays a_words a_odds a_tokens a_bookReader a_roundsReader a_book a_draft a_marks a_ahead a_life a_lifeTold u15 v_marked v_hasLived)) hP (mp_D_of hD rfl) hS hA rfl rfl (mp_runV (As := [.int v_book_now_inOrder]) (rest := []) X me_X11_answer lk_X11_105 (c_X11_answer l D T a_ a_trays a_words a_odds a_tokens a_bookReader a_roundsReader a_book a_draft a_marks a_ahead a_life a_lifeTold v_book_now_inOrder v_marked v_hasLived v_status r14 u15 c16) rfl rfl ⟨(Nat.le_of_ble_eq_true rfl), (Nat.le_of_ble_eq_true rfl)⟩ hK hPc hDc rfl rfl rfl rfl hl.1 rfl (Nat.le_of_ble_eq_true rfl) dX11_many_101 ⟨Nat.zero_le _, Nat.zero_le _⟩) (fun H locs hP _ hS => ?_)
    replace hP : va_P D mp_cl (k_X11_many T a_ a_trays a_words a_odds a_tokens a_bookReader a_roundsReader a_book a_draft a_marks a_ahead a_life a_lifeTold a_book_cellNames a_book_secretNames a_book_pageNames a_book_speed a_book_letters a_book_room a_book_now a_book_rounds a_book_now_order a_book_now_knows a_book_now_made a_book_now_sixteenths a_book_now_dots a_book_now_used a_book_now_stands u15 v_marked v_hasLived v_book_cells v_book_secrets v_book_pages v_book_blind v_book_rubs v_book_now_inOrder v_book_now_place v_book_now_ill v_book_now_shut v_book_now_turns v_book_now_madeInAll v_book_now_used) H := hP
    cases hf
    exact mp_reti X hP hS rfl dX11_many_104
  replace hf := if_f hf h13
  by_cases h17 : x1 = (nI 4)
  · replace hf := if_t hf h17
    refine lv_tableIn (off := 96) (tgt := 105) hx hb dX11_many_9 (by rw [h17]; decide) (by rw [h17]; decide) (by rw [h17]; decide) (by decide) ?_
    refine lv_aload_n hx hb dX11_many_105 rfl (lv_at hl 1 rfl) ?_
    refine lv_aload_n hx hb dX11_many_106 rfl (lv_at hl 0 rfl) ?_
    refine mp_get X fl_X11_208 hK hP 2 rfl rfl dX11_many_107 ?_
    obtain ⟨⟨r18, u19⟩, c20, hf⟩ := bd_of hf
    dsimp only at hf
    have hPc := hP.sub (ws' := (k_X11_answer T a_ a_trays a_words a_odds a_tokens a_bookReader a_roundsReader a_book a_draft a_marks a_ahead a_life a_lifeTold v_status v_marked v_hasLived)) [0] rfl
    have hDc := (mp_D_of (w1 := (k_X11_many T a_ a_trays a_words a_odds a_tokens a_bookReader a_roundsReader a_book a_draft a_marks a_ahead a_life a_lifeTold a_book_cellNames a_book_secretNames a_book_pageNames a_book_speed a_book_letters a_book_room a_book_now a_book_rounds a_book_now_order a_book_now_knows a_book_now_made a_book_now_sixteenths a_book_now_dots a_book_now_used a_book_now_stands v_status v_marked v_hasLived v_book_cells v_book_secrets v_book_pages v_book_blind v_book_rubs v_book_now_inOrder v_book_now_place v_book_now_ill v_book_now_shut v_book_now_turns v_book_now_madeInAll v_book_now_used)) hD rfl).sub (ws' := (k_X11_answer T a_ a_trays a_words a_odds a_tokens a_bookReader a_roundsReader a_book a_draft a_marks a_ahead a_life a_lifeTold v_status v_marked v_hasLived)) [0] rfl rfl
    refine mp_calli (isC := [0]) (wc := (k_X11_answer T a_ a_trays a_words a_odds a_tokens a_bookReader a_roundsReader a_book a_draft a_marks a_ahead a_life a_lifeTold v_status v_marked v_hasLived)) (w1 := (k_X11_answer T a_ a_trays a_words a_odds a_tokens a_bookReader a_roundsReader a_book a_draft a_marks a_ahead a_life a_lifeTold u19 v_marked v_hasLived)) hP (mp_D_of hD rfl) hS hA rfl rfl (mp_runV (As := [.int v_book_now_turns]) (rest := []) X me_X11_answer lk_X11_105 (c_X11_answer l D T a_ a_trays a_words a_odds a_tokens a_bookReader a_roundsReader a_book a_draft a_marks a_ahead a_life a_lifeTold v_book_now_turns v_marked v_hasLived v_status r18 u19 c20) rfl rfl ⟨(Nat.le_of_ble_eq_true rfl), (Nat.le_of_ble_eq_true rfl)⟩ hK hPc hDc rfl rfl rfl rfl hl.1 rfl (Nat.le_of_ble_eq_true rfl) dX11_many_110 ⟨Nat.zero_le _, Nat.zero_le _⟩) (fun H locs hP _ hS => ?_)
    replace hP : va_P D mp_cl (k_X11_many T a_ a_trays a_words a_odds a_tokens a_bookReader a_roundsReader a_book a_draft a_marks a_ahead a_life a_lifeTold a_book_cellNames a_book_secretNames a_book_pageNames a_book_speed a_book_letters a_book_room a_book_now a_book_rounds a_book_now_order a_book_now_knows a_book_now_made a_book_now_sixteenths a_book_now_dots a_book_now_used a_book_now_stands u19 v_marked v_hasLived v_book_cells v_book_secrets v_book_pages v_book_blind v_book_rubs v_book_now_inOrder v_book_now_place v_book_now_ill v_book_now_shut v_book_now_turns v_book_now_madeInAll v_book_now_used) H := hP
    cases hf
    exact mp_reti X hP hS rfl dX11_many_113
  replace hf := if_f hf h17
  by_cases h21 : x1 = (nI 5)
  · replace hf := if_t hf h21
    refine lv_tableIn (off := 105) (tgt := 114) hx hb dX11_many_9 (by rw [h21]; decide) (by rw [h21]; decide) (by rw [h21]; decide) (by decide) ?_
    refine lv_aload_n hx hb dX11_many_114 rfl (lv_at hl 1 rfl) ?_
    refine lv_aload_n hx hb dX11_many_115 rfl (lv_at hl 0 rfl) ?_
    obtain ⟨r22, c23, hf⟩ := bd_of hf
    have hPc := hP.sub (ws' := (k_X7_usedInAll T a_book_now a_book_now_order a_book_now_knows a_book_now_made a_book_now_sixteenths a_book_now_dots a_book_now_used a_book_now_stands v_book_now_inOrder v_book_now_place v_book_now_ill v_book_now_shut v_book_now_turns v_book_now_madeInAll v_book_now_used)) [2, 3] rfl
    have hDc := (mp_D_of (w1 := (k_X11_many T a_ a_trays a_words a_odds a_tokens a_bookReader a_roundsReader a_book a_draft a_marks a_ahead a_life a_lifeTold a_book_cellNames a_book_secretNames a_book_pageNames a_book_speed a_book_letters a_book_room a_book_now a_book_rounds a_book_now_order a_book_now_knows a_book_now_made a_book_now_sixteenths a_book_now_dots a_book_now_used a_book_now_stands v_status v_marked v_hasLived v_book_cells v_book_secrets v_book_pages v_book_blind v_book_rubs v_book_now_inOrder v_book_now_place v_book_now_ill v_book_now_shut v_book_now_turns v_book_now_madeInAll v_book_now_used)) hD rfl).sub (ws' := (k_X7_usedInAll T a_book_now a_book_now_order a_book_now_knows a_book_now_made a_book_now_sixteenths a_book_now_dots a_book_now_used a_book_now_stands v_book_now_inOrder v_book_now_place v_book_now_ill v_book_now_shut v_book_now_turns v_book_now_madeInAll v_book_now_used)) [2, 3] rfl rfl
    refine mp_calli (isC := [2, 3]) (wc := (k_X7_usedInAll T a_book_now a_book_now_order a_book_now_knows a_book_now_made a_book_now_sixteenths a_book_now_dots a_book_now_used a_book_now_stands v_book_now_inOrder v_book_now_place v_book_now_ill v_book_now_shut v_book_now_turns v_book_now_madeInAll v_book_now_used)) (w1 := (k_X7_usedInAll T a_book_now a_book_now_order a_book_now_knows a_book_now_made a_book_now_sixteenths a_book_now_dots a_book_now_used a_book_now_stands v_book_now_inOrder v_book_now_place v_book_now_ill v_book_now_shut v_book_now_turns v_book_now_madeInAll v_book_now_used)) hP (mp_D_of hD rfl) hS hA rfl rfl (mp_runV (As := []) (rest := [.ref a_]) X me_X7_usedInAll lk_X11_211 (c_X7_usedInAll l D T fu a_book_now a_book_now_order a_book_now_knows a_book_now_made a_book_now_sixteenths a_book_now_dots a_book_now_used a_book_now_stands v_book_now_inOrder v_book_now_place v_book_now_ill v_book_now_shut v_book_now_turns v_book_now_madeInAll v_book_now_used r22 c23) rfl rfl ⟨(Nat.le_of_ble_eq_true rfl), (Nat.le_of_ble_eq_true rfl)⟩ hK hPc hDc rfl rfl rfl rfl hl.1 rfl (Nat.le_of_ble_eq_true rfl) dX11_many_116 ⟨Nat.zero_le _, Nat.zero_le _⟩) (fun H locs hP _ hS => ?_)
    replace hP : va_P D mp_cl (k_X11_many T a_ a_trays a_words a_odds a_tokens a_bookReader a_roundsReader a_book a_draft a_marks a_ahead a_life a_lifeTold a_book_cellNames a_book_secretNames a_book_pageNames a_book_speed a_book_letters a_book_room a_book_now a_book_rounds a_book_now_order a_book_now_knows a_book_now_made a_book_now_sixteenths a_book_now_dots a_book_now_used a_book_now_stands v_status v_marked v_hasLived v_book_cells v_book_secrets v_book_pages v_book_blind v_book_rubs v_book_now_inOrder v_book_now_place v_book_now_ill v_book_now_shut v_book_now_turns v_book_now_madeInAll v_book_now_used) H := hP
    obtain ⟨⟨r24, u25⟩, c26, hf⟩ := bd_of hf
    dsimp only at hf
    have hPc := hP.sub (ws' := (k_X11_answer T a_ a_trays a_words a_odds a_tokens a_bookReader a_roundsReader a_book a_draft a_marks a_ahead a_life a_lifeTold v_status v_marked v_hasLived)) [0] rfl
    have hDc := (mp_D_of (w1 := (k_X11_many T a_ a_trays a_words a_odds a_tokens a_bookReader a_roundsReader a_book a_draft a_marks a_ahead a_life a_lifeTold a_book_cellNames a_book_secretNames a_book_pageNames a_book_speed a_book_letters a_book_room a_book_now a_book_rounds a_book_now_order a_book_now_knows a_book_now_made a_book_now_sixteenths a_book_now_dots a_book_now_used a_book_now_stands v_status v_marked v_hasLived v_book_cells v_book_secrets v_book_pages v_book_blind v_book_rubs v_book_now_inOrder v_book_now_place v_book_now_ill v_book_now_shut v_book_now_turns v_book_now_madeInAll v_book_now_used)) hD rfl).sub (ws' := (k_X11_answer T a_ a_trays a_words a_odds a_tokens a_bookReader a_roundsReader a_book a_draft a_marks a_ahead a_life a_lifeTold v_status v_marked v_hasLived)) [0] rfl rfl
    refine mp_calli (isC := [0]) (wc := (k_X11_answer T a_ a_trays a_words a_odds a_tokens a_bookReader a_roundsReader a_book a_draft a_marks a_ahead a_life a_lifeTold v_status v_marked v_hasLived)) (w1 := (k_X11_answer T a_ a_trays a_words a_odds a_tokens a_bookReader a_roundsReader a_book a_draft a_marks a_ahead a_life a_lifeTold u25 v_marked v_hasLived)) hP (mp_D_of hD rfl) hS hA rfl rfl (mp_runV (As := [.int r22]) (rest := []) X me_X11_answer lk_X11_105 (c_X11_answer l D T a_ a_trays a_words a_odds a_tokens a_bookReader a_roundsReader a_book a_draft a_marks a_ahead a_life a_lifeTold r22 v_marked v_hasLived v_status r24 u25 c26) rfl rfl ⟨(Nat.le_of_ble_eq_true rfl), (Nat.le_of_ble_eq_true rfl)⟩ hK hPc hDc rfl rfl rfl rfl hl.1 rfl (Nat.le_of_ble_eq_true rfl) dX11_many_119 ⟨Nat.zero_le _, Nat.zero_le _⟩) (fun H locs hP _ hS => ?_)
    replace hP : va_P D mp_cl (k_X11_many T a_ a_trays a_words a_odds a_tokens a_bookReader a_roundsReader a_book a_draft a_marks a_ahead a_life a_lifeTold a_book_cellNames a_book_secretNames a_book_pageNames a_book_speed a_book_letters a_book_room a_book_now a_book_rounds a_book_now_order a_book_now_knows a_book_now_made a_book_now_sixteenths a_book_now_dots a_book_now_used a_book_now_stands u25 v_marked v_hasLived v_book_cells v_book_secrets v_book_pages v_book_blind v_book_rubs v_book_now_inOrder v_book_now_place v_book_now_ill v_book_now_shut v_book_now_turns v_book_now_madeInAll v_book_now_used) H := hP
    cases hf
    exact mp_reti X hP hS rfl dX11_many_122
  replace hf := if_f hf h21
  by_cases h27 : x1 = (nI 6)
  · replace hf := if_t hf h27
    refine lv_tableIn (off := 114) (tgt := 123) hx hb dX11_many_9 (by rw [h27]; decide) (by rw [h27]; decide) (by rw [h27]; decide) (by decide) ?_
    refine lv_aload_n hx hb dX11_many_123 rfl (lv_at hl 1 rfl) ?_
    refine lv_aload_n hx hb dX11_many_124 rfl (lv_at hl 0 rfl) ?_
    refine mp_get X fl_X11_215 hK hP 2 rfl rfl dX11_many_125 ?_
    obtain ⟨⟨r28, u29⟩, c30, hf⟩ := bd_of hf
    dsimp only at hf
    have hPc := hP.sub (ws' := (k_X11_answer T a_ a_trays a_words a_odds a_tokens a_bookReader a_roundsReader a_book a_draft a_marks a_ahead a_life a_lifeTold v_status v_marked v_hasLived)) [0] rfl
    have hDc := (mp_D_of (w1 := (k_X11_many T a_ a_trays a_words a_odds a_tokens a_bookReader a_roundsReader a_book a_draft a_marks a_ahead a_life a_lifeTold a_book_cellNames a_book_secretNames a_book_pageNames a_book_speed a_book_letters a_book_room a_book_now a_book_rounds a_book_now_order a_book_now_knows a_book_now_made a_book_now_sixteenths a_book_now_dots a_book_now_used a_book_now_stands v_status v_marked v_hasLived v_book_cells v_book_secrets v_book_pages v_book_blind v_book_rubs v_book_now_inOrder v_book_now_place v_book_now_ill v_book_now_shut v_book_now_turns v_book_now_madeInAll v_book_now_used)) hD rfl).sub (ws' := (k_X11_answer T a_ a_trays a_words a_odds a_tokens a_bookReader a_roundsReader a_book a_draft a_marks a_ahead a_life a_lifeTold v_status v_marked v_hasLived)) [0] rfl rfl
    refine mp_calli (isC := [0]) (wc := (k_X11_answer T a_ a_trays a_words a_odds a_tokens a_bookReader a_roundsReader a_book a_draft a_marks a_ahead a_life a_lifeTold v_status v_marked v_hasLived)) (w1 := (k_X11_answer T a_ a_trays a_words a_odds a_tokens a_bookReader a_roundsReader a_book a_draft a_marks a_ahead a_life a_lifeTold u29 v_marked v_hasLived)) hP (mp_D_of hD rfl) hS hA rfl rfl (mp_runV (As := [.int v_book_now_madeInAll]) (rest := []) X me_X11_answer lk_X11_105 (c_X11_answer l D T a_ a_trays a_words a_odds a_tokens a_bookReader a_roundsReader a_book a_draft a_marks a_ahead a_life a_lifeTold v_book_now_madeInAll v_marked v_hasLived v_status r28 u29 c30) rfl rfl ⟨(Nat.le_of_ble_eq_true rfl), (Nat.le_of_ble_eq_true rfl)⟩ hK hPc hDc rfl rfl rfl rfl hl.1 rfl (Nat.le_of_ble_eq_true rfl) dX11_many_128 ⟨Nat.zero_le _, Nat.zero_le _⟩) (fun H locs hP _ hS => ?_)
    replace hP : va_P D mp_cl (k_X11_many T a_ a_trays a_words a_odds a_tokens a_bookReader a_roundsReader a_book a_draft a_marks a_ahead a_life a_lifeTold a_book_cellNames a_book_secretNames a_book_pageNames a_book_speed a_book_letters a_book_room a_book_now a_book_rounds a_book_now_order a_book_now_knows a_book_now_made a_book_now_sixteenths a_book_now_dots a_book_now_used a_book_now_stands u29 v_marked v_hasLived v_book_cells v_book_secrets v_book_pages v_book_blind v_book_rubs v_book_now_inOrder v_book_now_place v_book_now_ill v_book_now_shut v_book_now_turns v_book_now_madeInAll v_book_now_used) H := hP
    cases hf
    exact mp_reti X hP hS rfl dX11_many_131
  replace hf := if_f hf h27
  by_cases h31 : x1 = (nI 7)
  · replace hf := if_t hf h31
    refine lv_tableIn (off := 123) (tgt := 132) hx hb dX11_many_9 (by rw [h31]; decide) (by rw [h31]; decide) (by rw [h31]; decide) (by decide) ?_
    refine lv_aload_n hx hb dX11_many_132 rfl (lv_at hl 1 rfl) ?_
    refine lv_aload_n hx hb dX11_many_133 rfl (lv_at hl 0 rfl) ?_
    refine mp_get X fl_X11_218 hK hP 2 rfl rfl dX11_many_134 ?_
    obtain ⟨⟨r32, u33⟩, c34, hf⟩ := bd_of hf
    dsimp only at hf
    have hPc := hP.sub (ws' := (k_X11_answer T a_ a_trays a_words a_odds a_tokens a_bookReader a_roundsReader a_book a_draft a_marks a_ahead a_life a_lifeTold v_status v_marked v_hasLived)) [0] rfl
    have hDc := (mp_D_of (w1 := (k_X11_many T a_ a_trays a_words a_odds a_tokens a_bookReader a_roundsReader a_book a_draft a_marks a_ahead a_life a_lifeTold a_book_cellNames a_book_secretNames a_book_pageNames a_book_speed a_book_letters a_book_room a_book_now a_book_rounds a_book_now_order a_book_now_knows a_book_now_made a_book_now_sixteenths a_book_now_dots a_book_now_used a_book_now_stands v_status v_marked v_hasLived v_book_cells v_book_secrets v_book_pages v_book_blind v_book_rubs v_book_now_inOrder v_book_now_place v_book_now_ill v_book_now_shut v_book_now_turns v_book_now_madeInAll v_book_now_used)) hD rfl).sub (ws' := (k_X11_answer T a_ a_trays a_words a_odds a_tokens a_bookReader a_roundsReader a_book a_draft a_marks a_ahead a_life a_lifeTold v_status v_marked v_hasLived)) [0] rfl rfl
    refine mp_calli (isC := [0]) (wc := (k_X11_answer T a_ a_trays a_words a_odds a_tokens a_bookReader a_roundsReader a_book a_draft a_marks a_ahead a_life a_lifeTold v_status v_marked v_hasLived)) (w1 := (k_X11_answer T a_ a_trays a_words a_odds a_tokens a_bookReader a_roundsReader a_book a_draft a_marks a_ahead a_life a_lifeTold u33 v_marked v_hasLived)) hP (mp_D_of hD rfl) hS hA rfl rfl (mp_runV (As := [.int v_book_now_ill]) (rest := []) X me_X11_answer lk_X11_105 (c_X11_answer l D T a_ a_trays a_words a_odds a_tokens a_bookReader a_roundsReader a_book a_draft a_marks a_ahead a_life a_lifeTold v_book_now_ill v_marked v_hasLived v_status r32 u33 c34) rfl rfl ⟨(Nat.le_of_ble_eq_true rfl), (Nat.le_of_ble_eq_true rfl)⟩ hK hPc hDc rfl rfl rfl rfl hl.1 rfl (Nat.le_of_ble_eq_true rfl) dX11_many_137 ⟨Nat.zero_le _, Nat.zero_le _⟩) (fun H locs hP _ hS => ?_)
    replace hP : va_P D mp_cl (k_X11_many T a_ a_trays a_words a_odds a_tokens a_bookReader a_roundsReader a_book a_draft a_marks a_ahead a_life a_lifeTold a_book_cellNames a_book_secretNames a_book_pageNames a_book_speed a_book_letters a_book_room a_book_now a_book_rounds a_book_now_order a_book_now_knows a_book_now_made a_book_now_sixteenths a_book_now_dots a_book_now_used a_book_now_stands u33 v_marked v_hasLived v_book_cells v_book_secrets v_book_pages v_book_blind v_book_rubs v_book_now_inOrder v_book_now_place v_book_now_ill v_book_now_shut v_book_now_turns v_book_now_madeInAll v_book_now_used) H := hP
    cases hf
    exact mp_reti X hP hS rfl dX11_many_140
  replace hf := if_f hf h31
  by_cases h35 : x1 = (nI 8)
  · replace hf := if_t hf h35
    refine lv_tableIn (off := 132) (tgt := 141) hx hb dX11_many_9 (by rw [h35]; decide) (by rw [h35]; decide) (by rw [h35]; decide) (by decide) ?_
    refine lv_aload_n hx hb dX11_many_141 rfl (lv_at hl 1 rfl) ?_
    refine lv_aload_n hx hb dX11_many_142 rfl (lv_at hl 0 rfl) ?_
    refine mp_get X fl_X11_221 hK hP 2 rfl rfl dX11_many_143 ?_
    obtain ⟨⟨r36, u37⟩, c38, hf⟩ := bd_of hf
    dsimp only at hf
    have hPc := hP.sub (ws' := (k_X11_answer T a_ a_trays a_words a_odds a_tokens a_bookReader a_roundsReader a_book a_draft a_marks a_ahead a_life a_lifeTold v_status v_marked v_hasLived)) [0] rfl
    have hDc := (mp_D_of (w1 := (k_X11_many T a_ a_trays a_words a_odds a_tokens a_bookReader a_roundsReader a_book a_draft a_marks a_ahead a_life a_lifeTold a_book_cellNames a_book_secretNames a_book_pageNames a_book_speed a_book_letters a_book_room a_book_now a_book_rounds a_book_now_order a_book_now_knows a_book_now_made a_book_now_sixteenths a_book_now_dots a_book_now_used a_book_now_stands v_status v_marked v_hasLived v_book_cells v_book_secrets v_book_pages v_book_blind v_book_rubs v_book_now_inOrder v_book_now_place v_book_now_ill v_book_now_shut v_book_now_turns v_book_now_madeInAll v_book_now_used)) hD rfl).sub (ws' := (k_X11_answer T a_ a_trays a_words a_odds a_tokens a_bookReader a_roundsReader a_book a_draft a_marks a_ahead a_life a_lifeTold v_status v_marked v_hasLived)) [0] rfl rfl
    refine mp_calli (isC := [0]) (wc := (k_X11_answer T a_ a_trays a_words a_odds a_tokens a_bookReader a_roundsReader a_book a_draft a_marks a_ahead a_life a_lifeTold v_status v_marked v_hasLived)) (w1 := (k_X11_answer T a_ a_trays a_words a_odds a_tokens a_bookReader a_roundsReader a_book a_draft a_marks a_ahead a_life a_lifeTold u37 v_marked v_hasLived)) hP (mp_D_of hD rfl) hS hA rfl rfl (mp_runV (As := [.int v_book_now_shut]) (rest := []) X me_X11_answer lk_X11_105 (c_X11_answer l D T a_ a_trays a_words a_odds a_tokens a_bookReader a_roundsReader a_book a_draft a_marks a_ahead a_life a_lifeTold v_book_now_shut v_marked v_hasLived v_status r36 u37 c38) rfl rfl ⟨(Nat.le_of_ble_eq_true rfl), (Nat.le_of_ble_eq_true rfl)⟩ hK hPc hDc rfl rfl rfl rfl hl.1 rfl (Nat.le_of_ble_eq_true rfl) dX11_many_146 ⟨Nat.zero_le _, Nat.zero_le _⟩) (fun H locs hP _ hS => ?_)
    replace hP : va_P D mp_cl (k_X11_many T a_ a_trays a_words a_odds a_tokens a_bookReader a_roundsReader a_book a_draft a_marks a_ahead a_life a_lifeTold a_book_cellNames a_book_secretNames a_book_pageNames a_book_speed a_book_letters a_book_room a_book_now a_book_rounds a_book_now_order a_book_now_knows a_book_now_made a_book_now_sixteenths a_book_now_dots a_book_now_used a_book_now_stands u37 v_marked v_hasLived v_book_cells v_book_secrets v_book_pages v_book_blind v_book_rubs v_book_now_inOrder v_book_now_place v_book_now_ill v_book_now_shut v_book_now_turns v_book_now_madeInAll v_book_now_used) H := hP
    cases hf
    exact mp_reti X hP hS rfl dX11_many_149
  replace hf := if_f hf h35
  refine lv_tableOut (tgt := 150) hx hb dX11_many_9 (sw_out (0) 9 (fun k hk => match k, hk with | 0, _ => fun e => h1 (Int32.toInt_inj.mp e) | 1, _ => fun e => h5 (Int32.toInt_inj.mp e) | 2, _ => fun e => h9 (Int32.toInt_inj.mp e) | 3, _ => fun e => h13 (Int32.toInt_inj.mp e) | 4, _ => fun e => h17 (Int32.toInt_inj.mp e) | 5, _ => fun e => h21 (Int32.toInt_inj.mp e) | 6, _ => fun e => h27 (Int32.toInt_inj.mp e) | 7, _ => fun e => h31 (Int32.toInt_inj.mp e) | 8, _ => fun e => h35 (Int32.toInt_inj.mp e) | k + 9, hk => absurd hk (by omega)) (by decide)) (by decide) ?_
  refine lv_aload_n hx hb dX11_many_150 rfl (lv_at hl 1 rfl) ?_
  refine lv_iconst (v := (nI 5)) hx hb dX11_many_151 (by decide) ?_
  obtain ⟨⟨r39, u40⟩, c41, hf⟩ := bd_of hf
  dsimp only at hf
  have hPc := hP.sub (ws' := (k_X11_refuse T a_ a_trays a_words a_odds a_tokens a_bookReader a_roundsReader a_book a_draft a_marks a_ahead a_life a_lifeTold v_status v_marked v_hasLived)) [0] rfl
  have hDc := (mp_D_of (w1 := (k_X11_many T a_ a_trays a_words a_odds a_tokens a_bookReader a_roundsReader a_book a_draft a_marks a_ahead a_life a_lifeTold a_book_cellNames a_book_secretNames a_book_pageNames a_book_speed a_book_letters a_book_room a_book_now a_book_rounds a_book_now_order a_book_now_knows a_book_now_made a_book_now_sixteenths a_book_now_dots a_book_now_used a_book_now_stands v_status v_marked v_hasLived v_book_cells v_book_secrets v_book_pages v_book_blind v_book_rubs v_book_now_inOrder v_book_now_place v_book_now_ill v_book_now_shut v_book_now_turns v_book_now_madeInAll v_book_now_used)) hD rfl).sub (ws' := (k_X11_refuse T a_ a_trays a_words a_odds a_tokens a_bookReader a_roundsReader a_book a_draft a_marks a_ahead a_life a_lifeTold v_status v_marked v_hasLived)) [0] rfl rfl
  refine mp_calli (isC := [0]) (wc := (k_X11_refuse T a_ a_trays a_words a_odds a_tokens a_bookReader a_roundsReader a_book a_draft a_marks a_ahead a_life a_lifeTold v_status v_marked v_hasLived)) (w1 := (k_X11_refuse T a_ a_trays a_words a_odds a_tokens a_bookReader a_roundsReader a_book a_draft a_marks a_ahead a_life a_lifeTold u40 v_marked v_hasLived)) hP (mp_D_of hD rfl) hS hA rfl rfl (mp_runV (As := [.int (nI 5)]) (rest := []) X me_X11_refuse lk_X11_101 (c_X11_refuse l D T a_ a_trays a_words a_odds a_tokens a_bookReader a_roundsReader a_book a_draft a_marks a_ahead a_life a_lifeTold (nI 5) v_marked v_hasLived v_status r39 u40 c41) rfl rfl ⟨(Nat.le_of_ble_eq_true rfl), (Nat.le_of_ble_eq_true rfl)⟩ hK hPc hDc rfl rfl rfl rfl hl.1 rfl (Nat.le_of_ble_eq_true rfl) dX11_many_152 ⟨Nat.zero_le _, Nat.zero_le _⟩) (fun H locs hP _ hS => ?_)
  replace hP : va_P D mp_cl (k_X11_many T a_ a_trays a_words a_odds a_tokens a_bookReader a_roundsReader a_book a_draft a_marks a_ahead a_life a_lifeTold a_book_cellNames a_book_secretNames a_book_pageNames a_book_speed a_book_letters a_book_room a_book_now a_book_rounds a_book_now_order a_book_now_knows a_book_now_made a_book_now_sixteenths a_book_now_dots a_book_now_used a_book_now_stands u40 v_marked v_hasLived v_book_cells v_book_secrets v_book_pages v_book_blind v_book_rubs v_book_now_inOrder v_book_now_place v_book_now_ill v_book_now_shut v_book_now_turns v_book_now_madeInAll v_book_now_used) H := hP
  cases hf
  exact mp_reti X hP hS rfl dX11_many_155


def k_X11_cell (T : Nat → ClassId) (a_ a_trays a_words a_odds a_tokens a_bookReader a_roundsReader a_book a_draft a_marks a_ahead a_life a_lifeTold a_book_cellNames a_book_secretNames a_book_pageNames a_book_speed a_book_letters a_book_room a_book_now a_book_rounds a_book_now_order a_book_now_knows a_book_now_made a_book_now_sixteenths a_book_now_dots a_book_now_used a_book_now_stands : Nat) (v_status : Int32) (v_marked : Int32) (v_hasLived : Int32) (v_book_cells : Int32) (v_book_secrets : Int32) (v_book_pages : Int32) (v_book_blind : Int32) (v_book_rubs : Int32) (v_book_now_inOrder : Int32) (v_book_now_place : Int32) (v_book_now_ill : Int32) (v_book_now_shut : Int32) (v_book_now_turns : Int32) (v_book_now_madeInAll : Int32) (v_book_now_knows : (Nat → Int32)) (v_book_now_made : (Nat → Int32)) (v_book_now_order : (Nat → Int32)) (v_book_speed : (Nat → Int32)) : va_W := [(a_, oX11 v_status a_trays a_words a_odds a_tokens a_bookReader a_roundsReader a_book a_draft a_marks v_marked a_ahead a_life a_lifeTold v_hasLived), (a_book, oX1 v_book_cells v_book_secrets v_book_pages a_book_cellNames a_book_secretNames a_book_pageNames a_book_speed v_book_blind v_book_rubs a_book_letters a_book_room a_book_now a_book_rounds), (a_book_now, oX7 a_book_now_order v_book_now_inOrder v_book_now_place a_book_now_knows a_book_now_made a_book_now_sixteenths a_book_now_dots a_book_now_used a_book_now_stands v_book_now_ill v_book_now_shut v_book_now_turns v_book_now_madeInAll), (a_book_now_knows, mp_aI T 8 v_book_now_knows), (a_book_now_made, mp_aI T 8 v_book_now_made), (a_book_now_order, mp_aI T 8 v_book_now_order), (a_book_speed, mp_aI T 8 v_book_speed)]
set_option maxHeartbeats 4000000 in
set_option maxRecDepth 100000 in
theorem c_X11_cell (l : Launch) (D : va_G) (T : Nat → ClassId) (fu : Nat) (a_ a_trays a_words a_odds a_tokens a_bookReader a_roundsReader a_book a_draft a_marks a_ahead a_life a_lifeTold a_book_cellNames a_book_secretNames a_book_pageNames a_book_speed a_book_letters a_book_room a_book_now a_book_rounds a_book_now_order a_book_now_knows a_book_now_made a_book_now_sixteenths a_book_now_dots a_book_now_used a_book_now_stands : Nat) (x1 : Int32) (x2 : Int32) (v_marked : Int32) (v_hasLived : Int32) (v_book_secrets : Int32) (v_book_pages : Int32) (v_book_now_place : Int32) (v_book_now_ill : Int32) (v_book_now_shut : Int32) (v_book_now_turns : Int32) (v_book_now_madeInAll : Int32) (v_status : Int32) (v_book_cells : Int32) (v_book_blind : Int32) (v_book_rubs : Int32) (v_book_now_inOrder : Int32) (v_book_now_knows : (Nat → Int32)) (v_book_now_made : (Nat → Int32)) (v_book_now_order : (Nat → Int32)) (v_book_speed : (Nat → Int32)) (r_ : Int32) (o_status : Int32) (hf : f_X11_cell fu x1 x2 v_status v_book_cells v_book_blind v_book_rubs v_book_now_inOrder v_book_now_knows v_book_now_made v_book_now_order v_book_speed = some (r_, o_status)) :
    mp_M l D T yX11_cell cX11_cell 3 (some .int) ({ frames := 2, cells := 0, slots := 0, locals := 42 }) 0 0 [.ref a_, .int x1, .int x2] (k_X11_cell T a_ a_trays a_words a_odds a_tokens a_bookReader a_roundsReader a_book a_draft a_marks a_ahead a_life a_lifeTold a_book_cellNames a_book_secretNames a_book_pageNames a_book_speed a_book_letters a_book_room a_book_now a_book_rounds a_book_now_order a_book_now_knows a_book_now_made a_book_now_sixteenths a_book_now_dots a_book_now_used a_book_now_stands v_status v_marked v_hasLived v_book_cells v_book_secrets v_book_pages v_book_blind v_book_rubs v_book_now_inOrder v_book_now_place v_book_now_ill v_book_now_shut v_book_now_turns v_book_now_madeInAll v_book_now_knows v_book_now_made v_book_now_order v_book_speed) (mp_Qi D r_ (k_X11_cell T a_ a_trays a_words a_odds a_tokens a_bookReader a_roundsReader a_book a_draft a_marks a_ahead a_life a_lifeTold a_book_cellNames a_book_secretNames a_book_pageNames a_book_speed a_book_letters a_book_room a_book_now a_book_rounds a_book_now_order a_book_now_knows a_book_now_made a_book_now_sixteenths a_book_now_dots a_book_now_used a_book_now_stands o_status v_marked v_hasLived v_book_cells v_book_secrets v_book_pages v_book_blind v_book_rubs v_book_now_inOrder v_book_now_place v_book_now_ill v_book_now_shut v_book_now_turns v_book_now_madeInAll v_book_now_knows v_book_now_made v_book_now_order v_book_speed)) := by
  refine mp_of (by decide) (Nat.le_of_ble_eq_true rfl) rfl ?_
  intro p e s m args below meth c A ls X hK hP hD hS hA hl
  replace X : mp_X p s m meth c args RX11 "cell" cX11_cell 3 (some .int) := X
  have hx := X.1
  have hb := X.2.1
  have hml := X.2.2.1
  have hown := X.2.2.2.2.1
  have hts := X.2.2.2.2.2.1
  replace hl : lv_has ls 3 [(0, .ref a_), (1, .int x1), (2, .int x2)] := hl
  replace hf : bd_ (f_X1_hasCell x1 v_book_cells) (fun (r1 : Int32) => (if r1 = 0 then bd_ (f_X11_refuse (nI 2) v_status) (fun (z : Int32 × Int32) => match z with | (r48, u49) => some (r48, u49)) else (if x2 = (nI 0) then gi_ x1 8 (bd_ (f_X11_answer (v_book_speed (x1).toNatClampNeg) v_status) (fun (z : Int32 × Int32) => match z with | (r6, u7) => some (r6, u7))) else (if x2 = (nI 1) then bd_ (f_X7_has v_book_blind x1) (fun (r10 : Int32) => (if r10 = 0 then bd_ (f_X11_answer (nI 0) v_status) (fun (z : Int32 × Int32) => match z with | (r13, u14) => some (r13, u14)) else bd_ (f_X11_answer (nI 1) v_status) (fun (z : Int32 × Int32) => match z with | (r16, u17) => some (r16, u17)))) else (if x2 = (nI 2) then bd_ (f_X7_has v_book_rubs x1) (fun (r20 : Int32) => (if r20 = 0 then bd_ (f_X11_answer (nI 0) v_status) (fun (z : Int32 × Int32) => match z with | (r23, u24) => some (r23, u24)) else bd_ (f_X11_answer (nI 1) v_status) (fun (z : Int32 × Int32) => match z with | (r26, u27) => some (r26, u27)))) else (if x2 = (nI 3) then gi_ x1 8 (bd_ (f_X11_answer (v_book_now_knows (x1).toNatClampNeg) v_status) (fun (z : Int32 × Int32) => match z with | (r31, u32) => some (r31, u32))) else (if x2 = (nI 4) then bd_ (f_X7_placeOf fu x1 v_book_now_inOrder v_book_now_order) (fun (r35 : Int32) => bd_ (f_X11_answerIfAny r35 v_status) (fun (z : Int32 × Int32) => match z with | (r37, u38) => some (r37, u38))) else (if x2 = (nI 5) then gi_ x1 8 (bd_ (f_X11_answer (v_book_now_made (x1).toNatClampNeg) v_status) (fun (z : Int32 × Int32) => match z with | (r42, u43) => some (r42, u43))) else bd_ (f_X11_refuse (nI 5) v_status) (fun (z : Int32 × Int32) => match z with | (r45, u46) => some (r45, u46)))))))))) = some (r_, o_status) := hf
  refine lv_aload_n hx hb dX11_cell_0 rfl (lv_at hl 0 rfl) ?_
  refine mp_get X fl_X11_58 hK hP 0 rfl rfl dX11_cell_1 ?_
  refine lv_iload_n hx hb dX11_cell_4 rfl (lv_at hl 1 rfl) ?_
  obtain ⟨r1, c2, hf⟩ := bd_of hf
  have hPc := hP.sub (ws' := (k_X1_hasCell T a_book a_book_cellNames a_book_secretNames a_book_pageNames a_book_speed a_book_letters a_book_room a_book_now a_book_rounds v_book_cells v_book_secrets v_book_pages v_book_blind v_book_rubs)) [1] rfl
  have hDc := (mp_D_of (w1 := (k_X11_cell T a_ a_trays a_words a_odds a_tokens a_bookReader a_roundsReader a_book a_draft a_marks a_ahead a_life a_lifeTold a_book_cellNames a_book_secretNames a_book_pageNames a_book_speed a_book_letters a_book_room a_book_now a_book_rounds a_book_now_order a_book_now_knows a_book_now_made a_book_now_sixteenths a_book_now_dots a_book_now_used a_book_now_stands v_status v_marked v_hasLived v_book_cells v_book_secrets v_book_pages v_book_blind v_book_rubs v_book_now_inOrder v_book_now_place v_book_now_ill v_book_now_shut v_book_now_turns v_book_now_madeInAll v_book_now_knows v_book_now_made v_book_now_order v_book_speed)) hD rfl).sub (ws' := (k_X1_hasCell T a_book a_book_cellNames a_book_secretNames a_book_pageNames a_book_speed a_book_letters a_book_room a_book_now a_book_rounds v_book_cells v_book_secrets v_book_pages v_book_blind v_book_rubs)) [1] rfl rfl
  refine mp_calli (isC := [1]) (wc := (k_X1_hasCell T a_book a_book_cellNames a_book_secretNames a_book_pageNames a_book_speed a_book_letters a_book_room a_book_now a_book_rounds v_book_cells v_book_secrets v_book_pages v_book_blind v_book_rubs)) (w1 := (k_X1_hasCell T a_book a_book_cellNames a_book_secretNames a_book_pageNames a_book_speed a_book_letters a_book_room a_book_now a_book_rounds v_book_cells v_book_secrets v_book_pages v_book_blind v_book_rubs)) hP (mp_D_of hD rfl) hS hA rfl rfl (mp_runV (As := [.int x1]) (rest := []) X me_X1_hasCell lk_X11_224 (c_X1_hasCell l D T a_book a_book_cellNames a_book_secretNames a_book_pageNames a_book_speed a_book_letters a_book_room a_book_now a_book_rounds x1 v_book_secrets v_book_pages v_book_blind v_book_rubs v_book_cells r1 c2) rfl rfl ⟨(Nat.le_of_ble_eq_true rfl), (Nat.le_of_ble_eq_true rfl)⟩ hK hPc hDc rfl rfl rfl rfl hl.1 rfl (Nat.le_of_ble_eq_true rfl) dX11_cell_5 ⟨Nat.zero_le _, Nat.zero_le _⟩) (fun H locs hP _ hS => ?_)
  replace hP : va_P D mp_cl (k_X11_cell T a_ a_trays a_words a_odds a_tokens a_bookReader a_roundsReader a_book a_draft a_marks a_ahead a_life a_lifeTold a_book_cellNames a_book_secretNames a_book_pageNames a_book_speed a_book_letters a_book_room a_book_now a_book_rounds a_book_now_order a_book_now_knows a_book_now_made a_book_now_sixteenths a_book_now_dots a_book_now_used a_book_now_stands v_status v_marked v_hasLived v_book_cells v_book_secrets v_book_pages v_book_blind v_book_rubs v_book_now_inOrder v_book_now_place v_book_now_ill v_book_now_shut v_book_now_turns v_book_now_madeInAll v_book_now_knows v_book_now_made v_book_now_order v_book_speed) H := hP
  refine lv_if_ne (tgt := 17) hx hb dX11_cell_8 (by decide) (fun h3 => ?_) (fun h3 => ?_)
  · replace hf := if_f hf h3
    refine lv_iload_n hx hb dX11_cell_17 rfl (lv_at hl 2 rfl) ?_
    by_cases h4 : x2 = (nI 0)
    · replace hf := if_t hf h4
      refine lv_tableIn (off := 38) (tgt := 56) hx hb dX11_cell_18 (by rw [h4]; decide) (by rw [h4]; decide) (by rw [h4]; decide) (by decide) ?_
      refine lv_aload_n hx hb dX11_cell_56 rfl (lv_at hl 0 rfl) ?_
      refine lv_aload_n hx hb dX11_cell_57 rfl (lv_at hl 0 rfl) ?_
      refine mp_get X fl_X11_58 hK hP 0 rfl rfl dX11_cell_58 ?_
      refine mp_get X fl_X11_227 hK hP 1 rfl rfl dX11_cell_61 ?_
      refine lv_iload_n hx hb dX11_cell_64 rfl (lv_at hl 1 rfl) ?_
      obtain ⟨h5, hf⟩ := gi_of hf
      refine va_iald hx hb hK hP 6 0 rfl rfl h5 dX11_cell_65 ?_
      obtain ⟨⟨r6, u7⟩, c8, hf⟩ := bd_of hf
      dsimp only at hf
      have hPc := hP.sub (ws' := (k_X11_answer T a_ a_trays a_words a_odds a_tokens a_bookReader a_roundsReader a_book a_draft a_marks a_ahead a_life a_lifeTold v_status v_marked v_hasLived)) [0] rfl
      have hDc := (mp_D_of (w1 := (k_X11_cell T a_ a_trays a_words a_odds a_tokens a_bookReader a_roundsReader a_book a_draft a_marks a_ahead a_life a_lifeTold a_book_cellNames a_book_secretNames a_book_pageNames a_book_speed a_book_letters a_book_room a_book_now a_book_rounds a_book_now_order a_book_now_knows a_book_now_made a_book_now_sixteenths a_book_now_dots a_book_now_used a_book_now_stands v_status v_marked v_hasLived v_book_cells v_book_secrets v_book_pages v_book_blind v_book_rubs v_book_now_inOrder v_book_now_place v_book_now_ill v_book_now_shut v_book_now_turns v_book_now_madeInAll v_book_now_knows v_book_now_made v_book_now_order v_book_speed)) hD rfl).sub (ws' := (k_X11_answer T a_ a_trays a_words a_odds a_tokens a_bookReader a_roundsReader a_book a_draft a_marks a_ahead a_life a_lifeTold v_status v_marked v_hasLived)) [0] rfl rfl
      refine mp_calli (isC := [0]) (wc := (k_X11_answer T a_ a_trays a_words a_odds a_tokens a_bookReader a_roundsReader a_book a_draft a_marks a_ahead a_life a_lifeTold v_status v_marked v_hasLived)) (w1 := (k_X11_answer T a_ a_trays a_words a_odds a_tokens a_bookReader a_roundsReader a_book a_draft a_marks a_ahead a_life a_lifeTold u7 v_marked v_hasLived)) hP (mp_D_of hD rfl) hS hA rfl rfl (mp_runV (As := [.int (v_book_speed (x1).toNatClampNeg)]) (rest := []) X me_X11_answer lk_X11_105 (c_X11_answer l D T a_ a_trays a_words a_odds a_tokens a_bookReader a_roundsReader a_book a_draft a_marks a_ahead a_life a_lifeTold (v_book_speed (x1).toNatClampNeg) v_marked v_hasLived v_status r6 u7 c8) rfl rfl ⟨(Nat.le_of_ble_eq_true rfl), (Nat.le_of_ble_eq_true rfl)⟩ hK hPc hDc rfl rfl rfl rfl hl.1 rfl (Nat.le_of_ble_eq_true rfl) dX11_cell_66 ⟨Nat.zero_le _, Nat.zero_le _⟩) (fun H locs hP _ hS => ?_)
      replace hP : va_P D mp_cl (k_X11_cell T a_ a_trays a_words a_odds a_tokens a_bookReader a_roundsReader a_book a_draft a_marks a_ahead a_life a_lifeTold a_book_cellNames a_book_secretNames a_book_pageNames a_book_speed a_book_letters a_book_room a_book_now a_book_rounds a_book_now_order a_book_now_knows a_book_now_made a_book_now_sixteenths a_book_now_dots a_book_now_used a_book_now_stands u7 v_marked v_hasLived v_book_cells v_book_secrets v_book_pages v_book_blind v_book_rubs v_book_now_inOrder v_book_now_place v_book_now_ill v_book_now_shut v_book_now_turns v_book_now_madeInAll v_book_now_knows v_book_now_made v_book_now_order v_book_speed) H := hP
      cases hf
      exact mp_reti X hP hS rfl dX11_cell_69
    replace hf := if_f hf h4
    by_cases h9 : x2 = (nI 1)
    · replace hf := if_t hf h9
      refine lv_tableIn (off := 52) (tgt := 70) hx hb dX11_cell_18 (by rw [h9]; decide) (by rw [h9]; decide) (by rw [h9]; decide) (by decide) ?_
      refine lv_aload_n hx hb dX11_cell_70 rfl (lv_at hl 0 rfl) ?_
      refine lv_aload_n hx hb dX11_cell_71 rfl (lv_at hl 0 rfl) ?_
      refine mp_get X fl_X11_58 hK hP 0 rfl rfl dX11_cell_72 ?_
      refine mp_get X fl_X11_230 hK hP 1 rfl rfl dX11_cell_75 ?_
      refine lv_iload_n hx hb dX11_cell_78 rfl (lv_at hl 1 rfl) ?_
      obtain ⟨r10, c11, hf⟩ := bd_of hf
      have hPc := hP.sub (ws' := (k_X7_has T )) [] rfl
      have hDc := (mp_D_of (w1 := (k_X11_cell T a_ a_trays a_words a_odds a_tokens a_bookReader a_roundsReader a_book a_draft a_marks a_ahead a_life a_lifeTold a_book_cellNames a_book_secretNames a_book_pageNames a_book_speed a_book_letters a_book_room a_book_now a_book_rounds a_book_now_order a_book_now_knows a_book_now_made a_book_now_sixteenths a_book_now_dots a_book_now_used a_book_now_stands v_status v_marked v_hasLived v_book_cells v_book_secrets v_book_pages v_book_blind v_book_rubs v_book_now_inOrder v_book_now_place v_book_now_ill v_book_now_shut v_book_now_turns v_book_now_madeInAll v_book_now_knows v_book_now_made v_book_now_order v_book_speed)) hD rfl).sub (ws' := (k_X7_has T )) [] rfl rfl
      refine mp_calli (isC := []) (wc := (k_X7_has T )) (w1 := (k_X7_has T )) hP (mp_D_of hD rfl) hS hA rfl rfl (mp_runS (As := [.int v_book_blind, .int x1]) (rest := [.ref a_]) X me_X7_has lk_X11_233 (c_X7_has l D T v_book_blind x1 r10 c11) rfl rfl ⟨(Nat.le_of_ble_eq_true rfl), (Nat.le_of_ble_eq_true rfl)⟩ hK hPc hDc rfl hl.1 rfl (Nat.le_of_ble_eq_true rfl) dX11_cell_79 ⟨Nat.zero_le _, Nat.zero_le _⟩) (fun H locs hP _ hS => ?_)
      replace hP : va_P D mp_cl (k_X11_cell T a_ a_trays a_words a_odds a_tokens a_bookReader a_roundsReader a_book a_draft a_marks a_ahead a_life a_lifeTold a_book_cellNames a_book_secretNames a_book_pageNames a_book_speed a_book_letters a_book_room a_book_now a_book_rounds a_book_now_order a_book_now_knows a_book_now_made a_book_now_sixteenths a_book_now_dots a_book_now_used a_book_now_stands v_status v_marked v_hasLived v_book_cells v_book_secrets v_book_pages v_book_blind v_book_rubs v_book_now_inOrder v_book_now_place v_book_now_ill v_book_now_shut v_book_now_turns v_book_now_madeInAll v_book_now_knows v_book_now_made v_book_now_order v_book_speed) H := hP
      refine lv_if_eq (tgt := 89) hx hb dX11_cell_82 (by decide) (fun h12 => ?_) (fun h12 => ?_)
      · replace hf := if_t hf h12
        refine lv_iconst (v := (nI 0)) hx hb dX11_cell_89 (by decide) ?_
        obtain ⟨⟨r13, u14⟩, c15, hf⟩ := bd_of hf
        dsimp only at hf
        have hPc := hP.sub (ws' := (k_X11_answer T a_ a_trays a_words a_odds a_tokens a_bookReader a_roundsReader a_book a_draft a_marks a_ahead a_life a_lifeTold v_status v_marked v_hasLived)) [0] rfl
        have hDc := (mp_D_of (w1 := (k_X11_cell T a_ a_trays a_words a_odds a_tokens a_bookReader a_roundsReader a_book a_draft a_marks a_ahead a_life a_lifeTold a_book_cellNames a_book_secretNames a_book_pageNames a_book_speed a_book_letters a_book_room a_book_now a_book_rounds a_book_now_order a_book_now_knows a_book_now_made a_book_now_sixteenths a_book_now_dots a_book_now_used a_book_now_stands v_status v_marked v_hasLived v_book_cells v_book_secrets v_book_pages v_book_blind v_book_rubs v_book_now_inOrder v_book_now_place v_book_now_ill v_book_now_shut v_book_now_turns v_book_now_madeInAll v_book_now_knows v_book_now_made v_book_now_order v_book_speed)) hD rfl).sub (ws' := (k_X11_answer T a_ a_trays a_words a_odds a_tokens a_bookReader a_roundsReader a_book a_draft a_marks a_ahead a_life a_lifeTold v_status v_marked v_hasLived)) [0] rfl rfl
        refine mp_calli (isC := [0]) (wc := (k_X11_answer T a_ a_trays a_words a_odds a_tokens a_bookReader a_roundsReader a_book a_draft a_marks a_ahead a_life a_lifeTold v_status v_marked v_hasLived)) (w1 := (k_X11_answer T a_ a_trays a_words a_odds a_tokens a_bookReader a_roundsReader a_book a_draft a_marks a_ahead a_life a_lifeTold u14 v_marked v_hasLived)) hP (mp_D_of hD rfl) hS hA rfl rfl (mp_runV (As := [.int (nI 0)]) (rest := []) X me_X11_answer lk_X11_105 (c_X11_answer l D T a_ a_trays a_words a_odds a_tokens a_bookReader a_roundsReader a_book a_draft a_marks a_ahead a_life a_lifeTold (nI 0) v_marked v_hasLived v_status r13 u14 c15) rfl rfl ⟨(Nat.le_of_ble_eq_true rfl), (Nat.le_of_ble_eq_true rfl)⟩ hK hPc hDc rfl rfl rfl rfl hl.1 rfl (Nat.le_of_ble_eq_true rfl) dX11_cell_90 ⟨Nat.zero_le _, Nat.zero_le _⟩) (fun H locs hP _ hS => ?_)
        replace hP : va_P D mp_cl (k_X11_cell T a_ a_trays a_words a_odds a_tokens a_bookReader a_roundsReader a_book a_draft a_marks a_ahead a_life a_lifeTold a_book_cellNames a_book_secretNames a_book_pageNames a_book_speed a_book_letters a_book_room a_book_now a_book_rounds a_book_now_order a_book_now_knows a_book_now_made a_book_now_sixteenths a_book_now_dots a_book_now_used a_book_now_stands u14 v_marked v_hasLived v_book_cells v_book_secrets v_book_pages v_book_blind v_book_rubs v_book_now_inOrder v_book_now_place v_book_now_ill v_book_now_shut v_book_now_turns v_book_now_madeInAll v_book_now_knows v_book_now_made v_book_now_order v_book_speed) H := hP
        cases hf
        exact mp_reti X hP hS rfl dX11_cell_93
      · replace hf := if_f hf h12
        refine lv_iconst (v := (nI 1)) hx hb dX11_cell_85 (by decide) ?_
        refine lv_goto (tgt := 90) hx hb dX11_cell_86 (by decide) ?_
        obtain ⟨⟨r16, u17⟩, c18, hf⟩ := bd_of hf
        dsimp only at hf
        have hPc := hP.sub (ws' := (k_X11_answer T a_ a_trays a_words a_odds a_tokens a_bookReader a_roundsReader a_book a_draft a_marks a_ahead a_life a_lifeTold v_status v_marked v_hasLived)) [0] rfl
        have hDc := (mp_D_of (w1 := (k_X11_cell T a_ a_trays a_words a_odds a_tokens a_bookReader a_roundsReader a_book a_draft a_marks a_ahead a_life a_lifeTold a_book_cellNames a_book_secretNames a_book_pageNames a_book_speed a_book_letters a_book_room a_book_now a_book_rounds a_book_now_order a_book_now_knows a_book_now_made a_book_now_sixteenths a_book_now_dots a_book_now_used a_book_now_stands v_status v_marked v_hasLived v_book_cells v_book_secrets v_book_pages v_book_blind v_book_rubs v_book_now_inOrder v_book_now_place v_book_now_ill v_book_now_shut v_book_now_turns v_book_now_madeInAll v_book_now_knows v_book_now_made v_book_now_order v_book_speed)) hD rfl).sub (ws' := (k_X11_answer T a_ a_trays a_words a_odds a_tokens a_bookReader a_roundsReader a_book a_draft a_marks a_ahead a_life a_lifeTold v_status v_marked v_hasLived)) [0] rfl rfl
        refine mp_calli (isC := [0]) (wc := (k_X11_answer T a_ a_trays a_words a_odds a_tokens a_bookReader a_roundsReader a_book a_draft a_marks a_ahead a_life a_lifeTold v_status v_marked v_hasLived)) (w1 := (k_X11_answer T a_ a_trays a_words a_odds a_tokens a_bookReader a_roundsReader a_book a_draft a_marks a_ahead a_life a_lifeTold u17 v_marked v_hasLived)) hP (mp_D_of hD rfl) hS hA rfl rfl (mp_runV (As := [.int (nI 1)]) (rest := []) X me_X11_answer lk_X11_105 (c_X11_answer l D T a_ a_trays a_words a_odds a_tokens a_bookReader a_roundsReader a_book a_draft a_marks a_ahead a_life a_lifeTold (nI 1) v_marked v_hasLived v_status r16 u17 c18) rfl rfl ⟨(Nat.le_of_ble_eq_true rfl), (Nat.le_of_ble_eq_true rfl)⟩ hK hPc hDc rfl rfl rfl rfl hl.1 rfl (Nat.le_of_ble_eq_true rfl) dX11_cell_90 ⟨Nat.zero_le _, Nat.zero_le _⟩) (fun H locs hP _ hS => ?_)
        replace hP : va_P D mp_cl (k_X11_cell T a_ a_trays a_words a_odds a_tokens a_bookReader a_roundsReader a_book a_draft a_marks a_ahead a_life a_lifeTold a_book_cellNames a_book_secretNames a_book_pageNames a_book_speed a_book_letters a_book_room a_book_now a_book_rounds a_book_now_order a_book_now_knows a_book_now_made a_book_now_sixteenths a_book_now_dots a_book_now_used a_book_now_stands u17 v_marked v_hasLived v_book_cells v_book_secrets v_book_pages v_book_blind v_book_rubs v_book_now_inOrder v_book_now_place v_book_now_ill v_book_now_shut v_book_now_turns v_book_now_madeInAll v_book_now_knows v_book_now_made v_book_now_order v_book_speed) H := hP
        cases hf
        exact mp_reti X hP hS rfl dX11_cell_93
    replace hf := if_f hf h9
    by_cases h19 : x2 = (nI 2)
    · replace hf := if_t hf h19
      refine lv_tableIn (off := 76) (tgt := 94) hx hb dX11_cell_18 (by rw [h19]; decide) (by rw [h19]; decide) (by rw [h19]; decide) (by decide) ?_
      refine lv_aload_n hx hb dX11_cell_94 rfl (lv_at hl 0 rfl) ?_
      refine lv_aload_n hx hb dX11_cell_95 rfl (lv_at hl 0 rfl) ?_
      refine mp_get X fl_X11_58 hK hP 0 rfl rfl dX11_cell_96 ?_
      refine mp_get X fl_X11_237 hK hP 1 rfl rfl dX11_cell_99 ?_
      refine lv_iload_n hx hb dX11_cell_102 rfl (lv_at hl 1 rfl) ?_
      obtain ⟨r20, c21, hf⟩ := bd_of hf
      have hPc := hP.sub (ws' := (k_X7_has T )) [] rfl
      have hDc := (mp_D_of (w1 := (k_X11_cell T a_ a_trays a_words a_odds a_tokens a_bookReader a_roundsReader a_book a_draft a_marks a_ahead a_life a_lifeTold a_book_cellNames a_book_secretNames a_book_pageNames a_book_speed a_book_letters a_book_room a_book_now a_book_rounds a_book_now_order a_book_now_knows a_book_now_made a_book_now_sixteenths a_book_now_dots a_book_now_used a_book_now_stands v_status v_marked v_hasLived v_book_cells v_book_secrets v_book_pages v_book_blind v_book_rubs v_book_now_inOrder v_book_now_place v_book_now_ill v_book_now_shut v_book_now_turns v_book_now_madeInAll v_book_now_knows v_book_now_made v_book_now_order v_book_speed)) hD rfl).sub (ws' := (k_X7_has T )) [] rfl rfl
      refine mp_calli (isC := []) (wc := (k_X7_has T )) (w1 := (k_X7_has T )) hP (mp_D_of hD rfl) hS hA rfl rfl (mp_runS (As := [.int v_book_rubs, .int x1]) (rest := [.ref a_]) X me_X7_has lk_X11_233 (c_X7_has l D T v_book_rubs x1 r20 c21) rfl rfl ⟨(Nat.le_of_ble_eq_true rfl), (Nat.le_of_ble_eq_true rfl)⟩ hK hPc hDc rfl hl.1 rfl (Nat.le_of_ble_eq_true rfl) dX11_cell_103 ⟨Nat.zero_le _, Nat.zero_le _⟩) (fun H locs hP _ hS => ?_)
      replace hP : va_P D mp_cl (k_X11_cell T a_ a_trays a_words a_odds a_tokens a_bookReader a_roundsReader a_book a_draft a_marks a_ahead a_life a_lifeTold a_book_cellNames a_book_secretNames a_book_pageNames a_book_speed a_book_letters a_book_room a_book_now a_book_rounds a_book_now_order a_book_now_knows a_book_now_made a_book_now_sixteenths a_book_now_dots a_book_now_used a_book_now_stands v_status v_marked v_hasLived v_book_cells v_book_secrets v_book_pages v_book_blind v_book_rubs v_book_now_inOrder v_book_now_place v_book_now_ill v_book_now_shut v_book_now_turns v_book_now_madeInAll v_book_now_knows v_book_now_made v_book_now_order v_book_speed) H := hP
      refine lv_if_eq (tgt := 113) hx hb dX11_cell_106 (by decide) (fun h22 => ?_) (fun h22 => ?_)
      · replace hf := if_t hf h22
        refine lv_iconst (v := (nI 0)) hx hb dX11_cell_113 (by decide) ?_
        obtain ⟨⟨r23, u24⟩, c25, hf⟩ := bd_of hf
        dsimp only at hf
        have hPc := hP.sub (ws' := (k_X11_answer T a_ a_trays a_words a_odds a_tokens a_bookReader a_roundsReader a_book a_draft a_marks a_ahead a_life a_lifeTold v_status v_marked v_hasLived)) [0] rfl
        have hDc := (mp_D_of (w1 := (k_X11_cell T a_ a_trays a_words a_odds a_tokens a_bookReader a_roundsReader a_book a_draft a_marks a_ahead a_life a_lifeTold a_book_cellNames a_book_secretNames a_book_pageNames a_book_speed a_book_letters a_book_room a_book_now a_book_rounds a_book_now_order a_book_now_knows a_book_now_made a_book_now_sixteenths a_book_now_dots a_book_now_used a_book_now_stands v_status v_marked v_hasLived v_book_cells v_book_secrets v_book_pages v_book_blind v_book_rubs v_book_now_inOrder v_book_now_place v_book_now_ill v_book_now_shut v_book_now_turns v_book_now_madeInAll v_book_now_knows v_book_now_made v_book_now_order v_book_speed)) hD rfl).sub (ws' := (k_X11_answer T a_ a_trays a_words a_odds a_tokens a_bookReader a_roundsReader a_book a_draft a_marks a_ahead a_life a_lifeTold v_status v_marked v_hasLived)) [0] rfl rfl
        refine mp_calli (isC := [0]) (wc := (k_X11_answer T a_ a_trays a_words a_odds a_tokens a_bookReader a_roundsReader a_book a_draft a_marks a_ahead a_life a_lifeTold v_status v_marked v_hasLived)) (w1 := (k_X11_answer T a_ a_trays a_words a_odds a_tokens a_bookReader a_roundsReader a_book a_draft a_marks a_ahead a_life a_lifeTold u24 v_marked v_hasLived)) hP (mp_D_of hD rfl) hS hA rfl rfl (mp_runV (As := [.int (nI 0)]) (rest := []) X me_X11_answer lk_X11_105 (c_X11_answer l D T a_ a_trays a_words a_odds a_tokens a_bookReader a_roundsReader a_book a_draft a_marks a_ahead a_life a_lifeTold (nI 0) v_marked v_hasLived v_status r23 u24 c25) rfl rfl ⟨(Nat.le_of_ble_eq_true rfl), (Nat.le_of_ble_eq_true rfl)⟩ hK hPc hDc rfl rfl rfl rfl hl.1 rfl (Nat.le_of_ble_eq_true rfl) dX11_cell_114 ⟨Nat.zero_le _, Nat.zero_le _⟩) (fun H locs hP _ hS => ?_)
        replace hP : va_P D mp_cl (k_X11_cell T a_ a_trays a_words a_odds a_tokens a_bookReader a_roundsReader a_book a_draft a_marks a_ahead a_life a_lifeTold a_book_cellNames a_book_secretNames a_book_pageNames a_book_speed a_book_letters a_book_room a_book_now a_book_rounds a_book_now_order a_book_now_knows a_book_now_made a_book_now_sixteenths a_book_now_dots a_book_now_used a_book_now_stands u24 v_marked v_hasLived v_book_cells v_book_secrets v_book_pages v_book_blind v_book_rubs v_book_now_inOrder v_book_now_place v_book_now_ill v_book_now_shut v_book_now_turns v_book_now_madeInAll v_book_now_knows v_book_now_made v_book_now_order v_book_speed) H := hP
        cases hf
        exact mp_reti X hP hS rfl dX11_cell_117
      · replace hf := if_f hf h22
        refine lv_iconst (v := (nI 1)) hx hb dX11_cell_109 (by decide) ?_
        refine lv_goto (tgt := 114) hx hb dX11_cell_110 (by decide) ?_
        obtain ⟨⟨r26, u27⟩, c28, hf⟩ := bd_of hf
        dsimp only at hf
        have hPc := hP.sub (ws' := (k_X11_answer T a_ a_trays a_words a_odds a_tokens a_bookReader a_roundsReader a_book a_draft a_marks a_ahead a_life a_lifeTold v_status v_marked v_hasLived)) [0] rfl
        have hDc := (mp_D_of (w1 := (k_X11_cell T a_ a_trays a_words a_odds a_tokens a_bookReader a_roundsReader a_book a_draft a_marks a_ahead a_life a_lifeTold a_book_cellNames a_book_secretNames a_book_pageNames a_book_speed a_book_letters a_book_room a_book_now a_book_rounds a_book_now_order a_book_now_knows a_book_now_made a_book_now_sixteenths a_book_now_dots a_book_now_used a_book_now_stands v_status v_marked v_hasLived v_book_cells v_book_secrets v_book_pages v_book_blind v_book_rubs v_book_now_inOrder v_book_now_place v_book_now_ill v_book_now_shut v_book_now_turns v_book_now_madeInAll v_book_now_knows v_book_now_made v_book_now_order v_book_speed)) hD rfl).sub (ws' := (k_X11_answer T a_ a_trays a_words a_odds a_tokens a_bookReader a_roundsReader a_book a_draft a_marks a_ahead a_life a_lifeTold v_status v_marked v_hasLived)) [0] rfl rfl
        refine mp_calli (isC := [0]) (wc := (k_X11_answer T a_ a_trays a_words a_odds a_tokens a_bookReader a_roundsReader a_book a_draft a_marks a_ahead a_life a_lifeTold v_status v_marked v_hasLived)) (w1 := (k_X11_answer T a_ a_trays a_words a_odds a_tokens a_bookReader a_roundsReader a_book a_draft a_marks a_ahead a_life a_lifeTold u27 v_marked v_hasLived)) hP (mp_D_of hD rfl) hS hA rfl rfl (mp_runV (As := [.int (nI 1)]) (rest := []) X me_X11_answer lk_X11_105 (c_X11_answer l D T a_ a_trays a_words a_odds a_tokens a_bookReader a_roundsReader a_book a_draft a_marks a_ahead a_life a_lifeTold (nI 1) v_marked v_hasLived v_status r26 u27 c28) rfl rfl ⟨(Nat.le_of_ble_eq_true rfl), (Nat.le_of_ble_eq_true rfl)⟩ hK hPc hDc rfl rfl rfl rfl hl.1 rfl (Nat.le_of_ble_eq_true rfl) dX11_cell_114 ⟨Nat.zero_le _, Nat.zero_le _⟩) (fun H locs hP _ hS => ?_)
        replace hP : va_P D mp_cl (k_X11_cell T a_ a_trays a_words a_odds a_tokens a_bookReader a_roundsReader a_book a_draft a_marks a_ahead a_life a_lifeTold a_book_cellNames a_book_secretNames a_book_pageNames a_book_speed a_book_letters a_book_room a_book_now a_book_rounds a_book_now_order a_book_now_knows a_book_now_made a_book_now_sixteenths a_book_now_dots a_book_now_used a_book_now_stands u27 v_marked v_hasLived v_book_cells v_book_secrets v_book_pages v_book_blind v_book_rubs v_book_now_inOrder v_book_now_place v_book_now_ill v_book_now_shut v_book_now_turns v_book_now_madeInAll v_book_now_knows v_book_now_made v_book_now_order v_book_speed) H := hP
        cases hf
        exact mp_reti X hP hS rfl dX11_cell_117
    replace hf := if_f hf h19
    by_cases h29 : x2 = (nI 3)
    · replace hf := if_t hf h29
      refine lv_tableIn (off := 100) (tgt := 118) hx hb dX11_cell_18 (by rw [h29]; decide) (by rw [h29]; decide) (by rw [h29]; decide) (by decide) ?_
      refine lv_aload_n hx hb dX11_cell_118 rfl (lv_at hl 0 rfl) ?_
      refine lv_aload_n hx hb dX11_cell_119 rfl (lv_at hl 0 rfl) ?_
      refine mp_get X fl_X11_58 hK hP 0 rfl rfl dX11_cell_120 ?_
      refine mp_get X fl_X11_193 hK hP 1 rfl rfl dX11_cell_123 ?_
      refine mp_get X fl_X11_240 hK hP 2 rfl rfl dX11_cell_126 ?_
      refine lv_iload_n hx hb dX11_cell_129 rfl (lv_at hl 1 rfl) ?_
      obtain ⟨h30, hf⟩ := gi_of hf
      refine va_iald hx hb hK hP 3 0 rfl rfl h30 dX11_cell_130 ?_
      obtain ⟨⟨r31, u32⟩, c33, hf⟩ := bd_of hf
      dsimp only at hf
      have hPc := hP.sub (ws' := (k_X11_answer T a_ a_trays a_words a_odds a_tokens a_bookReader a_roundsReader a_book a_draft a_marks a_ahead a_life a_lifeTold v_status v_marked v_hasLived)) [0] rfl
      have hDc := (mp_D_of (w1 := (k_X11_cell T a_ a_trays a_words a_odds a_tokens a_bookReader a_roundsReader a_book a_draft a_marks a_ahead a_life a_lifeTold a_book_cellNames a_book_secretNames a_book_pageNames a_book_speed a_book_letters a_book_room a_book_now a_book_rounds a_book_now_order a_book_now_knows a_book_now_made a_book_now_sixteenths a_book_now_dots a_book_now_used a_book_now_stands v_status v_marked v_hasLived v_book_cells v_book_secrets v_book_pages v_book_blind v_book_rubs v_book_now_inOrder v_book_now_place v_book_now_ill v_book_now_shut v_book_now_turns v_book_now_madeInAll v_book_now_knows v_book_now_made v_book_now_order v_book_speed)) hD rfl).sub (ws' := (k_X11_answer T a_ a_trays a_words a_odds a_tokens a_bookReader a_roundsReader a_book a_draft a_marks a_ahead a_life a_lifeTold v_status v_marked v_hasLived)) [0] rfl rfl
      refine mp_calli (isC := [0]) (wc := (k_X11_answer T a_ a_trays a_words a_odds a_tokens a_bookReader a_roundsReader a_book a_draft a_marks a_ahead a_life a_lifeTold v_status v_marked v_hasLived)) (w1 := (k_X11_answer T a_ a_trays a_words a_odds a_tokens a_bookReader a_roundsReader a_book a_draft a_marks a_ahead a_life a_lifeTold u32 v_marked v_hasLived)) hP (mp_D_of hD rfl) hS hA rfl rfl (mp_runV (As := [.int (v_book_now_knows (x1).toNatClampNeg)]) (rest := []) X me_X11_answer lk_X11_105 (c_X11_answer l D T a_ a_trays a_words a_odds a_tokens a_bookReader a_roundsReader a_book a_draft a_marks a_ahead a_life a_lifeTold (v_book_now_knows (x1).toNatClampNeg) v_marked v_hasLived v_status r31 u32 c33) rfl rfl ⟨(Nat.le_of_ble_eq_true rfl), (Nat.le_of_ble_eq_true rfl)⟩ hK hPc hDc rfl rfl rfl rfl hl.1 rfl (Nat.le_of_ble_eq_true rfl) dX11_cell_131 ⟨Nat.zero_le _, Nat.zero_le _⟩) (fun H locs hP _ hS => ?_)
      replace hP : va_P D mp_cl (k_X11_cell T a_ a_trays a_words a_odds a_tokens a_bookReader a_roundsReader a_book a_draft a_marks a_ahead a_life a_lifeTold a_book_cellNames a_book_secretNames a_book_pageNames a_book_speed a_book_letters a_book_room a_book_now a_book_rounds a_book_now_order a_book_now_knows a_book_now_made a_book_now_sixteenths a_book_now_dots a_book_now_used a_book_now_stands u32 v_marked v_hasLived v_book_cells v_book_secrets v_book_pages v_book_blind v_book_rubs v_book_now_inOrder v_book_now_place v_book_now_ill v_book_now_shut v_book_now_turns v_book_now_madeInAll v_book_now_knows v_book_now_made v_book_now_order v_book_speed) H := hP
      cases hf
      exact mp_reti X hP hS rfl dX11_cell_134
    replace hf := if_f hf h29
    by_cases h34 : x2 = (nI 4)
    · replace hf := if_t hf h34
      refine lv_tableIn (off := 117) (tgt := 135) hx hb dX11_cell_18 (by rw [h34]; decide) (by rw [h34]; decide) (by rw [h34]; decide) (by decide) ?_
      refine lv_aload_n hx hb dX11_cell_135 rfl (lv_at hl 0 rfl) ?_
      refine lv_aload_n hx hb dX11_cell_136 rfl (lv_at hl 0 rfl) ?_
      refine mp_get X fl_X11_58 hK hP 0 rfl rfl dX11_cell_137 ?_
      refine mp_get X fl_X11_193 hK hP 1 rfl rfl dX11_cell_140 ?_
      refine lv_iload_n hx hb dX11_cell_143 rfl (lv_at hl 1 rfl) ?_
      obtain ⟨r35, c36, hf⟩ := bd_of hf
      have hPc := hP.sub (ws' := (k_X7_placeOf T a_book_now a_book_now_order a_book_now_knows a_book_now_made a_book_now_sixteenths a_book_now_dots a_book_now_used a_book_now_stands v_book_now_inOrder v_book_now_place v_book_now_ill v_book_now_shut v_book_now_turns v_book_now_madeInAll v_book_now_order)) [2, 5] rfl
      have hDc := (mp_D_of (w1 := (k_X11_cell T a_ a_trays a_words a_odds a_tokens a_bookReader a_roundsReader a_book a_draft a_marks a_ahead a_life a_lifeTold a_book_cellNames a_book_secretNames a_book_pageNames a_book_speed a_book_letters a_book_room a_book_now a_book_rounds a_book_now_order a_book_now_knows a_book_now_made a_book_now_sixteenths a_book_now_dots a_book_now_used a_book_now_stands v_status v_marked v_hasLived v_book_cells v_book_secrets v_book_pages v_book_blind v_book_rubs v_book_now_inOrder v_book_now_place v_book_now_ill v_book_now_shut v_book_now_turns v_book_now_madeInAll v_book_now_knows v_book_now_made v_book_now_order v_book_speed)) hD rfl).sub (ws' := (k_X7_placeOf T a_book_now a_book_now_order a_book_now_knows a_book_now_made a_book_now_sixteenths a_book_now_dots a_book_now_used a_book_now_stands v_book_now_inOrder v_book_now_place v_book_now_ill v_book_now_shut v_book_now_turns v_book_now_madeInAll v_book_now_order)) [2, 5] rfl rfl
      refine mp_calli (isC := [2, 5]) (wc := (k_X7_placeOf T a_book_now a_book_now_order a_book_now_knows a_book_now_made a_book_now_sixteenths a_book_now_dots a_book_now_used a_book_now_stands v_book_now_inOrder v_book_now_place v_book_now_ill v_book_now_shut v_book_now_turns v_book_now_madeInAll v_book_now_order)) (w1 := (k_X7_placeOf T a_book_now a_book_now_order a_book_now_knows a_book_now_made a_book_now_sixteenths a_book_now_dots a_book_now_used a_book_now_stands v_book_now_inOrder v_book_now_place v_book_now_ill v_book_now_shut v_book_now_turns v_book_now_madeInAll v_book_now_order)) hP (mp_D_of hD rfl) hS hA rfl rfl (mp_runV (As := [.int x1]) (rest := [.ref a_]) X me_X7_placeOf lk_X11_243 (c_X7_placeOf l D T fu a_book_now a_book_now_order a_book_now_knows a_book_now_made a_book_now_sixteenths a_book_now_dots a_book_now_used a_book_now_stands x1 v_book_now_place v_book_now_ill v_book_now_shut v_book_now_turns v_book_now_madeInAll v_book_now_inOrder v_book_now_order r35 c36) rfl rfl ⟨(Nat.le_of_ble_eq_true rfl), (Nat.le_of_ble_eq_true rfl)⟩ hK hPc hDc rfl rfl rfl rfl hl.1 rfl (Nat.le_of_ble_eq_true rfl) dX11_cell_144 ⟨Nat.zero_le _, Nat.zero_le _⟩) (fun H locs hP _ hS => ?_)
      replace hP : va_P D mp_cl (k_X11_cell T a_ a_trays a_words a_odds a_tokens a_bookReader a_roundsReader a_book a_draft a_marks a_ahead a_life a_lifeTold a_book_cellNames a_book_secretNames a_book_pageNames a_book_speed a_book_letters a_book_room a_book_now a_book_rounds a_book_now_order a_book_now_knows a_book_now_made a_book_now_sixteenths a_book_now_dots a_book_now_used a_book_now_stands v_status v_marked v_hasLived v_book_cells v_book_secrets v_book_pages v_book_blind v_book_rubs v_book_now_inOrder v_book_now_place v_book_now_ill v_book_now_shut v_book_now_turns v_book_now_madeInAll v_book_now_knows v_book_now_made v_book_now_order v_book_speed) H := hP
      obtain ⟨⟨r37, u38⟩, c39, hf⟩ := bd_of hf
      dsimp only at hf
      have hPc := hP.sub (ws' := (k_X11_answerIfAny T a_ a_trays a_words a_odds a_tokens a_bookReader a_roundsReader a_book a_draft a_marks a_ahead a_life a_lifeTold v_status v_marked v_hasLived)) [0] rfl
      have hDc := (mp_D_of (w1 := (k_X11_cell T a_ a_trays a_words a_odds a_tokens a_bookReader a_roundsReader a_book a_draft a_marks a_ahead a_life a_lifeTold a_book_cellNames a_book_secretNames a_book_pageNames a_book_speed a_book_letters a_book_room a_book_now a_book_rounds a_book_now_order a_book_now_knows a_book_now_made a_book_now_sixteenths a_book_now_dots a_book_now_used a_book_now_stands v_status v_marked v_hasLived v_book_cells v_book_secrets v_book_pages v_book_blind v_book_rubs v_book_now_inOrder v_book_now_place v_book_now_ill v_book_now_shut v_book_now_turns v_book_now_madeInAll v_book_now_knows v_book_now_made v_book_now_order v_book_speed)) hD rfl).sub (ws' := (k_X11_answerIfAny T a_ a_trays a_words a_odds a_tokens a_bookReader a_roundsReader a_book a_draft a_marks a_ahead a_life a_lifeTold v_status v_marked v_hasLived)) [0] rfl rfl
      refine mp_calli (isC := [0]) (wc := (k_X11_answerIfAny T a_ a_trays a_words a_odds a_tokens a_bookReader a_roundsReader a_book a_draft a_marks a_ahead a_life a_lifeTold v_status v_marked v_hasLived)) (w1 := (k_X11_answerIfAny T a_ a_trays a_words a_odds a_tokens a_bookReader a_roundsReader a_book a_draft a_marks a_ahead a_life a_lifeTold u38 v_marked v_hasLived)) hP (mp_D_of hD rfl) hS hA rfl rfl (mp_runV (As := [.int r35]) (rest := []) X me_X11_answerIfAny lk_X11_246 (c_X11_answerIfAny l D T a_ a_trays a_words a_odds a_tokens a_bookReader a_roundsReader a_book a_draft a_marks a_ahead a_life a_lifeTold r35 v_marked v_hasLived v_status r37 u38 c39) rfl rfl ⟨(Nat.le_of_ble_eq_true rfl), (Nat.le_of_ble_eq_true rfl)⟩ hK hPc hDc rfl rfl rfl rfl hl.1 rfl (Nat.le_of_ble_eq_true rfl) dX11_cell_147 ⟨Nat.zero_le _, Nat.zero_le _⟩) (fun H locs hP _ hS => ?_)
      replace hP : va_P D mp_cl (k_X11_cell T a_ a_trays a_words a_odds a_tokens a_bookReader a_roundsReader a_book a_draft a_marks a_ahead a_life a_lifeTold a_book_cellNames a_book_secretNames a_book_pageNames a_book_speed a_book_letters a_book_room a_book_now a_book_rounds a_book_now_order a_book_now_knows a_book_now_made a_book_now_sixteenths a_book_now_dots a_book_now_used a_book_now_stands u38 v_marked v_hasLived v_book_cells v_book_secrets v_book_pages v_book_blind v_book_rubs v_book_now_inOrder v_book_now_place v_book_now_ill v_book_now_shut v_book_now_turns v_book_now_madeInAll v_book_now_knows v_book_now_made v_book_now_order v_book_speed) H := hP
      cases hf
      exact mp_reti X hP hS rfl dX11_cell_150
    replace hf := if_f hf h34
    by_cases h40 : x2 = (nI 5)
    · replace hf := if_t hf h40
      refine lv_tableIn (off := 133) (tgt := 151) hx hb dX11_cell_18 (by rw [h40]; decide) (by rw [h40]; decide) (by rw [h40]; decide) (by decide) ?_
      refine lv_aload_n hx hb dX11_cell_151 rfl (lv_at hl 0 rfl) ?_
      refine lv_aload_n hx hb dX11_cell_152 rfl (lv_at hl 0 rfl) ?_
      refine mp_get X fl_X11_58 hK hP 0 rfl rfl dX11_cell_153 ?_
      refine mp_get X fl_X11_193 hK hP 1 rfl rfl dX11_cell_156 ?_
      refine mp_get X fl_X11_249 hK hP 2 rfl rfl dX11_cell_159 ?_
      refine lv_iload_n hx hb dX11_cell_162 rfl (lv_at hl 1 rfl) ?_
      obtain ⟨h41, hf⟩ := gi_of hf
      refine va_iald hx hb hK hP 4 0 rfl rfl h41 dX11_cell_163 ?_
      obtain ⟨⟨r42, u43⟩, c44, hf⟩ := bd_of hf
      dsimp only at hf
      have hPc := hP.sub (ws' := (k_X11_answer T a_ a_trays a_words a_odds a_tokens a_bookReader a_roundsReader a_book a_draft a_marks a_ahead a_life a_lifeTold v_status v_marked v_hasLived)) [0] rfl
      have hDc := (mp_D_of (w1 := (k_X11_cell T a_ a_trays a_words a_odds a_tokens a_bookReader a_roundsReader a_book a_draft a_marks a_ahead a_life a_lifeTold a_book_cellNames a_book_secretNames a_book_pageNames a_book_speed a_book_letters a_book_room a_book_now a_book_rounds a_book_now_order a_book_now_knows a_book_now_made a_book_now_sixteenths a_book_now_dots a_book_now_used a_book_now_stands v_status v_marked v_hasLived v_book_cells v_book_secrets v_book_pages v_book_blind v_book_rubs v_book_now_inOrder v_book_now_place v_book_now_ill v_book_now_shut v_book_now_turns v_book_now_madeInAll v_book_now_knows v_book_now_made v_book_now_order v_book_speed)) hD rfl).sub (ws' := (k_X11_answer T a_ a_trays a_words a_odds a_tokens a_bookReader a_roundsReader a_book a_draft a_marks a_ahead a_life a_lifeTold v_status v_marked v_hasLived)) [0] rfl rfl
      refine mp_calli (isC := [0]) (wc := (k_X11_answer T a_ a_trays a_words a_odds a_tokens a_bookReader a_roundsReader a_book a_draft a_marks a_ahead a_life a_lifeTold v_status v_marked v_hasLived)) (w1 := (k_X11_answer T a_ a_trays a_words a_odds a_tokens a_bookReader a_roundsReader a_book a_draft a_marks a_ahead a_life a_lifeTold u43 v_marked v_hasLived)) hP (mp_D_of hD rfl) hS hA rfl rfl (mp_runV (As := [.int (v_book_now_made (x1).toNatClampNeg)]) (rest := []) X me_X11_answer lk_X11_105 (c_X11_answer l D T a_ a_trays a_words a_odds a_tokens a_bookReader a_roundsReader a_book a_draft a_marks a_ahead a_life a_lifeTold (v_book_now_made (x1).toNatClampNeg) v_marked v_hasLived v_status r42 u43 c44) rfl rfl ⟨(Nat.le_of_ble_eq_true rfl), (Nat.le_of_ble_eq_true rfl)⟩ hK hPc hDc rfl rfl rfl rfl hl.1 rfl (Nat.le_of_ble_eq_true rfl) dX11_cell_164 ⟨Nat.zero_le _, Nat.zero_le _⟩) (fun H locs hP _ hS => ?_)
      replace hP : va_P D mp_cl (k_X11_cell T a_ a_trays a_words a_odds a_tokens a_bookReader a_roundsReader a_book a_draft a_marks a_ahead a_life a_lifeTold a_book_cellNames a_book_secretNames a_book_pageNames a_book_speed a_book_letters a_book_room a_book_now a_book_rounds a_book_now_order a_book_now_knows a_book_now_made a_book_now_sixteenths a_book_now_dots a_book_now_used a_book_now_stands u43 v_marked v_hasLived v_book_cells v_book_secrets v_book_pages v_book_blind v_book_rubs v_book_now_inOrder v_book_now_place v_book_now_ill v_book_now_shut v_book_now_turns v_book_now_madeInAll v_book_now_knows v_book_now_made v_book_now_order v_book_speed) H := hP
      cases hf
      exact mp_reti X hP hS rfl dX11_cell_167
    replace hf := if_f hf h40
    refine lv_tableOut (tgt := 168) hx hb dX11_cell_18 (sw_out (0) 6 (fun k hk => match k, hk with | 0, _ => fun e => h4 (Int32.toInt_inj.mp e) | 1, _ => fun e => h9 (Int32.toInt_inj.mp e) | 2, _ => fun e => h19 (Int32.toInt_inj.mp e) | 3, _ => fun e => h29 (Int32.toInt_inj.mp e) | 4, _ => fun e => h34 (Int32.toInt_inj.mp e) | 5, _ => fun e => h40 (Int32.toInt_inj.mp e) | k + 6, hk => absurd hk (by omega)) (by decide)) (by decide) ?_
    refine lv_aload_n hx hb dX11_cell_168 rfl (lv_at hl 0 rfl) ?_
    refine lv_iconst (v := (nI 5)) hx hb dX11_cell_169 (by decide) ?_
    obtain ⟨⟨r45, u46⟩, c47, hf⟩ := bd_of hf
    dsimp only at hf
    have hPc := hP.sub (ws' := (k_X11_refuse T a_ a_trays a_words a_odds a_tokens a_bookReader a_roundsReader a_book a_draft a_marks a_ahead a_life a_lifeTold v_status v_marked v_hasLived)) [0] rfl
    have hDc := (mp_D_of (w1 := (k_X11_cell T a_ a_trays a_words a_odds a_tokens a_bookReader a_roundsReader a_book a_draft a_marks a_ahead a_life a_lifeTold a_book_cellNames a_book_secretNames a_book_pageNames a_book_speed a_book_letters a_book_room a_book_now a_book_rounds a_book_now_order a_book_now_knows a_book_now_made a_book_now_sixteenths a_book_now_dots a_book_now_used a_book_now_stands v_status v_marked v_hasLived v_book_cells v_book_secrets v_book_pages v_book_blind v_book_rubs v_book_now_inOrder v_book_now_place v_book_now_ill v_book_now_shut v_book_now_turns v_book_now_madeInAll v_book_now_knows v_book_now_made v_book_now_order v_book_speed)) hD rfl).sub (ws' := (k_X11_refuse T a_ a_trays a_words a_odds a_tokens a_bookReader a_roundsReader a_book a_draft a_marks a_ahead a_life a_lifeTold v_status v_marked v_hasLived)) [0] rfl rfl
    refine mp_calli (isC := [0]) (wc := (k_X11_refuse T a_ a_trays a_words a_odds a_tokens a_bookReader a_roundsReader a_book a_draft a_marks a_ahead a_life a_lifeTold v_status v_marked v_hasLived)) (w1 := (k_X11_refuse T a_ a_trays a_words a_odds a_tokens a_bookReader a_roundsReader a_book a_draft a_marks a_ahead a_life a_lifeTold u46 v_marked v_hasLived)) hP (mp_D_of hD rfl) hS hA rfl rfl (mp_runV (As := [.int (nI 5)]) (rest := []) X me_X11_refuse lk_X11_101 (c_X11_refuse l D T a_ a_trays a_words a_odds a_tokens a_bookReader a_roundsReader a_book a_draft a_marks a_ahead a_life a_lifeTold (nI 5) v_marked v_hasLived v_status r45 u46 c47) rfl rfl ⟨(Nat.le_of_ble_eq_true rfl), (Nat.le_of_ble_eq_true rfl)⟩ hK hPc hDc rfl rfl rfl rfl hl.1 rfl (Nat.le_of_ble_eq_true rfl) dX11_cell_170 ⟨Nat.zero_le _, Nat.zero_le _⟩) (fun H locs hP _ hS => ?_)
    replace hP : va_P D mp_cl (k_X11_cell T a_ a_trays a_words a_odds a_tokens a_bookReader a_roundsReader a_book a_draft a_marks a_ahead a_life a_lifeTold a_book_cellNames a_book_secretNames a_book_pageNames a_book_speed a_book_letters a_book_room a_book_now a_book_rounds a_book_now_order a_book_now_knows a_book_now_made a_book_now_sixteenths a_book_now_dots a_book_now_used a_book_now_stands u46 v_marked v_hasLived v_book_cells v_book_secrets v_book_pages v_book_blind v_book_rubs v_book_now_inOrder v_book_now_place v_book_now_ill v_book_now_shut v_book_now_turns v_book_now_madeInAll v_book_now_knows v_book_now_made v_book_now_order v_book_speed) H := hP
    cases hf
    exact mp_reti X hP hS rfl dX11_cell_173
  · replace hf := if_t hf h3
    refine lv_aload_n hx hb dX11_cell_11 rfl (lv_at hl 0 rfl) ?_
    refine lv_iconst (v := (nI 2)) hx hb dX11_cell_12 (by decide) ?_
    obtain ⟨⟨r48, u49⟩, c50, hf⟩ := bd_of hf
    dsimp only at hf
    have hPc := hP.sub (ws' := (k_X11_refuse T a_ a_trays a_words a_odds a_tokens a_bookReader a_roundsReader a_book a_draft a_marks a_ahead a_life a_lifeTold v_status v_marked v_hasLived)) [0] rfl
    have hDc := (mp_D_of (w1 := (k_X11_cell T a_ a_trays a_words a_odds a_tokens a_bookReader a_roundsReader a_book a_draft a_marks a_ahead a_life a_lifeTold a_book_cellNames a_book_secretNames a_book_pageNames a_book_speed a_book_letters a_book_room a_book_now a_book_rounds a_book_now_order a_book_now_knows a_book_now_made a_book_now_sixteenths a_book_now_dots a_book_now_used a_book_now_stands v_status v_marked v_hasLived v_book_cells v_book_secrets v_book_pages v_book_blind v_book_rubs v_book_now_inOrder v_book_now_place v_book_now_ill v_book_now_shut v_book_now_turns v_book_now_madeInAll v_book_now_knows v_book_now_made v_book_now_order v_book_speed)) hD rfl).sub (ws' := (k_X11_refuse T a_ a_trays a_words a_odds a_tokens a_bookReader a_roundsReader a_book a_draft a_marks a_ahead a_life a_lifeTold v_status v_marked v_hasLived)) [0] rfl rfl
    refine mp_calli (isC := [0]) (wc := (k_X11_refuse T a_ a_trays a_words a_odds a_tokens a_bookReader a_roundsReader a_book a_draft a_marks a_ahead a_life a_lifeTold v_status v_marked v_hasLived)) (w1 := (k_X11_refuse T a_ a_trays a_words a_odds a_tokens a_bookReader a_roundsReader a_book a_draft a_marks a_ahead a_life a_lifeTold u49 v_marked v_hasLived)) hP (mp_D_of hD rfl) hS hA rfl rfl (mp_runV (As := [.int (nI 2)]) (rest := []) X me_X11_refuse lk_X11_101 (c_X11_refuse l D T a_ a_trays a_words a_odds a_tokens a_bookReader a_roundsReader a_book a_draft a_marks a_ahead a_life a_lifeTold (nI 2) v_marked v_hasLived v_status r48 u49 c50) rfl rfl ⟨(Nat.le_of_ble_eq_true rfl), (Nat.le_of_ble_eq_true rfl)⟩ hK hPc hDc rfl rfl rfl rfl hl.1 rfl (Nat.le_of_ble_eq_true rfl) dX11_cell_13 ⟨Nat.zero_le _, Nat.zero_le _⟩) (fun H locs hP _ hS => ?_)
    replace hP : va_P D mp_cl (k_X11_cell T a_ a_trays a_words a_odds a_tokens a_bookReader a_roundsReader a_book a_draft a_marks a_ahead a_life a_lifeTold a_book_cellNames a_book_secretNames a_book_pageNames a_book_speed a_book_letters a_book_room a_book_now a_book_rounds a_book_now_order a_book_now_knows a_book_now_made a_book_now_sixteenths a_book_now_dots a_book_now_used a_book_now_stands u49 v_marked v_hasLived v_book_cells v_book_secrets v_book_pages v_book_blind v_book_rubs v_book_now_inOrder v_book_now_place v_book_now_ill v_book_now_shut v_book_now_turns v_book_now_madeInAll v_book_now_knows v_book_now_made v_book_now_order v_book_speed) H := hP
    cases hf
    exact mp_reti X hP hS rfl dX11_cell_16


