def k_X8_failAt (T : Nat → ClassId) (a_ a_tape a_keys : Nat) (v_filled : Int32) (v_end : Int32) (v_at : Int32) (v_kind : Int32) (v_place : Int32) (v_word : Int64) (v_key : Int32) (v_number : Int32) (v_faultKind : Int32) (v_faultPlace : Int32) : va_W := [(a_, oX8 a_tape v_filled v_end v_at v_kind v_place v_word v_key v_number v_faultKind v_faultPlace a_keys)]
set_option maxHeartbeats 4000000 in
set_option maxRecDepth 100000 in
theorem c_X8_failAt (l : Launch) (D : va_G) (T : Nat → ClassId) (a_ a_tape a_keys : Nat) (x1 : Int32) (x2 : Int32) (v_filled : Int32) (v_end : Int32) (v_at : Int32) (v_kind : Int32) (v_place : Int32) (v_word : Int64) (v_key : Int32) (v_number : Int32) (v_faultKind : Int32) (v_faultPlace : Int32) (r_ : Int32) (o_faultKind : Int32) (o_faultPlace : Int32) (hf : f_X8_failAt x1 x2 v_faultKind v_faultPlace = some (r_, o_faultKind, o_faultPlace)) :
    mp_M l D T yX8_failAt cX8_failAt 3 (some .boolean) ({ frames := 0, cells := 0, slots := 0, locals := 0 }) 0 0 [.ref a_, .int x1, .int x2] (k_X8_failAt T a_ a_tape a_keys v_filled v_end v_at v_kind v_place v_word v_key v_number v_faultKind v_faultPlace) (mp_Qi D r_ (k_X8_failAt T a_ a_tape a_keys v_filled v_end v_at v_kind v_place v_word v_key v_number o_faultKind o_faultPlace)) := by
  refine mp_of (by decide) (Nat.le_of_ble_eq_true rfl) rfl ?_
  intro p e s m args below meth c A ls X hK hP hD hS hA hl
  replace X : mp_X p s m meth c args RX8 "failAt" cX8_failAt 3 (some .boolean) := X
  have hx := X.1
  have hb := X.2.1
  have hml := X.2.2.1
  have hown := X.2.2.2.2.1
  have hts := X.2.2.2.2.2.1
  replace hl : lv_has ls 3 [(0, .ref a_), (1, .int x1), (2, .int x2)] := hl
  replace hf : some ((nI 0), x1, x2) = some (r_, o_faultKind, o_faultPlace) := hf
  refine lv_aload_n hx hb dX8_failAt_0 rfl (lv_at hl 0 rfl) ?_
  refine lv_iload_n hx hb dX8_failAt_1 rfl (lv_at hl 1 rfl) ?_
  refine mp_putf X fl_X8_43 fp_X8 rfl hK hP (mp_D_of hD rfl) hS 0 rfl rfl rfl (Nat.le_of_ble_eq_true rfl) dX8_failAt_2 (fun H locs hP _ hS => ?_)
  replace hP : va_P D mp_cl (k_X8_failAt T a_ a_tape a_keys v_filled v_end v_at v_kind v_place v_word v_key v_number x1 v_faultPlace) H := hP
  refine lv_aload_n hx hb dX8_failAt_5 rfl (lv_at hl 0 rfl) ?_
  refine lv_iload_n hx hb dX8_failAt_6 rfl (lv_at hl 2 rfl) ?_
  refine mp_putf X fl_X8_46 fp_X8 rfl hK hP (mp_D_of hD rfl) hS 0 rfl rfl rfl (Nat.le_of_ble_eq_true rfl) dX8_failAt_7 (fun H locs hP _ hS => ?_)
  replace hP : va_P D mp_cl (k_X8_failAt T a_ a_tape a_keys v_filled v_end v_at v_kind v_place v_word v_key v_number x1 x2) H := hP
  refine lv_iconst (v := (nI 0)) hx hb dX8_failAt_10 (by decide) ?_
  cases hf
  exact mp_retz X hP hS rfl (Or.inl rfl) dX8_failAt_11


def k_X8_fail (T : Nat → ClassId) (a_ a_tape a_keys : Nat) (v_filled : Int32) (v_end : Int32) (v_at : Int32) (v_kind : Int32) (v_place : Int32) (v_word : Int64) (v_key : Int32) (v_number : Int32) (v_faultKind : Int32) (v_faultPlace : Int32) : va_W := [(a_, oX8 a_tape v_filled v_end v_at v_kind v_place v_word v_key v_number v_faultKind v_faultPlace a_keys)]
set_option maxHeartbeats 4000000 in
set_option maxRecDepth 100000 in
theorem c_X8_fail (l : Launch) (D : va_G) (T : Nat → ClassId) (a_ a_tape a_keys : Nat) (x1 : Int32) (v_filled : Int32) (v_end : Int32) (v_at : Int32) (v_word : Int64) (v_key : Int32) (v_number : Int32) (v_kind : Int32) (v_place : Int32) (v_faultKind : Int32) (v_faultPlace : Int32) (r_ : Int32) (o_faultKind : Int32) (o_faultPlace : Int32) (hf : f_X8_fail x1 v_kind v_place v_faultKind v_faultPlace = some (r_, o_faultKind, o_faultPlace)) :
    mp_M l D T yX8_fail cX8_fail 2 (some .boolean) ({ frames := 1, cells := 0, slots := 0, locals := 22 }) 0 0 [.ref a_, .int x1] (k_X8_fail T a_ a_tape a_keys v_filled v_end v_at v_kind v_place v_word v_key v_number v_faultKind v_faultPlace) (mp_Qi D r_ (k_X8_fail T a_ a_tape a_keys v_filled v_end v_at v_kind v_place v_word v_key v_number o_faultKind o_faultPlace)) := by
  refine mp_of (by decide) (Nat.le_of_ble_eq_true rfl) rfl ?_
  intro p e s m args below meth c A ls X hK hP hD hS hA hl
  replace X : mp_X p s m meth c args RX8 "fail" cX8_fail 2 (some .boolean) := X
  have hx := X.1
  have hb := X.2.1
  have hml := X.2.2.1
  have hown := X.2.2.2.2.1
  have hts := X.2.2.2.2.2.1
  replace hl : lv_has ls 2 [(0, .ref a_), (1, .int x1)] := hl
  replace hf : (if v_kind = (nI 4) then bd_ (f_X8_failAt (nI 1) v_place v_faultKind v_faultPlace) (fun (z : Int32 × Int32 × Int32) => match z with | (r7, u8, u9) => gd_ (r7 = 0 ∨ r7 = 1) (some (r7, u8, u9))) else bd_ (f_X8_failAt x1 v_place v_faultKind v_faultPlace) (fun (z : Int32 × Int32 × Int32) => match z with | (r2, u3, u4) => gd_ (r2 = 0 ∨ r2 = 1) (some (r2, u3, u4)))) = some (r_, o_faultKind, o_faultPlace) := hf
  refine lv_aload_n hx hb dX8_fail_0 rfl (lv_at hl 0 rfl) ?_
  refine lv_aload_n hx hb dX8_fail_1 rfl (lv_at hl 0 rfl) ?_
  refine mp_get X fl_X8_25 hK hP 0 rfl rfl dX8_fail_2 ?_
  refine lv_iconst (v := (nI 4)) hx hb dX8_fail_5 (by decide) ?_
  refine lv_icmp_ne (tgt := 13) hx hb dX8_fail_6 (by decide) (fun h1 => ?_) (fun h1 => ?_)
  · replace hf := if_f hf h1
    refine lv_iload_n hx hb dX8_fail_13 rfl (lv_at hl 1 rfl) ?_
    refine lv_aload_n hx hb dX8_fail_14 rfl (lv_at hl 0 rfl) ?_
    refine mp_get X fl_X8_28 hK hP 0 rfl rfl dX8_fail_15 ?_
    obtain ⟨⟨r2, u3, u4⟩, c5, hf⟩ := bd_of hf
    dsimp only at hf
    have hPc := hP.sub (ws' := (k_X8_failAt T a_ a_tape a_keys v_filled v_end v_at v_kind v_place v_word v_key v_number v_faultKind v_faultPlace)) [0] rfl
    have hDc := (mp_D_of (w1 := (k_X8_fail T a_ a_tape a_keys v_filled v_end v_at v_kind v_place v_word v_key v_number v_faultKind v_faultPlace)) hD rfl).sub (ws' := (k_X8_failAt T a_ a_tape a_keys v_filled v_end v_at v_kind v_place v_word v_key v_number v_faultKind v_faultPlace)) [0] rfl rfl
    refine mp_calli (isC := [0]) (wc := (k_X8_failAt T a_ a_tape a_keys v_filled v_end v_at v_kind v_place v_word v_key v_number v_faultKind v_faultPlace)) (w1 := (k_X8_failAt T a_ a_tape a_keys v_filled v_end v_at v_kind v_place v_word v_key v_number u3 u4)) hP (mp_D_of hD rfl) hS hA rfl rfl (mp_runV (As := [.int x1, .int v_place]) (rest := []) X me_X8_failAt lk_X8_90 (c_X8_failAt l D T a_ a_tape a_keys x1 v_place v_filled v_end v_at v_kind v_place v_word v_key v_number v_faultKind v_faultPlace r2 u3 u4 c5) rfl rfl ⟨(Nat.le_of_ble_eq_true rfl), (Nat.le_of_ble_eq_true rfl)⟩ hK hPc hDc rfl rfl rfl rfl hl.1 rfl (Nat.le_of_ble_eq_true rfl) dX8_fail_18 ⟨Nat.zero_le _, Nat.zero_le _⟩) (fun H locs hP _ hS => ?_)
    replace hP : va_P D mp_cl (k_X8_fail T a_ a_tape a_keys v_filled v_end v_at v_kind v_place v_word v_key v_number u3 u4) H := hP
    obtain ⟨h6, hf⟩ := gd_of hf
    cases hf
    exact mp_retz X hP hS rfl h6 dX8_fail_21
  · replace hf := if_t hf h1
    refine lv_iconst (v := (nI 1)) hx hb dX8_fail_9 (by decide) ?_
    refine lv_goto (tgt := 14) hx hb dX8_fail_10 (by decide) ?_
    refine lv_aload_n hx hb dX8_fail_14 rfl (lv_at hl 0 rfl) ?_
    refine mp_get X fl_X8_28 hK hP 0 rfl rfl dX8_fail_15 ?_
    obtain ⟨⟨r7, u8, u9⟩, c10, hf⟩ := bd_of hf
    dsimp only at hf
    have hPc := hP.sub (ws' := (k_X8_failAt T a_ a_tape a_keys v_filled v_end v_at v_kind v_place v_word v_key v_number v_faultKind v_faultPlace)) [0] rfl
    have hDc := (mp_D_of (w1 := (k_X8_fail T a_ a_tape a_keys v_filled v_end v_at v_kind v_place v_word v_key v_number v_faultKind v_faultPlace)) hD rfl).sub (ws' := (k_X8_failAt T a_ a_tape a_keys v_filled v_end v_at v_kind v_place v_word v_key v_number v_faultKind v_faultPlace)) [0] rfl rfl
    refine mp_calli (isC := [0]) (wc := (k_X8_failAt T a_ a_tape a_keys v_filled v_end v_at v_kind v_place v_word v_key v_number v_faultKind v_faultPlace)) (w1 := (k_X8_failAt T a_ a_tape a_keys v_filled v_end v_at v_kind v_place v_word v_key v_number u8 u9)) hP (mp_D_of hD rfl) hS hA rfl rfl (mp_runV (As := [.int (nI 1), .int v_place]) (rest := []) X me_X8_failAt lk_X8_90 (c_X8_failAt l D T a_ a_tape a_keys (nI 1) v_place v_filled v_end v_at v_kind v_place v_word v_key v_number v_faultKind v_faultPlace r7 u8 u9 c10) rfl rfl ⟨(Nat.le_of_ble_eq_true rfl), (Nat.le_of_ble_eq_true rfl)⟩ hK hPc hDc rfl rfl rfl rfl hl.1 rfl (Nat.le_of_ble_eq_true rfl) dX8_fail_18 ⟨Nat.zero_le _, Nat.zero_le _⟩) (fun H locs hP _ hS => ?_)
    replace hP : va_P D mp_cl (k_X8_fail T a_ a_tape a_keys v_filled v_end v_at v_kind v_place v_word v_key v_number u8 u9) H := hP
    obtain ⟨h11, hf⟩ := gd_of hf
    cases hf
    exact mp_retz X hP hS rfl h11 dX8_fail_21


def k_X8_isLetter (T : Nat → ClassId) : va_W := []
set_option maxHeartbeats 4000000 in
set_option maxRecDepth 100000 in
theorem c_X8_isLetter (l : Launch) (D : va_G) (T : Nat → ClassId) (x1 : Int32) (r_ : Int32) (hf : f_X8_isLetter x1 = some r_) :
    mp_M l D T yX8_isLetter cX8_isLetter 1 (some .boolean) ({ frames := 0, cells := 0, slots := 0, locals := 0 }) 0 0 [.int x1] (k_X8_isLetter T ) (mp_Qi D r_ (k_X8_isLetter T )) := by
  refine mp_of (by decide) (Nat.le_of_ble_eq_true rfl) rfl ?_
  intro p e s m args below meth c A ls X hK hP hD hS hA hl
  replace X : mp_X p s m meth c args RX8 "isLetter" cX8_isLetter 1 (some .boolean) := X
  have hx := X.1
  have hb := X.2.1
  have hml := X.2.2.1
  have hown := X.2.2.2.2.1
  have hts := X.2.2.2.2.2.1
  replace hl : lv_has ls 1 [(0, .int x1)] := hl
  replace hf : (if x1 < (nI 97) then some ((nI 0)) else (if (nI 122) < x1 then some ((nI 0)) else some ((nI 1)))) = some r_ := hf
  refine lv_iload_n hx hb dX8_isLetter_0 rfl (lv_at hl 0 rfl) ?_
  refine lv_bipush (v := (nI 97)) hx hb dX8_isLetter_1 (by decide) ?_
  refine lv_icmp_lt (tgt := 16) hx hb dX8_isLetter_3 (by decide) (fun h1 => ?_) (fun h1 => ?_)
  · replace hf := if_t hf h1
    refine lv_iconst (v := (nI 0)) hx hb dX8_isLetter_16 (by decide) ?_
    cases hf
    exact mp_retz X hP hS rfl (Or.inl rfl) dX8_isLetter_17
  · replace hf := if_f hf h1
    refine lv_iload_n hx hb dX8_isLetter_6 rfl (lv_at hl 0 rfl) ?_
    refine lv_bipush (v := (nI 122)) hx hb dX8_isLetter_7 (by decide) ?_
    refine lv_icmp_gt (tgt := 16) hx hb dX8_isLetter_9 (by decide) (fun h2 => ?_) (fun h2 => ?_)
    · replace hf := if_t hf h2
      refine lv_iconst (v := (nI 0)) hx hb dX8_isLetter_16 (by decide) ?_
      cases hf
      exact mp_retz X hP hS rfl (Or.inl rfl) dX8_isLetter_17
    · replace hf := if_f hf h2
      refine lv_iconst (v := (nI 1)) hx hb dX8_isLetter_12 (by decide) ?_
      refine lv_goto (tgt := 17) hx hb dX8_isLetter_13 (by decide) ?_
      cases hf
      exact mp_retz X hP hS rfl (Or.inr rfl) dX8_isLetter_17


def k_X8_withLetter (T : Nat → ClassId) : va_W := []
set_option maxHeartbeats 4000000 in
set_option maxRecDepth 100000 in
theorem c_X8_withLetter (l : Launch) (D : va_G) (T : Nat → ClassId) (x1 : Int64) (x2 : Int32) (r_ : Int64) (hf : f_X8_withLetter x1 x2 = some r_) :
    mp_M l D T yX8_withLetter cX8_withLetter 3 (some .long) ({ frames := 0, cells := 0, slots := 0, locals := 0 }) 0 0 [.long x1, .int x2] (k_X8_withLetter T ) (mp_Ql D r_ (k_X8_withLetter T )) := by
  refine mp_of (by decide) (Nat.le_of_ble_eq_true rfl) rfl ?_
  intro p e s m args below meth c A ls X hK hP hD hS hA hl
  replace X : mp_X p s m meth c args RX8 "withLetter" cX8_withLetter 3 (some .long) := X
  have hx := X.1
  have hb := X.2.1
  have hml := X.2.2.1
  have hown := X.2.2.2.2.1
  have hts := X.2.2.2.2.2.1
  replace hl : lv_has ls 3 [(0, .long x1), (2, .int x2)] := hl
  replace hf : some ((x1 * (lN 32)) + ((x2 - (nI 97)) + (nI 1)).toInt64) = some r_ := hf
  refine lv_lload_n hx hb dX8_withLetter_0 rfl (lv_at hl 0 rfl) ?_
  refine lv_ldc2 (v := (lN 32)) hx hb hown (hts _ (cw_X8_69)) dX8_withLetter_1 ?_
  refine lv_lmul hx hb dX8_withLetter_4 ?_
  refine lv_iload_n hx hb dX8_withLetter_5 rfl (lv_at hl 1 rfl) ?_
  refine lv_bipush (v := (nI 97)) hx hb dX8_withLetter_6 (by decide) ?_
  refine lv_isub hx hb dX8_withLetter_8 ?_
  refine lv_iconst (v := (nI 1)) hx hb dX8_withLetter_9 (by decide) ?_
  refine lv_iadd hx hb dX8_withLetter_10 ?_
  refine lv_i2l hx hb dX8_withLetter_11 rfl ?_
  refine lv_ladd hx hb dX8_withLetter_12 ?_
  cases hf
  exact mp_retl X hP hS rfl dX8_withLetter_13


def k_X8_takeWord (T : Nat → ClassId) (a_ a_tape a_keys : Nat) (v_filled : Int32) (v_end : Int32) (v_at : Int32) (v_kind : Int32) (v_place : Int32) (v_word : Int64) (v_key : Int32) (v_number : Int32) (v_faultKind : Int32) (v_faultPlace : Int32) (v_keys : (Nat → Int64)) (v_tape : (Nat → Int32)) : va_W := [(a_, oX8 a_tape v_filled v_end v_at v_kind v_place v_word v_key v_number v_faultKind v_faultPlace a_keys), (a_keys, mp_aJ T 24 v_keys), (a_tape, mp_aB T 900 v_tape)]
set_option maxHeartbeats 4000000 in
set_option maxRecDepth 100000 in
theorem w_X8_takeWord_87 {p : Program} {l : Launch} {e : Env} {s : State} {m : MethodId} {args : Array Value} {below : List Frame} {meth : Method} {c : Code} {D : va_G} {T : Nat → ClassId} {A : Nat → Prop} (X : mp_X p s m meth c args RX8 "takeWord" cX8_takeWord 4 none) (hK : va_K D mp_cl (mp_ty T) s) (hA : ∀ q, s.heap.size ≤ q → A q) (fu : Nat) (a_ a_tape a_keys : Nat) (v_filled : Int32) (v_number : Int32) (v_faultKind : Int32) (v_faultPlace : Int32) (v_end : Int32) (v_place : Int32) (v_keys : (Nat → Int64)) (v_tape : (Nat → Int32)) (o_at : Int32) (o_kind : Int32) (o_word : Int64) (o_key : Int32) :
    ∀ (n : Nat) (z3 : Int32) (v_at : Int32) (v_kind : Int32) (v_word : Int64) (v_key : Int32), f_X8_takeWord_87 fu v_end v_place v_keys v_tape  n z3 v_at v_kind v_word v_key = some (o_at, o_kind, o_word, o_key) → ∀ (H : Heap) (locs : List Loc) (ls : Array Slot), va_P D mp_cl (k_X8_takeWord T a_ a_tape a_keys v_filled v_end v_at v_kind v_place v_word v_key v_number v_faultKind v_faultPlace v_keys v_tape) H → va_D A (k_X8_takeWord T a_ a_tape a_keys v_filled v_end v_at v_kind v_place v_word v_key v_number v_faultKind v_faultPlace v_keys v_tape) → va_S A s.heap H locs → lv_has ls 4 [(0, .ref a_), (3, .int z3)] → W p l e ({ frames := 1, cells := 0, slots := 0, locals := 22 }) s m args below meth c H locs 0 0 (MQ below ((mp_Qv D (k_X8_takeWord T a_ a_tape a_keys v_filled v_end o_at o_kind v_place o_word o_key v_number v_faultKind v_faultPlace v_keys v_tape)) A) args s 0 0 A) (F0 m 87 ls []) := by
  have hx := X.1
  have hb := X.2.1
  have hml := X.2.2.1
  have hown := X.2.2.2.2.1
  have hts := X.2.2.2.2.2.1
  intro n
  induction n with
  | zero => intro z3 v_at v_kind v_word v_key hf; exact absurd hf (by intro h; cases h)
  | succ n ih =>
    intro z3 v_at v_kind v_word v_key hf H locs ls hP hD hS hl
    replace hf : (if (nI 24) ≤ z3 then some (v_at, v_kind, v_word, v_key) else gi_ z3 24 ((if (lg_cmp (v_keys (z3).toNatClampNeg) v_word) = 0 then lt_ (z3 + (nI 1)) (fun (y5 : Int32) => f_X8_takeWord_87 fu v_end v_place v_keys v_tape  n y5 v_at v_kind v_word z3) else lt_ (z3 + (nI 1)) (fun (y4 : Int32) => f_X8_takeWord_87 fu v_end v_place v_keys v_tape  n y4 v_at v_kind v_word v_key)))) = some (o_at, o_kind, o_word, o_key) := hf
    refine lv_iload_n hx hb dX8_takeWord_87 rfl (lv_at hl 1 rfl) ?_
    refine lv_bipush (v := (nI 24)) hx hb dX8_takeWord_88 (by decide) ?_
    refine lv_icmp_ge (tgt := 118) hx hb dX8_takeWord_90 (by decide) (fun h1 => ?_) (fun h1 => ?_)
    · replace hf := if_t hf h1
      cases hf
      exact mp_retv X hP hS dX8_takeWord_118
    · replace hf := if_f hf h1
      refine lv_aload_n hx hb dX8_takeWord_93 rfl (lv_at hl 0 rfl) ?_
      refine mp_get X fl_X8_49 hK hP 0 rfl rfl dX8_takeWord_94 ?_
      refine lv_iload_n hx hb dX8_takeWord_97 rfl (lv_at hl 1 rfl) ?_
      obtain ⟨h2, hf⟩ := gi_of hf
      refine va_lald hx hb hK hP 1 1 rfl rfl h2 dX8_takeWord_98 ?_
      refine lv_aload_n hx hb dX8_takeWord_99 rfl (lv_at hl 0 rfl) ?_
      refine mp_get X fl_X8_33 hK hP 0 rfl rfl dX8_takeWord_100 ?_
      refine W.lcmp hx hb dX8_takeWord_103 ?_
      refine lv_if_ne (tgt := 112) hx hb dX8_takeWord_104 (by decide) (fun h3 => ?_) (fun h3 => ?_)
      · replace hf := if_f hf h3
        obtain ⟨y4, e4⟩ : ∃ y : Int32, y = z3 + (nI 1) := ⟨_, rfl⟩
        replace hf := lt_of e4 hf
        refine lv_iinc (v := y4) (lv' := [(3, .int y4), (0, .ref a_)]) hx hb dX8_takeWord_112 hl (k := 1) rfl (by rw [e4]; rfl) (by decide) rfl (fun ls hl => ?_)
        refine lv_goto (tgt := 87) hx hb dX8_takeWord_115 (by decide) ?_
        exact ih y4 v_at v_kind v_word v_key hf _ _ _ hP (mp_D_of hD rfl) hS (lv_sub hl [1, 0] rfl)
      · replace hf := if_t hf h3
        refine lv_aload_n hx hb dX8_takeWord_107 rfl (lv_at hl 0 rfl) ?_
        refine lv_iload_n hx hb dX8_takeWord_108 rfl (lv_at hl 1 rfl) ?_
        refine mp_putf X fl_X8_37 fp_X8 rfl hK hP (mp_D_of hD rfl) hS 0 rfl rfl rfl (Nat.le_of_ble_eq_true rfl) dX8_takeWord_109 (fun H locs hP _ hS => ?_)
        replace hP : va_P D mp_cl (k_X8_takeWord T a_ a_tape a_keys v_filled v_end v_at v_kind v_place v_word z3 v_number v_faultKind v_faultPlace v_keys v_tape) H := hP
        obtain ⟨y5, e5⟩ : ∃ y : Int32, y = z3 + (nI 1) := ⟨_, rfl⟩
        replace hf := lt_of e5 hf
        refine lv_iinc (v := y5) (lv' := [(3, .int y5), (0, .ref a_)]) hx hb dX8_takeWord_112 hl (k := 1) rfl (by rw [e5]; rfl) (by decide) rfl (fun ls hl => ?_)
        refine lv_goto (tgt := 87) hx hb dX8_takeWord_115 (by decide) ?_
        exact ih y5 v_at v_kind v_word z3 hf _ _ _ hP (mp_D_of hD rfl) hS (lv_sub hl [1, 0] rfl)

set_option maxHeartbeats 4000000 in
set_option maxRecDepth 100000 in
theorem w_X8_takeWord_55 {p : Program} {l : Launch} {e : Env} {s : State} {m : MethodId} {args : Array Value} {below : List Frame} {meth : Method} {c : Code} {D : va_G} {T : Nat → ClassId} {A : Nat → Prop} (X : mp_X p s m meth c args RX8 "takeWord" cX8_takeWord 4 none) (hK : va_K D mp_cl (mp_ty T) s) (hA : ∀ q, s.heap.size ≤ q → A q) (fu : Nat) (a_ a_tape a_keys : Nat) (v_filled : Int32) (v_number : Int32) (v_faultKind : Int32) (v_faultPlace : Int32) (v_end : Int32) (v_place : Int32) (v_keys : (Nat → Int64)) (v_tape : (Nat → Int32)) (o_at : Int32) (o_kind : Int32) (o_word : Int64) (o_key : Int32) :
    ∀  (z1 : Int64) (v_at : Int32) (v_kind : Int32) (v_word : Int64) (v_key : Int32), f_X8_takeWord_55 fu v_end v_place v_keys v_tape  z1 v_at v_kind v_word v_key = some (o_at, o_kind, o_word, o_key) → ∀ (H : Heap) (locs : List Loc) (ls : Array Slot), va_P D mp_cl (k_X8_takeWord T a_ a_tape a_keys v_filled v_end v_at v_kind v_place v_word v_key v_number v_faultKind v_faultPlace v_keys v_tape) H → va_D A (k_X8_takeWord T a_ a_tape a_keys v_filled v_end v_at v_kind v_place v_word v_key v_number v_faultKind v_faultPlace v_keys v_tape) → va_S A s.heap H locs → lv_has ls 4 [(0, .ref a_), (1, .long z1)] → W p l e ({ frames := 1, cells := 0, slots := 0, locals := 22 }) s m args below meth c H locs 0 0 (MQ below ((mp_Qv D (k_X8_takeWord T a_ a_tape a_keys v_filled v_end o_at o_kind v_place o_word o_key v_number v_faultKind v_faultPlace v_keys v_tape)) A) args s 0 0 A) (F0 m 55 ls []) := by
  have hx := X.1
  have hb := X.2.1
  have hml := X.2.2.1
  have hown := X.2.2.2.2.1
  have hts := X.2.2.2.2.2.1
  intro z1 v_at v_kind v_word v_key hf H locs ls hP hD hS hl
  replace hf : (if (v_at - v_place) ≤ (nI 8) then f_X8_takeWord_87 fu v_end v_place v_keys v_tape  fu (nI 0) v_at (nI 1) z1 v_key else f_X8_takeWord_87 fu v_end v_place v_keys v_tape  fu (nI 0) v_at (nI 1) (-1 : Int64) v_key) = some (o_at, o_kind, o_word, o_key) := hf
  refine lv_aload_n hx hb dX8_takeWord_55 rfl (lv_at hl 0 rfl) ?_
  refine lv_iconst (v := (nI 1)) hx hb dX8_takeWord_56 (by decide) ?_
  refine mp_putf X fl_X8_25 fp_X8 rfl hK hP (mp_D_of hD rfl) hS 0 rfl rfl rfl (Nat.le_of_ble_eq_true rfl) dX8_takeWord_57 (fun H locs hP _ hS => ?_)
  replace hP : va_P D mp_cl (k_X8_takeWord T a_ a_tape a_keys v_filled v_end v_at (nI 1) v_place v_word v_key v_number v_faultKind v_faultPlace v_keys v_tape) H := hP
  refine lv_aload_n hx hb dX8_takeWord_60 rfl (lv_at hl 0 rfl) ?_
  refine lv_aload_n hx hb dX8_takeWord_61 rfl (lv_at hl 0 rfl) ?_
  refine mp_get X fl_X8_22 hK hP 0 rfl rfl dX8_takeWord_62 ?_
  refine lv_aload_n hx hb dX8_takeWord_65 rfl (lv_at hl 0 rfl) ?_
  refine mp_get X fl_X8_28 hK hP 0 rfl rfl dX8_takeWord_66 ?_
  refine lv_isub hx hb dX8_takeWord_69 ?_
  refine lv_bipush (v := (nI 8)) hx hb dX8_takeWord_70 (by decide) ?_
  refine lv_icmp_le (tgt := 81) hx hb dX8_takeWord_72 (by decide) (fun h1 => ?_) (fun h1 => ?_)
  · replace hf := if_t hf h1
    refine lv_lload_n hx hb dX8_takeWord_81 rfl (lv_at hl 1 rfl) ?_
    refine mp_putf X fl_X8_33 fp_X8 rfl hK hP (mp_D_of hD rfl) hS 0 rfl rfl rfl (Nat.le_of_ble_eq_true rfl) dX8_takeWord_82 (fun H locs hP _ hS => ?_)
    replace hP : va_P D mp_cl (k_X8_takeWord T a_ a_tape a_keys v_filled v_end v_at (nI 1) v_place z1 v_key v_number v_faultKind v_faultPlace v_keys v_tape) H := hP
    refine lv_iconst (v := (nI 0)) hx hb dX8_takeWord_85 (by decide) ?_
    refine lv_istore_n (lv' := [(3, .int (nI 0)), (0, .ref a_), (1, .long z1)]) hx hb dX8_takeWord_86 rfl hl (by decide) rfl (fun ls hl => ?_)
    exact w_X8_takeWord_87 X hK hA  fu a_ a_tape a_keys v_filled v_number v_faultKind v_faultPlace v_end v_place v_keys v_tape o_at o_kind o_word o_key   fu (nI 0) v_at (nI 1) z1 v_key hf _ _ _ hP (mp_D_of hD rfl) hS (lv_sub hl [1, 0] rfl)
  · replace hf := if_f hf h1
    refine lv_ldc2 (v := (-1 : Int64)) hx hb hown (hts _ (cw_X8_31)) dX8_takeWord_75 ?_
    refine lv_goto (tgt := 82) hx hb dX8_takeWord_78 (by decide) ?_
    refine mp_putf X fl_X8_33 fp_X8 rfl hK hP (mp_D_of hD rfl) hS 0 rfl rfl rfl (Nat.le_of_ble_eq_true rfl) dX8_takeWord_82 (fun H locs hP _ hS => ?_)
    replace hP : va_P D mp_cl (k_X8_takeWord T a_ a_tape a_keys v_filled v_end v_at (nI 1) v_place (-1 : Int64) v_key v_number v_faultKind v_faultPlace v_keys v_tape) H := hP
    refine lv_iconst (v := (nI 0)) hx hb dX8_takeWord_85 (by decide) ?_
    refine lv_istore_n (lv' := [(3, .int (nI 0)), (0, .ref a_), (1, .long z1)]) hx hb dX8_takeWord_86 rfl hl (by decide) rfl (fun ls hl => ?_)
    exact w_X8_takeWord_87 X hK hA  fu a_ a_tape a_keys v_filled v_number v_faultKind v_faultPlace v_end v_place v_keys v_tape o_at o_kind o_word o_key   fu (nI 0) v_at (nI 1) (-1 : Int64) v_key hf _ _ _ hP (mp_D_of hD rfl) hS (lv_sub hl [1, 0] rfl)

set_option maxHeartbeats 4000000 in
set_option maxRecDepth 100000 in
theorem w_X8_takeWord_2 {p : Program} {l : Launch} {e : Env} {s : State} {m : MethodId} {args : Array Value} {below : List Frame} {meth : Method} {c : Code} {D : va_G} {T : Nat → ClassId} {A : Nat → Prop} (X : mp_X p s m meth c args RX8 "takeWord" cX8_takeWord 4 none) (hK : va_K D mp_cl (mp_ty T) s) (hA : ∀ q, s.heap.size ≤ q → A q) (fu : Nat) (a_ a_tape a_keys : Nat) (v_filled : Int32) (v_number : Int32) (v_faultKind : Int32) (v_faultPlace : Int32) (v_end : Int32) (v_place : Int32) (v_keys : (Nat → Int64)) (v_tape : (Nat → Int32)) (o_at : Int32) (o_kind : Int32) (o_word : Int64) (o_key : Int32) :
    ∀ (n : Nat) (z1 : Int64) (v_at : Int32) (v_kind : Int32) (v_word : Int64) (v_key : Int32), f_X8_takeWord_2 fu v_end v_place v_keys v_tape  n z1 v_at v_kind v_word v_key = some (o_at, o_kind, o_word, o_key) → ∀ (H : Heap) (locs : List Loc) (ls : Array Slot), va_P D mp_cl (k_X8_takeWord T a_ a_tape a_keys v_filled v_end v_at v_kind v_place v_word v_key v_number v_faultKind v_faultPlace v_keys v_tape) H → va_D A (k_X8_takeWord T a_ a_tape a_keys v_filled v_end v_at v_kind v_place v_word v_key v_number v_faultKind v_faultPlace v_keys v_tape) → va_S A s.heap H locs → lv_has ls 4 [(0, .ref a_), (1, .long z1)] → W p l e ({ frames := 1, cells := 0, slots := 0, locals := 22 }) s m args below meth c H locs 0 0 (MQ below ((mp_Qv D (k_X8_takeWord T a_ a_tape a_keys v_filled v_end o_at o_kind v_place o_word o_key v_number v_faultKind v_faultPlace v_keys v_tape)) A) args s 0 0 A) (F0 m 2 ls []) := by
  have hx := X.1
  have hb := X.2.1
  have hml := X.2.2.1
  have hown := X.2.2.2.2.1
  have hts := X.2.2.2.2.2.1
  intro n
  induction n with
  | zero => intro z1 v_at v_kind v_word v_key hf; exact absurd hf (by intro h; cases h)
  | succ n ih =>
    intro z1 v_at v_kind v_word v_key hf H locs ls hP hD hS hl
    replace hf : (if v_end ≤ v_at then f_X8_takeWord_55 fu v_end v_place v_keys v_tape  z1 v_at v_kind v_word v_key else gi_ v_at 900 (bd_ (f_X8_isLetter (v_tape (v_at).toNatClampNeg)) (fun (r3 : Int32) => (if r3 = 0 then f_X8_takeWord_55 fu v_end v_place v_keys v_tape  z1 v_at v_kind v_word v_key else gi_ v_at 900 (bd_ (f_X8_withLetter z1 (v_tape (v_at).toNatClampNeg)) (fun (r7 : Int64) => lt_ (v_at + (nI 1)) (fun (y9 : Int32) => f_X8_takeWord_2 fu v_end v_place v_keys v_tape  n r7 y9 v_kind v_word v_key))))))) = some (o_at, o_kind, o_word, o_key) := hf
    refine lv_aload_n hx hb dX8_takeWord_2 rfl (lv_at hl 0 rfl) ?_
    refine mp_get X fl_X8_22 hK hP 0 rfl rfl dX8_takeWord_3 ?_
    refine lv_aload_n hx hb dX8_takeWord_6 rfl (lv_at hl 0 rfl) ?_
    refine mp_get X fl_X8_19 hK hP 0 rfl rfl dX8_takeWord_7 ?_
    refine lv_icmp_ge (tgt := 55) hx hb dX8_takeWord_10 (by decide) (fun h1 => ?_) (fun h1 => ?_)
    · replace hf := if_t hf h1
      exact w_X8_takeWord_55 X hK hA  fu a_ a_tape a_keys v_filled v_number v_faultKind v_faultPlace v_end v_place v_keys v_tape o_at o_kind o_word o_key   z1 v_at v_kind v_word v_key hf _ _ _ hP (mp_D_of hD rfl) hS (lv_sub hl [0, 1] rfl)
    · replace hf := if_f hf h1
      refine lv_aload_n hx hb dX8_takeWord_13 rfl (lv_at hl 0 rfl) ?_
      refine mp_get X fl_X8_9 hK hP 0 rfl rfl dX8_takeWord_14 ?_
      refine lv_aload_n hx hb dX8_takeWord_17 rfl (lv_at hl 0 rfl) ?_
      refine mp_get X fl_X8_22 hK hP 0 rfl rfl dX8_takeWord_18 ?_
      obtain ⟨h2, hf⟩ := gi_of hf
      refine va_bald hx hb hK hP 2 2 rfl rfl h2 dX8_takeWord_21 ?_
      obtain ⟨r3, c4, hf⟩ := bd_of hf
      have hPc := hP.sub (ws' := (k_X8_isLetter T )) [] rfl
      have hDc := (mp_D_of (w1 := (k_X8_takeWord T a_ a_tape a_keys v_filled v_end v_at v_kind v_place v_word v_key v_number v_faultKind v_faultPlace v_keys v_tape)) hD rfl).sub (ws' := (k_X8_isLetter T )) [] rfl rfl
      refine mp_calli (isC := []) (wc := (k_X8_isLetter T )) (w1 := (k_X8_isLetter T )) hP (mp_D_of hD rfl) hS hA rfl rfl (mp_runS (As := [.int (v_tape (v_at).toNatClampNeg)]) (rest := []) X me_X8_isLetter lk_X8_74 (c_X8_isLetter l D T (v_tape (v_at).toNatClampNeg) r3 c4) rfl rfl ⟨(Nat.le_of_ble_eq_true rfl), (Nat.le_of_ble_eq_true rfl)⟩ hK hPc hDc rfl hl.1 rfl (Nat.le_of_ble_eq_true rfl) dX8_takeWord_22 ⟨Nat.zero_le _, Nat.zero_le _⟩) (fun H locs hP _ hS => ?_)
      replace hP : va_P D mp_cl (k_X8_takeWord T a_ a_tape a_keys v_filled v_end v_at v_kind v_place v_word v_key v_number v_faultKind v_faultPlace v_keys v_tape) H := hP
      refine lv_if_eq (tgt := 55) hx hb dX8_takeWord_25 (by decide) (fun h5 => ?_) (fun h5 => ?_)
      · replace hf := if_t hf h5
        exact w_X8_takeWord_55 X hK hA  fu a_ a_tape a_keys v_filled v_number v_faultKind v_faultPlace v_end v_place v_keys v_tape o_at o_kind o_word o_key   z1 v_at v_kind v_word v_key hf _ _ _ hP (mp_D_of hD rfl) hS (lv_sub hl [0, 1] rfl)
      · replace hf := if_f hf h5
        refine lv_lload_n hx hb dX8_takeWord_28 rfl (lv_at hl 1 rfl) ?_
        refine lv_aload_n hx hb dX8_takeWord_29 rfl (lv_at hl 0 rfl) ?_
        refine mp_get X fl_X8_9 hK hP 0 rfl rfl dX8_takeWord_30 ?_
        refine lv_aload_n hx hb dX8_takeWord_33 rfl (lv_at hl 0 rfl) ?_
        refine mp_get X fl_X8_22 hK hP 0 rfl rfl dX8_takeWord_34 ?_
        obtain ⟨h6, hf⟩ := gi_of hf
        refine va_bald hx hb hK hP 2 2 rfl rfl h6 dX8_takeWord_37 ?_
        obtain ⟨r7, c8, hf⟩ := bd_of hf
        have hPc := hP.sub (ws' := (k_X8_withLetter T )) [] rfl
        have hDc := (mp_D_of (w1 := (k_X8_takeWord T a_ a_tape a_keys v_filled v_end v_at v_kind v_place v_word v_key v_number v_faultKind v_faultPlace v_keys v_tape)) hD rfl).sub (ws' := (k_X8_withLetter T )) [] rfl rfl
        refine mp_calll (isC := []) (wc := (k_X8_withLetter T )) (w1 := (k_X8_withLetter T )) hP (mp_D_of hD rfl) hS hA rfl rfl (mp_runS (As := [.long z1, .int (v_tape (v_at).toNatClampNeg)]) (rest := []) X me_X8_withLetter lk_X8_65 (c_X8_withLetter l D T z1 (v_tape (v_at).toNatClampNeg) r7 c8) rfl rfl ⟨(Nat.le_of_ble_eq_true rfl), (Nat.le_of_ble_eq_true rfl)⟩ hK hPc hDc rfl hl.1 rfl (Nat.le_of_ble_eq_true rfl) dX8_takeWord_38 ⟨Nat.zero_le _, Nat.zero_le _⟩) (fun H locs hP _ hS => ?_)
        replace hP : va_P D mp_cl (k_X8_takeWord T a_ a_tape a_keys v_filled v_end v_at v_kind v_place v_word v_key v_number v_faultKind v_faultPlace v_keys v_tape) H := hP
        refine lv_lstore_n (lv' := [(1, .long r7), (0, .ref a_)]) hx hb dX8_takeWord_41 rfl hl (by decide) rfl (fun ls hl => ?_)
        refine lv_aload_n hx hb dX8_takeWord_42 rfl (lv_at hl 1 rfl) ?_
        refine lv_dup hx hb dX8_takeWord_43 rfl ?_
        refine mp_get X fl_X8_22 hK hP 0 rfl rfl dX8_takeWord_44 ?_
        refine lv_iconst (v := (nI 1)) hx hb dX8_takeWord_47 (by decide) ?_
        refine lv_iadd hx hb dX8_takeWord_48 ?_
        refine lv_topi (fun y9 e9 => ?_)
        replace hf := lt_of e9 hf
        refine mp_putf X fl_X8_22 fp_X8 rfl hK hP (mp_D_of hD rfl) hS 0 rfl rfl rfl (Nat.le_of_ble_eq_true rfl) dX8_takeWord_49 (fun H locs hP _ hS => ?_)
        replace hP : va_P D mp_cl (k_X8_takeWord T a_ a_tape a_keys v_filled v_end y9 v_kind v_place v_word v_key v_number v_faultKind v_faultPlace v_keys v_tape) H := hP
        refine lv_goto (tgt := 2) hx hb dX8_takeWord_52 (by decide) ?_
        exact ih r7 y9 v_kind v_word v_key hf _ _ _ hP (mp_D_of hD rfl) hS (lv_sub hl [1, 0] rfl)

set_option maxHeartbeats 4000000 in
set_option maxRecDepth 100000 in
theorem c_X8_takeWord (l : Launch) (D : va_G) (T : Nat → ClassId) (fu : Nat) (a_ a_tape a_keys : Nat) (v_filled : Int32) (v_number : Int32) (v_faultKind : Int32) (v_faultPlace : Int32) (v_end : Int32) (v_at : Int32) (v_kind : Int32) (v_place : Int32) (v_word : Int64) (v_key : Int32) (v_keys : (Nat → Int64)) (v_tape : (Nat → Int32)) (o_at : Int32) (o_kind : Int32) (o_word : Int64) (o_key : Int32) (hf : f_X8_takeWord fu v_end v_at v_kind v_place v_word v_key v_keys v_tape = some (o_at, o_kind, o_word, o_key)) :
    mp_M l D T yX8_takeWord cX8_takeWord 4 none ({ frames := 1, cells := 0, slots := 0, locals := 22 }) 0 0 [.ref a_] (k_X8_takeWord T a_ a_tape a_keys v_filled v_end v_at v_kind v_place v_word v_key v_number v_faultKind v_faultPlace v_keys v_tape) (mp_Qv D (k_X8_takeWord T a_ a_tape a_keys v_filled v_end o_at o_kind v_place o_word o_key v_number v_faultKind v_faultPlace v_keys v_tape)) := by
  refine mp_of (by decide) (Nat.le_of_ble_eq_true rfl) rfl ?_
  intro p e s m args below meth c A ls X hK hP hD hS hA hl
  replace X : mp_X p s m meth c args RX8 "takeWord" cX8_takeWord 4 none := X
  have hx := X.1
  have hb := X.2.1
  have hml := X.2.2.1
  have hown := X.2.2.2.2.1
  have hts := X.2.2.2.2.2.1
  replace hl : lv_has ls 4 [(0, .ref a_)] := hl
  replace hf : f_X8_takeWord_2 fu v_end v_place v_keys v_tape  fu (lN 0) v_at v_kind v_word v_key = some (o_at, o_kind, o_word, o_key) := hf
  refine lv_lconst (v := (lN 0)) hx hb dX8_takeWord_0 (by decide) ?_
  refine lv_lstore_n (lv' := [(1, .long (lN 0)), (0, .ref a_)]) hx hb dX8_takeWord_1 rfl hl (by decide) rfl (fun ls hl => ?_)
  exact w_X8_takeWord_2 X hK hA  fu a_ a_tape a_keys v_filled v_number v_faultKind v_faultPlace v_end v_place v_keys v_tape o_at o_kind o_word o_key   fu (lN 0) v_at v_kind v_word v_key hf _ _ _ hP (mp_D_of hD rfl) hS (lv_sub hl [1, 0] rfl)


def k_X8_isDigit (T : Nat → ClassId) : va_W := []
set_option maxHeartbeats 4000000 in
set_option maxRecDepth 100000 in
theorem c_X8_isDigit (l : Launch) (D : va_G) (T : Nat → ClassId) (x1 : Int32) (r_ : Int32) (hf : f_X8_isDigit x1 = some r_) :
    mp_M l D T yX8_isDigit cX8_isDigit 1 (some .boolean) ({ frames := 0, cells := 0, slots := 0, locals := 0 }) 0 0 [.int x1] (k_X8_isDigit T ) (mp_Qi D r_ (k_X8_isDigit T )) := by
  refine mp_of (by decide) (Nat.le_of_ble_eq_true rfl) rfl ?_
  intro p e s m args below meth c A ls X hK hP hD hS hA hl
  replace X : mp_X p s m meth c args RX8 "isDigit" cX8_isDigit 1 (some .boolean) := X
  have hx := X.1
  have hb := X.2.1
  have hml := X.2.2.1
  have hown := X.2.2.2.2.1
  have hts := X.2.2.2.2.2.1
  replace hl : lv_has ls 1 [(0, .int x1)] := hl
  replace hf : (if x1 < (nI 48) then some ((nI 0)) else (if (nI 57) < x1 then some ((nI 0)) else some ((nI 1)))) = some r_ := hf
  refine lv_iload_n hx hb dX8_isDigit_0 rfl (lv_at hl 0 rfl) ?_
  refine lv_bipush (v := (nI 48)) hx hb dX8_isDigit_1 (by decide) ?_
  refine lv_icmp_lt (tgt := 16) hx hb dX8_isDigit_3 (by decide) (fun h1 => ?_) (fun h1 => ?_)
  · replace hf := if_t hf h1
    refine lv_iconst (v := (nI 0)) hx hb dX8_isDigit_16 (by decide) ?_
    cases hf
    exact mp_retz X hP hS rfl (Or.inl rfl) dX8_isDigit_17
  · replace hf := if_f hf h1
    refine lv_iload_n hx hb dX8_isDigit_6 rfl (lv_at hl 0 rfl) ?_
    refine lv_bipush (v := (nI 57)) hx hb dX8_isDigit_7 (by decide) ?_
    refine lv_icmp_gt (tgt := 16) hx hb dX8_isDigit_9 (by decide) (fun h2 => ?_) (fun h2 => ?_)
    · replace hf := if_t hf h2
      refine lv_iconst (v := (nI 0)) hx hb dX8_isDigit_16 (by decide) ?_
      cases hf
      exact mp_retz X hP hS rfl (Or.inl rfl) dX8_isDigit_17
    · replace hf := if_f hf h2
      refine lv_iconst (v := (nI 1)) hx hb dX8_isDigit_12 (by decide) ?_
      refine lv_goto (tgt := 17) hx hb dX8_isDigit_13 (by decide) ?_
      cases hf
      exact mp_retz X hP hS rfl (Or.inr rfl) dX8_isDigit_17


def k_X8_takeNumber (T : Nat → ClassId) (a_ a_tape a_keys : Nat) (v_filled : Int32) (v_end : Int32) (v_at : Int32) (v_kind : Int32) (v_place : Int32) (v_word : Int64) (v_key : Int32) (v_number : Int32) (v_faultKind : Int32) (v_faultPlace : Int32) (v_tape : (Nat → Int32)) : va_W := [(a_, oX8 a_tape v_filled v_end v_at v_kind v_place v_word v_key v_number v_faultKind v_faultPlace a_keys), (a_tape, mp_aB T 900 v_tape)]
set_option maxHeartbeats 4000000 in
set_option maxRecDepth 100000 in
theorem w_X8_takeNumber_68 {p : Program} {l : Launch} {e : Env} {s : State} {m : MethodId} {args : Array Value} {below : List Frame} {meth : Method} {c : Code} {D : va_G} {T : Nat → ClassId} {A : Nat → Prop} (X : mp_X p s m meth c args RX8 "takeNumber" cX8_takeNumber 1 none) (hK : va_K D mp_cl (mp_ty T) s) (hA : ∀ q, s.heap.size ≤ q → A q) (fu : Nat) (a_ a_tape a_keys : Nat) (v_filled : Int32) (v_word : Int64) (v_key : Int32) (v_faultKind : Int32) (v_faultPlace : Int32) (v_end : Int32) (v_place : Int32) (v_tape : (Nat → Int32)) (o_at : Int32) (o_kind : Int32) (o_number : Int32) :
    ∀  (v_at : Int32) (v_kind : Int32) (v_number : Int32), f_X8_takeNumber_68 fu v_end v_place v_tape  v_at v_kind v_number = some (o_at, o_kind, o_number) → ∀ (H : Heap) (locs : List Loc) (ls : Array Slot), va_P D mp_cl (k_X8_takeNumber T a_ a_tape a_keys v_filled v_end v_at v_kind v_place v_word v_key v_number v_faultKind v_faultPlace v_tape) H → va_D A (k_X8_takeNumber T a_ a_tape a_keys v_filled v_end v_at v_kind v_place v_word v_key v_number v_faultKind v_faultPlace v_tape) → va_S A s.heap H locs → lv_has ls 1 [(0, .ref a_)] → W p l e ({ frames := 1, cells := 0, slots := 0, locals := 20 }) s m args below meth c H locs 0 0 (MQ below ((mp_Qv D (k_X8_takeNumber T a_ a_tape a_keys v_filled v_end o_at o_kind v_place v_word v_key o_number v_faultKind v_faultPlace v_tape)) A) args s 0 0 A) (F0 m 68 ls []) := by
  have hx := X.1
  have hb := X.2.1
  have hml := X.2.2.1
  have hown := X.2.2.2.2.1
  have hts := X.2.2.2.2.2.1
  intro v_at v_kind v_number hf H locs ls hP hD hS hl
  replace hf : (if (v_at - v_place) ≤ (nI 4) then some (v_at, (nI 2), v_number) else some (v_at, (nI 4), v_number)) = some (o_at, o_kind, o_number) := hf
  refine lv_aload_n hx hb dX8_takeNumber_68 rfl (lv_at hl 0 rfl) ?_
  refine lv_aload_n hx hb dX8_takeNumber_69 rfl (lv_at hl 0 rfl) ?_
  refine mp_get X fl_X8_22 hK hP 0 rfl rfl dX8_takeNumber_70 ?_
  refine lv_aload_n hx hb dX8_takeNumber_73 rfl (lv_at hl 0 rfl) ?_
  refine mp_get X fl_X8_28 hK hP 0 rfl rfl dX8_takeNumber_74 ?_
  refine lv_isub hx hb dX8_takeNumber_77 ?_
  refine lv_iconst (v := (nI 4)) hx hb dX8_takeNumber_78 (by decide) ?_
  refine lv_icmp_le (tgt := 86) hx hb dX8_takeNumber_79 (by decide) (fun h1 => ?_) (fun h1 => ?_)
  · replace hf := if_t hf h1
    refine lv_iconst (v := (nI 2)) hx hb dX8_takeNumber_86 (by decide) ?_
    refine mp_putf X fl_X8_25 fp_X8 rfl hK hP (mp_D_of hD rfl) hS 0 rfl rfl rfl (Nat.le_of_ble_eq_true rfl) dX8_takeNumber_87 (fun H locs hP _ hS => ?_)
    replace hP : va_P D mp_cl (k_X8_takeNumber T a_ a_tape a_keys v_filled v_end v_at (nI 2) v_place v_word v_key v_number v_faultKind v_faultPlace v_tape) H := hP
    cases hf
    exact mp_retv X hP hS dX8_takeNumber_90
  · replace hf := if_f hf h1
    refine lv_iconst (v := (nI 4)) hx hb dX8_takeNumber_82 (by decide) ?_
    refine lv_goto (tgt := 87) hx hb dX8_takeNumber_83 (by decide) ?_
    refine mp_putf X fl_X8_25 fp_X8 rfl hK hP (mp_D_of hD rfl) hS 0 rfl rfl rfl (Nat.le_of_ble_eq_true rfl) dX8_takeNumber_87 (fun H locs hP _ hS => ?_)
    replace hP : va_P D mp_cl (k_X8_takeNumber T a_ a_tape a_keys v_filled v_end v_at (nI 4) v_place v_word v_key v_number v_faultKind v_faultPlace v_tape) H := hP
    cases hf
    exact mp_retv X hP hS dX8_takeNumber_90

set_option maxHeartbeats 4000000 in
set_option maxRecDepth 100000 in
theorem w_X8_takeNumber_5 {p : Program} {l : Launch} {e : Env} {s : State} {m : MethodId} {args : Array Value} {below : List Frame} {meth : Method} {c : Code} {D : va_G} {T : Nat → ClassId} {A : Nat → Prop} (X : mp_X p s m meth c args RX8 "takeNumber" cX8_takeNumber 1 none) (hK : va_K D mp_cl (mp_ty T) s) (hA : ∀ q, s.heap.size ≤ q → A q) (fu : Nat) (a_ a_tape a_keys : Nat) (v_filled : Int32) (v_word : Int64) (v_key : Int32) (v_faultKind : Int32) (v_faultPlace : Int32) (v_end : Int32) (v_place : Int32) (v_tape : (Nat → Int32)) (o_at : Int32) (o_kind : Int32) (o_number : Int32) :
    ∀ (n : Nat) (v_at : Int32) (v_kind : Int32) (v_number : Int32), f_X8_takeNumber_5 fu v_end v_place v_tape  n v_at v_kind v_number = some (o_at, o_kind, o_number) → ∀ (H : Heap) (locs : List Loc) (ls : Array Slot), va_P D mp_cl (k_X8_takeNumber T a_ a_tape a_keys v_filled v_end v_at v_kind v_place v_word v_key v_number v_faultKind v_faultPlace v_tape) H → va_D A (k_X8_takeNumber T a_ a_tape a_keys v_filled v_end v_at v_kind v_place v_word v_key v_number v_faultKind v_faultPlace v_tape) → va_S A s.heap H locs → lv_has ls 1 [(0, .ref a_)] → W p l e ({ frames := 1, cells := 0, slots := 0, locals := 20 }) s m args below meth c H locs 0 0 (MQ below ((mp_Qv D (k_X8_takeNumber T a_ a_tape a_keys v_filled v_end o_at o_kind v_place v_word v_key o_number v_faultKind v_faultPlace v_tape)) A) args s 0 0 A) (F0 m 5 ls []) := by
  have hx := X.1
  have hb := X.2.1
  have hml := X.2.2.1
  have hown := X.2.2.2.2.1
  have hts := X.2.2.2.2.2.1
  intro n
  induction n with
  | zero => intro v_at v_kind v_number hf; exact absurd hf (by intro h; cases h)
  | succ n ih =>
    intro v_at v_kind v_number hf H locs ls hP hD hS hl
    replace hf : (if v_end ≤ v_at then f_X8_takeNumber_68 fu v_end v_place v_tape  v_at v_kind v_number else gi_ v_at 900 (bd_ (f_X8_isDigit (v_tape (v_at).toNatClampNeg)) (fun (r3 : Int32) => (if r3 = 0 then f_X8_takeNumber_68 fu v_end v_place v_tape  v_at v_kind v_number else gi_ v_at 900 (lt_ ((v_number * (nI 10)) + ((v_tape (v_at).toNatClampNeg) - (nI 48))) (fun (y7 : Int32) => lt_ (v_at + (nI 1)) (fun (y8 : Int32) => f_X8_takeNumber_5 fu v_end v_place v_tape  n y8 v_kind y7))))))) = some (o_at, o_kind, o_number) := hf
    refine lv_aload_n hx hb dX8_takeNumber_5 rfl (lv_at hl 0 rfl) ?_
    refine mp_get X fl_X8_22 hK hP 0 rfl rfl dX8_takeNumber_6 ?_
    refine lv_aload_n hx hb dX8_takeNumber_9 rfl (lv_at hl 0 rfl) ?_
    refine mp_get X fl_X8_19 hK hP 0 rfl rfl dX8_takeNumber_10 ?_
    refine lv_icmp_ge (tgt := 68) hx hb dX8_takeNumber_13 (by decide) (fun h1 => ?_) (fun h1 => ?_)
    · replace hf := if_t hf h1
      exact w_X8_takeNumber_68 X hK hA  fu a_ a_tape a_keys v_filled v_word v_key v_faultKind v_faultPlace v_end v_place v_tape o_at o_kind o_number   v_at v_kind v_number hf _ _ _ hP (mp_D_of hD rfl) hS (lv_sub hl [0] rfl)
    · replace hf := if_f hf h1
      refine lv_aload_n hx hb dX8_takeNumber_16 rfl (lv_at hl 0 rfl) ?_
      refine mp_get X fl_X8_9 hK hP 0 rfl rfl dX8_takeNumber_17 ?_
      refine lv_aload_n hx hb dX8_takeNumber_20 rfl (lv_at hl 0 rfl) ?_
      refine mp_get X fl_X8_22 hK hP 0 rfl rfl dX8_takeNumber_21 ?_
      obtain ⟨h2, hf⟩ := gi_of hf
      refine va_bald hx hb hK hP 1 2 rfl rfl h2 dX8_takeNumber_24 ?_
      obtain ⟨r3, c4, hf⟩ := bd_of hf
      have hPc := hP.sub (ws' := (k_X8_isDigit T )) [] rfl
      have hDc := (mp_D_of (w1 := (k_X8_takeNumber T a_ a_tape a_keys v_filled v_end v_at v_kind v_place v_word v_key v_number v_faultKind v_faultPlace v_tape)) hD rfl).sub (ws' := (k_X8_isDigit T )) [] rfl rfl
      refine mp_calli (isC := []) (wc := (k_X8_isDigit T )) (w1 := (k_X8_isDigit T )) hP (mp_D_of hD rfl) hS hA rfl rfl (mp_runS (As := [.int (v_tape (v_at).toNatClampNeg)]) (rest := []) X me_X8_isDigit lk_X8_81 (c_X8_isDigit l D T (v_tape (v_at).toNatClampNeg) r3 c4) rfl rfl ⟨(Nat.le_of_ble_eq_true rfl), (Nat.le_of_ble_eq_true rfl)⟩ hK hPc hDc rfl hl.1 rfl (Nat.le_of_ble_eq_true rfl) dX8_takeNumber_25 ⟨Nat.zero_le _, Nat.zero_le _⟩) (fun H locs hP _ hS => ?_)
      replace hP : va_P D mp_cl (k_X8_takeNumber T a_ a_tape a_keys v_filled v_end v_at v_kind v_place v_word v_key v_number v_faultKind v_faultPlace v_tape) H := hP
      refine lv_if_eq (tgt := 68) hx hb dX8_takeNumber_28 (by decide) (fun h5 => ?_) (fun h5 => ?_)
      · replace hf := if_t hf h5
        exact w_X8_takeNumber_68 X hK hA  fu a_ a_tape a_keys v_filled v_word v_key v_faultKind v_faultPlace v_end v_place v_tape o_at o_kind o_number   v_at v_kind v_number hf _ _ _ hP (mp_D_of hD rfl) hS (lv_sub hl [0] rfl)
      · replace hf := if_f hf h5
        refine lv_aload_n hx hb dX8_takeNumber_31 rfl (lv_at hl 0 rfl) ?_
        refine lv_aload_n hx hb dX8_takeNumber_32 rfl (lv_at hl 0 rfl) ?_
        refine mp_get X fl_X8_40 hK hP 0 rfl rfl dX8_takeNumber_33 ?_
        refine lv_bipush (v := (nI 10)) hx hb dX8_takeNumber_36 (by decide) ?_
        refine lv_imul hx hb dX8_takeNumber_38 ?_
        refine lv_aload_n hx hb dX8_takeNumber_39 rfl (lv_at hl 0 rfl) ?_
        refine mp_get X fl_X8_9 hK hP 0 rfl rfl dX8_takeNumber_40 ?_
        refine lv_aload_n hx hb dX8_takeNumber_43 rfl (lv_at hl 0 rfl) ?_
        refine mp_get X fl_X8_22 hK hP 0 rfl rfl dX8_takeNumber_44 ?_
        obtain ⟨h6, hf⟩ := gi_of hf
        refine va_bald hx hb hK hP 1 2 rfl rfl h6 dX8_takeNumber_47 ?_
        refine lv_bipush (v := (nI 48)) hx hb dX8_takeNumber_48 (by decide) ?_
        refine lv_isub hx hb dX8_takeNumber_50 ?_
        refine lv_iadd hx hb dX8_takeNumber_51 ?_
        refine lv_topi (fun y7 e7 => ?_)
        replace hf := lt_of e7 hf
        refine mp_putf X fl_X8_40 fp_X8 rfl hK hP (mp_D_of hD rfl) hS 0 rfl rfl rfl (Nat.le_of_ble_eq_true rfl) dX8_takeNumber_52 (fun H locs hP _ hS => ?_)
        replace hP : va_P D mp_cl (k_X8_takeNumber T a_ a_tape a_keys v_filled v_end v_at v_kind v_place v_word v_key y7 v_faultKind v_faultPlace v_tape) H := hP
        refine lv_aload_n hx hb dX8_takeNumber_55 rfl (lv_at hl 0 rfl) ?_
        refine lv_dup hx hb dX8_takeNumber_56 rfl ?_
        refine mp_get X fl_X8_22 hK hP 0 rfl rfl dX8_takeNumber_57 ?_
        refine lv_iconst (v := (nI 1)) hx hb dX8_takeNumber_60 (by decide) ?_
        refine lv_iadd hx hb dX8_takeNumber_61 ?_
        refine lv_topi (fun y8 e8 => ?_)
        replace hf := lt_of e8 hf
        refine mp_putf X fl_X8_22 fp_X8 rfl hK hP (mp_D_of hD rfl) hS 0 rfl rfl rfl (Nat.le_of_ble_eq_true rfl) dX8_takeNumber_62 (fun H locs hP _ hS => ?_)
        replace hP : va_P D mp_cl (k_X8_takeNumber T a_ a_tape a_keys v_filled v_end y8 v_kind v_place v_word v_key y7 v_faultKind v_faultPlace v_tape) H := hP
        refine lv_goto (tgt := 5) hx hb dX8_takeNumber_65 (by decide) ?_
        exact ih y8 v_kind y7 hf _ _ _ hP (mp_D_of hD rfl) hS (lv_sub hl [0] rfl)

set_option maxHeartbeats 4000000 in
set_option maxRecDepth 100000 in
theorem c_X8_takeNumber (l : Launch) (D : va_G) (T : Nat → ClassId) (fu : Nat) (a_ a_tape a_keys : Nat) (v_filled : Int32) (v_word : Int64) (v_key : Int32) (v_faultKind : Int32) (v_faultPlace : Int32) (v_end : Int32) (v_at : Int32) (v_kind : Int32) (v_place : Int32) (v_number : Int32) (v_tape : (Nat → Int32)) (o_at : Int32) (o_kind : Int32) (o_number : Int32) (hf : f_X8_takeNumber fu v_end v_at v_kind v_place v_number v_tape = some (o_at, o_kind, o_number)) :
    mp_M l D T yX8_takeNumber cX8_takeNumber 1 none ({ frames := 1, cells := 0, slots := 0, locals := 20 }) 0 0 [.ref a_] (k_X8_takeNumber T a_ a_tape a_keys v_filled v_end v_at v_kind v_place v_word v_key v_number v_faultKind v_faultPlace v_tape) (mp_Qv D (k_X8_takeNumber T a_ a_tape a_keys v_filled v_end o_at o_kind v_place v_word v_key o_number v_faultKind v_faultPlace v_tape)) := by
  refine mp_of (by decide) (Nat.le_of_ble_eq_true rfl) rfl ?_
  intro p e s m args below meth c A ls X hK hP hD hS hA hl
  replace X : mp_X p s m meth c args RX8 "takeNumber" cX8_takeNumber 1 none := X
  have hx := X.1
  have hb := X.2.1
  have hml := X.2.2.1
  have hown := X.2.2.2.2.1
  have hts := X.2.2.2.2.2.1
  replace hl : lv_has ls 1 [(0, .ref a_)] := hl
  replace hf : f_X8_takeNumber_5 fu v_end v_place v_tape  fu v_at v_kind (nI 0) = some (o_at, o_kind, o_number) := hf
  refine lv_aload_n hx hb dX8_takeNumber_0 rfl (lv_at hl 0 rfl) ?_
  refine lv_iconst (v := (nI 0)) hx hb dX8_takeNumber_1 (by decide) ?_
  refine mp_putf X fl_X8_40 fp_X8 rfl hK hP (mp_D_of hD rfl) hS 0 rfl rfl rfl (Nat.le_of_ble_eq_true rfl) dX8_takeNumber_2 (fun H locs hP _ hS => ?_)
  replace hP : va_P D mp_cl (k_X8_takeNumber T a_ a_tape a_keys v_filled v_end v_at v_kind v_place v_word v_key (nI 0) v_faultKind v_faultPlace v_tape) H := hP
  exact w_X8_takeNumber_5 X hK hA  fu a_ a_tape a_keys v_filled v_word v_key v_faultKind v_faultPlace v_end v_place v_tape o_at o_kind o_number   fu v_at v_kind (nI 0) hf _ _ _ hP (mp_D_of hD rfl) hS (lv_sub hl [0] rfl)


def k_X8_isSign (T : Nat → ClassId) : va_W := []
set_option maxHeartbeats 4000000 in
set_option maxRecDepth 100000 in
theorem c_X8_isSign (l : Launch) (D : va_G) (T : Nat → ClassId) (x1 : Int32) (r_ : Int32) (hf : f_X8_isSign x1 = some r_) :
    mp_M l D T yX8_isSign cX8_isSign 1 (some .boolean) ({ frames := 0, cells := 0, slots := 0, locals := 0 }) 0 0 [.int x1] (k_X8_isSign T ) (mp_Qi D r_ (k_X8_isSign T )) := by
  refine mp_of (by decide) (Nat.le_of_ble_eq_true rfl) rfl ?_
  intro p e s m args below meth c A ls X hK hP hD hS hA hl
  replace X : mp_X p s m meth c args RX8 "isSign" cX8_isSign 1 (some .boolean) := X
  have hx := X.1
  have hb := X.2.1
  have hml := X.2.2.1
  have hown := X.2.2.2.2.1
  have hts := X.2.2.2.2.2.1
  replace hl : lv_has ls 1 [(0, .int x1)] := hl
  replace hf : (if x1 < (nI 59) then some ((nI 0)) else (if (nI 62) < x1 then some ((nI 0)) else some ((nI 1)))) = some r_ := hf
  refine lv_iload_n hx hb dX8_isSign_0 rfl (lv_at hl 0 rfl) ?_
  refine lv_bipush (v := (nI 59)) hx hb dX8_isSign_1 (by decide) ?_
  refine lv_icmp_lt (tgt := 16) hx hb dX8_isSign_3 (by decide) (fun h1 => ?_) (fun h1 => ?_)
  · replace hf := if_t hf h1
    refine lv_iconst (v := (nI 0)) hx hb dX8_isSign_16 (by decide) ?_
    cases hf
    exact mp_retz X hP hS rfl (Or.inl rfl) dX8_isSign_17
  · replace hf := if_f hf h1
    refine lv_iload_n hx hb dX8_isSign_6 rfl (lv_at hl 0 rfl) ?_
    refine lv_bipush (v := (nI 62)) hx hb dX8_isSign_7 (by decide) ?_
    refine lv_icmp_gt (tgt := 16) hx hb dX8_isSign_9 (by decide) (fun h2 => ?_) (fun h2 => ?_)
    · replace hf := if_t hf h2
      refine lv_iconst (v := (nI 0)) hx hb dX8_isSign_16 (by decide) ?_
      cases hf
      exact mp_retz X hP hS rfl (Or.inl rfl) dX8_isSign_17
    · replace hf := if_f hf h2
      refine lv_iconst (v := (nI 1)) hx hb dX8_isSign_12 (by decide) ?_
      refine lv_goto (tgt := 17) hx hb dX8_isSign_13 (by decide) ?_
      cases hf
      exact mp_retz X hP hS rfl (Or.inr rfl) dX8_isSign_17


def k_X8_forward (T : Nat → ClassId) (a_ a_tape a_keys : Nat) (v_filled : Int32) (v_end : Int32) (v_at : Int32) (v_kind : Int32) (v_place : Int32) (v_word : Int64) (v_key : Int32) (v_number : Int32) (v_faultKind : Int32) (v_faultPlace : Int32) (v_keys : (Nat → Int64)) (v_tape : (Nat → Int32)) : va_W := [(a_, oX8 a_tape v_filled v_end v_at v_kind v_place v_word v_key v_number v_faultKind v_faultPlace a_keys), (a_keys, mp_aJ T 24 v_keys), (a_tape, mp_aB T 900 v_tape)]
set_option maxHeartbeats 4000000 in
set_option maxRecDepth 100000 in
theorem w_X8_forward_52 {p : Program} {l : Launch} {e : Env} {s : State} {m : MethodId} {args : Array Value} {below : List Frame} {meth : Method} {c : Code} {D : va_G} {T : Nat → ClassId} {A : Nat → Prop} (X : mp_X p s m meth c args RX8 "forward" cX8_forward 1 none) (hK : va_K D mp_cl (mp_ty T) s) (hA : ∀ q, s.heap.size ≤ q → A q) (fu : Nat) (a_ a_tape a_keys : Nat) (v_filled : Int32) (v_faultKind : Int32) (v_faultPlace : Int32) (v_end : Int32) (v_keys : (Nat → Int64)) (v_tape : (Nat → Int32)) (o_at : Int32) (o_kind : Int32) (o_place : Int32) (o_word : Int64) (o_key : Int32) (o_number : Int32) :
    ∀  (v_at : Int32) (v_kind : Int32) (v_place : Int32) (v_word : Int64) (v_key : Int32) (v_number : Int32), f_X8_forward_52 fu v_end v_keys v_tape  v_at v_kind v_place v_word v_key v_number = some (o_at, o_kind, o_place, o_word, o_key, o_number) → ∀ (H : Heap) (locs : List Loc) (ls : Array Slot), va_P D mp_cl (k_X8_forward T a_ a_tape a_keys v_filled v_end v_at v_kind v_place v_word v_key v_number v_faultKind v_faultPlace v_keys v_tape) H → va_D A (k_X8_forward T a_ a_tape a_keys v_filled v_end v_at v_kind v_place v_word v_key v_number v_faultKind v_faultPlace v_keys v_tape) → va_S A s.heap H locs → lv_has ls 1 [(0, .ref a_)] → W p l e ({ frames := 2, cells := 0, slots := 0, locals := 45 }) s m args below meth c H locs 0 0 (MQ below ((mp_Qv D (k_X8_forward T a_ a_tape a_keys v_filled v_end o_at o_kind o_place o_word o_key o_number v_faultKind v_faultPlace v_keys v_tape)) A) args s 0 0 A) (F0 m 52 ls []) := by
  have hx := X.1
  have hb := X.2.1
  have hml := X.2.2.1
  have hown := X.2.2.2.2.1
  have hts := X.2.2.2.2.2.1
  intro v_at v_kind v_place v_word v_key v_number hf H locs ls hP hD hS hl
  replace hf : (if v_at < v_end then gi_ v_at 900 (bd_ (f_X8_isLetter (v_tape (v_at).toNatClampNeg)) (fun (r3 : Int32) => (if r3 = 0 then gi_ v_at 900 (bd_ (f_X8_isDigit (v_tape (v_at).toNatClampNeg)) (fun (r7 : Int32) => (if r7 = 0 then gi_ v_at 900 (bd_ (f_X8_isSign (v_tape (v_at).toNatClampNeg)) (fun (r11 : Int32) => (if r11 = 0 then lt_ (v_at + (nI 1)) (fun (y14 : Int32) => some (y14, (nI 4), v_at, v_word, (-1 : Int32), v_number)) else lt_ (v_at + (nI 1)) (fun (y15 : Int32) => some (y15, (nI 3), v_at, v_word, (-1 : Int32), v_number))))) else bd_ (f_X8_takeNumber fu v_end v_at v_kind v_at v_number v_tape) (fun (z : Int32 × Int32 × Int32) => match z with | (u16, u17, u18) => some (u16, u17, v_at, v_word, (-1 : Int32), u18))))) else bd_ (f_X8_takeWord fu v_end v_at v_kind v_at v_word (-1 : Int32) v_keys v_tape) (fun (z : Int32 × Int32 × Int64 × Int32) => match z with | (u20, u21, u22, u23) => some (u20, u21, v_at, u22, u23, v_number))))) else some (v_at, (nI 0), v_at, v_word, (-1 : Int32), v_number)) = some (o_at, o_kind, o_place, o_word, o_key, o_number) := hf
  refine lv_aload_n hx hb dX8_forward_52 rfl (lv_at hl 0 rfl) ?_
  refine lv_aload_n hx hb dX8_forward_53 rfl (lv_at hl 0 rfl) ?_
  refine mp_get X fl_X8_22 hK hP 0 rfl rfl dX8_forward_54 ?_
  refine mp_putf X fl_X8_28 fp_X8 rfl hK hP (mp_D_of hD rfl) hS 0 rfl rfl rfl (Nat.le_of_ble_eq_true rfl) dX8_forward_57 (fun H locs hP _ hS => ?_)
  replace hP : va_P D mp_cl (k_X8_forward T a_ a_tape a_keys v_filled v_end v_at v_kind v_at v_word v_key v_number v_faultKind v_faultPlace v_keys v_tape) H := hP
  refine lv_aload_n hx hb dX8_forward_60 rfl (lv_at hl 0 rfl) ?_
  refine lv_iconst (v := (-1 : Int32)) hx hb dX8_forward_61 (by decide) ?_
  refine mp_putf X fl_X8_37 fp_X8 rfl hK hP (mp_D_of hD rfl) hS 0 rfl rfl rfl (Nat.le_of_ble_eq_true rfl) dX8_forward_62 (fun H locs hP _ hS => ?_)
  replace hP : va_P D mp_cl (k_X8_forward T a_ a_tape a_keys v_filled v_end v_at v_kind v_at v_word (-1 : Int32) v_number v_faultKind v_faultPlace v_keys v_tape) H := hP
  refine lv_aload_n hx hb dX8_forward_65 rfl (lv_at hl 0 rfl) ?_
  refine mp_get X fl_X8_22 hK hP 0 rfl rfl dX8_forward_66 ?_
  refine lv_aload_n hx hb dX8_forward_69 rfl (lv_at hl 0 rfl) ?_
  refine mp_get X fl_X8_19 hK hP 0 rfl rfl dX8_forward_70 ?_
  refine lv_icmp_lt (tgt := 84) hx hb dX8_forward_73 (by decide) (fun h1 => ?_) (fun h1 => ?_)
  · replace hf := if_t hf h1
    refine lv_aload_n hx hb dX8_forward_84 rfl (lv_at hl 0 rfl) ?_
    refine mp_get X fl_X8_9 hK hP 0 rfl rfl dX8_forward_85 ?_
    refine lv_aload_n hx hb dX8_forward_88 rfl (lv_at hl 0 rfl) ?_
    refine mp_get X fl_X8_22 hK hP 0 rfl rfl dX8_forward_89 ?_
    obtain ⟨h2, hf⟩ := gi_of hf
    refine va_bald hx hb hK hP 2 2 rfl rfl h2 dX8_forward_92 ?_
    obtain ⟨r3, c4, hf⟩ := bd_of hf
    have hPc := hP.sub (ws' := (k_X8_isLetter T )) [] rfl
    have hDc := (mp_D_of (w1 := (k_X8_forward T a_ a_tape a_keys v_filled v_end v_at v_kind v_at v_word (-1 : Int32) v_number v_faultKind v_faultPlace v_keys v_tape)) hD rfl).sub (ws' := (k_X8_isLetter T )) [] rfl rfl
    refine mp_calli (isC := []) (wc := (k_X8_isLetter T )) (w1 := (k_X8_isLetter T )) hP (mp_D_of hD rfl) hS hA rfl rfl (mp_runS (As := [.int (v_tape (v_at).toNatClampNeg)]) (rest := []) X me_X8_isLetter lk_X8_74 (c_X8_isLetter l D T (v_tape (v_at).toNatClampNeg) r3 c4) rfl rfl ⟨(Nat.le_of_ble_eq_true rfl), (Nat.le_of_ble_eq_true rfl)⟩ hK hPc hDc rfl hl.1 rfl (Nat.le_of_ble_eq_true rfl) dX8_forward_93 ⟨Nat.zero_le _, Nat.zero_le _⟩) (fun H locs hP _ hS => ?_)
    replace hP : va_P D mp_cl (k_X8_forward T a_ a_tape a_keys v_filled v_end v_at v_kind v_at v_word (-1 : Int32) v_number v_faultKind v_faultPlace v_keys v_tape) H := hP
    refine lv_if_eq (tgt := 106) hx hb dX8_forward_96 (by decide) (fun h5 => ?_) (fun h5 => ?_)
    · replace hf := if_t hf h5
      refine lv_aload_n hx hb dX8_forward_106 rfl (lv_at hl 0 rfl) ?_
      refine mp_get X fl_X8_9 hK hP 0 rfl rfl dX8_forward_107 ?_
      refine lv_aload_n hx hb dX8_forward_110 rfl (lv_at hl 0 rfl) ?_
      refine mp_get X fl_X8_22 hK hP 0 rfl rfl dX8_forward_111 ?_
      obtain ⟨h6, hf⟩ := gi_of hf
      refine va_bald hx hb hK hP 2 2 rfl rfl h6 dX8_forward_114 ?_
      obtain ⟨r7, c8, hf⟩ := bd_of hf
      have hPc := hP.sub (ws' := (k_X8_isDigit T )) [] rfl
      have hDc := (mp_D_of (w1 := (k_X8_forward T a_ a_tape a_keys v_filled v_end v_at v_kind v_at v_word (-1 : Int32) v_number v_faultKind v_faultPlace v_keys v_tape)) hD rfl).sub (ws' := (k_X8_isDigit T )) [] rfl rfl
      refine mp_calli (isC := []) (wc := (k_X8_isDigit T )) (w1 := (k_X8_isDigit T )) hP (mp_D_of hD rfl) hS hA rfl rfl (mp_runS (As := [.int (v_tape (v_at).toNatClampNeg)]) (rest := []) X me_X8_isDigit lk_X8_81 (c_X8_isDigit l D T (v_tape (v_at).toNatClampNeg) r7 c8) rfl rfl ⟨(Nat.le_of_ble_eq_true rfl), (Nat.le_of_ble_eq_true rfl)⟩ hK hPc hDc rfl hl.1 rfl (Nat.le_of_ble_eq_true rfl) dX8_forward_115 ⟨Nat.zero_le _, Nat.zero_le _⟩) (fun H locs hP _ hS => ?_)
      replace hP : va_P D mp_cl (k_X8_forward T a_ a_tape a_keys v_filled v_end v_at v_kind v_at v_word (-1 : Int32) v_number v_faultKind v_faultPlace v_keys v_tape) H := hP
      refine lv_if_eq (tgt := 128) hx hb dX8_forward_118 (by decide) (fun h9 => ?_) (fun h9 => ?_)
      · replace hf := if_t hf h9
        refine lv_aload_n hx hb dX8_forward_128 rfl (lv_at hl 0 rfl) ?_
        refine lv_aload_n hx hb dX8_forward_129 rfl (lv_at hl 0 rfl) ?_
        refine mp_get X fl_X8_9 hK hP 0 rfl rfl dX8_forward_130 ?_
        refine lv_aload_n hx hb dX8_forward_133 rfl (lv_at hl 0 rfl) ?_
        refine mp_get X fl_X8_22 hK hP 0 rfl rfl dX8_forward_134 ?_
        obtain ⟨h10, hf⟩ := gi_of hf
        refine va_bald hx hb hK hP 2 2 rfl rfl h10 dX8_forward_137 ?_
        obtain ⟨r11, c12, hf⟩ := bd_of hf
        have hPc := hP.sub (ws' := (k_X8_isSign T )) [] rfl
        have hDc := (mp_D_of (w1 := (k_X8_forward T a_ a_tape a_keys v_filled v_end v_at v_kind v_at v_word (-1 : Int32) v_number v_faultKind v_faultPlace v_keys v_tape)) hD rfl).sub (ws' := (k_X8_isSign T )) [] rfl rfl
        refine mp_calli (isC := []) (wc := (k_X8_isSign T )) (w1 := (k_X8_isSign T )) hP (mp_D_of hD rfl) hS hA rfl rfl (mp_runS (As := [.int (v_tape (v_at).toNatClampNeg)]) (rest := [.ref a_]) X me_X8_isSign lk_X8_87 (c_X8_isSign l D T (v_tape (v_at).toNatClampNeg) r11 c12) rfl rfl ⟨(Nat.le_of_ble_eq_true rfl), (Nat.le_of_ble_eq_true rfl)⟩ hK hPc hDc rfl hl.1 rfl (Nat.le_of_ble_eq_true rfl) dX8_forward_138 ⟨Nat.zero_le _, Nat.zero_le _⟩) (fun H locs hP _ hS => ?_)
        replace hP : va_P D mp_cl (k_X8_forward T a_ a_tape a_keys v_filled v_end v_at v_kind v_at v_word (-1 : Int32) v_number v_faultKind v_faultPlace v_keys v_tape) H := hP
        refine lv_if_eq (tgt := 148) hx hb dX8_forward_141 (by decide) (fun h13 => ?_) (fun h13 => ?_)
        · replace hf := if_t hf h13
          refine lv_iconst (v := (nI 4)) hx hb dX8_forward_148 (by decide) ?_
          refine mp_putf X fl_X8_25 fp_X8 rfl hK hP (mp_D_of hD rfl) hS 0 rfl rfl rfl (Nat.le_of_ble_eq_true rfl) dX8_forward_149 (fun H locs hP _ hS => ?_)
          replace hP : va_P D mp_cl (k_X8_forward T a_ a_tape a_keys v_filled v_end v_at (nI 4) v_at v_word (-1 : Int32) v_number v_faultKind v_faultPlace v_keys v_tape) H := hP
          refine lv_aload_n hx hb dX8_forward_152 rfl (lv_at hl 0 rfl) ?_
          refine lv_dup hx hb dX8_forward_153 rfl ?_
          refine mp_get X fl_X8_22 hK hP 0 rfl rfl dX8_forward_154 ?_
          refine lv_iconst (v := (nI 1)) hx hb dX8_forward_157 (by decide) ?_
          refine lv_iadd hx hb dX8_forward_158 ?_
          refine lv_topi (fun y14 e14 => ?_)
          replace hf := lt_of e14 hf
          refine mp_putf X fl_X8_22 fp_X8 rfl hK hP (mp_D_of hD rfl) hS 0 rfl rfl rfl (Nat.le_of_ble_eq_true rfl) dX8_forward_159 (fun H locs hP _ hS => ?_)
          replace hP : va_P D mp_cl (k_X8_forward T a_ a_tape a_keys v_filled v_end y14 (nI 4) v_at v_word (-1 : Int32) v_number v_faultKind v_faultPlace v_keys v_tape) H := hP
          cases hf
          exact mp_retv X hP hS dX8_forward_162
        · replace hf := if_f hf h13
          refine lv_iconst (v := (nI 3)) hx hb dX8_forward_144 (by decide) ?_
          refine lv_goto (tgt := 149) hx hb dX8_forward_145 (by decide) ?_
          refine mp_putf X fl_X8_25 fp_X8 rfl hK hP (mp_D_of hD rfl) hS 0 rfl rfl rfl (Nat.le_of_ble_eq_true rfl) dX8_forward_149 (fun H locs hP _ hS => ?_)
          replace hP : va_P D mp_cl (k_X8_forward T a_ a_tape a_keys v_filled v_end v_at (nI 3) v_at v_word (-1 : Int32) v_number v_faultKind v_faultPlace v_keys v_tape) H := hP
          refine lv_aload_n hx hb dX8_forward_152 rfl (lv_at hl 0 rfl) ?_
          refine lv_dup hx hb dX8_forward_153 rfl ?_
          refine mp_get X fl_X8_22 hK hP 0 rfl rfl dX8_forward_154 ?_
          refine lv_iconst (v := (nI 1)) hx hb dX8_forward_157 (by decide) ?_
          refine lv_iadd hx hb dX8_forward_158 ?_
          refine lv_topi (fun y15 e15 => ?_)
          replace hf := lt_of e15 hf
          refine mp_putf X fl_X8_22 fp_X8 rfl hK hP (mp_D_of hD rfl) hS 0 rfl rfl rfl (Nat.le_of_ble_eq_true rfl) dX8_forward_159 (fun H locs hP _ hS => ?_)
          replace hP : va_P D mp_cl (k_X8_forward T a_ a_tape a_keys v_filled v_end y15 (nI 3) v_at v_word (-1 : Int32) v_number v_faultKind v_faultPlace v_keys v_tape) H := hP
          cases hf
          exact mp_retv X hP hS dX8_forward_162
      · replace hf := if_f hf h9
        refine lv_aload_n hx hb dX8_forward_121 rfl (lv_at hl 0 rfl) ?_
        obtain ⟨⟨u16, u17, u18⟩, c19, hf⟩ := bd_of hf
        dsimp only at hf
        have hPc := hP.sub (ws' := (k_X8_takeNumber T a_ a_tape a_keys v_filled v_end v_at v_kind v_at v_word (-1 : Int32) v_number v_faultKind v_faultPlace v_tape)) [0, 2] rfl
        have hDc := (mp_D_of (w1 := (k_X8_forward T a_ a_tape a_keys v_filled v_end v_at v_kind v_at v_word (-1 : Int32) v_number v_faultKind v_faultPlace v_keys v_tape)) hD rfl).sub (ws' := (k_X8_takeNumber T a_ a_tape a_keys v_filled v_end v_at v_kind v_at v_word (-1 : Int32) v_number v_faultKind v_faultPlace v_tape)) [0, 2] rfl rfl
        refine mp_callv (isC := [0, 2]) (wc := (k_X8_takeNumber T a_ a_tape a_keys v_filled v_end v_at v_kind v_at v_word (-1 : Int32) v_number v_faultKind v_faultPlace v_tape)) (w1 := (k_X8_takeNumber T a_ a_tape a_keys v_filled v_end u16 u17 v_at v_word (-1 : Int32) u18 v_faultKind v_faultPlace v_tape)) hP (mp_D_of hD rfl) hS hA rfl rfl (mp_runV (As := []) (rest := []) X me_X8_takeNumber lk_X8_84 (c_X8_takeNumber l D T fu a_ a_tape a_keys v_filled v_word (-1 : Int32) v_faultKind v_faultPlace v_end v_at v_kind v_at v_number v_tape u16 u17 u18 c19) rfl rfl ⟨(Nat.le_of_ble_eq_true rfl), (Nat.le_of_ble_eq_true rfl)⟩ hK hPc hDc rfl rfl rfl rfl hl.1 rfl (Nat.le_of_ble_eq_true rfl) dX8_forward_122 ⟨Nat.zero_le _, Nat.zero_le _⟩) (fun H locs hP _ hS => ?_)
        replace hP : va_P D mp_cl (k_X8_forward T a_ a_tape a_keys v_filled v_end u16 u17 v_at v_word (-1 : Int32) u18 v_faultKind v_faultPlace v_keys v_tape) H := hP
        refine lv_goto (tgt := 162) hx hb dX8_forward_125 (by decide) ?_
        cases hf
        exact mp_retv X hP hS dX8_forward_162
    · replace hf := if_f hf h5
      refine lv_aload_n hx hb dX8_forward_99 rfl (lv_at hl 0 rfl) ?_
      obtain ⟨⟨u20, u21, u22, u23⟩, c24, hf⟩ := bd_of hf
      dsimp only at hf
      have hPc := hP.sub (ws' := (k_X8_takeWord T a_ a_tape a_keys v_filled v_end v_at v_kind v_at v_word (-1 : Int32) v_number v_faultKind v_faultPlace v_keys v_tape)) [0, 1, 2] rfl
      have hDc := (mp_D_of (w1 := (k_X8_forward T a_ a_tape a_keys v_filled v_end v_at v_kind v_at v_word (-1 : Int32) v_number v_faultKind v_faultPlace v_keys v_tape)) hD rfl).sub (ws' := (k_X8_takeWord T a_ a_tape a_keys v_filled v_end v_at v_kind v_at v_word (-1 : Int32) v_number v_faultKind v_faultPlace v_keys v_tape)) [0, 1, 2] rfl rfl
      refine mp_callv (isC := [0, 1, 2]) (wc := (k_X8_takeWord T a_ a_tape a_keys v_filled v_end v_at v_kind v_at v_word (-1 : Int32) v_number v_faultKind v_faultPlace v_keys v_tape)) (w1 := (k_X8_takeWord T a_ a_tape a_keys v_filled v_end u20 u21 v_at u22 u23 v_number v_faultKind v_faultPlace v_keys v_tape)) hP (mp_D_of hD rfl) hS hA rfl rfl (mp_runV (As := []) (rest := []) X me_X8_takeWord lk_X8_78 (c_X8_takeWord l D T fu a_ a_tape a_keys v_filled v_number v_faultKind v_faultPlace v_end v_at v_kind v_at v_word (-1 : Int32) v_keys v_tape u20 u21 u22 u23 c24) rfl rfl ⟨(Nat.le_of_ble_eq_true rfl), (Nat.le_of_ble_eq_true rfl)⟩ hK hPc hDc rfl rfl rfl rfl hl.1 rfl (Nat.le_of_ble_eq_true rfl) dX8_forward_100 ⟨Nat.zero_le _, Nat.zero_le _⟩) (fun H locs hP _ hS => ?_)
      replace hP : va_P D mp_cl (k_X8_forward T a_ a_tape a_keys v_filled v_end u20 u21 v_at u22 u23 v_number v_faultKind v_faultPlace v_keys v_tape) H := hP
      refine lv_goto (tgt := 162) hx hb dX8_forward_103 (by decide) ?_
      cases hf
      exact mp_retv X hP hS dX8_forward_162
  · replace hf := if_f hf h1
    refine lv_aload_n hx hb dX8_forward_76 rfl (lv_at hl 0 rfl) ?_
    refine lv_iconst (v := (nI 0)) hx hb dX8_forward_77 (by decide) ?_
    refine mp_putf X fl_X8_25 fp_X8 rfl hK hP (mp_D_of hD rfl) hS 0 rfl rfl rfl (Nat.le_of_ble_eq_true rfl) dX8_forward_78 (fun H locs hP _ hS => ?_)
    replace hP : va_P D mp_cl (k_X8_forward T a_ a_tape a_keys v_filled v_end v_at (nI 0) v_at v_word (-1 : Int32) v_number v_faultKind v_faultPlace v_keys v_tape) H := hP
    refine lv_goto (tgt := 162) hx hb dX8_forward_81 (by decide) ?_
    cases hf
    exact mp_retv X hP hS dX8_forward_162

set_option maxHeartbeats 4000000 in
set_option maxRecDepth 100000 in
theorem w_X8_forward_0 {p : Program} {l : Launch} {e : Env} {s : State} {m : MethodId} {args : Array Value} {below : List Frame} {meth : Method} {c : Code} {D : va_G} {T : Nat → ClassId} {A : Nat → Prop} (X : mp_X p s m meth c args RX8 "forward" cX8_forward 1 none) (hK : va_K D mp_cl (mp_ty T) s) (hA : ∀ q, s.heap.size ≤ q → A q) (fu : Nat) (a_ a_tape a_keys : Nat) (v_filled : Int32) (v_faultKind : Int32) (v_faultPlace : Int32) (v_end : Int32) (v_keys : (Nat → Int64)) (v_tape : (Nat → Int32)) (o_at : Int32) (o_kind : Int32) (o_place : Int32) (o_word : Int64) (o_key : Int32) (o_number : Int32) :
    ∀ (n : Nat) (v_at : Int32) (v_kind : Int32) (v_place : Int32) (v_word : Int64) (v_key : Int32) (v_number : Int32), f_X8_forward_0 fu v_end v_keys v_tape  n v_at v_kind v_place v_word v_key v_number = some (o_at, o_kind, o_place, o_word, o_key, o_number) → ∀ (H : Heap) (locs : List Loc) (ls : Array Slot), va_P D mp_cl (k_X8_forward T a_ a_tape a_keys v_filled v_end v_at v_kind v_place v_word v_key v_number v_faultKind v_faultPlace v_keys v_tape) H → va_D A (k_X8_forward T a_ a_tape a_keys v_filled v_end v_at v_kind v_place v_word v_key v_number v_faultKind v_faultPlace v_keys v_tape) → va_S A s.heap H locs → lv_has ls 1 [(0, .ref a_)] → W p l e ({ frames := 2, cells := 0, slots := 0, locals := 45 }) s m args below meth c H locs 0 0 (MQ below ((mp_Qv D (k_X8_forward T a_ a_tape a_keys v_filled v_end o_at o_kind o_place o_word o_key o_number v_faultKind v_faultPlace v_keys v_tape)) A) args s 0 0 A) (F0 m 0 ls []) := by
  have hx := X.1
  have hb := X.2.1
  have hml := X.2.2.1
  have hown := X.2.2.2.2.1
  have hts := X.2.2.2.2.2.1
  intro n
  induction n with
  | zero => intro v_at v_kind v_place v_word v_key v_number hf; exact absurd hf (by intro h; cases h)
  | succ n ih =>
    intro v_at v_kind v_place v_word v_key v_number hf H locs ls hP hD hS hl
    replace hf : (if v_end ≤ v_at then f_X8_forward_52 fu v_end v_keys v_tape  v_at v_kind v_place v_word v_key v_number else gi_ v_at 900 ((if (v_tape (v_at).toNatClampNeg) = (nI 10) then lt_ (v_at + (nI 1)) (fun (y4 : Int32) => f_X8_forward_0 fu v_end v_keys v_tape  n y4 v_kind v_place v_word v_key v_number) else gi_ v_at 900 ((if (v_tape (v_at).toNatClampNeg) = (nI 32) then lt_ (v_at + (nI 1)) (fun (y7 : Int32) => f_X8_forward_0 fu v_end v_keys v_tape  n y7 v_kind v_place v_word v_key v_number) else f_X8_forward_52 fu v_end v_keys v_tape  v_at v_kind v_place v_word v_key v_number))))) = some (o_at, o_kind, o_place, o_word, o_key, o_number) := hf
    refine lv_aload_n hx hb dX8_forward_0 rfl (lv_at hl 0 rfl) ?_
    refine mp_get X fl_X8_22 hK hP 0 rfl rfl dX8_forward_1 ?_
    refine lv_aload_n hx hb dX8_forward_4 rfl (lv_at hl 0 rfl) ?_
    refine mp_get X fl_X8_19 hK hP 0 rfl rfl dX8_forward_5 ?_
    refine lv_icmp_ge (tgt := 52) hx hb dX8_forward_8 (by decide) (fun h1 => ?_) (fun h1 => ?_)
    · replace hf := if_t hf h1
      exact w_X8_forward_52 X hK hA  fu a_ a_tape a_keys v_filled v_faultKind v_faultPlace v_end v_keys v_tape o_at o_kind o_place o_word o_key o_number   v_at v_kind v_place v_word v_key v_number hf _ _ _ hP (mp_D_of hD rfl) hS (lv_sub hl [0] rfl)
    · replace hf := if_f hf h1
      refine lv_aload_n hx hb dX8_forward_11 rfl (lv_at hl 0 rfl) ?_
      refine mp_get X fl_X8_9 hK hP 0 rfl rfl dX8_forward_12 ?_
      refine lv_aload_n hx hb dX8_forward_15 rfl (lv_at hl 0 rfl) ?_
      refine mp_get X fl_X8_22 hK hP 0 rfl rfl dX8_forward_16 ?_
      obtain ⟨h2, hf⟩ := gi_of hf
      refine va_bald hx hb hK hP 2 2 rfl rfl h2 dX8_forward_19 ?_
      refine lv_bipush (v := (nI 10)) hx hb dX8_forward_20 (by decide) ?_
      refine lv_icmp_eq (tgt := 39) hx hb dX8_forward_22 (by decide) (fun h3 => ?_) (fun h3 => ?_)
      · replace hf := if_t hf h3
        refine lv_aload_n hx hb dX8_forward_39 rfl (lv_at hl 0 rfl) ?_
        refine lv_dup hx hb dX8_forward_40 rfl ?_
        refine mp_get X fl_X8_22 hK hP 0 rfl rfl dX8_forward_41 ?_
        refine lv_iconst (v := (nI 1)) hx hb dX8_forward_44 (by decide) ?_
        refine lv_iadd hx hb dX8_forward_45 ?_
        refine lv_topi (fun y4 e4 => ?_)
        replace hf := lt_of e4 hf
        refine mp_putf X fl_X8_22 fp_X8 rfl hK hP (mp_D_of hD rfl) hS 0 rfl rfl rfl (Nat.le_of_ble_eq_true rfl) dX8_forward_46 (fun H locs hP _ hS => ?_)
        replace hP : va_P D mp_cl (k_X8_forward T a_ a_tape a_keys v_filled v_end y4 v_kind v_place v_word v_key v_number v_faultKind v_faultPlace v_keys v_tape) H := hP
        refine lv_goto (tgt := 0) hx hb dX8_forward_49 (by decide) ?_
        exact ih y4 v_kind v_place v_word v_key v_number hf _ _ _ hP (mp_D_of hD rfl) hS (lv_sub hl [0] rfl)
      · replace hf := if_f hf h3
        refine lv_aload_n hx hb dX8_forward_25 rfl (lv_at hl 0 rfl) ?_
        refine mp_get X fl_X8_9 hK hP 0 rfl rfl dX8_forward_26 ?_
        refine lv_aload_n hx hb dX8_forward_29 rfl (lv_at hl 0 rfl) ?_
        refine mp_get X fl_X8_22 hK hP 0 rfl rfl dX8_forward_30 ?_
        obtain ⟨h5, hf⟩ := gi_of hf
        refine va_bald hx hb hK hP 2 2 rfl rfl h5 dX8_forward_33 ?_
        refine lv_bipush (v := (nI 32)) hx hb dX8_forward_34 (by decide) ?_
        refine lv_icmp_ne (tgt := 52) hx hb dX8_forward_36 (by decide) (fun h6 => ?_) (fun h6 => ?_)
        · replace hf := if_f hf h6
          exact w_X8_forward_52 X hK hA  fu a_ a_tape a_keys v_filled v_faultKind v_faultPlace v_end v_keys v_tape o_at o_kind o_place o_word o_key o_number   v_at v_kind v_place v_word v_key v_number hf _ _ _ hP (mp_D_of hD rfl) hS (lv_sub hl [0] rfl)
        · replace hf := if_t hf h6
          refine lv_aload_n hx hb dX8_forward_39 rfl (lv_at hl 0 rfl) ?_
          refine lv_dup hx hb dX8_forward_40 rfl ?_
          refine mp_get X fl_X8_22 hK hP 0 rfl rfl dX8_forward_41 ?_
          refine lv_iconst (v := (nI 1)) hx hb dX8_forward_44 (by decide) ?_
          refine lv_iadd hx hb dX8_forward_45 ?_
          refine lv_topi (fun y7 e7 => ?_)
          replace hf := lt_of e7 hf
          refine mp_putf X fl_X8_22 fp_X8 rfl hK hP (mp_D_of hD rfl) hS 0 rfl rfl rfl (Nat.le_of_ble_eq_true rfl) dX8_forward_46 (fun H locs hP _ hS => ?_)
          replace hP : va_P D mp_cl (k_X8_forward T a_ a_tape a_keys v_filled v_end y7 v_kind v_place v_word v_key v_number v_faultKind v_faultPlace v_keys v_tape) H := hP
          refine lv_goto (tgt := 0) hx hb dX8_forward_49 (by decide) ?_
          exact ih y7 v_kind v_place v_word v_key v_number hf _ _ _ hP (mp_D_of hD rfl) hS (lv_sub hl [0] rfl)

set_option maxHeartbeats 4000000 in
set_option maxRecDepth 100000 in
theorem c_X8_forward (l : Launch) (D : va_G) (T : Nat → ClassId) (fu : Nat) (a_ a_tape a_keys : Nat) (v_filled : Int32) (v_faultKind : Int32) (v_faultPlace : Int32) (v_end : Int32) (v_at : Int32) (v_kind : Int32) (v_place : Int32) (v_word : Int64) (v_key : Int32) (v_number : Int32) (v_keys : (Nat → Int64)) (v_tape : (Nat → Int32)) (o_at : Int32) (o_kind : Int32) (o_place : Int32) (o_word : Int64) (o_key : Int32) (o_number : Int32) (hf : f_X8_forward fu v_end v_at v_kind v_place v_word v_key v_number v_keys v_tape = some (o_at, o_kind, o_place, o_word, o_key, o_number)) :
    mp_M l D T yX8_forward cX8_forward 1 none ({ frames := 2, cells := 0, slots := 0, locals := 45 }) 0 0 [.ref a_] (k_X8_forward T a_ a_tape a_keys v_filled v_end v_at v_kind v_place v_word v_key v_number v_faultKind v_faultPlace v_keys v_tape) (mp_Qv D (k_X8_forward T a_ a_tape a_keys v_filled v_end o_at o_kind o_place o_word o_key o_number v_faultKind v_faultPlace v_keys v_tape)) := by
  refine mp_of (by decide) (Nat.le_of_ble_eq_true rfl) rfl ?_
  intro p e s m args below meth c A ls X hK hP hD hS hA hl
  replace X : mp_X p s m meth c args RX8 "forward" cX8_forward 1 none := X
  have hx := X.1
  have hb := X.2.1
  have hml := X.2.2.1
  have hown := X.2.2.2.2.1
  have hts := X.2.2.2.2.2.1
  replace hl : lv_has ls 1 [(0, .ref a_)] := hl
  replace hf : f_X8_forward_0 fu v_end v_keys v_tape  fu v_at v_kind v_place v_word v_key v_number = some (o_at, o_kind, o_place, o_word, o_key, o_number) := hf
  exact w_X8_forward_0 X hK hA  fu a_ a_tape a_keys v_filled v_faultKind v_faultPlace v_end v_keys v_tape o_at o_kind o_place o_word o_key o_number   fu v_at v_kind v_place v_word v_key v_number hf _ _ _ hP (mp_D_of hD rfl) hS (lv_sub hl [0] rfl)


def k_X8_nameHere (T : Nat → ClassId) (a_ a_tape a_keys : Nat) (v_filled : Int32) (v_end : Int32) (v_at : Int32) (v_kind : Int32) (v_place : Int32) (v_word : Int64) (v_key : Int32) (v_number : Int32) (v_faultKind : Int32) (v_faultPlace : Int32) : va_W := [(a_, oX8 a_tape v_filled v_end v_at v_kind v_place v_word v_key v_number v_faultKind v_faultPlace a_keys)]
set_option maxHeartbeats 4000000 in
set_option maxRecDepth 100000 in
theorem c_X8_nameHere (l : Launch) (D : va_G) (T : Nat → ClassId) (a_ a_tape a_keys : Nat) (v_filled : Int32) (v_end : Int32) (v_at : Int32) (v_number : Int32) (v_kind : Int32) (v_place : Int32) (v_word : Int64) (v_key : Int32) (v_faultKind : Int32) (v_faultPlace : Int32) (r_ : Int64) (o_faultKind : Int32) (o_faultPlace : Int32) (hf : f_X8_nameHere v_kind v_place v_word v_key v_faultKind v_faultPlace = some (r_, o_faultKind, o_faultPlace)) :
    mp_M l D T yX8_nameHere cX8_nameHere 1 (some .long) ({ frames := 2, cells := 0, slots := 0, locals := 43 }) 0 0 [.ref a_] (k_X8_nameHere T a_ a_tape a_keys v_filled v_end v_at v_kind v_place v_word v_key v_number v_faultKind v_faultPlace) (mp_Ql D r_ (k_X8_nameHere T a_ a_tape a_keys v_filled v_end v_at v_kind v_place v_word v_key v_number o_faultKind o_faultPlace)) := by
  refine mp_of (by decide) (Nat.le_of_ble_eq_true rfl) rfl ?_
  intro p e s m args below meth c A ls X hK hP hD hS hA hl
  replace X : mp_X p s m meth c args RX8 "nameHere" cX8_nameHere 1 (some .long) := X
  have hx := X.1
  have hb := X.2.1
  have hml := X.2.2.1
  have hown := X.2.2.2.2.1
  have hts := X.2.2.2.2.2.1
  replace hl : lv_has ls 1 [(0, .ref a_)] := hl
  replace hf : (if v_kind = (nI 1) then (if (lg_cmp v_word (-1 : Int64)) = 0 then bd_ (f_X8_fail (nI 2) v_kind v_place v_faultKind v_faultPlace) (fun (z : Int32 × Int32 × Int32) => match z with | (r7, u8, u9) => some ((-1 : Int64), u8, u9)) else (if v_key = (-1 : Int32) then some (v_word, v_faultKind, v_faultPlace) else bd_ (f_X8_fail (nI 2) v_kind v_place v_faultKind v_faultPlace) (fun (z : Int32 × Int32 × Int32) => match z with | (r12, u13, u14) => some ((-1 : Int64), u13, u14)))) else bd_ (f_X8_fail (nI 2) v_kind v_place v_faultKind v_faultPlace) (fun (z : Int32 × Int32 × Int32) => match z with | (r2, u3, u4) => some ((-1 : Int64), u3, u4))) = some (r_, o_faultKind, o_faultPlace) := hf
  refine lv_aload_n hx hb dX8_nameHere_0 rfl (lv_at hl 0 rfl) ?_
  refine mp_get X fl_X8_25 hK hP 0 rfl rfl dX8_nameHere_1 ?_
  refine lv_iconst (v := (nI 1)) hx hb dX8_nameHere_4 (by decide) ?_
  refine lv_icmp_ne (tgt := 32) hx hb dX8_nameHere_5 (by decide) (fun h1 => ?_) (fun h1 => ?_)
  · replace hf := if_f hf h1
    refine lv_aload_n hx hb dX8_nameHere_32 rfl (lv_at hl 0 rfl) ?_
    refine lv_iconst (v := (nI 2)) hx hb dX8_nameHere_33 (by decide) ?_
    obtain ⟨⟨r2, u3, u4⟩, c5, hf⟩ := bd_of hf
    dsimp only at hf
    have hPc := hP.sub (ws' := (k_X8_fail T a_ a_tape a_keys v_filled v_end v_at v_kind v_place v_word v_key v_number v_faultKind v_faultPlace)) [0] rfl
    have hDc := (mp_D_of (w1 := (k_X8_nameHere T a_ a_tape a_keys v_filled v_end v_at v_kind v_place v_word v_key v_number v_faultKind v_faultPlace)) hD rfl).sub (ws' := (k_X8_fail T a_ a_tape a_keys v_filled v_end v_at v_kind v_place v_word v_key v_number v_faultKind v_faultPlace)) [0] rfl rfl
    refine mp_calli (isC := [0]) (wc := (k_X8_fail T a_ a_tape a_keys v_filled v_end v_at v_kind v_place v_word v_key v_number v_faultKind v_faultPlace)) (w1 := (k_X8_fail T a_ a_tape a_keys v_filled v_end v_at v_kind v_place v_word v_key v_number u3 u4)) hP (mp_D_of hD rfl) hS hA rfl rfl (mp_runV (As := [.int (nI 2)]) (rest := []) X me_X8_fail lk_X8_98 (c_X8_fail l D T a_ a_tape a_keys (nI 2) v_filled v_end v_at v_word v_key v_number v_kind v_place v_faultKind v_faultPlace r2 u3 u4 c5) rfl rfl ⟨(Nat.le_of_ble_eq_true rfl), (Nat.le_of_ble_eq_true rfl)⟩ hK hPc hDc rfl rfl rfl rfl hl.1 rfl (Nat.le_of_ble_eq_true rfl) dX8_nameHere_34 ⟨Nat.zero_le _, Nat.zero_le _⟩) (fun H locs hP _ hS => ?_)
    replace hP : va_P D mp_cl (k_X8_nameHere T a_ a_tape a_keys v_filled v_end v_at v_kind v_place v_word v_key v_number u3 u4) H := hP
    refine lv_pop hx hb dX8_nameHere_37 rfl ?_
    refine lv_ldc2 (v := (-1 : Int64)) hx hb hown (hts _ (cw_X8_31)) dX8_nameHere_38 ?_
    cases hf
    exact mp_retl X hP hS rfl dX8_nameHere_41
  · replace hf := if_t hf h1
    refine lv_aload_n hx hb dX8_nameHere_8 rfl (lv_at hl 0 rfl) ?_
    refine mp_get X fl_X8_33 hK hP 0 rfl rfl dX8_nameHere_9 ?_
    refine lv_ldc2 (v := (-1 : Int64)) hx hb hown (hts _ (cw_X8_31)) dX8_nameHere_12 ?_
    refine W.lcmp hx hb dX8_nameHere_15 ?_
    refine lv_if_eq (tgt := 32) hx hb dX8_nameHere_16 (by decide) (fun h6 => ?_) (fun h6 => ?_)
    · replace hf := if_t hf h6
      refine lv_aload_n hx hb dX8_nameHere_32 rfl (lv_at hl 0 rfl) ?_
      refine lv_iconst (v := (nI 2)) hx hb dX8_nameHere_33 (by decide) ?_
      obtain ⟨⟨r7, u8, u9⟩, c10, hf⟩ := bd_of hf
      dsimp only at hf
      have hPc := hP.sub (ws' := (k_X8_fail T a_ a_tape a_keys v_filled v_end v_at v_kind v_place v_word v_key v_number v_faultKind v_faultPlace)) [0] rfl
      have hDc := (mp_D_of (w1 := (k_X8_nameHere T a_ a_tape a_keys v_filled v_end v_at v_kind v_place v_word v_key v_number v_faultKind v_faultPlace)) hD rfl).sub (ws' := (k_X8_fail T a_ a_tape a_keys v_filled v_end v_at v_kind v_place v_word v_key v_number v_faultKind v_faultPlace)) [0] rfl rfl
      refine mp_calli (isC := [0]) (wc := (k_X8_fail T a_ a_tape a_keys v_filled v_end v_at v_kind v_place v_word v_key v_number v_faultKind v_faultPlace)) (w1 := (k_X8_fail T a_ a_tape a_keys v_filled v_end v_at v_kind v_place v_word v_key v_number u8 u9)) hP (mp_D_of hD rfl) hS hA rfl rfl (mp_runV (As := [.int (nI 2)]) (rest := []) X me_X8_fail lk_X8_98 (c_X8_fail l D T a_ a_tape a_keys (nI 2) v_filled v_end v_at v_word v_key v_number v_kind v_place v_faultKind v_faultPlace r7 u8 u9 c10) rfl rfl ⟨(Nat.le_of_ble_eq_true rfl), (Nat.le_of_ble_eq_true rfl)⟩ hK hPc hDc rfl rfl rfl rfl hl.1 rfl (Nat.le_of_ble_eq_true rfl) dX8_nameHere_34 ⟨Nat.zero_le _, Nat.zero_le _⟩) (fun H locs hP _ hS => ?_)
      replace hP : va_P D mp_cl (k_X8_nameHere T a_ a_tape a_keys v_filled v_end v_at v_kind v_place v_word v_key v_number u8 u9) H := hP
      refine lv_pop hx hb dX8_nameHere_37 rfl ?_
      refine lv_ldc2 (v := (-1 : Int64)) hx hb hown (hts _ (cw_X8_31)) dX8_nameHere_38 ?_
      cases hf
      exact mp_retl X hP hS rfl dX8_nameHere_41
    · replace hf := if_f hf h6
      refine lv_aload_n hx hb dX8_nameHere_19 rfl (lv_at hl 0 rfl) ?_
      refine mp_get X fl_X8_37 hK hP 0 rfl rfl dX8_nameHere_20 ?_
      refine lv_iconst (v := (-1 : Int32)) hx hb dX8_nameHere_23 (by decide) ?_
      refine lv_icmp_ne (tgt := 32) hx hb dX8_nameHere_24 (by decide) (fun h11 => ?_) (fun h11 => ?_)
      · replace hf := if_f hf h11
        refine lv_aload_n hx hb dX8_nameHere_32 rfl (lv_at hl 0 rfl) ?_
        refine lv_iconst (v := (nI 2)) hx hb dX8_nameHere_33 (by decide) ?_
        obtain ⟨⟨r12, u13, u14⟩, c15, hf⟩ := bd_of hf
        dsimp only at hf
        have hPc := hP.sub (ws' := (k_X8_fail T a_ a_tape a_keys v_filled v_end v_at v_kind v_place v_word v_key v_number v_faultKind v_faultPlace)) [0] rfl
        have hDc := (mp_D_of (w1 := (k_X8_nameHere T a_ a_tape a_keys v_filled v_end v_at v_kind v_place v_word v_key v_number v_faultKind v_faultPlace)) hD rfl).sub (ws' := (k_X8_fail T a_ a_tape a_keys v_filled v_end v_at v_kind v_place v_word v_key v_number v_faultKind v_faultPlace)) [0] rfl rfl
        refine mp_calli (isC := [0]) (wc := (k_X8_fail T a_ a_tape a_keys v_filled v_end v_at v_kind v_place v_word v_key v_number v_faultKind v_faultPlace)) (w1 := (k_X8_fail T a_ a_tape a_keys v_filled v_end v_at v_kind v_place v_word v_key v_number u13 u14)) hP (mp_D_of hD rfl) hS hA rfl rfl (mp_runV (As := [.int (nI 2)]) (rest := []) X me_X8_fail lk_X8_98 (c_X8_fail l D T a_ a_tape a_keys (nI 2) v_filled v_end v_at v_word v_key v_number v_kind v_place v_faultKind v_faultPlace r12 u13 u14 c15) rfl rfl ⟨(Nat.le_of_ble_eq_true rfl), (Nat.le_of_ble_eq_true rfl)⟩ hK hPc hDc rfl rfl rfl rfl hl.1 rfl (Nat.le_of_ble_eq_true rfl) dX8_nameHere_34 ⟨Nat.zero_le _, Nat.zero_le _⟩) (fun H locs hP _ hS => ?_)
        replace hP : va_P D mp_cl (k_X8_nameHere T a_ a_tape a_keys v_filled v_end v_at v_kind v_place v_word v_key v_number u13 u14) H := hP
        refine lv_pop hx hb dX8_nameHere_37 rfl ?_
        refine lv_ldc2 (v := (-1 : Int64)) hx hb hown (hts _ (cw_X8_31)) dX8_nameHere_38 ?_
        cases hf
        exact mp_retl X hP hS rfl dX8_nameHere_41
      · replace hf := if_t hf h11
        refine lv_aload_n hx hb dX8_nameHere_27 rfl (lv_at hl 0 rfl) ?_
        refine mp_get X fl_X8_33 hK hP 0 rfl rfl dX8_nameHere_28 ?_
        cases hf
        exact mp_retl X hP hS rfl dX8_nameHere_31


def k_X2_newName (T : Nat → ClassId) (a_p1 a_p1_tape a_p1_keys a_p2 a_p2_cellNames a_p2_secretNames a_p2_pageNames a_p2_speed a_p2_letters a_p2_room a_p2_now a_p2_rounds : Nat) (v_p1_filled : Int32) (v_p1_end : Int32) (v_p1_at : Int32) (v_p1_kind : Int32) (v_p1_place : Int32) (v_p1_word : Int64) (v_p1_key : Int32) (v_p1_number : Int32) (v_p1_faultKind : Int32) (v_p1_faultPlace : Int32) (v_p1_keys : (Nat → Int64)) (v_p1_tape : (Nat → Int32)) (v_p2_cells : Int32) (v_p2_secrets : Int32) (v_p2_pages : Int32) (v_p2_blind : Int32) (v_p2_rubs : Int32) (v_p2_cellNames : (Nat → Int64)) (v_p2_pageNames : (Nat → Int64)) (v_p2_secretNames : (Nat → Int64)) : va_W := [(a_p1, oX8 a_p1_tape v_p1_filled v_p1_end v_p1_at v_p1_kind v_p1_place v_p1_word v_p1_key v_p1_number v_p1_faultKind v_p1_faultPlace a_p1_keys), (a_p1_keys, mp_aJ T 24 v_p1_keys), (a_p1_tape, mp_aB T 900 v_p1_tape), (a_p2, oX1 v_p2_cells v_p2_secrets v_p2_pages a_p2_cellNames a_p2_secretNames a_p2_pageNames a_p2_speed v_p2_blind v_p2_rubs a_p2_letters a_p2_room a_p2_now a_p2_rounds), (a_p2_cellNames, mp_aJ T 8 v_p2_cellNames), (a_p2_pageNames, mp_aJ T 6 v_p2_pageNames), (a_p2_secretNames, mp_aJ T 6 v_p2_secretNames)]
set_option maxHeartbeats 4000000 in
set_option maxRecDepth 100000 in
theorem c_X2_newName (l : Launch) (D : va_G) (T : Nat → ClassId) (fu : Nat) (a_p1 a_p1_tape a_p1_keys a_p2 a_p2_cellNames a_p2_secretNames a_p2_pageNames a_p2_speed a_p2_letters a_p2_room a_p2_now a_p2_rounds : Nat) (v_p1_filled : Int32) (v_p2_blind : Int32) (v_p2_rubs : Int32) (v_p1_end : Int32) (v_p1_at : Int32) (v_p1_kind : Int32) (v_p1_place : Int32) (v_p1_word : Int64) (v_p1_key : Int32) (v_p1_number : Int32) (v_p1_faultKind : Int32) (v_p1_faultPlace : Int32) (v_p1_keys : (Nat → Int64)) (v_p1_tape : (Nat → Int32)) (v_p2_cells : Int32) (v_p2_secrets : Int32) (v_p2_pages : Int32) (v_p2_cellNames : (Nat → Int64)) (v_p2_pageNames : (Nat → Int64)) (v_p2_secretNames : (Nat → Int64)) (r_ : Int64) (o_p1_at : Int32) (o_p1_kind : Int32) (o_p1_place : Int32) (o_p1_word : Int64) (o_p1_key : Int32) (o_p1_number : Int32) (o_p1_faultKind : Int32) (o_p1_faultPlace : Int32) (hf : f_X2_newName fu v_p1_end v_p1_at v_p1_kind v_p1_place v_p1_word v_p1_key v_p1_number v_p1_faultKind v_p1_faultPlace v_p1_keys v_p1_tape v_p2_cells v_p2_secrets v_p2_pages v_p2_cellNames v_p2_pageNames v_p2_secretNames = some (r_, o_p1_at, o_p1_kind, o_p1_place, o_p1_word, o_p1_key, o_p1_number, o_p1_faultKind, o_p1_faultPlace)) :
    mp_M l D T yX2_newName cX2_newName 4 (some .long) ({ frames := 3, cells := 0, slots := 0, locals := 65 }) 0 0 [.ref a_p1, .ref a_p2] (k_X2_newName T a_p1 a_p1_tape a_p1_keys a_p2 a_p2_cellNames a_p2_secretNames a_p2_pageNames a_p2_speed a_p2_letters a_p2_room a_p2_now a_p2_rounds v_p1_filled v_p1_end v_p1_at v_p1_kind v_p1_place v_p1_word v_p1_key v_p1_number v_p1_faultKind v_p1_faultPlace v_p1_keys v_p1_tape v_p2_cells v_p2_secrets v_p2_pages v_p2_blind v_p2_rubs v_p2_cellNames v_p2_pageNames v_p2_secretNames) (mp_Ql D r_ (k_X2_newName T a_p1 a_p1_tape a_p1_keys a_p2 a_p2_cellNames a_p2_secretNames a_p2_pageNames a_p2_speed a_p2_letters a_p2_room a_p2_now a_p2_rounds v_p1_filled v_p1_end o_p1_at o_p1_kind o_p1_place o_p1_word o_p1_key o_p1_number o_p1_faultKind o_p1_faultPlace v_p1_keys v_p1_tape v_p2_cells v_p2_secrets v_p2_pages v_p2_blind v_p2_rubs v_p2_cellNames v_p2_pageNames v_p2_secretNames)) := by
  refine mp_of (by decide) (Nat.le_of_ble_eq_true rfl) rfl ?_
  intro p e s m args below meth c A ls X hK hP hD hS hA hl
  replace X : mp_X p s m meth c args RX2 "newName" cX2_newName 4 (some .long) := X
  have hx := X.1
  have hb := X.2.1
  have hml := X.2.2.1
  have hown := X.2.2.2.2.1
  have hts := X.2.2.2.2.2.1
  replace hl : lv_has ls 4 [(0, .ref a_p1), (1, .ref a_p2)] := hl
  replace hf : bd_ (f_X8_nameHere v_p1_kind v_p1_place v_p1_word v_p1_key v_p1_faultKind v_p1_faultPlace) (fun (z : Int64 × Int32 × Int32) => match z with | (r1, u2, u3) => (if (lg_cmp r1 (-1 : Int64)) = 0 then some ((-1 : Int64), v_p1_at, v_p1_kind, v_p1_place, v_p1_word, v_p1_key, v_p1_number, u2, u3) else bd_ (f_X1_isTaken fu r1 v_p2_cells v_p2_secrets v_p2_pages v_p2_cellNames v_p2_pageNames v_p2_secretNames) (fun (r6 : Int32) => (if r6 = 0 then bd_ (f_X8_forward fu v_p1_end v_p1_at v_p1_kind v_p1_place v_p1_word v_p1_key v_p1_number v_p1_keys v_p1_tape) (fun (z : Int32 × Int32 × Int32 × Int64 × Int32 × Int32) => match z with | (u9, u10, u11, u12, u13, u14) => some (r1, u9, u10, u11, u12, u13, u14, u2, u3)) else bd_ (f_X8_fail (nI 3) v_p1_kind v_p1_place u2 u3) (fun (z : Int32 × Int32 × Int32) => match z with | (r16, u17, u18) => some ((-1 : Int64), v_p1_at, v_p1_kind, v_p1_place, v_p1_word, v_p1_key, v_p1_number, u17, u18)))))) = some (r_, o_p1_at, o_p1_kind, o_p1_place, o_p1_word, o_p1_key, o_p1_number, o_p1_faultKind, o_p1_faultPlace) := hf
  refine lv_aload_n hx hb dX2_newName_0 rfl (lv_at hl 0 rfl) ?_
  obtain ⟨⟨r1, u2, u3⟩, c4, hf⟩ := bd_of hf
  dsimp only at hf
  have hPc := hP.sub (ws' := (k_X8_nameHere T a_p1 a_p1_tape a_p1_keys v_p1_filled v_p1_end v_p1_at v_p1_kind v_p1_place v_p1_word v_p1_key v_p1_number v_p1_faultKind v_p1_faultPlace)) [0] rfl
  have hDc := (mp_D_of (w1 := (k_X2_newName T a_p1 a_p1_tape a_p1_keys a_p2 a_p2_cellNames a_p2_secretNames a_p2_pageNames a_p2_speed a_p2_letters a_p2_room a_p2_now a_p2_rounds v_p1_filled v_p1_end v_p1_at v_p1_kind v_p1_place v_p1_word v_p1_key v_p1_number v_p1_faultKind v_p1_faultPlace v_p1_keys v_p1_tape v_p2_cells v_p2_secrets v_p2_pages v_p2_blind v_p2_rubs v_p2_cellNames v_p2_pageNames v_p2_secretNames)) hD rfl).sub (ws' := (k_X8_nameHere T a_p1 a_p1_tape a_p1_keys v_p1_filled v_p1_end v_p1_at v_p1_kind v_p1_place v_p1_word v_p1_key v_p1_number v_p1_faultKind v_p1_faultPlace)) [0] rfl rfl
  refine mp_calll (isC := [0]) (wc := (k_X8_nameHere T a_p1 a_p1_tape a_p1_keys v_p1_filled v_p1_end v_p1_at v_p1_kind v_p1_place v_p1_word v_p1_key v_p1_number v_p1_faultKind v_p1_faultPlace)) (w1 := (k_X8_nameHere T a_p1 a_p1_tape a_p1_keys v_p1_filled v_p1_end v_p1_at v_p1_kind v_p1_place v_p1_word v_p1_key v_p1_number u2 u3)) hP (mp_D_of hD rfl) hS hA rfl rfl (mp_runV (As := []) (rest := []) X me_X8_nameHere lk_X2_65 (c_X8_nameHere l D T a_p1 a_p1_tape a_p1_keys v_p1_filled v_p1_end v_p1_at v_p1_number v_p1_kind v_p1_place v_p1_word v_p1_key v_p1_faultKind v_p1_faultPlace r1 u2 u3 c4) rfl rfl ⟨(Nat.le_of_ble_eq_true rfl), (Nat.le_of_ble_eq_true rfl)⟩ hK hPc hDc rfl rfl rfl rfl hl.1 rfl (Nat.le_of_ble_eq_true rfl) dX2_newName_1 ⟨Nat.zero_le _, Nat.zero_le _⟩) (fun H locs hP _ hS => ?_)
  replace hP : va_P D mp_cl (k_X2_newName T a_p1 a_p1_tape a_p1_keys a_p2 a_p2_cellNames a_p2_secretNames a_p2_pageNames a_p2_speed a_p2_letters a_p2_room a_p2_now a_p2_rounds v_p1_filled v_p1_end v_p1_at v_p1_kind v_p1_place v_p1_word v_p1_key v_p1_number u2 u3 v_p1_keys v_p1_tape v_p2_cells v_p2_secrets v_p2_pages v_p2_blind v_p2_rubs v_p2_cellNames v_p2_pageNames v_p2_secretNames) H := hP
  refine lv_lstore_n (lv' := [(2, .long r1), (0, .ref a_p1), (1, .ref a_p2)]) hx hb dX2_newName_4 rfl hl (by decide) rfl (fun ls hl => ?_)
  refine lv_lload_n hx hb dX2_newName_5 rfl (lv_at hl 0 rfl) ?_
  refine lv_ldc2 (v := (-1 : Int64)) hx hb hown (hts _ (cw_X2_69)) dX2_newName_6 ?_
  refine W.lcmp hx hb dX2_newName_9 ?_
  refine lv_if_ne (tgt := 17) hx hb dX2_newName_10 (by decide) (fun h5 => ?_) (fun h5 => ?_)
  · replace hf := if_f hf h5
    refine lv_aload_n hx hb dX2_newName_17 rfl (lv_at hl 2 rfl) ?_
    refine lv_lload_n hx hb dX2_newName_18 rfl (lv_at hl 0 rfl) ?_
    obtain ⟨r6, c7, hf⟩ := bd_of hf
    have hPc := hP.sub (ws' := (k_X1_isTaken T a_p2 a_p2_cellNames a_p2_secretNames a_p2_pageNames a_p2_speed a_p2_letters a_p2_room a_p2_now a_p2_rounds v_p2_cells v_p2_secrets v_p2_pages v_p2_blind v_p2_rubs v_p2_cellNames v_p2_pageNames v_p2_secretNames)) [3, 4, 5, 6] rfl
    have hDc := (mp_D_of (w1 := (k_X2_newName T a_p1 a_p1_tape a_p1_keys a_p2 a_p2_cellNames a_p2_secretNames a_p2_pageNames a_p2_speed a_p2_letters a_p2_room a_p2_now a_p2_rounds v_p1_filled v_p1_end v_p1_at v_p1_kind v_p1_place v_p1_word v_p1_key v_p1_number u2 u3 v_p1_keys v_p1_tape v_p2_cells v_p2_secrets v_p2_pages v_p2_blind v_p2_rubs v_p2_cellNames v_p2_pageNames v_p2_secretNames)) hD rfl).sub (ws' := (k_X1_isTaken T a_p2 a_p2_cellNames a_p2_secretNames a_p2_pageNames a_p2_speed a_p2_letters a_p2_room a_p2_now a_p2_rounds v_p2_cells v_p2_secrets v_p2_pages v_p2_blind v_p2_rubs v_p2_cellNames v_p2_pageNames v_p2_secretNames)) [3, 4, 5, 6] rfl rfl
    refine mp_calli (isC := [3, 4, 5, 6]) (wc := (k_X1_isTaken T a_p2 a_p2_cellNames a_p2_secretNames a_p2_pageNames a_p2_speed a_p2_letters a_p2_room a_p2_now a_p2_rounds v_p2_cells v_p2_secrets v_p2_pages v_p2_blind v_p2_rubs v_p2_cellNames v_p2_pageNames v_p2_secretNames)) (w1 := (k_X1_isTaken T a_p2 a_p2_cellNames a_p2_secretNames a_p2_pageNames a_p2_speed a_p2_letters a_p2_room a_p2_now a_p2_rounds v_p2_cells v_p2_secrets v_p2_pages v_p2_blind v_p2_rubs v_p2_cellNames v_p2_pageNames v_p2_secretNames)) hP (mp_D_of hD rfl) hS hA rfl rfl (mp_runV (As := [.long r1]) (rest := []) X me_X1_isTaken lk_X2_71 (c_X1_isTaken l D T fu a_p2 a_p2_cellNames a_p2_secretNames a_p2_pageNames a_p2_speed a_p2_letters a_p2_room a_p2_now a_p2_rounds r1 v_p2_blind v_p2_rubs v_p2_cells v_p2_secrets v_p2_pages v_p2_cellNames v_p2_pageNames v_p2_secretNames r6 c7) rfl rfl ⟨(Nat.le_of_ble_eq_true rfl), (Nat.le_of_ble_eq_true rfl)⟩ hK hPc hDc rfl rfl rfl rfl hl.1 rfl (Nat.le_of_ble_eq_true rfl) dX2_newName_19 ⟨Nat.zero_le _, Nat.zero_le _⟩) (fun H locs hP _ hS => ?_)
    replace hP : va_P D mp_cl (k_X2_newName T a_p1 a_p1_tape a_p1_keys a_p2 a_p2_cellNames a_p2_secretNames a_p2_pageNames a_p2_speed a_p2_letters a_p2_room a_p2_now a_p2_rounds v_p1_filled v_p1_end v_p1_at v_p1_kind v_p1_place v_p1_word v_p1_key v_p1_number u2 u3 v_p1_keys v_p1_tape v_p2_cells v_p2_secrets v_p2_pages v_p2_blind v_p2_rubs v_p2_cellNames v_p2_pageNames v_p2_secretNames) H := hP
    refine lv_if_eq (tgt := 35) hx hb dX2_newName_22 (by decide) (fun h8 => ?_) (fun h8 => ?_)
    · replace hf := if_t hf h8
      refine lv_aload_n hx hb dX2_newName_35 rfl (lv_at hl 1 rfl) ?_
      obtain ⟨⟨u9, u10, u11, u12, u13, u14⟩, c15, hf⟩ := bd_of hf
      dsimp only at hf
      have hPc := hP.sub (ws' := (k_X8_forward T a_p1 a_p1_tape a_p1_keys v_p1_filled v_p1_end v_p1_at v_p1_kind v_p1_place v_p1_word v_p1_key v_p1_number u2 u3 v_p1_keys v_p1_tape)) [0, 1, 2] rfl
      have hDc := (mp_D_of (w1 := (k_X2_newName T a_p1 a_p1_tape a_p1_keys a_p2 a_p2_cellNames a_p2_secretNames a_p2_pageNames a_p2_speed a_p2_letters a_p2_room a_p2_now a_p2_rounds v_p1_filled v_p1_end v_p1_at v_p1_kind v_p1_place v_p1_word v_p1_key v_p1_number u2 u3 v_p1_keys v_p1_tape v_p2_cells v_p2_secrets v_p2_pages v_p2_blind v_p2_rubs v_p2_cellNames v_p2_pageNames v_p2_secretNames)) hD rfl).sub (ws' := (k_X8_forward T a_p1 a_p1_tape a_p1_keys v_p1_filled v_p1_end v_p1_at v_p1_kind v_p1_place v_p1_word v_p1_key v_p1_number u2 u3 v_p1_keys v_p1_tape)) [0, 1, 2] rfl rfl
      refine mp_callv (isC := [0, 1, 2]) (wc := (k_X8_forward T a_p1 a_p1_tape a_p1_keys v_p1_filled v_p1_end v_p1_at v_p1_kind v_p1_place v_p1_word v_p1_key v_p1_number u2 u3 v_p1_keys v_p1_tape)) (w1 := (k_X8_forward T a_p1 a_p1_tape a_p1_keys v_p1_filled v_p1_end u9 u10 u11 u12 u13 u14 u2 u3 v_p1_keys v_p1_tape)) hP (mp_D_of hD rfl) hS hA rfl rfl (mp_runV (As := []) (rest := []) X me_X8_forward lk_X2_75 (c_X8_forward l D T fu a_p1 a_p1_tape a_p1_keys v_p1_filled u2 u3 v_p1_end v_p1_at v_p1_kind v_p1_place v_p1_word v_p1_key v_p1_number v_p1_keys v_p1_tape u9 u10 u11 u12 u13 u14 c15) rfl rfl ⟨(Nat.le_of_ble_eq_true rfl), (Nat.le_of_ble_eq_true rfl)⟩ hK hPc hDc rfl rfl rfl rfl hl.1 rfl (Nat.le_of_ble_eq_true rfl) dX2_newName_36 ⟨Nat.zero_le _, Nat.zero_le _⟩) (fun H locs hP _ hS => ?_)
      replace hP : va_P D mp_cl (k_X2_newName T a_p1 a_p1_tape a_p1_keys a_p2 a_p2_cellNames a_p2_secretNames a_p2_pageNames a_p2_speed a_p2_letters a_p2_room a_p2_now a_p2_rounds v_p1_filled v_p1_end u9 u10 u11 u12 u13 u14 u2 u3 v_p1_keys v_p1_tape v_p2_cells v_p2_secrets v_p2_pages v_p2_blind v_p2_rubs v_p2_cellNames v_p2_pageNames v_p2_secretNames) H := hP
      refine lv_lload_n hx hb dX2_newName_39 rfl (lv_at hl 0 rfl) ?_
      cases hf
      exact mp_retl X hP hS rfl dX2_newName_40
    · replace hf := if_f hf h8
      refine lv_aload_n hx hb dX2_newName_25 rfl (lv_at hl 1 rfl) ?_
      refine lv_iconst (v := (nI 3)) hx hb dX2_newName_26 (by decide) ?_
      obtain ⟨⟨r16, u17, u18⟩, c19, hf⟩ := bd_of hf
      dsimp only at hf
      have hPc := hP.sub (ws' := (k_X8_fail T a_p1 a_p1_tape a_p1_keys v_p1_filled v_p1_end v_p1_at v_p1_kind v_p1_place v_p1_word v_p1_key v_p1_number u2 u3)) [0] rfl
      have hDc := (mp_D_of (w1 := (k_X2_newName T a_p1 a_p1_tape a_p1_keys a_p2 a_p2_cellNames a_p2_secretNames a_p2_pageNames a_p2_speed a_p2_letters a_p2_room a_p2_now a_p2_rounds v_p1_filled v_p1_end v_p1_at v_p1_kind v_p1_place v_p1_word v_p1_key v_p1_number u2 u3 v_p1_keys v_p1_tape v_p2_cells v_p2_secrets v_p2_pages v_p2_blind v_p2_rubs v_p2_cellNames v_p2_pageNames v_p2_secretNames)) hD rfl).sub (ws' := (k_X8_fail T a_p1 a_p1_tape a_p1_keys v_p1_filled v_p1_end v_p1_at v_p1_kind v_p1_place v_p1_word v_p1_key v_p1_number u2 u3)) [0] rfl rfl
      refine mp_calli (isC := [0]) (wc := (k_X8_fail T a_p1 a_p1_tape a_p1_keys v_p1_filled v_p1_end v_p1_at v_p1_kind v_p1_place v_p1_word v_p1_key v_p1_number u2 u3)) (w1 := (k_X8_fail T a_p1 a_p1_tape a_p1_keys v_p1_filled v_p1_end v_p1_at v_p1_kind v_p1_place v_p1_word v_p1_key v_p1_number u17 u18)) hP (mp_D_of hD rfl) hS hA rfl rfl (mp_runV (As := [.int (nI 3)]) (rest := []) X me_X8_fail lk_X2_48 (c_X8_fail l D T a_p1 a_p1_tape a_p1_keys (nI 3) v_p1_filled v_p1_end v_p1_at v_p1_word v_p1_key v_p1_number v_p1_kind v_p1_place u2 u3 r16 u17 u18 c19) rfl rfl ⟨(Nat.le_of_ble_eq_true rfl), (Nat.le_of_ble_eq_true rfl)⟩ hK hPc hDc rfl rfl rfl rfl hl.1 rfl (Nat.le_of_ble_eq_true rfl) dX2_newName_27 ⟨Nat.zero_le _, Nat.zero_le _⟩) (fun H locs hP _ hS => ?_)
      replace hP : va_P D mp_cl (k_X2_newName T a_p1 a_p1_tape a_p1_keys a_p2 a_p2_cellNames a_p2_secretNames a_p2_pageNames a_p2_speed a_p2_letters a_p2_room a_p2_now a_p2_rounds v_p1_filled v_p1_end v_p1_at v_p1_kind v_p1_place v_p1_word v_p1_key v_p1_number u17 u18 v_p1_keys v_p1_tape v_p2_cells v_p2_secrets v_p2_pages v_p2_blind v_p2_rubs v_p2_cellNames v_p2_pageNames v_p2_secretNames) H := hP
      refine lv_pop hx hb dX2_newName_30 rfl ?_
      refine lv_ldc2 (v := (-1 : Int64)) hx hb hown (hts _ (cw_X2_69)) dX2_newName_31 ?_
      cases hf
      exact mp_retl X hP hS rfl dX2_newName_34
  · replace hf := if_t hf h5
    refine lv_ldc2 (v := (-1 : Int64)) hx hb hown (hts _ (cw_X2_69)) dX2_newName_13 ?_
    cases hf
    exact mp_retl X hP hS rfl dX2_newName_16


def k_X8_skips (T : Nat → ClassId) (a_ a_tape a_keys : Nat) (v_filled : Int32) (v_end : Int32) (v_at : Int32) (v_kind : Int32) (v_place : Int32) (v_word : Int64) (v_key : Int32) (v_number : Int32) (v_faultKind : Int32) (v_faultPlace : Int32) (v_keys : (Nat → Int64)) (v_tape : (Nat → Int32)) : va_W := [(a_, oX8 a_tape v_filled v_end v_at v_kind v_place v_word v_key v_number v_faultKind v_faultPlace a_keys), (a_keys, mp_aJ T 24 v_keys), (a_tape, mp_aB T 900 v_tape)]
set_option maxHeartbeats 4000000 in
set_option maxRecDepth 100000 in
theorem w_X8_skips_13 {p : Program} {l : Launch} {e : Env} {s : State} {m : MethodId} {args : Array Value} {below : List Frame} {meth : Method} {c : Code} {D : va_G} {T : Nat → ClassId} {A : Nat → Prop} (X : mp_X p s m meth c args RX8 "skips" cX8_skips 3 (some .boolean)) (hK : va_K D mp_cl (mp_ty T) s) (hA : ∀ q, s.heap.size ≤ q → A q) (fu : Nat) (a_ a_tape a_keys : Nat) (v_filled : Int32) (v_faultKind : Int32) (v_faultPlace : Int32) (v_end : Int32) (v_keys : (Nat → Int64)) (v_tape : (Nat → Int32)) (r_ : Int32) (o_at : Int32) (o_kind : Int32) (o_place : Int32) (o_word : Int64) (o_key : Int32) (o_number : Int32) :
    ∀  (w0 : Int32) (v_at : Int32) (v_kind : Int32) (v_place : Int32) (v_word : Int64) (v_key : Int32) (v_number : Int32), f_X8_skips_13 fu v_end v_keys v_tape  w0 v_at v_kind v_place v_word v_key v_number = some (r_, o_at, o_kind, o_place, o_word, o_key, o_number) → ∀ (H : Heap) (locs : List Loc) (ls : Array Slot), va_P D mp_cl (k_X8_skips T a_ a_tape a_keys v_filled v_end v_at v_kind v_place v_word v_key v_number v_faultKind v_faultPlace v_keys v_tape) H → va_D A (k_X8_skips T a_ a_tape a_keys v_filled v_end v_at v_kind v_place v_word v_key v_number v_faultKind v_faultPlace v_keys v_tape) → va_S A s.heap H locs → lv_has ls 3 [(0, .ref a_)] → W p l e ({ frames := 3, cells := 0, slots := 0, locals := 65 }) s m args below meth c H locs 0 0 (MQ below ((mp_Qi D r_ (k_X8_skips T a_ a_tape a_keys v_filled v_end o_at o_kind o_place o_word o_key o_number v_faultKind v_faultPlace v_keys v_tape)) A) args s 0 0 A) (F0 m 13 ls [.int w0]) := by
  have hx := X.1
  have hb := X.2.1
  have hml := X.2.2.1
  have hown := X.2.2.2.2.1
  have hts := X.2.2.2.2.2.1
  intro w0 v_at v_kind v_place v_word v_key v_number hf H locs ls hP hD hS hl
  replace hf : (if w0 = 0 then gd_ (w0 = 0 ∨ w0 = 1) (some (w0, v_at, v_kind, v_place, v_word, v_key, v_number)) else bd_ (f_X8_forward fu v_end v_at v_kind v_place v_word v_key v_number v_keys v_tape) (fun (z : Int32 × Int32 × Int32 × Int64 × Int32 × Int32) => match z with | (u3, u4, u5, u6, u7, u8) => gd_ (w0 = 0 ∨ w0 = 1) (some (w0, u3, u4, u5, u6, u7, u8)))) = some (r_, o_at, o_kind, o_place, o_word, o_key, o_number) := hf
  refine lv_istore_n (lv' := [(2, .int w0), (0, .ref a_)]) hx hb dX8_skips_13 rfl hl (by decide) rfl (fun ls hl => ?_)
  refine lv_iload_n hx hb dX8_skips_14 rfl (lv_at hl 0 rfl) ?_
  refine lv_if_eq (tgt := 22) hx hb dX8_skips_15 (by decide) (fun h1 => ?_) (fun h1 => ?_)
  · replace hf := if_t hf h1
    refine lv_iload_n hx hb dX8_skips_22 rfl (lv_at hl 0 rfl) ?_
    obtain ⟨h2, hf⟩ := gd_of hf
    cases hf
    exact mp_retz X hP hS rfl h2 dX8_skips_23
  · replace hf := if_f hf h1
    refine lv_aload_n hx hb dX8_skips_18 rfl (lv_at hl 1 rfl) ?_
    obtain ⟨⟨u3, u4, u5, u6, u7, u8⟩, c9, hf⟩ := bd_of hf
    dsimp only at hf
    have hPc := hP.sub (ws' := (k_X8_forward T a_ a_tape a_keys v_filled v_end v_at v_kind v_place v_word v_key v_number v_faultKind v_faultPlace v_keys v_tape)) [0, 1, 2] rfl
    have hDc := (mp_D_of (w1 := (k_X8_skips T a_ a_tape a_keys v_filled v_end v_at v_kind v_place v_word v_key v_number v_faultKind v_faultPlace v_keys v_tape)) hD rfl).sub (ws' := (k_X8_forward T a_ a_tape a_keys v_filled v_end v_at v_kind v_place v_word v_key v_number v_faultKind v_faultPlace v_keys v_tape)) [0, 1, 2] rfl rfl
    refine mp_callv (isC := [0, 1, 2]) (wc := (k_X8_forward T a_ a_tape a_keys v_filled v_end v_at v_kind v_place v_word v_key v_number v_faultKind v_faultPlace v_keys v_tape)) (w1 := (k_X8_forward T a_ a_tape a_keys v_filled v_end u3 u4 u5 u6 u7 u8 v_faultKind v_faultPlace v_keys v_tape)) hP (mp_D_of hD rfl) hS hA rfl rfl (mp_runV (As := []) (rest := []) X me_X8_forward lk_X8_71 (c_X8_forward l D T fu a_ a_tape a_keys v_filled v_faultKind v_faultPlace v_end v_at v_kind v_place v_word v_key v_number v_keys v_tape u3 u4 u5 u6 u7 u8 c9) rfl rfl ⟨(Nat.le_of_ble_eq_true rfl), (Nat.le_of_ble_eq_true rfl)⟩ hK hPc hDc rfl rfl rfl rfl hl.1 rfl (Nat.le_of_ble_eq_true rfl) dX8_skips_19 ⟨Nat.zero_le _, Nat.zero_le _⟩) (fun H locs hP _ hS => ?_)
    replace hP : va_P D mp_cl (k_X8_skips T a_ a_tape a_keys v_filled v_end u3 u4 u5 u6 u7 u8 v_faultKind v_faultPlace v_keys v_tape) H := hP
    refine lv_iload_n hx hb dX8_skips_22 rfl (lv_at hl 0 rfl) ?_
    obtain ⟨h10, hf⟩ := gd_of hf
    cases hf
    exact mp_retz X hP hS rfl h10 dX8_skips_23

set_option maxHeartbeats 4000000 in
set_option maxRecDepth 100000 in
theorem c_X8_skips (l : Launch) (D : va_G) (T : Nat → ClassId) (fu : Nat) (a_ a_tape a_keys : Nat) (x1 : Int32) (v_filled : Int32) (v_faultKind : Int32) (v_faultPlace : Int32) (v_end : Int32) (v_at : Int32) (v_kind : Int32) (v_place : Int32) (v_word : Int64) (v_key : Int32) (v_number : Int32) (v_keys : (Nat → Int64)) (v_tape : (Nat → Int32)) (r_ : Int32) (o_at : Int32) (o_kind : Int32) (o_place : Int32) (o_word : Int64) (o_key : Int32) (o_number : Int32) (hf : f_X8_skips fu x1 v_end v_at v_kind v_place v_word v_key v_number v_keys v_tape = some (r_, o_at, o_kind, o_place, o_word, o_key, o_number)) :
    mp_M l D T yX8_skips cX8_skips 3 (some .boolean) ({ frames := 3, cells := 0, slots := 0, locals := 65 }) 0 0 [.ref a_, .int x1] (k_X8_skips T a_ a_tape a_keys v_filled v_end v_at v_kind v_place v_word v_key v_number v_faultKind v_faultPlace v_keys v_tape) (mp_Qi D r_ (k_X8_skips T a_ a_tape a_keys v_filled v_end o_at o_kind o_place o_word o_key o_number v_faultKind v_faultPlace v_keys v_tape)) := by
  refine mp_of (by decide) (Nat.le_of_ble_eq_true rfl) rfl ?_
  intro p e s m args below meth c A ls X hK hP hD hS hA hl
  replace X : mp_X p s m meth c args RX8 "skips" cX8_skips 3 (some .boolean) := X
  have hx := X.1
  have hb := X.2.1
  have hml := X.2.2.1
  have hown := X.2.2.2.2.1
  have hts := X.2.2.2.2.2.1
  replace hl : lv_has ls 3 [(0, .ref a_), (1, .int x1)] := hl
  replace hf : (if v_key = x1 then f_X8_skips_13 fu v_end v_keys v_tape  (nI 1) v_at v_kind v_place v_word v_key v_number else f_X8_skips_13 fu v_end v_keys v_tape  (nI 0) v_at v_kind v_place v_word v_key v_number) = some (r_, o_at, o_kind, o_place, o_word, o_key, o_number) := hf
  refine lv_aload_n hx hb dX8_skips_0 rfl (lv_at hl 0 rfl) ?_
  refine mp_get X fl_X8_37 hK hP 0 rfl rfl dX8_skips_1 ?_
  refine lv_iload_n hx hb dX8_skips_4 rfl (lv_at hl 1 rfl) ?_
  refine lv_icmp_ne (tgt := 12) hx hb dX8_skips_5 (by decide) (fun h1 => ?_) (fun h1 => ?_)
  · replace hf := if_f hf h1
    refine lv_iconst (v := (nI 0)) hx hb dX8_skips_12 (by decide) ?_
    exact w_X8_skips_13 X hK hA  fu a_ a_tape a_keys v_filled v_faultKind v_faultPlace v_end v_keys v_tape r_ o_at o_kind o_place o_word o_key o_number   (nI 0) v_at v_kind v_place v_word v_key v_number hf _ _ _ hP (mp_D_of hD rfl) hS (lv_sub hl [0] rfl)
  · replace hf := if_t hf h1
    refine lv_iconst (v := (nI 1)) hx hb dX8_skips_8 (by decide) ?_
    refine lv_goto (tgt := 13) hx hb dX8_skips_9 (by decide) ?_
    exact w_X8_skips_13 X hK hA  fu a_ a_tape a_keys v_filled v_faultKind v_faultPlace v_end v_keys v_tape r_ o_at o_kind o_place o_word o_key o_number   (nI 1) v_at v_kind v_place v_word v_key v_number hf _ _ _ hP (mp_D_of hD rfl) hS (lv_sub hl [0] rfl)


def k_X8_numberWithin (T : Nat → ClassId) (a_ a_tape a_keys : Nat) (v_filled : Int32) (v_end : Int32) (v_at : Int32) (v_kind : Int32) (v_place : Int32) (v_word : Int64) (v_key : Int32) (v_number : Int32) (v_faultKind : Int32) (v_faultPlace : Int32) (v_keys : (Nat → Int64)) (v_tape : (Nat → Int32)) : va_W := [(a_, oX8 a_tape v_filled v_end v_at v_kind v_place v_word v_key v_number v_faultKind v_faultPlace a_keys), (a_keys, mp_aJ T 24 v_keys), (a_tape, mp_aB T 900 v_tape)]
set_option maxHeartbeats 4000000 in
set_option maxRecDepth 100000 in
theorem c_X8_numberWithin (l : Launch) (D : va_G) (T : Nat → ClassId) (fu : Nat) (a_ a_tape a_keys : Nat) (x1 : Int32) (x2 : Int32) (v_filled : Int32) (v_end : Int32) (v_at : Int32) (v_kind : Int32) (v_place : Int32) (v_word : Int64) (v_key : Int32) (v_number : Int32) (v_faultKind : Int32) (v_faultPlace : Int32) (v_keys : (Nat → Int64)) (v_tape : (Nat → Int32)) (r_ : Int32) (o_at : Int32) (o_kind : Int32) (o_place : Int32) (o_word : Int64) (o_key : Int32) (o_number : Int32) (o_faultKind : Int32) (o_faultPlace : Int32) (hf : f_X8_numberWithin fu x1 x2 v_end v_at v_kind v_place v_word v_key v_number v_faultKind v_faultPlace v_keys v_tape = some (r_, o_at, o_kind, o_place, o_word, o_key, o_number, o_faultKind, o_faultPlace)) :
    mp_M l D T yX8_numberWithin cX8_numberWithin 4 (some .int) ({ frames := 3, cells := 0, slots := 0, locals := 65 }) 0 0 [.ref a_, .int x1, .int x2] (k_X8_numberWithin T a_ a_tape a_keys v_filled v_end v_at v_kind v_place v_word v_key v_number v_faultKind v_faultPlace v_keys v_tape) (mp_Qi D r_ (k_X8_numberWithin T a_ a_tape a_keys v_filled v_end o_at o_kind o_place o_word o_key o_number o_faultKind o_faultPlace v_keys v_tape)) := by
  refine mp_of (by decide) (Nat.le_of_ble_eq_true rfl) rfl ?_
  intro p e s m args below meth c A ls X hK hP hD hS hA hl
  replace X : mp_X p s m meth c args RX8 "numberWithin" cX8_numberWithin 4 (some .int) := X
  have hx := X.1
  have hb := X.2.1
  have hml := X.2.2.1
  have hown := X.2.2.2.2.1
  have hts := X.2.2.2.2.2.1
  replace hl : lv_has ls 4 [(0, .ref a_), (1, .int x1), (2, .int x2)] := hl
  replace hf : (if v_kind = (nI 2) then (if v_number < x1 then bd_ (f_X8_fail (nI 4) v_kind v_place v_faultKind v_faultPlace) (fun (z : Int32 × Int32 × Int32) => match z with | (r3, u4, u5) => some ((-1 : Int32), v_at, v_kind, v_place, v_word, v_key, v_number, u4, u5)) else (if v_number ≤ x2 then bd_ (f_X8_forward fu v_end v_at v_kind v_place v_word v_key v_number v_keys v_tape) (fun (z : Int32 × Int32 × Int32 × Int64 × Int32 × Int32) => match z with | (u8, u9, u10, u11, u12, u13) => some (v_number, u8, u9, u10, u11, u12, u13, v_faultKind, v_faultPlace)) else bd_ (f_X8_fail (nI 4) v_kind v_place v_faultKind v_faultPlace) (fun (z : Int32 × Int32 × Int32) => match z with | (r15, u16, u17) => some ((-1 : Int32), v_at, v_kind, v_place, v_word, v_key, v_number, u16, u17)))) else bd_ (f_X8_fail (nI 2) v_kind v_place v_faultKind v_faultPlace) (fun (z : Int32 × Int32 × Int32) => match z with | (r19, u20, u21) => some ((-1 : Int32), v_at, v_kind, v_place, v_word, v_key, v_number, u20, u21))) = some (r_, o_at, o_kind, o_place, o_word, o_key, o_number, o_faultKind, o_faultPlace) := hf
  refine lv_aload_n hx hb dX8_numberWithin_0 rfl (lv_at hl 0 rfl) ?_
  refine mp_get X fl_X8_25 hK hP 0 rfl rfl dX8_numberWithin_1 ?_
  refine lv_iconst (v := (nI 2)) hx hb dX8_numberWithin_4 (by decide) ?_
  refine lv_icmp_eq (tgt := 16) hx hb dX8_numberWithin_5 (by decide) (fun h1 => ?_) (fun h1 => ?_)
  · replace hf := if_t hf h1
    refine lv_aload_n hx hb dX8_numberWithin_16 rfl (lv_at hl 0 rfl) ?_
    refine mp_get X fl_X8_40 hK hP 0 rfl rfl dX8_numberWithin_17 ?_
    refine lv_iload_n hx hb dX8_numberWithin_20 rfl (lv_at hl 1 rfl) ?_
    refine lv_icmp_lt (tgt := 32) hx hb dX8_numberWithin_21 (by decide) (fun h2 => ?_) (fun h2 => ?_)
    · replace hf := if_t hf h2
      refine lv_aload_n hx hb dX8_numberWithin_32 rfl (lv_at hl 0 rfl) ?_
      refine lv_iconst (v := (nI 4)) hx hb dX8_numberWithin_33 (by decide) ?_
      obtain ⟨⟨r3, u4, u5⟩, c6, hf⟩ := bd_of hf
      dsimp only at hf
      have hPc := hP.sub (ws' := (k_X8_fail T a_ a_tape a_keys v_filled v_end v_at v_kind v_place v_word v_key v_number v_faultKind v_faultPlace)) [0] rfl
      have hDc := (mp_D_of (w1 := (k_X8_numberWithin T a_ a_tape a_keys v_filled v_end v_at v_kind v_place v_word v_key v_number v_faultKind v_faultPlace v_keys v_tape)) hD rfl).sub (ws' := (k_X8_fail T a_ a_tape a_keys v_filled v_end v_at v_kind v_place v_word v_key v_number v_faultKind v_faultPlace)) [0] rfl rfl
      refine mp_calli (isC := [0]) (wc := (k_X8_fail T a_ a_tape a_keys v_filled v_end v_at v_kind v_place v_word v_key v_number v_faultKind v_faultPlace)) (w1 := (k_X8_fail T a_ a_tape a_keys v_filled v_end v_at v_kind v_place v_word v_key v_number u4 u5)) hP (mp_D_of hD rfl) hS hA rfl rfl (mp_runV (As := [.int (nI 4)]) (rest := []) X me_X8_fail lk_X8_98 (c_X8_fail l D T a_ a_tape a_keys (nI 4) v_filled v_end v_at v_word v_key v_number v_kind v_place v_faultKind v_faultPlace r3 u4 u5 c6) rfl rfl ⟨(Nat.le_of_ble_eq_true rfl), (Nat.le_of_ble_eq_true rfl)⟩ hK hPc hDc rfl rfl rfl rfl hl.1 rfl (Nat.le_of_ble_eq_true rfl) dX8_numberWithin_34 ⟨Nat.zero_le _, Nat.zero_le _⟩) (fun H locs hP _ hS => ?_)
      replace hP : va_P D mp_cl (k_X8_numberWithin T a_ a_tape a_keys v_filled v_end v_at v_kind v_place v_word v_key v_number u4 u5 v_keys v_tape) H := hP
      refine lv_pop hx hb dX8_numberWithin_37 rfl ?_
      refine lv_iconst (v := (-1 : Int32)) hx hb dX8_numberWithin_38 (by decide) ?_
      cases hf
      exact mp_reti X hP hS rfl dX8_numberWithin_39
    · replace hf := if_f hf h2
      refine lv_aload_n hx hb dX8_numberWithin_24 rfl (lv_at hl 0 rfl) ?_
      refine mp_get X fl_X8_40 hK hP 0 rfl rfl dX8_numberWithin_25 ?_
      refine lv_iload_n hx hb dX8_numberWithin_28 rfl (lv_at hl 2 rfl) ?_
      refine lv_icmp_le (tgt := 40) hx hb dX8_numberWithin_29 (by decide) (fun h7 => ?_) (fun h7 => ?_)
      · replace hf := if_t hf h7
        refine lv_aload_n hx hb dX8_numberWithin_40 rfl (lv_at hl 0 rfl) ?_
        refine mp_get X fl_X8_40 hK hP 0 rfl rfl dX8_numberWithin_41 ?_
        refine lv_istore_n (lv' := [(3, .int v_number), (0, .ref a_), (1, .int x1), (2, .int x2)]) hx hb dX8_numberWithin_44 rfl hl (by decide) rfl (fun ls hl => ?_)
        refine lv_aload_n hx hb dX8_numberWithin_45 rfl (lv_at hl 1 rfl) ?_
        obtain ⟨⟨u8, u9, u10, u11, u12, u13⟩, c14, hf⟩ := bd_of hf
        dsimp only at hf
        have hPc := hP.sub (ws' := (k_X8_forward T a_ a_tape a_keys v_filled v_end v_at v_kind v_place v_word v_key v_number v_faultKind v_faultPlace v_keys v_tape)) [0, 1, 2] rfl
        have hDc := (mp_D_of (w1 := (k_X8_numberWithin T a_ a_tape a_keys v_filled v_end v_at v_kind v_place v_word v_key v_number v_faultKind v_faultPlace v_keys v_tape)) hD rfl).sub (ws' := (k_X8_forward T a_ a_tape a_keys v_filled v_end v_at v_kind v_place v_word v_key v_number v_faultKind v_faultPlace v_keys v_tape)) [0, 1, 2] rfl rfl
        refine mp_callv (isC := [0, 1, 2]) (wc := (k_X8_forward T a_ a_tape a_keys v_filled v_end v_at v_kind v_place v_word v_key v_number v_faultKind v_faultPlace v_keys v_tape)) (w1 := (k_X8_forward T a_ a_tape a_keys v_filled v_end u8 u9 u10 u11 u12 u13 v_faultKind v_faultPlace v_keys v_tape)) hP (mp_D_of hD rfl) hS hA rfl rfl (mp_runV (As := []) (rest := []) X me_X8_forward lk_X8_71 (c_X8_forward l D T fu a_ a_tape a_keys v_filled v_faultKind v_faultPlace v_end v_at v_kind v_place v_word v_key v_number v_keys v_tape u8 u9 u10 u11 u12 u13 c14) rfl rfl ⟨(Nat.le_of_ble_eq_true rfl), (Nat.le_of_ble_eq_true rfl)⟩ hK hPc hDc rfl rfl rfl rfl hl.1 rfl (Nat.le_of_ble_eq_true rfl) dX8_numberWithin_46 ⟨Nat.zero_le _, Nat.zero_le _⟩) (fun H locs hP _ hS => ?_)
        replace hP : va_P D mp_cl (k_X8_numberWithin T a_ a_tape a_keys v_filled v_end u8 u9 u10 u11 u12 u13 v_faultKind v_faultPlace v_keys v_tape) H := hP
        refine lv_iload_n hx hb dX8_numberWithin_49 rfl (lv_at hl 0 rfl) ?_
        cases hf
        exact mp_reti X hP hS rfl dX8_numberWithin_50
      · replace hf := if_f hf h7
        refine lv_aload_n hx hb dX8_numberWithin_32 rfl (lv_at hl 0 rfl) ?_
        refine lv_iconst (v := (nI 4)) hx hb dX8_numberWithin_33 (by decide) ?_
        obtain ⟨⟨r15, u16, u17⟩, c18, hf⟩ := bd_of hf
        dsimp only at hf
        have hPc := hP.sub (ws' := (k_X8_fail T a_ a_tape a_keys v_filled v_end v_at v_kind v_place v_word v_key v_number v_faultKind v_faultPlace)) [0] rfl
        have hDc := (mp_D_of (w1 := (k_X8_numberWithin T a_ a_tape a_keys v_filled v_end v_at v_kind v_place v_word v_key v_number v_faultKind v_faultPlace v_keys v_tape)) hD rfl).sub (ws' := (k_X8_fail T a_ a_tape a_keys v_filled v_end v_at v_kind v_place v_word v_key v_number v_faultKind v_faultPlace)) [0] rfl rfl
        refine mp_calli (isC := [0]) (wc := (k_X8_fail T a_ a_tape a_keys v_filled v_end v_at v_kind v_place v_word v_key v_number v_faultKind v_faultPlace)) (w1 := (k_X8_fail T a_ a_tape a_keys v_filled v_end v_at v_kind v_place v_word v_key v_number u16 u17)) hP (mp_D_of hD rfl) hS hA rfl rfl (mp_runV (As := [.int (nI 4)]) (rest := []) X me_X8_fail lk_X8_98 (c_X8_fail l D T a_ a_tape a_keys (nI 4) v_filled v_end v_at v_word v_key v_number v_kind v_place v_faultKind v_faultPlace r15 u16 u17 c18) rfl rfl ⟨(Nat.le_of_ble_eq_true rfl), (Nat.le_of_ble_eq_true rfl)⟩ hK hPc hDc rfl rfl rfl rfl hl.1 rfl (Nat.le_of_ble_eq_true rfl) dX8_numberWithin_34 ⟨Nat.zero_le _, Nat.zero_le _⟩) (fun H locs hP _ hS => ?_)
        replace hP : va_P D mp_cl (k_X8_numberWithin T a_ a_tape a_keys v_filled v_end v_at v_kind v_place v_word v_key v_number u16 u17 v_keys v_tape) H := hP
        refine lv_pop hx hb dX8_numberWithin_37 rfl ?_
        refine lv_iconst (v := (-1 : Int32)) hx hb dX8_numberWithin_38 (by decide) ?_
        cases hf
        exact mp_reti X hP hS rfl dX8_numberWithin_39
  · replace hf := if_f hf h1
    refine lv_aload_n hx hb dX8_numberWithin_8 rfl (lv_at hl 0 rfl) ?_
    refine lv_iconst (v := (nI 2)) hx hb dX8_numberWithin_9 (by decide) ?_
    obtain ⟨⟨r19, u20, u21⟩, c22, hf⟩ := bd_of hf
    dsimp only at hf
    have hPc := hP.sub (ws' := (k_X8_fail T a_ a_tape a_keys v_filled v_end v_at v_kind v_place v_word v_key v_number v_faultKind v_faultPlace)) [0] rfl
    have hDc := (mp_D_of (w1 := (k_X8_numberWithin T a_ a_tape a_keys v_filled v_end v_at v_kind v_place v_word v_key v_number v_faultKind v_faultPlace v_keys v_tape)) hD rfl).sub (ws' := (k_X8_fail T a_ a_tape a_keys v_filled v_end v_at v_kind v_place v_word v_key v_number v_faultKind v_faultPlace)) [0] rfl rfl
    refine mp_calli (isC := [0]) (wc := (k_X8_fail T a_ a_tape a_keys v_filled v_end v_at v_kind v_place v_word v_key v_number v_faultKind v_faultPlace)) (w1 := (k_X8_fail T a_ a_tape a_keys v_filled v_end v_at v_kind v_place v_word v_key v_number u20 u21)) hP (mp_D_of hD rfl) hS hA rfl rfl (mp_runV (As := [.int (nI 2)]) (rest := []) X me_X8_fail lk_X8_98 (c_X8_fail l D T a_ a_tape a_keys (nI 2) v_filled v_end v_at v_word v_key v_number v_kind v_place v_faultKind v_faultPlace r19 u20 u21 c22) rfl rfl ⟨(Nat.le_of_ble_eq_true rfl), (Nat.le_of_ble_eq_true rfl)⟩ hK hPc hDc rfl rfl rfl rfl hl.1 rfl (Nat.le_of_ble_eq_true rfl) dX8_numberWithin_10 ⟨Nat.zero_le _, Nat.zero_le _⟩) (fun H locs hP _ hS => ?_)
    replace hP : va_P D mp_cl (k_X8_numberWithin T a_ a_tape a_keys v_filled v_end v_at v_kind v_place v_word v_key v_number u20 u21 v_keys v_tape) H := hP
    refine lv_pop hx hb dX8_numberWithin_13 rfl ?_
    refine lv_iconst (v := (-1 : Int32)) hx hb dX8_numberWithin_14 (by decide) ?_
    cases hf
    exact mp_reti X hP hS rfl dX8_numberWithin_15


def k_X8_atSemicolon (T : Nat → ClassId) (a_ a_tape a_keys : Nat) (v_filled : Int32) (v_end : Int32) (v_at : Int32) (v_kind : Int32) (v_place : Int32) (v_word : Int64) (v_key : Int32) (v_number : Int32) (v_faultKind : Int32) (v_faultPlace : Int32) (v_tape : (Nat → Int32)) : va_W := [(a_, oX8 a_tape v_filled v_end v_at v_kind v_place v_word v_key v_number v_faultKind v_faultPlace a_keys), (a_tape, mp_aB T 900 v_tape)]
set_option maxHeartbeats 4000000 in
set_option maxRecDepth 100000 in
theorem c_X8_atSemicolon (l : Launch) (D : va_G) (T : Nat → ClassId) (a_ a_tape a_keys : Nat) (v_filled : Int32) (v_end : Int32) (v_at : Int32) (v_word : Int64) (v_key : Int32) (v_number : Int32) (v_faultKind : Int32) (v_faultPlace : Int32) (v_kind : Int32) (v_place : Int32) (v_tape : (Nat → Int32)) (r_ : Int32) (hf : f_X8_atSemicolon v_kind v_place v_tape = some r_) :
    mp_M l D T yX8_atSemicolon cX8_atSemicolon 1 (some .boolean) ({ frames := 0, cells := 0, slots := 0, locals := 0 }) 0 0 [.ref a_] (k_X8_atSemicolon T a_ a_tape a_keys v_filled v_end v_at v_kind v_place v_word v_key v_number v_faultKind v_faultPlace v_tape) (mp_Qi D r_ (k_X8_atSemicolon T a_ a_tape a_keys v_filled v_end v_at v_kind v_place v_word v_key v_number v_faultKind v_faultPlace v_tape)) := by
  refine mp_of (by decide) (Nat.le_of_ble_eq_true rfl) rfl ?_
  intro p e s m args below meth c A ls X hK hP hD hS hA hl
  replace X : mp_X p s m meth c args RX8 "atSemicolon" cX8_atSemicolon 1 (some .boolean) := X
  have hx := X.1
  have hb := X.2.1
  have hml := X.2.2.1
  have hown := X.2.2.2.2.1
  have hts := X.2.2.2.2.2.1
  replace hl : lv_has ls 1 [(0, .ref a_)] := hl
  replace hf : (if v_kind = (nI 3) then gi_ v_place 900 ((if (v_tape (v_place).toNatClampNeg) = (nI 59) then some ((nI 1)) else some ((nI 0)))) else some ((nI 0))) = some r_ := hf
  refine lv_aload_n hx hb dX8_atSemicolon_0 rfl (lv_at hl 0 rfl) ?_
  refine mp_get X fl_X8_25 hK hP 0 rfl rfl dX8_atSemicolon_1 ?_
  refine lv_iconst (v := (nI 3)) hx hb dX8_atSemicolon_4 (by decide) ?_
  refine lv_icmp_ne (tgt := 26) hx hb dX8_atSemicolon_5 (by decide) (fun h1 => ?_) (fun h1 => ?_)
  · replace hf := if_f hf h1
    refine lv_iconst (v := (nI 0)) hx hb dX8_atSemicolon_26 (by decide) ?_
    cases hf
    exact mp_retz X hP hS rfl (Or.inl rfl) dX8_atSemicolon_27
  · replace hf := if_t hf h1
    refine lv_aload_n hx hb dX8_atSemicolon_8 rfl (lv_at hl 0 rfl) ?_
    refine mp_get X fl_X8_9 hK hP 0 rfl rfl dX8_atSemicolon_9 ?_
    refine lv_aload_n hx hb dX8_atSemicolon_12 rfl (lv_at hl 0 rfl) ?_
    refine mp_get X fl_X8_28 hK hP 0 rfl rfl dX8_atSemicolon_13 ?_
    obtain ⟨h2, hf⟩ := gi_of hf
    refine va_bald hx hb hK hP 1 2 rfl rfl h2 dX8_atSemicolon_16 ?_
    refine lv_bipush (v := (nI 59)) hx hb dX8_atSemicolon_17 (by decide) ?_
    refine lv_icmp_ne (tgt := 26) hx hb dX8_atSemicolon_19 (by decide) (fun h3 => ?_) (fun h3 => ?_)
    · replace hf := if_f hf h3
      refine lv_iconst (v := (nI 0)) hx hb dX8_atSemicolon_26 (by decide) ?_
      cases hf
      exact mp_retz X hP hS rfl (Or.inl rfl) dX8_atSemicolon_27
    · replace hf := if_t hf h3
      refine lv_iconst (v := (nI 1)) hx hb dX8_atSemicolon_22 (by decide) ?_
      refine lv_goto (tgt := 27) hx hb dX8_atSemicolon_23 (by decide) ?_
      cases hf
      exact mp_retz X hP hS rfl (Or.inr rfl) dX8_atSemicolon_27


def k_X8_closes (T : Nat → ClassId) (a_ a_tape a_keys : Nat) (v_filled : Int32) (v_end : Int32) (v_at : Int32) (v_kind : Int32) (v_place : Int32) (v_word : Int64) (v_key : Int32) (v_number : Int32) (v_faultKind : Int32) (v_faultPlace : Int32) (v_keys : (Nat → Int64)) (v_tape : (Nat → Int32)) : va_W := [(a_, oX8 a_tape v_filled v_end v_at v_kind v_place v_word v_key v_number v_faultKind v_faultPlace a_keys), (a_keys, mp_aJ T 24 v_keys), (a_tape, mp_aB T 900 v_tape)]
set_option maxHeartbeats 4000000 in
set_option maxRecDepth 100000 in
theorem c_X8_closes (l : Launch) (D : va_G) (T : Nat → ClassId) (fu : Nat) (a_ a_tape a_keys : Nat) (v_filled : Int32) (v_end : Int32) (v_at : Int32) (v_kind : Int32) (v_place : Int32) (v_word : Int64) (v_key : Int32) (v_number : Int32) (v_faultKind : Int32) (v_faultPlace : Int32) (v_keys : (Nat → Int64)) (v_tape : (Nat → Int32)) (r_ : Int32) (o_at : Int32) (o_kind : Int32) (o_place : Int32) (o_word : Int64) (o_key : Int32) (o_number : Int32) (o_faultKind : Int32) (o_faultPlace : Int32) (hf : f_X8_closes fu v_end v_at v_kind v_place v_word v_key v_number v_faultKind v_faultPlace v_keys v_tape = some (r_, o_at, o_kind, o_place, o_word, o_key, o_number, o_faultKind, o_faultPlace)) :
    mp_M l D T yX8_closes cX8_closes 1 (some .boolean) ({ frames := 3, cells := 0, slots := 0, locals := 65 }) 0 0 [.ref a_] (k_X8_closes T a_ a_tape a_keys v_filled v_end v_at v_kind v_place v_word v_key v_number v_faultKind v_faultPlace v_keys v_tape) (mp_Qi D r_ (k_X8_closes T a_ a_tape a_keys v_filled v_end o_at o_kind o_place o_word o_key o_number o_faultKind o_faultPlace v_keys v_tape)) := by
  refine mp_of (by decide) (Nat.le_of_ble_eq_true rfl) rfl ?_
  intro p e s m args below meth c A ls X hK hP hD hS hA hl
  replace X : mp_X p s m meth c args RX8 "closes" cX8_closes 1 (some .boolean) := X
  have hx := X.1
  have hb := X.2.1
  have hml := X.2.2.1
  have hown := X.2.2.2.2.1
  have hts := X.2.2.2.2.2.1
  replace hl : lv_has ls 1 [(0, .ref a_)] := hl
  replace hf : bd_ (f_X8_atSemicolon v_kind v_place v_tape) (fun (r1 : Int32) => (if r1 = 0 then bd_ (f_X8_fail (nI 2) v_kind v_place v_faultKind v_faultPlace) (fun (z : Int32 × Int32 × Int32) => match z with | (r11, u12, u13) => gd_ (r11 = 0 ∨ r11 = 1) (some (r11, v_at, v_kind, v_place, v_word, v_key, v_number, u12, u13))) else bd_ (f_X8_forward fu v_end v_at v_kind v_place v_word v_key v_number v_keys v_tape) (fun (z : Int32 × Int32 × Int32 × Int64 × Int32 × Int32) => match z with | (u4, u5, u6, u7, u8, u9) => some ((nI 1), u4, u5, u6, u7, u8, u9, v_faultKind, v_faultPlace)))) = some (r_, o_at, o_kind, o_place, o_word, o_key, o_number, o_faultKind, o_faultPlace) := hf
  refine lv_aload_n hx hb dX8_closes_0 rfl (lv_at hl 0 rfl) ?_
  obtain ⟨r1, c2, hf⟩ := bd_of hf
  have hPc := hP.sub (ws' := (k_X8_atSemicolon T a_ a_tape a_keys v_filled v_end v_at v_kind v_place v_word v_key v_number v_faultKind v_faultPlace v_tape)) [0, 2] rfl
  have hDc := (mp_D_of (w1 := (k_X8_closes T a_ a_tape a_keys v_filled v_end v_at v_kind v_place v_word v_key v_number v_faultKind v_faultPlace v_keys v_tape)) hD rfl).sub (ws' := (k_X8_atSemicolon T a_ a_tape a_keys v_filled v_end v_at v_kind v_place v_word v_key v_number v_faultKind v_faultPlace v_tape)) [0, 2] rfl rfl
  refine mp_calli (isC := [0, 2]) (wc := (k_X8_atSemicolon T a_ a_tape a_keys v_filled v_end v_at v_kind v_place v_word v_key v_number v_faultKind v_faultPlace v_tape)) (w1 := (k_X8_atSemicolon T a_ a_tape a_keys v_filled v_end v_at v_kind v_place v_word v_key v_number v_faultKind v_faultPlace v_tape)) hP (mp_D_of hD rfl) hS hA rfl rfl (mp_runV (As := []) (rest := []) X me_X8_atSemicolon lk_X8_94 (c_X8_atSemicolon l D T a_ a_tape a_keys v_filled v_end v_at v_word v_key v_number v_faultKind v_faultPlace v_kind v_place v_tape r1 c2) rfl rfl ⟨(Nat.le_of_ble_eq_true rfl), (Nat.le_of_ble_eq_true rfl)⟩ hK hPc hDc rfl rfl rfl rfl hl.1 rfl (Nat.le_of_ble_eq_true rfl) dX8_closes_1 ⟨Nat.zero_le _, Nat.zero_le _⟩) (fun H locs hP _ hS => ?_)
  replace hP : va_P D mp_cl (k_X8_closes T a_ a_tape a_keys v_filled v_end v_at v_kind v_place v_word v_key v_number v_faultKind v_faultPlace v_keys v_tape) H := hP
  refine lv_if_ne (tgt := 13) hx hb dX8_closes_4 (by decide) (fun h3 => ?_) (fun h3 => ?_)
  · replace hf := if_f hf h3
    refine lv_aload_n hx hb dX8_closes_13 rfl (lv_at hl 0 rfl) ?_
    obtain ⟨⟨u4, u5, u6, u7, u8, u9⟩, c10, hf⟩ := bd_of hf
    dsimp only at hf
    have hPc := hP.sub (ws' := (k_X8_forward T a_ a_tape a_keys v_filled v_end v_at v_kind v_place v_word v_key v_number v_faultKind v_faultPlace v_keys v_tape)) [0, 1, 2] rfl
    have hDc := (mp_D_of (w1 := (k_X8_closes T a_ a_tape a_keys v_filled v_end v_at v_kind v_place v_word v_key v_number v_faultKind v_faultPlace v_keys v_tape)) hD rfl).sub (ws' := (k_X8_forward T a_ a_tape a_keys v_filled v_end v_at v_kind v_place v_word v_key v_number v_faultKind v_faultPlace v_keys v_tape)) [0, 1, 2] rfl rfl
    refine mp_callv (isC := [0, 1, 2]) (wc := (k_X8_forward T a_ a_tape a_keys v_filled v_end v_at v_kind v_place v_word v_key v_number v_faultKind v_faultPlace v_keys v_tape)) (w1 := (k_X8_forward T a_ a_tape a_keys v_filled v_end u4 u5 u6 u7 u8 u9 v_faultKind v_faultPlace v_keys v_tape)) hP (mp_D_of hD rfl) hS hA rfl rfl (mp_runV (As := []) (rest := []) X me_X8_forward lk_X8_71 (c_X8_forward l D T fu a_ a_tape a_keys v_filled v_faultKind v_faultPlace v_end v_at v_kind v_place v_word v_key v_number v_keys v_tape u4 u5 u6 u7 u8 u9 c10) rfl rfl ⟨(Nat.le_of_ble_eq_true rfl), (Nat.le_of_ble_eq_true rfl)⟩ hK hPc hDc rfl rfl rfl rfl hl.1 rfl (Nat.le_of_ble_eq_true rfl) dX8_closes_14 ⟨Nat.zero_le _, Nat.zero_le _⟩) (fun H locs hP _ hS => ?_)
    replace hP : va_P D mp_cl (k_X8_closes T a_ a_tape a_keys v_filled v_end u4 u5 u6 u7 u8 u9 v_faultKind v_faultPlace v_keys v_tape) H := hP
    refine lv_iconst (v := (nI 1)) hx hb dX8_closes_17 (by decide) ?_
    cases hf
    exact mp_retz X hP hS rfl (Or.inr rfl) dX8_closes_18
  · replace hf := if_t hf h3
    refine lv_aload_n hx hb dX8_closes_7 rfl (lv_at hl 0 rfl) ?_
    refine lv_iconst (v := (nI 2)) hx hb dX8_closes_8 (by decide) ?_
    obtain ⟨⟨r11, u12, u13⟩, c14, hf⟩ := bd_of hf
    dsimp only at hf
    have hPc := hP.sub (ws' := (k_X8_fail T a_ a_tape a_keys v_filled v_end v_at v_kind v_place v_word v_key v_number v_faultKind v_faultPlace)) [0] rfl
    have hDc := (mp_D_of (w1 := (k_X8_closes T a_ a_tape a_keys v_filled v_end v_at v_kind v_place v_word v_key v_number v_faultKind v_faultPlace v_keys v_tape)) hD rfl).sub (ws' := (k_X8_fail T a_ a_tape a_keys v_filled v_end v_at v_kind v_place v_word v_key v_number v_faultKind v_faultPlace)) [0] rfl rfl
    refine mp_calli (isC := [0]) (wc := (k_X8_fail T a_ a_tape a_keys v_filled v_end v_at v_kind v_place v_word v_key v_number v_faultKind v_faultPlace)) (w1 := (k_X8_fail T a_ a_tape a_keys v_filled v_end v_at v_kind v_place v_word v_key v_number u12 u13)) hP (mp_D_of hD rfl) hS hA rfl rfl (mp_runV (As := [.int (nI 2)]) (rest := []) X me_X8_fail lk_X8_98 (c_X8_fail l D T a_ a_tape a_keys (nI 2) v_filled v_end v_at v_word v_key v_number v_kind v_place v_faultKind v_faultPlace r11 u12 u13 c14) rfl rfl ⟨(Nat.le_of_ble_eq_true rfl), (Nat.le_of_ble_eq_true rfl)⟩ hK hPc hDc rfl rfl rfl rfl hl.1 rfl (Nat.le_of_ble_eq_true rfl) dX8_closes_9 ⟨Nat.zero_le _, Nat.zero_le _⟩) (fun H locs hP _ hS => ?_)
    replace hP : va_P D mp_cl (k_X8_closes T a_ a_tape a_keys v_filled v_end v_at v_kind v_place v_word v_key v_number u12 u13 v_keys v_tape) H := hP
    obtain ⟨h15, hf⟩ := gd_of hf
    cases hf
    exact mp_retz X hP hS rfl h15 dX8_closes_12


def k_X2_takeCell (T : Nat → ClassId) (a_p1 a_p1_tape a_p1_keys a_p2 a_p2_cellNames a_p2_secretNames a_p2_pageNames a_p2_speed a_p2_letters a_p2_room a_p2_now a_p2_rounds : Nat) (v_p1_filled : Int32) (v_p1_end : Int32) (v_p1_at : Int32) (v_p1_kind : Int32) (v_p1_place : Int32) (v_p1_word : Int64) (v_p1_key : Int32) (v_p1_number : Int32) (v_p1_faultKind : Int32) (v_p1_faultPlace : Int32) (v_p1_keys : (Nat → Int64)) (v_p1_tape : (Nat → Int32)) (v_p2_cells : Int32) (v_p2_secrets : Int32) (v_p2_pages : Int32) (v_p2_blind : Int32) (v_p2_rubs : Int32) (v_p2_cellNames : (Nat → Int64)) (v_p2_pageNames : (Nat → Int64)) (v_p2_secretNames : (Nat → Int64)) (v_p2_speed : (Nat → Int32)) : va_W := [(a_p1, oX8 a_p1_tape v_p1_filled v_p1_end v_p1_at v_p1_kind v_p1_place v_p1_word v_p1_key v_p1_number v_p1_faultKind v_p1_faultPlace a_p1_keys), (a_p1_keys, mp_aJ T 24 v_p1_keys), (a_p1_tape, mp_aB T 900 v_p1_tape), (a_p2, oX1 v_p2_cells v_p2_secrets v_p2_pages a_p2_cellNames a_p2_secretNames a_p2_pageNames a_p2_speed v_p2_blind v_p2_rubs a_p2_letters a_p2_room a_p2_now a_p2_rounds), (a_p2_cellNames, mp_aJ T 8 v_p2_cellNames), (a_p2_pageNames, mp_aJ T 6 v_p2_pageNames), (a_p2_secretNames, mp_aJ T 6 v_p2_secretNames), (a_p2_speed, mp_aI T 8 v_p2_speed)]
set_option maxHeartbeats 4000000 in
set_option maxRecDepth 100000 in
theorem w_X2_takeCell_55 {p : Program} {l : Launch} {e : Env} {s : State} {m : MethodId} {args : Array Value} {below : List Frame} {meth : Method} {c : Code} {D : va_G} {T : Nat → ClassId} {A : Nat → Prop} (X : mp_X p s m meth c args RX2 "takeCell" cX2_takeCell 7 (some .boolean)) (hK : va_K D mp_cl (mp_ty T) s) (hA : ∀ q, s.heap.size ≤ q → A q) (fu : Nat) (a_p1 a_p1_tape a_p1_keys a_p2 a_p2_cellNames a_p2_secretNames a_p2_pageNames a_p2_speed a_p2_letters a_p2_room a_p2_now a_p2_rounds : Nat) (v_p1_filled : Int32) (v_p1_end : Int32) (v_p1_keys : (Nat → Int64)) (v_p1_tape : (Nat → Int32)) (v_p2_secrets : Int32) (v_p2_pages : Int32) (v_p2_pageNames : (Nat → Int64)) (v_p2_secretNames : (Nat → Int64)) (r_ : Int32) (o_p1_at : Int32) (o_p1_kind : Int32) (o_p1_place : Int32) (o_p1_word : Int64) (o_p1_key : Int32) (o_p1_number : Int32) (o_p1_faultKind : Int32) (o_p1_faultPlace : Int32) (o_p2_cells : Int32) (o_p2_blind : Int32) (o_p2_rubs : Int32) (o_p2_cellNames : (Nat → Int64)) (o_p2_speed : (Nat → Int32)) :
    ∀  (z2 : Int64) (w0 : Int32) (v_p1_at : Int32) (v_p1_kind : Int32) (v_p1_place : Int32) (v_p1_word : Int64) (v_p1_key : Int32) (v_p1_number : Int32) (v_p1_faultKind : Int32) (v_p1_faultPlace : Int32) (v_p2_cells : Int32) (v_p2_blind : Int32) (v_p2_rubs : Int32) (v_p2_cellNames : (Nat → Int64)) (v_p2_speed : (Nat → Int32)), f_X2_takeCell_55 fu v_p1_end v_p1_keys v_p1_tape v_p2_secrets v_p2_pages v_p2_pageNames v_p2_secretNames  z2 w0 v_p1_at v_p1_kind v_p1_place v_p1_word v_p1_key v_p1_number v_p1_faultKind v_p1_faultPlace v_p2_cells v_p2_blind v_p2_rubs v_p2_cellNames v_p2_speed = some (r_, o_p1_at, o_p1_kind, o_p1_place, o_p1_word, o_p1_key, o_p1_number, o_p1_faultKind, o_p1_faultPlace, o_p2_cells, o_p2_blind, o_p2_rubs, o_p2_cellNames, o_p2_speed) → ∀ (H : Heap) (locs : List Loc) (ls : Array Slot), va_P D mp_cl (k_X2_takeCell T a_p1 a_p1_tape a_p1_keys a_p2 a_p2_cellNames a_p2_secretNames a_p2_pageNames a_p2_speed a_p2_letters a_p2_room a_p2_now a_p2_rounds v_p1_filled v_p1_end v_p1_at v_p1_kind v_p1_place v_p1_word v_p1_key v_p1_number v_p1_faultKind v_p1_faultPlace v_p1_keys v_p1_tape v_p2_cells v_p2_secrets v_p2_pages v_p2_blind v_p2_rubs v_p2_cellNames v_p2_pageNames v_p2_secretNames v_p2_speed) H → va_D A (k_X2_takeCell T a_p1 a_p1_tape a_p1_keys a_p2 a_p2_cellNames a_p2_secretNames a_p2_pageNames a_p2_speed a_p2_letters a_p2_room a_p2_now a_p2_rounds v_p1_filled v_p1_end v_p1_at v_p1_kind v_p1_place v_p1_word v_p1_key v_p1_number v_p1_faultKind v_p1_faultPlace v_p1_keys v_p1_tape v_p2_cells v_p2_secrets v_p2_pages v_p2_blind v_p2_rubs v_p2_cellNames v_p2_pageNames v_p2_secretNames v_p2_speed) → va_S A s.heap H locs → lv_has ls 7 [(0, .ref a_p1), (1, .ref a_p2), (2, .long z2)] → W p l e ({ frames := 4, cells := 0, slots := 0, locals := 88 }) s m args below meth c H locs 0 0 (MQ below ((mp_Qi D r_ (k_X2_takeCell T a_p1 a_p1_tape a_p1_keys a_p2 a_p2_cellNames a_p2_secretNames a_p2_pageNames a_p2_speed a_p2_letters a_p2_room a_p2_now a_p2_rounds v_p1_filled v_p1_end o_p1_at o_p1_kind o_p1_place o_p1_word o_p1_key o_p1_number o_p1_faultKind o_p1_faultPlace v_p1_keys v_p1_tape o_p2_cells v_p2_secrets v_p2_pages o_p2_blind o_p2_rubs o_p2_cellNames v_p2_pageNames v_p2_secretNames o_p2_speed)) A) args s 0 0 A) (F0 m 55 ls [.int w0]) := by
  have hx := X.1
  have hb := X.2.1
  have hml := X.2.2.1
  have hown := X.2.2.2.2.1
  have hts := X.2.2.2.2.2.1
  intro z2 w0 v_p1_at v_p1_kind v_p1_place v_p1_word v_p1_key v_p1_number v_p1_faultKind v_p1_faultPlace v_p2_cells v_p2_blind v_p2_rubs v_p2_cellNames v_p2_speed hf H locs ls hP hD hS hl
  replace hf : (if w0 = (-1 : Int32) then some ((nI 0), v_p1_at, v_p1_kind, v_p1_place, v_p1_word, v_p1_key, v_p1_number, v_p1_faultKind, v_p1_faultPlace, v_p2_cells, v_p2_blind, v_p2_rubs, v_p2_cellNames, v_p2_speed) else bd_ (f_X8_skips fu (nI 2) v_p1_end v_p1_at v_p1_kind v_p1_place v_p1_word v_p1_key v_p1_number v_p1_keys v_p1_tape) (fun (z : Int32 × Int32 × Int32 × Int32 × Int64 × Int32 × Int32) => match z with | (r2, u3, u4, u5, u6, u7, u8) => bd_ (f_X8_skips fu (nI 3) v_p1_end u3 u4 u5 u6 u7 u8 v_p1_keys v_p1_tape) (fun (z : Int32 × Int32 × Int32 × Int32 × Int64 × Int32 × Int32) => match z with | (r10, u11, u12, u13, u14, u15, u16) => bd_ (f_X8_closes fu v_p1_end u11 u12 u13 u14 u15 u16 v_p1_faultKind v_p1_faultPlace v_p1_keys v_p1_tape) (fun (z : Int32 × Int32 × Int32 × Int32 × Int64 × Int32 × Int32 × Int32 × Int32) => match z with | (r18, u19, u20, u21, u22, u23, u24, u25, u26) => (if r18 = 0 then some ((nI 0), u19, u20, u21, u22, u23, u24, u25, u26, v_p2_cells, v_p2_blind, v_p2_rubs, v_p2_cellNames, v_p2_speed) else bd_ (f_X1_addCell z2 w0 r2 r10 v_p2_cells v_p2_blind v_p2_rubs v_p2_cellNames v_p2_speed) (fun (z : Int32 × Int32 × Int32 × (Nat → Int64) × (Nat → Int32)) => match z with | (u29, u30, u31, u32, u33) => some ((nI 1), u19, u20, u21, u22, u23, u24, u25, u26, u29, u30, u31, u32, u33))))))) = some (r_, o_p1_at, o_p1_kind, o_p1_place, o_p1_word, o_p1_key, o_p1_number, o_p1_faultKind, o_p1_faultPlace, o_p2_cells, o_p2_blind, o_p2_rubs, o_p2_cellNames, o_p2_speed) := hf
  refine lv_istore (lv' := [(4, .int w0), (0, .ref a_p1), (1, .ref a_p2), (2, .long z2)]) hx hb dX2_takeCell_55 hl (by decide) rfl (fun ls hl => ?_)
  refine lv_iload hx hb dX2_takeCell_57 (lv_at hl 0 rfl) ?_
  refine lv_iconst (v := (-1 : Int32)) hx hb dX2_takeCell_59 (by decide) ?_
  refine lv_icmp_ne (tgt := 65) hx hb dX2_takeCell_60 (by decide) (fun h1 => ?_) (fun h1 => ?_)
  · replace hf := if_f hf h1
    refine lv_aload_n hx hb dX2_takeCell_65 rfl (lv_at hl 1 rfl) ?_
    refine lv_iconst (v := (nI 2)) hx hb dX2_takeCell_66 (by decide) ?_
    obtain ⟨⟨r2, u3, u4, u5, u6, u7, u8⟩, c9, hf⟩ := bd_of hf
    dsimp only at hf
    have hPc := hP.sub (ws' := (k_X8_skips T a_p1 a_p1_tape a_p1_keys v_p1_filled v_p1_end v_p1_at v_p1_kind v_p1_place v_p1_word v_p1_key v_p1_number v_p1_faultKind v_p1_faultPlace v_p1_keys v_p1_tape)) [0, 1, 2] rfl
    have hDc := (mp_D_of (w1 := (k_X2_takeCell T a_p1 a_p1_tape a_p1_keys a_p2 a_p2_cellNames a_p2_secretNames a_p2_pageNames a_p2_speed a_p2_letters a_p2_room a_p2_now a_p2_rounds v_p1_filled v_p1_end v_p1_at v_p1_kind v_p1_place v_p1_word v_p1_key v_p1_number v_p1_faultKind v_p1_faultPlace v_p1_keys v_p1_tape v_p2_cells v_p2_secrets v_p2_pages v_p2_blind v_p2_rubs v_p2_cellNames v_p2_pageNames v_p2_secretNames v_p2_speed)) hD rfl).sub (ws' := (k_X8_skips T a_p1 a_p1_tape a_p1_keys v_p1_filled v_p1_end v_p1_at v_p1_kind v_p1_place v_p1_word v_p1_key v_p1_number v_p1_faultKind v_p1_faultPlace v_p1_keys v_p1_tape)) [0, 1, 2] rfl rfl
    refine mp_calli (isC := [0, 1, 2]) (wc := (k_X8_skips T a_p1 a_p1_tape a_p1_keys v_p1_filled v_p1_end v_p1_at v_p1_kind v_p1_place v_p1_word v_p1_key v_p1_number v_p1_faultKind v_p1_faultPlace v_p1_keys v_p1_tape)) (w1 := (k_X8_skips T a_p1 a_p1_tape a_p1_keys v_p1_filled v_p1_end u3 u4 u5 u6 u7 u8 v_p1_faultKind v_p1_faultPlace v_p1_keys v_p1_tape)) hP (mp_D_of hD rfl) hS hA rfl rfl (mp_runV (As := [.int (nI 2)]) (rest := []) X me_X8_skips lk_X2_82 (c_X8_skips l D T fu a_p1 a_p1_tape a_p1_keys (nI 2) v_p1_filled v_p1_faultKind v_p1_faultPlace v_p1_end v_p1_at v_p1_kind v_p1_place v_p1_word v_p1_key v_p1_number v_p1_keys v_p1_tape r2 u3 u4 u5 u6 u7 u8 c9) rfl rfl ⟨(Nat.le_of_ble_eq_true rfl), (Nat.le_of_ble_eq_true rfl)⟩ hK hPc hDc rfl rfl rfl rfl hl.1 rfl (Nat.le_of_ble_eq_true rfl) dX2_takeCell_67 ⟨Nat.zero_le _, Nat.zero_le _⟩) (fun H locs hP _ hS => ?_)
    replace hP : va_P D mp_cl (k_X2_takeCell T a_p1 a_p1_tape a_p1_keys a_p2 a_p2_cellNames a_p2_secretNames a_p2_pageNames a_p2_speed a_p2_letters a_p2_room a_p2_now a_p2_rounds v_p1_filled v_p1_end u3 u4 u5 u6 u7 u8 v_p1_faultKind v_p1_faultPlace v_p1_keys v_p1_tape v_p2_cells v_p2_secrets v_p2_pages v_p2_blind v_p2_rubs v_p2_cellNames v_p2_pageNames v_p2_secretNames v_p2_speed) H := hP
    refine lv_istore (lv' := [(5, .int r2), (4, .int w0), (0, .ref a_p1), (1, .ref a_p2), (2, .long z2)]) hx hb dX2_takeCell_70 hl (by decide) rfl (fun ls hl => ?_)
    refine lv_aload_n hx hb dX2_takeCell_72 rfl (lv_at hl 2 rfl) ?_
    refine lv_iconst (v := (nI 3)) hx hb dX2_takeCell_73 (by decide) ?_
    obtain ⟨⟨r10, u11, u12, u13, u14, u15, u16⟩, c17, hf⟩ := bd_of hf
    dsimp only at hf
    have hPc := hP.sub (ws' := (k_X8_skips T a_p1 a_p1_tape a_p1_keys v_p1_filled v_p1_end u3 u4 u5 u6 u7 u8 v_p1_faultKind v_p1_faultPlace v_p1_keys v_p1_tape)) [0, 1, 2] rfl
    have hDc := (mp_D_of (w1 := (k_X2_takeCell T a_p1 a_p1_tape a_p1_keys a_p2 a_p2_cellNames a_p2_secretNames a_p2_pageNames a_p2_speed a_p2_letters a_p2_room a_p2_now a_p2_rounds v_p1_filled v_p1_end u3 u4 u5 u6 u7 u8 v_p1_faultKind v_p1_faultPlace v_p1_keys v_p1_tape v_p2_cells v_p2_secrets v_p2_pages v_p2_blind v_p2_rubs v_p2_cellNames v_p2_pageNames v_p2_secretNames v_p2_speed)) hD rfl).sub (ws' := (k_X8_skips T a_p1 a_p1_tape a_p1_keys v_p1_filled v_p1_end u3 u4 u5 u6 u7 u8 v_p1_faultKind v_p1_faultPlace v_p1_keys v_p1_tape)) [0, 1, 2] rfl rfl
    refine mp_calli (isC := [0, 1, 2]) (wc := (k_X8_skips T a_p1 a_p1_tape a_p1_keys v_p1_filled v_p1_end u3 u4 u5 u6 u7 u8 v_p1_faultKind v_p1_faultPlace v_p1_keys v_p1_tape)) (w1 := (k_X8_skips T a_p1 a_p1_tape a_p1_keys v_p1_filled v_p1_end u11 u12 u13 u14 u15 u16 v_p1_faultKind v_p1_faultPlace v_p1_keys v_p1_tape)) hP (mp_D_of hD rfl) hS hA rfl rfl (mp_runV (As := [.int (nI 3)]) (rest := []) X me_X8_skips lk_X2_82 (c_X8_skips l D T fu a_p1 a_p1_tape a_p1_keys (nI 3) v_p1_filled v_p1_faultKind v_p1_faultPlace v_p1_end u3 u4 u5 u6 u7 u8 v_p1_keys v_p1_tape r10 u11 u12 u13 u14 u15 u16 c17) rfl rfl ⟨(Nat.le_of_ble_eq_true rfl), (Nat.le_of_ble_eq_true rfl)⟩ hK hPc hDc rfl rfl rfl rfl hl.1 rfl (Nat.le_of_ble_eq_true rfl) dX2_takeCell_74 ⟨Nat.zero_le _, Nat.zero_le _⟩) (fun H locs hP _ hS => ?_)
    replace hP : va_P D mp_cl (k_X2_takeCell T a_p1 a_p1_tape a_p1_keys a_p2 a_p2_cellNames a_p2_secretNames a_p2_pageNames a_p2_speed a_p2_letters a_p2_room a_p2_now a_p2_rounds v_p1_filled v_p1_end u11 u12 u13 u14 u15 u16 v_p1_faultKind v_p1_faultPlace v_p1_keys v_p1_tape v_p2_cells v_p2_secrets v_p2_pages v_p2_blind v_p2_rubs v_p2_cellNames v_p2_pageNames v_p2_secretNames v_p2_speed) H := hP
    refine lv_istore (lv' := [(6, .int r10), (5, .int r2), (4, .int w0), (0, .ref a_p1), (1, .ref a_p2), (2, .long z2)]) hx hb dX2_takeCell_77 hl (by decide) rfl (fun ls hl => ?_)
    refine lv_aload_n hx hb dX2_takeCell_79 rfl (lv_at hl 3 rfl) ?_
    obtain ⟨⟨r18, u19, u20, u21, u22, u23, u24, u25, u26⟩, c27, hf⟩ := bd_of hf
    dsimp only at hf
    have hPc := hP.sub (ws' := (k_X8_closes T a_p1 a_p1_tape a_p1_keys v_p1_filled v_p1_end u11 u12 u13 u14 u15 u16 v_p1_faultKind v_p1_faultPlace v_p1_keys v_p1_tape)) [0, 1, 2] rfl
    have hDc := (mp_D_of (w1 := (k_X2_takeCell T a_p1 a_p1_tape a_p1_keys a_p2 a_p2_cellNames a_p2_secretNames a_p2_pageNames a_p2_speed a_p2_letters a_p2_room a_p2_now a_p2_rounds v_p1_filled v_p1_end u11 u12 u13 u14 u15 u16 v_p1_faultKind v_p1_faultPlace v_p1_keys v_p1_tape v_p2_cells v_p2_secrets v_p2_pages v_p2_blind v_p2_rubs v_p2_cellNames v_p2_pageNames v_p2_secretNames v_p2_speed)) hD rfl).sub (ws' := (k_X8_closes T a_p1 a_p1_tape a_p1_keys v_p1_filled v_p1_end u11 u12 u13 u14 u15 u16 v_p1_faultKind v_p1_faultPlace v_p1_keys v_p1_tape)) [0, 1, 2] rfl rfl
    refine mp_calli (isC := [0, 1, 2]) (wc := (k_X8_closes T a_p1 a_p1_tape a_p1_keys v_p1_filled v_p1_end u11 u12 u13 u14 u15 u16 v_p1_faultKind v_p1_faultPlace v_p1_keys v_p1_tape)) (w1 := (k_X8_closes T a_p1 a_p1_tape a_p1_keys v_p1_filled v_p1_end u19 u20 u21 u22 u23 u24 u25 u26 v_p1_keys v_p1_tape)) hP (mp_D_of hD rfl) hS hA rfl rfl (mp_runV (As := []) (rest := []) X me_X8_closes lk_X2_89 (c_X8_closes l D T fu a_p1 a_p1_tape a_p1_keys v_p1_filled v_p1_end u11 u12 u13 u14 u15 u16 v_p1_faultKind v_p1_faultPlace v_p1_keys v_p1_tape r18 u19 u20 u21 u22 u23 u24 u25 u26 c27) rfl rfl ⟨(Nat.le_of_ble_eq_true rfl), (Nat.le_of_ble_eq_true rfl)⟩ hK hPc hDc rfl rfl rfl rfl hl.1 rfl (Nat.le_of_ble_eq_true rfl) dX2_takeCell_80 ⟨Nat.zero_le _, Nat.zero_le _⟩) (fun H locs hP _ hS => ?_)
    replace hP : va_P D mp_cl (k_X2_takeCell T a_p1 a_p1_tape a_p1_keys a_p2 a_p2_cellNames a_p2_secretNames a_p2_pageNames a_p2_speed a_p2_letters a_p2_room a_p2_now a_p2_rounds v_p1_filled v_p1_end u19 u20 u21 u22 u23 u24 u25 u26 v_p1_keys v_p1_tape v_p2_cells v_p2_secrets v_p2_pages v_p2_blind v_p2_rubs v_p2_cellNames v_p2_pageNames v_p2_secretNames v_p2_speed) H := hP
    refine lv_if_ne (tgt := 88) hx hb dX2_takeCell_83 (by decide) (fun h28 => ?_) (fun h28 => ?_)
    · replace hf := if_f hf h28
      refine lv_aload_n hx hb dX2_takeCell_88 rfl (lv_at hl 4 rfl) ?_
      refine lv_lload_n hx hb dX2_takeCell_89 rfl (lv_at hl 5 rfl) ?_
      refine lv_iload hx hb dX2_takeCell_90 (lv_at hl 2 rfl) ?_
      refine lv_iload hx hb dX2_takeCell_92 (lv_at hl 1 rfl) ?_
      refine lv_iload hx hb dX2_takeCell_94 (lv_at hl 0 rfl) ?_
      obtain ⟨⟨u29, u30, u31, u32, u33⟩, c34, hf⟩ := bd_of hf
      dsimp only at hf
      have hPc := hP.sub (ws' := (k_X1_addCell T a_p2 a_p2_cellNames a_p2_secretNames a_p2_pageNames a_p2_speed a_p2_letters a_p2_room a_p2_now a_p2_rounds v_p2_cells v_p2_secrets v_p2_pages v_p2_blind v_p2_rubs v_p2_cellNames v_p2_speed)) [3, 4, 7] rfl
      have hDc := (mp_D_of (w1 := (k_X2_takeCell T a_p1 a_p1_tape a_p1_keys a_p2 a_p2_cellNames a_p2_secretNames a_p2_pageNames a_p2_speed a_p2_letters a_p2_room a_p2_now a_p2_rounds v_p1_filled v_p1_end u19 u20 u21 u22 u23 u24 u25 u26 v_p1_keys v_p1_tape v_p2_cells v_p2_secrets v_p2_pages v_p2_blind v_p2_rubs v_p2_cellNames v_p2_pageNames v_p2_secretNames v_p2_speed)) hD rfl).sub (ws' := (k_X1_addCell T a_p2 a_p2_cellNames a_p2_secretNames a_p2_pageNames a_p2_speed a_p2_letters a_p2_room a_p2_now a_p2_rounds v_p2_cells v_p2_secrets v_p2_pages v_p2_blind v_p2_rubs v_p2_cellNames v_p2_speed)) [3, 4, 7] rfl rfl
      refine mp_callv (isC := [3, 4, 7]) (wc := (k_X1_addCell T a_p2 a_p2_cellNames a_p2_secretNames a_p2_pageNames a_p2_speed a_p2_letters a_p2_room a_p2_now a_p2_rounds v_p2_cells v_p2_secrets v_p2_pages v_p2_blind v_p2_rubs v_p2_cellNames v_p2_speed)) (w1 := (k_X1_addCell T a_p2 a_p2_cellNames a_p2_secretNames a_p2_pageNames a_p2_speed a_p2_letters a_p2_room a_p2_now a_p2_rounds u29 v_p2_secrets v_p2_pages u30 u31 u32 u33)) hP (mp_D_of hD rfl) hS hA rfl rfl (mp_runV (As := [.long z2, .int w0, .int r2, .int r10]) (rest := []) X me_X1_addCell lk_X2_93 (c_X1_addCell l D T a_p2 a_p2_cellNames a_p2_secretNames a_p2_pageNames a_p2_speed a_p2_letters a_p2_room a_p2_now a_p2_rounds z2 w0 r2 r10 v_p2_secrets v_p2_pages v_p2_cells v_p2_blind v_p2_rubs v_p2_cellNames v_p2_speed u29 u30 u31 u32 u33 c34) rfl rfl ⟨(Nat.le_of_ble_eq_true rfl), (Nat.le_of_ble_eq_true rfl)⟩ hK hPc hDc rfl rfl rfl rfl hl.1 rfl (Nat.le_of_ble_eq_true rfl) dX2_takeCell_96 ⟨Nat.zero_le _, Nat.zero_le _⟩) (fun H locs hP _ hS => ?_)
      replace hP : va_P D mp_cl (k_X2_takeCell T a_p1 a_p1_tape a_p1_keys a_p2 a_p2_cellNames a_p2_secretNames a_p2_pageNames a_p2_speed a_p2_letters a_p2_room a_p2_now a_p2_rounds v_p1_filled v_p1_end u19 u20 u21 u22 u23 u24 u25 u26 v_p1_keys v_p1_tape u29 v_p2_secrets v_p2_pages u30 u31 u32 v_p2_pageNames v_p2_secretNames u33) H := hP
      refine lv_iconst (v := (nI 1)) hx hb dX2_takeCell_99 (by decide) ?_
      cases hf
      exact mp_retz X hP hS rfl (Or.inr rfl) dX2_takeCell_100
    · replace hf := if_t hf h28
      refine lv_iconst (v := (nI 0)) hx hb dX2_takeCell_86 (by decide) ?_
      cases hf
      exact mp_retz X hP hS rfl (Or.inl rfl) dX2_takeCell_87
  · replace hf := if_t hf h1
    refine lv_iconst (v := (nI 0)) hx hb dX2_takeCell_63 (by decide) ?_
    cases hf
    exact mp_retz X hP hS rfl (Or.inl rfl) dX2_takeCell_64

set_option maxHeartbeats 4000000 in
set_option maxRecDepth 100000 in
theorem c_X2_takeCell (l : Launch) (D : va_G) (T : Nat → ClassId) (fu : Nat) (a_p1 a_p1_tape a_p1_keys a_p2 a_p2_cellNames a_p2_secretNames a_p2_pageNames a_p2_speed a_p2_letters a_p2_room a_p2_now a_p2_rounds : Nat) (v_p1_filled : Int32) (v_p1_end : Int32) (v_p1_at : Int32) (v_p1_kind : Int32) (v_p1_place : Int32) (v_p1_word : Int64) (v_p1_key : Int32) (v_p1_number : Int32) (v_p1_faultKind : Int32) (v_p1_faultPlace : Int32) (v_p1_keys : (Nat → Int64)) (v_p1_tape : (Nat → Int32)) (v_p2_cells : Int32) (v_p2_secrets : Int32) (v_p2_pages : Int32) (v_p2_blind : Int32) (v_p2_rubs : Int32) (v_p2_cellNames : (Nat → Int64)) (v_p2_pageNames : (Nat → Int64)) (v_p2_secretNames : (Nat → Int64)) (v_p2_speed : (Nat → Int32)) (r_ : Int32) (o_p1_at : Int32) (o_p1_kind : Int32) (o_p1_place : Int32) (o_p1_word : Int64) (o_p1_key : Int32) (o_p1_number : Int32) (o_p1_faultKind : Int32) (o_p1_faultPlace : Int32) (o_p2_cells : Int32) (o_p2_blind : Int32) (o_p2_rubs : Int32) (o_p2_cellNames : (Nat → Int64)) (o_p2_speed : (Nat → Int32)) (hf : f_X2_takeCell fu v_p1_end v_p1_at v_p1_kind v_p1_place v_p1_word v_p1_key v_p1_number v_p1_faultKind v_p1_faultPlace v_p1_keys v_p1_tape v_p2_cells v_p2_secrets v_p2_pages v_p2_blind v_p2_rubs v_p2_cellNames v_p2_pageNames v_p2_secretNames v_p2_speed = some (r_, o_p1_at, o_p1_kind, o_p1_place, o_p1_word, o_p1_key, o_p1_number, o_p1_faultKind, o_p1_faultPlace, o_p2_cells, o_p2_blind, o_p2_rubs, o_p2_cellNames, o_p2_speed)) :
    mp_M l D T yX2_takeCell cX2_takeCell 7 (some .boolean) ({ frames := 4, cells := 0, slots := 0, locals := 88 }) 0 0 [.ref a_p1, .ref a_p2] (k_X2_takeCell T a_p1 a_p1_tape a_p1_keys a_p2 a_p2_cellNames a_p2_secretNames a_p2_pageNames a_p2_speed a_p2_letters a_p2_room a_p2_now a_p2_rounds v_p1_filled v_p1_end v_p1_at v_p1_kind v_p1_place v_p1_word v_p1_key v_p1_number v_p1_faultKind v_p1_faultPlace v_p1_keys v_p1_tape v_p2_cells v_p2_secrets v_p2_pages v_p2_blind v_p2_rubs v_p2_cellNames v_p2_pageNames v_p2_secretNames v_p2_speed) (mp_Qi D r_ (k_X2_takeCell T a_p1 a_p1_tape a_p1_keys a_p2 a_p2_cellNames a_p2_secretNames a_p2_pageNames a_p2_speed a_p2_letters a_p2_room a_p2_now a_p2_rounds v_p1_filled v_p1_end o_p1_at o_p1_kind o_p1_place o_p1_word o_p1_key o_p1_number o_p1_faultKind o_p1_faultPlace v_p1_keys v_p1_tape o_p2_cells v_p2_secrets v_p2_pages o_p2_blind o_p2_rubs o_p2_cellNames v_p2_pageNames v_p2_secretNames o_p2_speed)) := by
  refine mp_of (by decide) (Nat.le_of_ble_eq_true rfl) rfl ?_
  intro p e s m args below meth c A ls X hK hP hD hS hA hl
  replace X : mp_X p s m meth c args RX2 "takeCell" cX2_takeCell 7 (some .boolean) := X
  have hx := X.1
  have hb := X.2.1
  have hml := X.2.2.1
  have hown := X.2.2.2.2.1
  have hts := X.2.2.2.2.2.1
  replace hl : lv_has ls 7 [(0, .ref a_p1), (1, .ref a_p2)] := hl
  replace hf : (if v_p2_cells < (nI 8) then bd_ (f_X8_forward fu v_p1_end v_p1_at v_p1_kind v_p1_place v_p1_word v_p1_key v_p1_number v_p1_keys v_p1_tape) (fun (z : Int32 × Int32 × Int32 × Int64 × Int32 × Int32) => match z with | (u2, u3, u4, u5, u6, u7) => bd_ (f_X2_newName fu v_p1_end u2 u3 u4 u5 u6 u7 v_p1_faultKind v_p1_faultPlace v_p1_keys v_p1_tape v_p2_cells v_p2_secrets v_p2_pages v_p2_cellNames v_p2_pageNames v_p2_secretNames) (fun (z : Int64 × Int32 × Int32 × Int32 × Int64 × Int32 × Int32 × Int32 × Int32) => match z with | (r9, u10, u11, u12, u13, u14, u15, u16, u17) => (if (lg_cmp r9 (-1 : Int64)) = 0 then some ((nI 0), u10, u11, u12, u13, u14, u15, u16, u17, v_p2_cells, v_p2_blind, v_p2_rubs, v_p2_cellNames, v_p2_speed) else bd_ (f_X8_skips fu (nI 1) v_p1_end u10 u11 u12 u13 u14 u15 v_p1_keys v_p1_tape) (fun (z : Int32 × Int32 × Int32 × Int32 × Int64 × Int32 × Int32) => match z with | (r20, u21, u22, u23, u24, u25, u26) => (if r20 = 0 then f_X2_takeCell_55 fu v_p1_end v_p1_keys v_p1_tape v_p2_secrets v_p2_pages v_p2_pageNames v_p2_secretNames  r9 (nI 5) u21 u22 u23 u24 u25 u26 u16 u17 v_p2_cells v_p2_blind v_p2_rubs v_p2_cellNames v_p2_speed else bd_ (f_X8_numberWithin fu (nI 0) (nI 20) v_p1_end u21 u22 u23 u24 u25 u26 u16 u17 v_p1_keys v_p1_tape) (fun (z : Int32 × Int32 × Int32 × Int32 × Int64 × Int32 × Int32 × Int32 × Int32) => match z with | (r29, u30, u31, u32, u33, u34, u35, u36, u37) => f_X2_takeCell_55 fu v_p1_end v_p1_keys v_p1_tape v_p2_secrets v_p2_pages v_p2_pageNames v_p2_secretNames  r9 r29 u30 u31 u32 u33 u34 u35 u36 u37 v_p2_cells v_p2_blind v_p2_rubs v_p2_cellNames v_p2_speed)))))) else bd_ (f_X8_fail (nI 6) v_p1_kind v_p1_place v_p1_faultKind v_p1_faultPlace) (fun (z : Int32 × Int32 × Int32) => match z with | (r39, u40, u41) => gd_ (r39 = 0 ∨ r39 = 1) (some (r39, v_p1_at, v_p1_kind, v_p1_place, v_p1_word, v_p1_key, v_p1_number, u40, u41, v_p2_cells, v_p2_blind, v_p2_rubs, v_p2_cellNames, v_p2_speed)))) = some (r_, o_p1_at, o_p1_kind, o_p1_place, o_p1_word, o_p1_key, o_p1_number, o_p1_faultKind, o_p1_faultPlace, o_p2_cells, o_p2_blind, o_p2_rubs, o_p2_cellNames, o_p2_speed) := hf
  refine lv_aload_n hx hb dX2_takeCell_0 rfl (lv_at hl 1 rfl) ?_
  refine mp_get X fl_X2_56 hK hP 3 rfl rfl dX2_takeCell_1 ?_
  refine lv_bipush (v := (nI 8)) hx hb dX2_takeCell_4 (by decide) ?_
  refine lv_icmp_lt (tgt := 16) hx hb dX2_takeCell_6 (by decide) (fun h1 => ?_) (fun h1 => ?_)
  · replace hf := if_t hf h1
    refine lv_aload_n hx hb dX2_takeCell_16 rfl (lv_at hl 0 rfl) ?_
    obtain ⟨⟨u2, u3, u4, u5, u6, u7⟩, c8, hf⟩ := bd_of hf
    dsimp only at hf
    have hPc := hP.sub (ws' := (k_X8_forward T a_p1 a_p1_tape a_p1_keys v_p1_filled v_p1_end v_p1_at v_p1_kind v_p1_place v_p1_word v_p1_key v_p1_number v_p1_faultKind v_p1_faultPlace v_p1_keys v_p1_tape)) [0, 1, 2] rfl
    have hDc := (mp_D_of (w1 := (k_X2_takeCell T a_p1 a_p1_tape a_p1_keys a_p2 a_p2_cellNames a_p2_secretNames a_p2_pageNames a_p2_speed a_p2_letters a_p2_room a_p2_now a_p2_rounds v_p1_filled v_p1_end v_p1_at v_p1_kind v_p1_place v_p1_word v_p1_key v_p1_number v_p1_faultKind v_p1_faultPlace v_p1_keys v_p1_tape v_p2_cells v_p2_secrets v_p2_pages v_p2_blind v_p2_rubs v_p2_cellNames v_p2_pageNames v_p2_secretNames v_p2_speed)) hD rfl).sub (ws' := (k_X8_forward T a_p1 a_p1_tape a_p1_keys v_p1_filled v_p1_end v_p1_at v_p1_kind v_p1_place v_p1_word v_p1_key v_p1_number v_p1_faultKind v_p1_faultPlace v_p1_keys v_p1_tape)) [0, 1, 2] rfl rfl
    refine mp_callv (isC := [0, 1, 2]) (wc := (k_X8_forward T a_p1 a_p1_tape a_p1_keys v_p1_filled v_p1_end v_p1_at v_p1_kind v_p1_place v_p1_word v_p1_key v_p1_number v_p1_faultKind v_p1_faultPlace v_p1_keys v_p1_tape)) (w1 := (k_X8_forward T a_p1 a_p1_tape a_p1_keys v_p1_filled v_p1_end u2 u3 u4 u5 u6 u7 v_p1_faultKind v_p1_faultPlace v_p1_keys v_p1_tape)) hP (mp_D_of hD rfl) hS hA rfl rfl (mp_runV (As := []) (rest := []) X me_X8_forward lk_X2_75 (c_X8_forward l D T fu a_p1 a_p1_tape a_p1_keys v_p1_filled v_p1_faultKind v_p1_faultPlace v_p1_end v_p1_at v_p1_kind v_p1_place v_p1_word v_p1_key v_p1_number v_p1_keys v_p1_tape u2 u3 u4 u5 u6 u7 c8) rfl rfl ⟨(Nat.le_of_ble_eq_true rfl), (Nat.le_of_ble_eq_true rfl)⟩ hK hPc hDc rfl rfl rfl rfl hl.1 rfl (Nat.le_of_ble_eq_true rfl) dX2_takeCell_17 ⟨Nat.zero_le _, Nat.zero_le _⟩) (fun H locs hP _ hS => ?_)
    replace hP : va_P D mp_cl (k_X2_takeCell T a_p1 a_p1_tape a_p1_keys a_p2 a_p2_cellNames a_p2_secretNames a_p2_pageNames a_p2_speed a_p2_letters a_p2_room a_p2_now a_p2_rounds v_p1_filled v_p1_end u2 u3 u4 u5 u6 u7 v_p1_faultKind v_p1_faultPlace v_p1_keys v_p1_tape v_p2_cells v_p2_secrets v_p2_pages v_p2_blind v_p2_rubs v_p2_cellNames v_p2_pageNames v_p2_secretNames v_p2_speed) H := hP
    refine lv_aload_n hx hb dX2_takeCell_20 rfl (lv_at hl 0 rfl) ?_
    refine lv_aload_n hx hb dX2_takeCell_21 rfl (lv_at hl 1 rfl) ?_
    obtain ⟨⟨r9, u10, u11, u12, u13, u14, u15, u16, u17⟩, c18, hf⟩ := bd_of hf
    dsimp only at hf
    have hPc := hP.sub (ws' := (k_X2_newName T a_p1 a_p1_tape a_p1_keys a_p2 a_p2_cellNames a_p2_secretNames a_p2_pageNames a_p2_speed a_p2_letters a_p2_room a_p2_now a_p2_rounds v_p1_filled v_p1_end u2 u3 u4 u5 u6 u7 v_p1_faultKind v_p1_faultPlace v_p1_keys v_p1_tape v_p2_cells v_p2_secrets v_p2_pages v_p2_blind v_p2_rubs v_p2_cellNames v_p2_pageNames v_p2_secretNames)) [0, 1, 2, 3, 4, 5, 6] rfl
    have hDc := (mp_D_of (w1 := (k_X2_takeCell T a_p1 a_p1_tape a_p1_keys a_p2 a_p2_cellNames a_p2_secretNames a_p2_pageNames a_p2_speed a_p2_letters a_p2_room a_p2_now a_p2_rounds v_p1_filled v_p1_end u2 u3 u4 u5 u6 u7 v_p1_faultKind v_p1_faultPlace v_p1_keys v_p1_tape v_p2_cells v_p2_secrets v_p2_pages v_p2_blind v_p2_rubs v_p2_cellNames v_p2_pageNames v_p2_secretNames v_p2_speed)) hD rfl).sub (ws' := (k_X2_newName T a_p1 a_p1_tape a_p1_keys a_p2 a_p2_cellNames a_p2_secretNames a_p2_pageNames a_p2_speed a_p2_letters a_p2_room a_p2_now a_p2_rounds v_p1_filled v_p1_end u2 u3 u4 u5 u6 u7 v_p1_faultKind v_p1_faultPlace v_p1_keys v_p1_tape v_p2_cells v_p2_secrets v_p2_pages v_p2_blind v_p2_rubs v_p2_cellNames v_p2_pageNames v_p2_secretNames)) [0, 1, 2, 3, 4, 5, 6] rfl rfl
    refine mp_calll2 (isC := [0, 1, 2, 3, 4, 5, 6]) (isO := [7]) (wc := (k_X2_newName T a_p1 a_p1_tape a_p1_keys a_p2 a_p2_cellNames a_p2_secretNames a_p2_pageNames a_p2_speed a_p2_letters a_p2_room a_p2_now a_p2_rounds v_p1_filled v_p1_end u2 u3 u4 u5 u6 u7 v_p1_faultKind v_p1_faultPlace v_p1_keys v_p1_tape v_p2_cells v_p2_secrets v_p2_pages v_p2_blind v_p2_rubs v_p2_cellNames v_p2_pageNames v_p2_secretNames)) (w1 := (k_X2_newName T a_p1 a_p1_tape a_p1_keys a_p2 a_p2_cellNames a_p2_secretNames a_p2_pageNames a_p2_speed a_p2_letters a_p2_room a_p2_now a_p2_rounds v_p1_filled v_p1_end u10 u11 u12 u13 u14 u15 u16 u17 v_p1_keys v_p1_tape v_p2_cells v_p2_secrets v_p2_pages v_p2_blind v_p2_rubs v_p2_cellNames v_p2_pageNames v_p2_secretNames)) (wo := [(a_p2_speed, mp_aI T 8 v_p2_speed)]) (w2 := (k_X2_takeCell T a_p1 a_p1_tape a_p1_keys a_p2 a_p2_cellNames a_p2_secretNames a_p2_pageNames a_p2_speed a_p2_letters a_p2_room a_p2_now a_p2_rounds v_p1_filled v_p1_end u10 u11 u12 u13 u14 u15 u16 u17 v_p1_keys v_p1_tape v_p2_cells v_p2_secrets v_p2_pages v_p2_blind v_p2_rubs v_p2_cellNames v_p2_pageNames v_p2_secretNames v_p2_speed)) (n := 8) hP (mp_D_of hD rfl) hS hA rfl rfl rfl rfl rfl rfl (by decide +kernel) (mp_runS (As := [.ref a_p1, .ref a_p2]) (rest := []) X me_X2_newName lk_X2_78 (c_X2_newName l D T fu a_p1 a_p1_tape a_p1_keys a_p2 a_p2_cellNames a_p2_secretNames a_p2_pageNames a_p2_speed a_p2_letters a_p2_room a_p2_now a_p2_rounds v_p1_filled v_p2_blind v_p2_rubs v_p1_end u2 u3 u4 u5 u6 u7 v_p1_faultKind v_p1_faultPlace v_p1_keys v_p1_tape v_p2_cells v_p2_secrets v_p2_pages v_p2_cellNames v_p2_pageNames v_p2_secretNames r9 u10 u11 u12 u13 u14 u15 u16 u17 c18) rfl rfl ⟨(Nat.le_of_ble_eq_true rfl), (Nat.le_of_ble_eq_true rfl)⟩ hK hPc hDc rfl hl.1 rfl (Nat.le_of_ble_eq_true rfl) dX2_takeCell_22 ⟨Nat.zero_le _, Nat.zero_le _⟩) (fun H locs hP _ hS => ?_)
    refine lv_lstore_n (lv' := [(2, .long r9), (0, .ref a_p1), (1, .ref a_p2)]) hx hb dX2_takeCell_25 rfl hl (by decide) rfl (fun ls hl => ?_)
    refine lv_lload_n hx hb dX2_takeCell_26 rfl (lv_at hl 0 rfl) ?_
    refine lv_ldc2 (v := (-1 : Int64)) hx hb hown (hts _ (cw_X2_69)) dX2_takeCell_27 ?_
    refine W.lcmp hx hb dX2_takeCell_30 ?_
    refine lv_if_ne (tgt := 36) hx hb dX2_takeCell_31 (by decide) (fun h19 => ?_) (fun h19 => ?_)
    · replace hf := if_f hf h19
      refine lv_aload_n hx hb dX2_takeCell_36 rfl (lv_at hl 1 rfl) ?_
      refine lv_iconst (v := (nI 1)) hx hb dX2_takeCell_37 (by decide) ?_
      obtain ⟨⟨r20, u21, u22, u23, u24, u25, u26⟩, c27, hf⟩ := bd_of hf
      dsimp only at hf
      have hPc := hP.sub (ws' := (k_X8_skips T a_p1 a_p1_tape a_p1_keys v_p1_filled v_p1_end u10 u11 u12 u13 u14 u15 u16 u17 v_p1_keys v_p1_tape)) [0, 1, 2] rfl
      have hDc := (mp_D_of (w1 := (k_X2_takeCell T a_p1 a_p1_tape a_p1_keys a_p2 a_p2_cellNames a_p2_secretNames a_p2_pageNames a_p2_speed a_p2_letters a_p2_room a_p2_now a_p2_rounds v_p1_filled v_p1_end u10 u11 u12 u13 u14 u15 u16 u17 v_p1_keys v_p1_tape v_p2_cells v_p2_secrets v_p2_pages v_p2_blind v_p2_rubs v_p2_cellNames v_p2_pageNames v_p2_secretNames v_p2_speed)) hD rfl).sub (ws' := (k_X8_skips T a_p1 a_p1_tape a_p1_keys v_p1_filled v_p1_end u10 u11 u12 u13 u14 u15 u16 u17 v_p1_keys v_p1_tape)) [0, 1, 2] rfl rfl
      refine mp_calli (isC := [0, 1, 2]) (wc := (k_X8_skips T a_p1 a_p1_tape a_p1_keys v_p1_filled v_p1_end u10 u11 u12 u13 u14 u15 u16 u17 v_p1_keys v_p1_tape)) (w1 := (k_X8_skips T a_p1 a_p1_tape a_p1_keys v_p1_filled v_p1_end u21 u22 u23 u24 u25 u26 u16 u17 v_p1_keys v_p1_tape)) hP (mp_D_of hD rfl) hS hA rfl rfl (mp_runV (As := [.int (nI 1)]) (rest := []) X me_X8_skips lk_X2_82 (c_X8_skips l D T fu a_p1 a_p1_tape a_p1_keys (nI 1) v_p1_filled u16 u17 v_p1_end u10 u11 u12 u13 u14 u15 v_p1_keys v_p1_tape r20 u21 u22 u23 u24 u25 u26 c27) rfl rfl ⟨(Nat.le_of_ble_eq_true rfl), (Nat.le_of_ble_eq_true rfl)⟩ hK hPc hDc rfl rfl rfl rfl hl.1 rfl (Nat.le_of_ble_eq_true rfl) dX2_takeCell_38 ⟨Nat.zero_le _, Nat.zero_le _⟩) (fun H locs hP _ hS => ?_)
      replace hP : va_P D mp_cl (k_X2_takeCell T a_p1 a_p1_tape a_p1_keys a_p2 a_p2_cellNames a_p2_secretNames a_p2_pageNames a_p2_speed a_p2_letters a_p2_room a_p2_now a_p2_rounds v_p1_filled v_p1_end u21 u22 u23 u24 u25 u26 u16 u17 v_p1_keys v_p1_tape v_p2_cells v_p2_secrets v_p2_pages v_p2_blind v_p2_rubs v_p2_cellNames v_p2_pageNames v_p2_secretNames v_p2_speed) H := hP
      refine lv_if_eq (tgt := 54) hx hb dX2_takeCell_41 (by decide) (fun h28 => ?_) (fun h28 => ?_)
      · replace hf := if_t hf h28
        refine lv_iconst (v := (nI 5)) hx hb dX2_takeCell_54 (by decide) ?_
        exact w_X2_takeCell_55 X hK hA  fu a_p1 a_p1_tape a_p1_keys a_p2 a_p2_cellNames a_p2_secretNames a_p2_pageNames a_p2_speed a_p2_letters a_p2_room a_p2_now a_p2_rounds v_p1_filled v_p1_end v_p1_keys v_p1_tape v_p2_secrets v_p2_pages v_p2_pageNames v_p2_secretNames r_ o_p1_at o_p1_kind o_p1_place o_p1_word o_p1_key o_p1_number o_p1_faultKind o_p1_faultPlace o_p2_cells o_p2_blind o_p2_rubs o_p2_cellNames o_p2_speed   r9 (nI 5) u21 u22 u23 u24 u25 u26 u16 u17 v_p2_cells v_p2_blind v_p2_rubs v_p2_cellNames v_p2_speed hf _ _ _ hP (mp_D_of hD rfl) hS (lv_sub hl [1, 2, 0] rfl)
      · replace hf := if_f hf h28
        refine lv_aload_n hx hb dX2_takeCell_44 rfl (lv_at hl 1 rfl) ?_
        refine lv_iconst (v := (nI 0)) hx hb dX2_takeCell_45 (by decide) ?_
        refine lv_bipush (v := (nI 20)) hx hb dX2_takeCell_46 (by decide) ?_
        obtain ⟨⟨r29, u30, u31, u32, u33, u34, u35, u36, u37⟩, c38, hf⟩ := bd_of hf
        dsimp only at hf
        have hPc := hP.sub (ws' := (k_X8_numberWithin T a_p1 a_p1_tape a_p1_keys v_p1_filled v_p1_end u21 u22 u23 u24 u25 u26 u16 u17 v_p1_keys v_p1_tape)) [0, 1, 2] rfl
        have hDc := (mp_D_of (w1 := (k_X2_takeCell T a_p1 a_p1_tape a_p1_keys a_p2 a_p2_cellNames a_p2_secretNames a_p2_pageNames a_p2_speed a_p2_letters a_p2_room a_p2_now a_p2_rounds v_p1_filled v_p1_end u21 u22 u23 u24 u25 u26 u16 u17 v_p1_keys v_p1_tape v_p2_cells v_p2_secrets v_p2_pages v_p2_blind v_p2_rubs v_p2_cellNames v_p2_pageNames v_p2_secretNames v_p2_speed)) hD rfl).sub (ws' := (k_X8_numberWithin T a_p1 a_p1_tape a_p1_keys v_p1_filled v_p1_end u21 u22 u23 u24 u25 u26 u16 u17 v_p1_keys v_p1_tape)) [0, 1, 2] rfl rfl
        refine mp_calli (isC := [0, 1, 2]) (wc := (k_X8_numberWithin T a_p1 a_p1_tape a_p1_keys v_p1_filled v_p1_end u21 u22 u23 u24 u25 u26 u16 u17 v_p1_keys v_p1_tape)) (w1 := (k_X8_numberWithin T a_p1 a_p1_tape a_p1_keys v_p1_filled v_p1_end u30 u31 u32 u33 u34 u35 u36 u37 v_p1_keys v_p1_tape)) hP (mp_D_of hD rfl) hS hA rfl rfl (mp_runV (As := [.int (nI 0), .int (nI 20)]) (rest := []) X me_X8_numberWithin lk_X2_85 (c_X8_numberWithin l D T fu a_p1 a_p1_tape a_p1_keys (nI 0) (nI 20) v_p1_filled v_p1_end u21 u22 u23 u24 u25 u26 u16 u17 v_p1_keys v_p1_tape r29 u30 u31 u32 u33 u34 u35 u36 u37 c38) rfl rfl ⟨(Nat.le_of_ble_eq_true rfl), (Nat.le_of_ble_eq_true rfl)⟩ hK hPc hDc rfl rfl rfl rfl hl.1 rfl (Nat.le_of_ble_eq_true rfl) dX2_takeCell_48 ⟨Nat.zero_le _, Nat.zero_le _⟩) (fun H locs hP _ hS => ?_)
        replace hP : va_P D mp_cl (k_X2_takeCell T a_p1 a_p1_tape a_p1_keys a_p2 a_p2_cellNames a_p2_secretNames a_p2_pageNames a_p2_speed a_p2_letters a_p2_room a_p2_now a_p2_rounds v_p1_filled v_p1_end u30 u31 u32 u33 u34 u35 u36 u37 v_p1_keys v_p1_tape v_p2_cells v_p2_secrets v_p2_pages v_p2_blind v_p2_rubs v_p2_cellNames v_p2_pageNames v_p2_secretNames v_p2_speed) H := hP
        refine lv_goto (tgt := 55) hx hb dX2_takeCell_51 (by decide) ?_
        exact w_X2_takeCell_55 X hK hA  fu a_p1 a_p1_tape a_p1_keys a_p2 a_p2_cellNames a_p2_secretNames a_p2_pageNames a_p2_speed a_p2_letters a_p2_room a_p2_now a_p2_rounds v_p1_filled v_p1_end v_p1_keys v_p1_tape v_p2_secrets v_p2_pages v_p2_pageNames v_p2_secretNames r_ o_p1_at o_p1_kind o_p1_place o_p1_word o_p1_key o_p1_number o_p1_faultKind o_p1_faultPlace o_p2_cells o_p2_blind o_p2_rubs o_p2_cellNames o_p2_speed   r9 r29 u30 u31 u32 u33 u34 u35 u36 u37 v_p2_cells v_p2_blind v_p2_rubs v_p2_cellNames v_p2_speed hf _ _ _ hP (mp_D_of hD rfl) hS (lv_sub hl [1, 2, 0] rfl)
    · replace hf := if_t hf h19
      refine lv_iconst (v := (nI 0)) hx hb dX2_takeCell_34 (by decide) ?_
      cases hf
      exact mp_retz X hP hS rfl (Or.inl rfl) dX2_takeCell_35
  · replace hf := if_f hf h1
    refine lv_aload_n hx hb dX2_takeCell_9 rfl (lv_at hl 0 rfl) ?_
    refine lv_bipush (v := (nI 6)) hx hb dX2_takeCell_10 (by decide) ?_
    obtain ⟨⟨r39, u40, u41⟩, c42, hf⟩ := bd_of hf
    dsimp only at hf
    have hPc := hP.sub (ws' := (k_X8_fail T a_p1 a_p1_tape a_p1_keys v_p1_filled v_p1_end v_p1_at v_p1_kind v_p1_place v_p1_word v_p1_key v_p1_number v_p1_faultKind v_p1_faultPlace)) [0] rfl
    have hDc := (mp_D_of (w1 := (k_X2_takeCell T a_p1 a_p1_tape a_p1_keys a_p2 a_p2_cellNames a_p2_secretNames a_p2_pageNames a_p2_speed a_p2_letters a_p2_room a_p2_now a_p2_rounds v_p1_filled v_p1_end v_p1_at v_p1_kind v_p1_place v_p1_word v_p1_key v_p1_number v_p1_faultKind v_p1_faultPlace v_p1_keys v_p1_tape v_p2_cells v_p2_secrets v_p2_pages v_p2_blind v_p2_rubs v_p2_cellNames v_p2_pageNames v_p2_secretNames v_p2_speed)) hD rfl).sub (ws' := (k_X8_fail T a_p1 a_p1_tape a_p1_keys v_p1_filled v_p1_end v_p1_at v_p1_kind v_p1_place v_p1_word v_p1_key v_p1_number v_p1_faultKind v_p1_faultPlace)) [0] rfl rfl
    refine mp_calli (isC := [0]) (wc := (k_X8_fail T a_p1 a_p1_tape a_p1_keys v_p1_filled v_p1_end v_p1_at v_p1_kind v_p1_place v_p1_word v_p1_key v_p1_number v_p1_faultKind v_p1_faultPlace)) (w1 := (k_X8_fail T a_p1 a_p1_tape a_p1_keys v_p1_filled v_p1_end v_p1_at v_p1_kind v_p1_place v_p1_word v_p1_key v_p1_number u40 u41)) hP (mp_D_of hD rfl) hS hA rfl rfl (mp_runV (As := [.int (nI 6)]) (rest := []) X me_X8_fail lk_X2_48 (c_X8_fail l D T a_p1 a_p1_tape a_p1_keys (nI 6) v_p1_filled v_p1_end v_p1_at v_p1_word v_p1_key v_p1_number v_p1_kind v_p1_place v_p1_faultKind v_p1_faultPlace r39 u40 u41 c42) rfl rfl ⟨(Nat.le_of_ble_eq_true rfl), (Nat.le_of_ble_eq_true rfl)⟩ hK hPc hDc rfl rfl rfl rfl hl.1 rfl (Nat.le_of_ble_eq_true rfl) dX2_takeCell_12 ⟨Nat.zero_le _, Nat.zero_le _⟩) (fun H locs hP _ hS => ?_)
    replace hP : va_P D mp_cl (k_X2_takeCell T a_p1 a_p1_tape a_p1_keys a_p2 a_p2_cellNames a_p2_secretNames a_p2_pageNames a_p2_speed a_p2_letters a_p2_room a_p2_now a_p2_rounds v_p1_filled v_p1_end v_p1_at v_p1_kind v_p1_place v_p1_word v_p1_key v_p1_number u40 u41 v_p1_keys v_p1_tape v_p2_cells v_p2_secrets v_p2_pages v_p2_blind v_p2_rubs v_p2_cellNames v_p2_pageNames v_p2_secretNames v_p2_speed) H := hP
    obtain ⟨h43, hf⟩ := gd_of hf
    cases hf
    exact mp_retz X hP hS rfl h43 dX2_takeCell_15


def k_X2_lastNumber (T : Nat → ClassId) (a_p1 a_p1_tape a_p1_keys : Nat) (v_p1_filled : Int32) (v_p1_end : Int32) (v_p1_at : Int32) (v_p1_kind : Int32) (v_p1_place : Int32) (v_p1_word : Int64) (v_p1_key : Int32) (v_p1_number : Int32) (v_p1_faultKind : Int32) (v_p1_faultPlace : Int32) (v_p1_keys : (Nat → Int64)) (v_p1_tape : (Nat → Int32)) : va_W := [(a_p1, oX8 a_p1_tape v_p1_filled v_p1_end v_p1_at v_p1_kind v_p1_place v_p1_word v_p1_key v_p1_number v_p1_faultKind v_p1_faultPlace a_p1_keys), (a_p1_keys, mp_aJ T 24 v_p1_keys), (a_p1_tape, mp_aB T 900 v_p1_tape)]
set_option maxHeartbeats 4000000 in
set_option maxRecDepth 100000 in
theorem c_X2_lastNumber (l : Launch) (D : va_G) (T : Nat → ClassId) (fu : Nat) (a_p1 a_p1_tape a_p1_keys : Nat) (x2 : Int32) (x3 : Int32) (x4 : Int32) (v_p1_filled : Int32) (v_p1_end : Int32) (v_p1_at : Int32) (v_p1_kind : Int32) (v_p1_place : Int32) (v_p1_word : Int64) (v_p1_key : Int32) (v_p1_number : Int32) (v_p1_faultKind : Int32) (v_p1_faultPlace : Int32) (v_p1_keys : (Nat → Int64)) (v_p1_tape : (Nat → Int32)) (r_ : Int32) (o_p1_at : Int32) (o_p1_kind : Int32) (o_p1_place : Int32) (o_p1_word : Int64) (o_p1_key : Int32) (o_p1_number : Int32) (o_p1_faultKind : Int32) (o_p1_faultPlace : Int32) (hf : f_X2_lastNumber fu x2 x3 x4 v_p1_end v_p1_at v_p1_kind v_p1_place v_p1_word v_p1_key v_p1_number v_p1_faultKind v_p1_faultPlace v_p1_keys v_p1_tape = some (r_, o_p1_at, o_p1_kind, o_p1_place, o_p1_word, o_p1_key, o_p1_number, o_p1_faultKind, o_p1_faultPlace)) :
    mp_M l D T yX2_lastNumber cX2_lastNumber 5 (some .int) ({ frames := 4, cells := 0, slots := 0, locals := 88 }) 0 0 [.ref a_p1, .int x2, .int x3, .int x4] (k_X2_lastNumber T a_p1 a_p1_tape a_p1_keys v_p1_filled v_p1_end v_p1_at v_p1_kind v_p1_place v_p1_word v_p1_key v_p1_number v_p1_faultKind v_p1_faultPlace v_p1_keys v_p1_tape) (mp_Qi D r_ (k_X2_lastNumber T a_p1 a_p1_tape a_p1_keys v_p1_filled v_p1_end o_p1_at o_p1_kind o_p1_place o_p1_word o_p1_key o_p1_number o_p1_faultKind o_p1_faultPlace v_p1_keys v_p1_tape)) := by
  refine mp_of (by decide) (Nat.le_of_ble_eq_true rfl) rfl ?_
  intro p e s m args below meth c A ls X hK hP hD hS hA hl
  replace X : mp_X p s m meth c args RX2 "lastNumber" cX2_lastNumber 5 (some .int) := X
  have hx := X.1
  have hb := X.2.1
  have hml := X.2.2.1
  have hown := X.2.2.2.2.1
  have hts := X.2.2.2.2.2.1
  replace hl : lv_has ls 5 [(0, .ref a_p1), (1, .int x2), (2, .int x3), (3, .int x4)] := hl
  replace hf : bd_ (f_X8_skips fu x2 v_p1_end v_p1_at v_p1_kind v_p1_place v_p1_word v_p1_key v_p1_number v_p1_keys v_p1_tape) (fun (z : Int32 × Int32 × Int32 × Int32 × Int64 × Int32 × Int32) => match z with | (r1, u2, u3, u4, u5, u6, u7) => (if r1 = 0 then bd_ (f_X8_fail (nI 2) u3 u4 v_p1_faultKind v_p1_faultPlace) (fun (z : Int32 × Int32 × Int32) => match z with | (r32, u33, u34) => some ((-1 : Int32), u2, u3, u4, u5, u6, u7, u33, u34)) else bd_ (f_X8_numberWithin fu x3 x4 v_p1_end u2 u3 u4 u5 u6 u7 v_p1_faultKind v_p1_faultPlace v_p1_keys v_p1_tape) (fun (z : Int32 × Int32 × Int32 × Int32 × Int64 × Int32 × Int32 × Int32 × Int32) => match z with | (r10, u11, u12, u13, u14, u15, u16, u17, u18) => (if r10 = (-1 : Int32) then some ((-1 : Int32), u11, u12, u13, u14, u15, u16, u17, u18) else bd_ (f_X8_closes fu v_p1_end u11 u12 u13 u14 u15 u16 u17 u18 v_p1_keys v_p1_tape) (fun (z : Int32 × Int32 × Int32 × Int32 × Int64 × Int32 × Int32 × Int32 × Int32) => match z with | (r21, u22, u23, u24, u25, u26, u27, u28, u29) => (if r21 = 0 then some ((-1 : Int32), u22, u23, u24, u25, u26, u27, u28, u29) else some (r10, u22, u23, u24, u25, u26, u27, u28, u29))))))) = some (r_, o_p1_at, o_p1_kind, o_p1_place, o_p1_word, o_p1_key, o_p1_number, o_p1_faultKind, o_p1_faultPlace) := hf
  refine lv_aload_n hx hb dX2_lastNumber_0 rfl (lv_at hl 0 rfl) ?_
  refine lv_iload_n hx hb dX2_lastNumber_1 rfl (lv_at hl 1 rfl) ?_
  obtain ⟨⟨r1, u2, u3, u4, u5, u6, u7⟩, c8, hf⟩ := bd_of hf
  dsimp only at hf
  have hPc := hP.sub (ws' := (k_X8_skips T a_p1 a_p1_tape a_p1_keys v_p1_filled v_p1_end v_p1_at v_p1_kind v_p1_place v_p1_word v_p1_key v_p1_number v_p1_faultKind v_p1_faultPlace v_p1_keys v_p1_tape)) [0, 1, 2] rfl
  have hDc := (mp_D_of (w1 := (k_X2_lastNumber T a_p1 a_p1_tape a_p1_keys v_p1_filled v_p1_end v_p1_at v_p1_kind v_p1_place v_p1_word v_p1_key v_p1_number v_p1_faultKind v_p1_faultPlace v_p1_keys v_p1_tape)) hD rfl).sub (ws' := (k_X8_skips T a_p1 a_p1_tape a_p1_keys v_p1_filled v_p1_end v_p1_at v_p1_kind v_p1_place v_p1_word v_p1_key v_p1_number v_p1_faultKind v_p1_faultPlace v_p1_keys v_p1_tape)) [0, 1, 2] rfl rfl
  refine mp_calli (isC := [0, 1, 2]) (wc := (k_X8_skips T a_p1 a_p1_tape a_p1_keys v_p1_filled v_p1_end v_p1_at v_p1_kind v_p1_place v_p1_word v_p1_key v_p1_number v_p1_faultKind v_p1_faultPlace v_p1_keys v_p1_tape)) (w1 := (k_X8_skips T a_p1 a_p1_tape a_p1_keys v_p1_filled v_p1_end u2 u3 u4 u5 u6 u7 v_p1_faultKind v_p1_faultPlace v_p1_keys v_p1_tape)) hP (mp_D_of hD rfl) hS hA rfl rfl (mp_runV (As := [.int x2]) (rest := []) X me_X8_skips lk_X2_82 (c_X8_skips l D T fu a_p1 a_p1_tape a_p1_keys x2 v_p1_filled v_p1_faultKind v_p1_faultPlace v_p1_end v_p1_at v_p1_kind v_p1_place v_p1_word v_p1_key v_p1_number v_p1_keys v_p1_tape r1 u2 u3 u4 u5 u6 u7 c8) rfl rfl ⟨(Nat.le_of_ble_eq_true rfl), (Nat.le_of_ble_eq_true rfl)⟩ hK hPc hDc rfl rfl rfl rfl hl.1 rfl (Nat.le_of_ble_eq_true rfl) dX2_lastNumber_2 ⟨Nat.zero_le _, Nat.zero_le _⟩) (fun H locs hP _ hS => ?_)
  replace hP : va_P D mp_cl (k_X2_lastNumber T a_p1 a_p1_tape a_p1_keys v_p1_filled v_p1_end u2 u3 u4 u5 u6 u7 v_p1_faultKind v_p1_faultPlace v_p1_keys v_p1_tape) H := hP
  refine lv_if_ne (tgt := 16) hx hb dX2_lastNumber_5 (by decide) (fun h9 => ?_) (fun h9 => ?_)
  · replace hf := if_f hf h9
    refine lv_aload_n hx hb dX2_lastNumber_16 rfl (lv_at hl 0 rfl) ?_
    refine lv_iload_n hx hb dX2_lastNumber_17 rfl (lv_at hl 2 rfl) ?_
    refine lv_iload_n hx hb dX2_lastNumber_18 rfl (lv_at hl 3 rfl) ?_
    obtain ⟨⟨r10, u11, u12, u13, u14, u15, u16, u17, u18⟩, c19, hf⟩ := bd_of hf
    dsimp only at hf
    have hPc := hP.sub (ws' := (k_X8_numberWithin T a_p1 a_p1_tape a_p1_keys v_p1_filled v_p1_end u2 u3 u4 u5 u6 u7 v_p1_faultKind v_p1_faultPlace v_p1_keys v_p1_tape)) [0, 1, 2] rfl
    have hDc := (mp_D_of (w1 := (k_X2_lastNumber T a_p1 a_p1_tape a_p1_keys v_p1_filled v_p1_end u2 u3 u4 u5 u6 u7 v_p1_faultKind v_p1_faultPlace v_p1_keys v_p1_tape)) hD rfl).sub (ws' := (k_X8_numberWithin T a_p1 a_p1_tape a_p1_keys v_p1_filled v_p1_end u2 u3 u4 u5 u6 u7 v_p1_faultKind v_p1_faultPlace v_p1_keys v_p1_tape)) [0, 1, 2] rfl rfl
    refine mp_calli (isC := [0, 1, 2]) (wc := (k_X8_numberWithin T a_p1 a_p1_tape a_p1_keys v_p1_filled v_p1_end u2 u3 u4 u5 u6 u7 v_p1_faultKind v_p1_faultPlace v_p1_keys v_p1_tape)) (w1 := (k_X8_numberWithin T a_p1 a_p1_tape a_p1_keys v_p1_filled v_p1_end u11 u12 u13 u14 u15 u16 u17 u18 v_p1_keys v_p1_tape)) hP (mp_D_of hD rfl) hS hA rfl rfl (mp_runV (As := [.int x3, .int x4]) (rest := []) X me_X8_numberWithin lk_X2_85 (c_X8_numberWithin l D T fu a_p1 a_p1_tape a_p1_keys x3 x4 v_p1_filled v_p1_end u2 u3 u4 u5 u6 u7 v_p1_faultKind v_p1_faultPlace v_p1_keys v_p1_tape r10 u11 u12 u13 u14 u15 u16 u17 u18 c19) rfl rfl ⟨(Nat.le_of_ble_eq_true rfl), (Nat.le_of_ble_eq_true rfl)⟩ hK hPc hDc rfl rfl rfl rfl hl.1 rfl (Nat.le_of_ble_eq_true rfl) dX2_lastNumber_19 ⟨Nat.zero_le _, Nat.zero_le _⟩) (fun H locs hP _ hS => ?_)
    replace hP : va_P D mp_cl (k_X2_lastNumber T a_p1 a_p1_tape a_p1_keys v_p1_filled v_p1_end u11 u12 u13 u14 u15 u16 u17 u18 v_p1_keys v_p1_tape) H := hP
    refine lv_istore (lv' := [(4, .int r10), (0, .ref a_p1), (1, .int x2), (2, .int x3), (3, .int x4)]) hx hb dX2_lastNumber_22 hl (by decide) rfl (fun ls hl => ?_)
    refine lv_iload hx hb dX2_lastNumber_24 (lv_at hl 0 rfl) ?_
    refine lv_iconst (v := (-1 : Int32)) hx hb dX2_lastNumber_26 (by decide) ?_
    refine lv_icmp_eq (tgt := 42) hx hb dX2_lastNumber_27 (by decide) (fun h20 => ?_) (fun h20 => ?_)
    · replace hf := if_t hf h20
      refine lv_iconst (v := (-1 : Int32)) hx hb dX2_lastNumber_42 (by decide) ?_
      cases hf
      exact mp_reti X hP hS rfl dX2_lastNumber_43
    · replace hf := if_f hf h20
      refine lv_aload_n hx hb dX2_lastNumber_30 rfl (lv_at hl 1 rfl) ?_
      obtain ⟨⟨r21, u22, u23, u24, u25, u26, u27, u28, u29⟩, c30, hf⟩ := bd_of hf
      dsimp only at hf
      have hPc := hP.sub (ws' := (k_X8_closes T a_p1 a_p1_tape a_p1_keys v_p1_filled v_p1_end u11 u12 u13 u14 u15 u16 u17 u18 v_p1_keys v_p1_tape)) [0, 1, 2] rfl
      have hDc := (mp_D_of (w1 := (k_X2_lastNumber T a_p1 a_p1_tape a_p1_keys v_p1_filled v_p1_end u11 u12 u13 u14 u15 u16 u17 u18 v_p1_keys v_p1_tape)) hD rfl).sub (ws' := (k_X8_closes T a_p1 a_p1_tape a_p1_keys v_p1_filled v_p1_end u11 u12 u13 u14 u15 u16 u17 u18 v_p1_keys v_p1_tape)) [0, 1, 2] rfl rfl
      refine mp_calli (isC := [0, 1, 2]) (wc := (k_X8_closes T a_p1 a_p1_tape a_p1_keys v_p1_filled v_p1_end u11 u12 u13 u14 u15 u16 u17 u18 v_p1_keys v_p1_tape)) (w1 := (k_X8_closes T a_p1 a_p1_tape a_p1_keys v_p1_filled v_p1_end u22 u23 u24 u25 u26 u27 u28 u29 v_p1_keys v_p1_tape)) hP (mp_D_of hD rfl) hS hA rfl rfl (mp_runV (As := []) (rest := []) X me_X8_closes lk_X2_89 (c_X8_closes l D T fu a_p1 a_p1_tape a_p1_keys v_p1_filled v_p1_end u11 u12 u13 u14 u15 u16 u17 u18 v_p1_keys v_p1_tape r21 u22 u23 u24 u25 u26 u27 u28 u29 c30) rfl rfl ⟨(Nat.le_of_ble_eq_true rfl), (Nat.le_of_ble_eq_true rfl)⟩ hK hPc hDc rfl rfl rfl rfl hl.1 rfl (Nat.le_of_ble_eq_true rfl) dX2_lastNumber_31 ⟨Nat.zero_le _, Nat.zero_le _⟩) (fun H locs hP _ hS => ?_)
      replace hP : va_P D mp_cl (k_X2_lastNumber T a_p1 a_p1_tape a_p1_keys v_p1_filled v_p1_end u22 u23 u24 u25 u26 u27 u28 u29 v_p1_keys v_p1_tape) H := hP
      refine lv_if_eq (tgt := 42) hx hb dX2_lastNumber_34 (by decide) (fun h31 => ?_) (fun h31 => ?_)
      · replace hf := if_t hf h31
        refine lv_iconst (v := (-1 : Int32)) hx hb dX2_lastNumber_42 (by decide) ?_
        cases hf
        exact mp_reti X hP hS rfl dX2_lastNumber_43
      · replace hf := if_f hf h31
        refine lv_iload hx hb dX2_lastNumber_37 (lv_at hl 0 rfl) ?_
        refine lv_goto (tgt := 43) hx hb dX2_lastNumber_39 (by decide) ?_
        cases hf
        exact mp_reti X hP hS rfl dX2_lastNumber_43
  · replace hf := if_t hf h9
    refine lv_aload_n hx hb dX2_lastNumber_8 rfl (lv_at hl 0 rfl) ?_
    refine lv_iconst (v := (nI 2)) hx hb dX2_lastNumber_9 (by decide) ?_
    obtain ⟨⟨r32, u33, u34⟩, c35, hf⟩ := bd_of hf
    dsimp only at hf
    have hPc := hP.sub (ws' := (k_X8_fail T a_p1 a_p1_tape a_p1_keys v_p1_filled v_p1_end u2 u3 u4 u5 u6 u7 v_p1_faultKind v_p1_faultPlace)) [0] rfl
    have hDc := (mp_D_of (w1 := (k_X2_lastNumber T a_p1 a_p1_tape a_p1_keys v_p1_filled v_p1_end u2 u3 u4 u5 u6 u7 v_p1_faultKind v_p1_faultPlace v_p1_keys v_p1_tape)) hD rfl).sub (ws' := (k_X8_fail T a_p1 a_p1_tape a_p1_keys v_p1_filled v_p1_end u2 u3 u4 u5 u6 u7 v_p1_faultKind v_p1_faultPlace)) [0] rfl rfl
    refine mp_calli (isC := [0]) (wc := (k_X8_fail T a_p1 a_p1_tape a_p1_keys v_p1_filled v_p1_end u2 u3 u4 u5 u6 u7 v_p1_faultKind v_p1_faultPlace)) (w1 := (k_X8_fail T a_p1 a_p1_tape a_p1_keys v_p1_filled v_p1_end u2 u3 u4 u5 u6 u7 u33 u34)) hP (mp_D_of hD rfl) hS hA rfl rfl (mp_runV (As := [.int (nI 2)]) (rest := []) X me_X8_fail lk_X2_48 (c_X8_fail l D T a_p1 a_p1_tape a_p1_keys (nI 2) v_p1_filled v_p1_end u2 u5 u6 u7 u3 u4 v_p1_faultKind v_p1_faultPlace r32 u33 u34 c35) rfl rfl ⟨(Nat.le_of_ble_eq_true rfl), (Nat.le_of_ble_eq_true rfl)⟩ hK hPc hDc rfl rfl rfl rfl hl.1 rfl (Nat.le_of_ble_eq_true rfl) dX2_lastNumber_10 ⟨Nat.zero_le _, Nat.zero_le _⟩) (fun H locs hP _ hS => ?_)
    replace hP : va_P D mp_cl (k_X2_lastNumber T a_p1 a_p1_tape a_p1_keys v_p1_filled v_p1_end u2 u3 u4 u5 u6 u7 u33 u34 v_p1_keys v_p1_tape) H := hP
    refine lv_pop hx hb dX2_lastNumber_13 rfl ?_
    refine lv_iconst (v := (-1 : Int32)) hx hb dX2_lastNumber_14 (by decide) ?_
    cases hf
    exact mp_reti X hP hS rfl dX2_lastNumber_15


def k_X2_takeSecret (T : Nat → ClassId) (a_p1 a_p1_tape a_p1_keys a_p2 a_p2_cellNames a_p2_secretNames a_p2_pageNames a_p2_speed a_p2_letters a_p2_room a_p2_now a_p2_rounds : Nat) (v_p1_filled : Int32) (v_p1_end : Int32) (v_p1_at : Int32) (v_p1_kind : Int32) (v_p1_place : Int32) (v_p1_word : Int64) (v_p1_key : Int32) (v_p1_number : Int32) (v_p1_faultKind : Int32) (v_p1_faultPlace : Int32) (v_p1_keys : (Nat → Int64)) (v_p1_tape : (Nat → Int32)) (v_p2_cells : Int32) (v_p2_secrets : Int32) (v_p2_pages : Int32) (v_p2_blind : Int32) (v_p2_rubs : Int32) (v_p2_cellNames : (Nat → Int64)) (v_p2_letters : (Nat → Int32)) (v_p2_pageNames : (Nat → Int64)) (v_p2_secretNames : (Nat → Int64)) : va_W := [(a_p1, oX8 a_p1_tape v_p1_filled v_p1_end v_p1_at v_p1_kind v_p1_place v_p1_word v_p1_key v_p1_number v_p1_faultKind v_p1_faultPlace a_p1_keys), (a_p1_keys, mp_aJ T 24 v_p1_keys), (a_p1_tape, mp_aB T 900 v_p1_tape), (a_p2, oX1 v_p2_cells v_p2_secrets v_p2_pages a_p2_cellNames a_p2_secretNames a_p2_pageNames a_p2_speed v_p2_blind v_p2_rubs a_p2_letters a_p2_room a_p2_now a_p2_rounds), (a_p2_cellNames, mp_aJ T 8 v_p2_cellNames), (a_p2_letters, mp_aI T 6 v_p2_letters), (a_p2_pageNames, mp_aJ T 6 v_p2_pageNames), (a_p2_secretNames, mp_aJ T 6 v_p2_secretNames)]
set_option maxHeartbeats 4000000 in
set_option maxRecDepth 100000 in
theorem w_X2_takeSecret_46 {p : Program} {l : Launch} {e : Env} {s : State} {m : MethodId} {args : Array Value} {below : List Frame} {meth : Method} {c : Code} {D : va_G} {T : Nat → ClassId} {A : Nat → Prop} (X : mp_X p s m meth c args RX2 "takeSecret" cX2_takeSecret 5 (some .boolean)) (hK : va_K D mp_cl (mp_ty T) s) (hA : ∀ q, s.heap.size ≤ q → A q) (fu : Nat) (a_p1 a_p1_tape a_p1_keys a_p2 a_p2_cellNames a_p2_secretNames a_p2_pageNames a_p2_speed a_p2_letters a_p2_room a_p2_now a_p2_rounds : Nat) (v_p1_filled : Int32) (v_p2_blind : Int32) (v_p2_rubs : Int32) (v_p1_end : Int32) (v_p1_keys : (Nat → Int64)) (v_p1_tape : (Nat → Int32)) (v_p2_cells : Int32) (v_p2_pages : Int32) (v_p2_cellNames : (Nat → Int64)) (v_p2_pageNames : (Nat → Int64)) (r_ : Int32) (o_p1_at : Int32) (o_p1_kind : Int32) (o_p1_place : Int32) (o_p1_word : Int64) (o_p1_key : Int32) (o_p1_number : Int32) (o_p1_faultKind : Int32) (o_p1_faultPlace : Int32) (o_p2_secrets : Int32) (o_p2_letters : (Nat → Int32)) (o_p2_secretNames : (Nat → Int64)) :
    ∀  (z2 : Int64) (w0 : Int32) (v_p1_at : Int32) (v_p1_kind : Int32) (v_p1_place : Int32) (v_p1_word : Int64) (v_p1_key : Int32) (v_p1_number : Int32) (v_p1_faultKind : Int32) (v_p1_faultPlace : Int32) (v_p2_secrets : Int32) (v_p2_letters : (Nat → Int32)) (v_p2_secretNames : (Nat → Int64)), f_X2_takeSecret_46 fu v_p1_end v_p1_keys v_p1_tape v_p2_cells v_p2_pages v_p2_cellNames v_p2_pageNames  z2 w0 v_p1_at v_p1_kind v_p1_place v_p1_word v_p1_key v_p1_number v_p1_faultKind v_p1_faultPlace v_p2_secrets v_p2_letters v_p2_secretNames = some (r_, o_p1_at, o_p1_kind, o_p1_place, o_p1_word, o_p1_key, o_p1_number, o_p1_faultKind, o_p1_faultPlace, o_p2_secrets, o_p2_letters, o_p2_secretNames) → ∀ (H : Heap) (locs : List Loc) (ls : Array Slot), va_P D mp_cl (k_X2_takeSecret T a_p1 a_p1_tape a_p1_keys a_p2 a_p2_cellNames a_p2_secretNames a_p2_pageNames a_p2_speed a_p2_letters a_p2_room a_p2_now a_p2_rounds v_p1_filled v_p1_end v_p1_at v_p1_kind v_p1_place v_p1_word v_p1_key v_p1_number v_p1_faultKind v_p1_faultPlace v_p1_keys v_p1_tape v_p2_cells v_p2_secrets v_p2_pages v_p2_blind v_p2_rubs v_p2_cellNames v_p2_letters v_p2_pageNames v_p2_secretNames) H → va_D A (k_X2_takeSecret T a_p1 a_p1_tape a_p1_keys a_p2 a_p2_cellNames a_p2_secretNames a_p2_pageNames a_p2_speed a_p2_letters a_p2_room a_p2_now a_p2_rounds v_p1_filled v_p1_end v_p1_at v_p1_kind v_p1_place v_p1_word v_p1_key v_p1_number v_p1_faultKind v_p1_faultPlace v_p1_keys v_p1_tape v_p2_cells v_p2_secrets v_p2_pages v_p2_blind v_p2_rubs v_p2_cellNames v_p2_letters v_p2_pageNames v_p2_secretNames) → va_S A s.heap H locs → lv_has ls 5 [(1, .ref a_p2), (2, .long z2)] → W p l e ({ frames := 5, cells := 0, slots := 0, locals := 112 }) s m args below meth c H locs 0 0 (MQ below ((mp_Qi D r_ (k_X2_takeSecret T a_p1 a_p1_tape a_p1_keys a_p2 a_p2_cellNames a_p2_secretNames a_p2_pageNames a_p2_speed a_p2_letters a_p2_room a_p2_now a_p2_rounds v_p1_filled v_p1_end o_p1_at o_p1_kind o_p1_place o_p1_word o_p1_key o_p1_number o_p1_faultKind o_p1_faultPlace v_p1_keys v_p1_tape v_p2_cells o_p2_secrets v_p2_pages v_p2_blind v_p2_rubs v_p2_cellNames o_p2_letters v_p2_pageNames o_p2_secretNames)) A) args s 0 0 A) (F0 m 46 ls [.int w0]) := by
  have hx := X.1
  have hb := X.2.1
  have hml := X.2.2.1
  have hown := X.2.2.2.2.1
  have hts := X.2.2.2.2.2.1
  intro z2 w0 v_p1_at v_p1_kind v_p1_place v_p1_word v_p1_key v_p1_number v_p1_faultKind v_p1_faultPlace v_p2_secrets v_p2_letters v_p2_secretNames hf H locs ls hP hD hS hl
  replace hf : (if w0 = (-1 : Int32) then some ((nI 0), v_p1_at, v_p1_kind, v_p1_place, v_p1_word, v_p1_key, v_p1_number, v_p1_faultKind, v_p1_faultPlace, v_p2_secrets, v_p2_letters, v_p2_secretNames) else bd_ (f_X1_addSecret z2 w0 v_p2_secrets v_p2_letters v_p2_secretNames) (fun (z : Int32 × (Nat → Int32) × (Nat → Int64)) => match z with | (u2, u3, u4) => some ((nI 1), v_p1_at, v_p1_kind, v_p1_place, v_p1_word, v_p1_key, v_p1_number, v_p1_faultKind, v_p1_faultPlace, u2, u3, u4))) = some (r_, o_p1_at, o_p1_kind, o_p1_place, o_p1_word, o_p1_key, o_p1_number, o_p1_faultKind, o_p1_faultPlace, o_p2_secrets, o_p2_letters, o_p2_secretNames) := hf
  refine lv_istore (lv' := [(4, .int w0), (1, .ref a_p2), (2, .long z2)]) hx hb dX2_takeSecret_46 hl (by decide) rfl (fun ls hl => ?_)
  refine lv_iload hx hb dX2_takeSecret_48 (lv_at hl 0 rfl) ?_
  refine lv_iconst (v := (-1 : Int32)) hx hb dX2_takeSecret_50 (by decide) ?_
  refine lv_icmp_ne (tgt := 56) hx hb dX2_takeSecret_51 (by decide) (fun h1 => ?_) (fun h1 => ?_)
  · replace hf := if_f hf h1
    refine lv_aload_n hx hb dX2_takeSecret_56 rfl (lv_at hl 1 rfl) ?_
    refine lv_lload_n hx hb dX2_takeSecret_57 rfl (lv_at hl 2 rfl) ?_
    refine lv_iload hx hb dX2_takeSecret_58 (lv_at hl 0 rfl) ?_
    obtain ⟨⟨u2, u3, u4⟩, c5, hf⟩ := bd_of hf
    dsimp only at hf
    have hPc := hP.sub (ws' := (k_X1_addSecret T a_p2 a_p2_cellNames a_p2_secretNames a_p2_pageNames a_p2_speed a_p2_letters a_p2_room a_p2_now a_p2_rounds v_p2_cells v_p2_secrets v_p2_pages v_p2_blind v_p2_rubs v_p2_letters v_p2_secretNames)) [3, 5, 7] rfl
    have hDc := (mp_D_of (w1 := (k_X2_takeSecret T a_p1 a_p1_tape a_p1_keys a_p2 a_p2_cellNames a_p2_secretNames a_p2_pageNames a_p2_speed a_p2_letters a_p2_room a_p2_now a_p2_rounds v_p1_filled v_p1_end v_p1_at v_p1_kind v_p1_place v_p1_word v_p1_key v_p1_number v_p1_faultKind v_p1_faultPlace v_p1_keys v_p1_tape v_p2_cells v_p2_secrets v_p2_pages v_p2_blind v_p2_rubs v_p2_cellNames v_p2_letters v_p2_pageNames v_p2_secretNames)) hD rfl).sub (ws' := (k_X1_addSecret T a_p2 a_p2_cellNames a_p2_secretNames a_p2_pageNames a_p2_speed a_p2_letters a_p2_room a_p2_now a_p2_rounds v_p2_cells v_p2_secrets v_p2_pages v_p2_blind v_p2_rubs v_p2_letters v_p2_secretNames)) [3, 5, 7] rfl rfl
    refine mp_callv (isC := [3, 5, 7]) (wc := (k_X1_addSecret T a_p2 a_p2_cellNames a_p2_secretNames a_p2_pageNames a_p2_speed a_p2_letters a_p2_room a_p2_now a_p2_rounds v_p2_cells v_p2_secrets v_p2_pages v_p2_blind v_p2_rubs v_p2_letters v_p2_secretNames)) (w1 := (k_X1_addSecret T a_p2 a_p2_cellNames a_p2_secretNames a_p2_pageNames a_p2_speed a_p2_letters a_p2_room a_p2_now a_p2_rounds v_p2_cells u2 v_p2_pages v_p2_blind v_p2_rubs u3 u4)) hP (mp_D_of hD rfl) hS hA rfl rfl (mp_runV (As := [.long z2, .int w0]) (rest := []) X me_X1_addSecret lk_X2_104 (c_X1_addSecret l D T a_p2 a_p2_cellNames a_p2_secretNames a_p2_pageNames a_p2_speed a_p2_letters a_p2_room a_p2_now a_p2_rounds z2 w0 v_p2_cells v_p2_pages v_p2_blind v_p2_rubs v_p2_secrets v_p2_letters v_p2_secretNames u2 u3 u4 c5) rfl rfl ⟨(Nat.le_of_ble_eq_true rfl), (Nat.le_of_ble_eq_true rfl)⟩ hK hPc hDc rfl rfl rfl rfl hl.1 rfl (Nat.le_of_ble_eq_true rfl) dX2_takeSecret_60 ⟨Nat.zero_le _, Nat.zero_le _⟩) (fun H locs hP _ hS => ?_)
    replace hP : va_P D mp_cl (k_X2_takeSecret T a_p1 a_p1_tape a_p1_keys a_p2 a_p2_cellNames a_p2_secretNames a_p2_pageNames a_p2_speed a_p2_letters a_p2_room a_p2_now a_p2_rounds v_p1_filled v_p1_end v_p1_at v_p1_kind v_p1_place v_p1_word v_p1_key v_p1_number v_p1_faultKind v_p1_faultPlace v_p1_keys v_p1_tape v_p2_cells u2 v_p2_pages v_p2_blind v_p2_rubs v_p2_cellNames u3 v_p2_pageNames u4) H := hP
    refine lv_iconst (v := (nI 1)) hx hb dX2_takeSecret_63 (by decide) ?_
    cases hf
    exact mp_retz X hP hS rfl (Or.inr rfl) dX2_takeSecret_64
  · replace hf := if_t hf h1
    refine lv_iconst (v := (nI 0)) hx hb dX2_takeSecret_54 (by decide) ?_
    cases hf
    exact mp_retz X hP hS rfl (Or.inl rfl) dX2_takeSecret_55

set_option maxHeartbeats 4000000 in
set_option maxRecDepth 100000 in
theorem c_X2_takeSecret (l : Launch) (D : va_G) (T : Nat → ClassId) (fu : Nat) (a_p1 a_p1_tape a_p1_keys a_p2 a_p2_cellNames a_p2_secretNames a_p2_pageNames a_p2_speed a_p2_letters a_p2_room a_p2_now a_p2_rounds : Nat) (v_p1_filled : Int32) (v_p2_blind : Int32) (v_p2_rubs : Int32) (v_p1_end : Int32) (v_p1_at : Int32) (v_p1_kind : Int32) (v_p1_place : Int32) (v_p1_word : Int64) (v_p1_key : Int32) (v_p1_number : Int32) (v_p1_faultKind : Int32) (v_p1_faultPlace : Int32) (v_p1_keys : (Nat → Int64)) (v_p1_tape : (Nat → Int32)) (v_p2_cells : Int32) (v_p2_secrets : Int32) (v_p2_pages : Int32) (v_p2_cellNames : (Nat → Int64)) (v_p2_letters : (Nat → Int32)) (v_p2_pageNames : (Nat → Int64)) (v_p2_secretNames : (Nat → Int64)) (r_ : Int32) (o_p1_at : Int32) (o_p1_kind : Int32) (o_p1_place : Int32) (o_p1_word : Int64) (o_p1_key : Int32) (o_p1_number : Int32) (o_p1_faultKind : Int32) (o_p1_faultPlace : Int32) (o_p2_secrets : Int32) (o_p2_letters : (Nat → Int32)) (o_p2_secretNames : (Nat → Int64)) (hf : f_X2_takeSecret fu v_p1_end v_p1_at v_p1_kind v_p1_place v_p1_word v_p1_key v_p1_number v_p1_faultKind v_p1_faultPlace v_p1_keys v_p1_tape v_p2_cells v_p2_secrets v_p2_pages v_p2_cellNames v_p2_letters v_p2_pageNames v_p2_secretNames = some (r_, o_p1_at, o_p1_kind, o_p1_place, o_p1_word, o_p1_key, o_p1_number, o_p1_faultKind, o_p1_faultPlace, o_p2_secrets, o_p2_letters, o_p2_secretNames)) :
    mp_M l D T yX2_takeSecret cX2_takeSecret 5 (some .boolean) ({ frames := 5, cells := 0, slots := 0, locals := 112 }) 0 0 [.ref a_p1, .ref a_p2] (k_X2_takeSecret T a_p1 a_p1_tape a_p1_keys a_p2 a_p2_cellNames a_p2_secretNames a_p2_pageNames a_p2_speed a_p2_letters a_p2_room a_p2_now a_p2_rounds v_p1_filled v_p1_end v_p1_at v_p1_kind v_p1_place v_p1_word v_p1_key v_p1_number v_p1_faultKind v_p1_faultPlace v_p1_keys v_p1_tape v_p2_cells v_p2_secrets v_p2_pages v_p2_blind v_p2_rubs v_p2_cellNames v_p2_letters v_p2_pageNames v_p2_secretNames) (mp_Qi D r_ (k_X2_takeSecret T a_p1 a_p1_tape a_p1_keys a_p2 a_p2_cellNames a_p2_secretNames a_p2_pageNames a_p2_speed a_p2_letters a_p2_room a_p2_now a_p2_rounds v_p1_filled v_p1_end o_p1_at o_p1_kind o_p1_place o_p1_word o_p1_key o_p1_number o_p1_faultKind o_p1_faultPlace v_p1_keys v_p1_tape v_p2_cells o_p2_secrets v_p2_pages v_p2_blind v_p2_rubs v_p2_cellNames o_p2_letters v_p2_pageNames o_p2_secretNames)) := by
  refine mp_of (by decide) (Nat.le_of_ble_eq_true rfl) rfl ?_
  intro p e s m args below meth c A ls X hK hP hD hS hA hl
  replace X : mp_X p s m meth c args RX2 "takeSecret" cX2_takeSecret 5 (some .boolean) := X
  have hx := X.1
  have hb := X.2.1
  have hml := X.2.2.1
  have hown := X.2.2.2.2.1
  have hts := X.2.2.2.2.2.1
  replace hl : lv_has ls 5 [(0, .ref a_p1), (1, .ref a_p2)] := hl
  replace hf : (if v_p2_secrets < (nI 6) then bd_ (f_X8_forward fu v_p1_end v_p1_at v_p1_kind v_p1_place v_p1_word v_p1_key v_p1_number v_p1_keys v_p1_tape) (fun (z : Int32 × Int32 × Int32 × Int64 × Int32 × Int32) => match z with | (u2, u3, u4, u5, u6, u7) => bd_ (f_X2_newName fu v_p1_end u2 u3 u4 u5 u6 u7 v_p1_faultKind v_p1_faultPlace v_p1_keys v_p1_tape v_p2_cells v_p2_secrets v_p2_pages v_p2_cellNames v_p2_pageNames v_p2_secretNames) (fun (z : Int64 × Int32 × Int32 × Int32 × Int64 × Int32 × Int32 × Int32 × Int32) => match z with | (r9, u10, u11, u12, u13, u14, u15, u16, u17) => (if (lg_cmp r9 (-1 : Int64)) = 0 then f_X2_takeSecret_46 fu v_p1_end v_p1_keys v_p1_tape v_p2_cells v_p2_pages v_p2_cellNames v_p2_pageNames  r9 (-1 : Int32) u10 u11 u12 u13 u14 u15 u16 u17 v_p2_secrets v_p2_letters v_p2_secretNames else bd_ (f_X2_lastNumber fu (nI 5) (nI 1) (nI 20) v_p1_end u10 u11 u12 u13 u14 u15 u16 u17 v_p1_keys v_p1_tape) (fun (z : Int32 × Int32 × Int32 × Int32 × Int64 × Int32 × Int32 × Int32 × Int32) => match z with | (r20, u21, u22, u23, u24, u25, u26, u27, u28) => f_X2_takeSecret_46 fu v_p1_end v_p1_keys v_p1_tape v_p2_cells v_p2_pages v_p2_cellNames v_p2_pageNames  r9 r20 u21 u22 u23 u24 u25 u26 u27 u28 v_p2_secrets v_p2_letters v_p2_secretNames)))) else bd_ (f_X8_fail (nI 6) v_p1_kind v_p1_place v_p1_faultKind v_p1_faultPlace) (fun (z : Int32 × Int32 × Int32) => match z with | (r30, u31, u32) => gd_ (r30 = 0 ∨ r30 = 1) (some (r30, v_p1_at, v_p1_kind, v_p1_place, v_p1_word, v_p1_key, v_p1_number, u31, u32, v_p2_secrets, v_p2_letters, v_p2_secretNames)))) = some (r_, o_p1_at, o_p1_kind, o_p1_place, o_p1_word, o_p1_key, o_p1_number, o_p1_faultKind, o_p1_faultPlace, o_p2_secrets, o_p2_letters, o_p2_secretNames) := hf
  refine lv_aload_n hx hb dX2_takeSecret_0 rfl (lv_at hl 1 rfl) ?_
  refine mp_get X fl_X2_97 hK hP 3 rfl rfl dX2_takeSecret_1 ?_
  refine lv_bipush (v := (nI 6)) hx hb dX2_takeSecret_4 (by decide) ?_
  refine lv_icmp_lt (tgt := 16) hx hb dX2_takeSecret_6 (by decide) (fun h1 => ?_) (fun h1 => ?_)
  · replace hf := if_t hf h1
    refine lv_aload_n hx hb dX2_takeSecret_16 rfl (lv_at hl 0 rfl) ?_
    obtain ⟨⟨u2, u3, u4, u5, u6, u7⟩, c8, hf⟩ := bd_of hf
    dsimp only at hf
    have hPc := hP.sub (ws' := (k_X8_forward T a_p1 a_p1_tape a_p1_keys v_p1_filled v_p1_end v_p1_at v_p1_kind v_p1_place v_p1_word v_p1_key v_p1_number v_p1_faultKind v_p1_faultPlace v_p1_keys v_p1_tape)) [0, 1, 2] rfl
    have hDc := (mp_D_of (w1 := (k_X2_takeSecret T a_p1 a_p1_tape a_p1_keys a_p2 a_p2_cellNames a_p2_secretNames a_p2_pageNames a_p2_speed a_p2_letters a_p2_room a_p2_now a_p2_rounds v_p1_filled v_p1_end v_p1_at v_p1_kind v_p1_place v_p1_word v_p1_key v_p1_number v_p1_faultKind v_p1_faultPlace v_p1_keys v_p1_tape v_p2_cells v_p2_secrets v_p2_pages v_p2_blind v_p2_rubs v_p2_cellNames v_p2_letters v_p2_pageNames v_p2_secretNames)) hD rfl).sub (ws' := (k_X8_forward T a_p1 a_p1_tape a_p1_keys v_p1_filled v_p1_end v_p1_at v_p1_kind v_p1_place v_p1_word v_p1_key v_p1_number v_p1_faultKind v_p1_faultPlace v_p1_keys v_p1_tape)) [0, 1, 2] rfl rfl
    refine mp_callv (isC := [0, 1, 2]) (wc := (k_X8_forward T a_p1 a_p1_tape a_p1_keys v_p1_filled v_p1_end v_p1_at v_p1_kind v_p1_place v_p1_word v_p1_key v_p1_number v_p1_faultKind v_p1_faultPlace v_p1_keys v_p1_tape)) (w1 := (k_X8_forward T a_p1 a_p1_tape a_p1_keys v_p1_filled v_p1_end u2 u3 u4 u5 u6 u7 v_p1_faultKind v_p1_faultPlace v_p1_keys v_p1_tape)) hP (mp_D_of hD rfl) hS hA rfl rfl (mp_runV (As := []) (rest := []) X me_X8_forward lk_X2_75 (c_X8_forward l D T fu a_p1 a_p1_tape a_p1_keys v_p1_filled v_p1_faultKind v_p1_faultPlace v_p1_end v_p1_at v_p1_kind v_p1_place v_p1_word v_p1_key v_p1_number v_p1_keys v_p1_tape u2 u3 u4 u5 u6 u7 c8) rfl rfl ⟨(Nat.le_of_ble_eq_true rfl), (Nat.le_of_ble_eq_true rfl)⟩ hK hPc hDc rfl rfl rfl rfl hl.1 rfl (Nat.le_of_ble_eq_true rfl) dX2_takeSecret_17 ⟨Nat.zero_le _, Nat.zero_le _⟩) (fun H locs hP _ hS => ?_)
    replace hP : va_P D mp_cl (k_X2_takeSecret T a_p1 a_p1_tape a_p1_keys a_p2 a_p2_cellNames a_p2_secretNames a_p2_pageNames a_p2_speed a_p2_letters a_p2_room a_p2_now a_p2_rounds v_p1_filled v_p1_end u2 u3 u4 u5 u6 u7 v_p1_faultKind v_p1_faultPlace v_p1_keys v_p1_tape v_p2_cells v_p2_secrets v_p2_pages v_p2_blind v_p2_rubs v_p2_cellNames v_p2_letters v_p2_pageNames v_p2_secretNames) H := hP
    refine lv_aload_n hx hb dX2_takeSecret_20 rfl (lv_at hl 0 rfl) ?_
    refine lv_aload_n hx hb dX2_takeSecret_21 rfl (lv_at hl 1 rfl) ?_
    obtain ⟨⟨r9, u10, u11, u12, u13, u14, u15, u16, u17⟩, c18, hf⟩ := bd_of hf
    dsimp only at hf
    have hPc := hP.sub (ws' := (k_X2_newName T a_p1 a_p1_tape a_p1_keys a_p2 a_p2_cellNames a_p2_secretNames a_p2_pageNames a_p2_speed a_p2_letters a_p2_room a_p2_now a_p2_rounds v_p1_filled v_p1_end u2 u3 u4 u5 u6 u7 v_p1_faultKind v_p1_faultPlace v_p1_keys v_p1_tape v_p2_cells v_p2_secrets v_p2_pages v_p2_blind v_p2_rubs v_p2_cellNames v_p2_pageNames v_p2_secretNames)) [0, 1, 2, 3, 4, 6, 7] rfl
    have hDc := (mp_D_of (w1 := (k_X2_takeSecret T a_p1 a_p1_tape a_p1_keys a_p2 a_p2_cellNames a_p2_secretNames a_p2_pageNames a_p2_speed a_p2_letters a_p2_room a_p2_now a_p2_rounds v_p1_filled v_p1_end u2 u3 u4 u5 u6 u7 v_p1_faultKind v_p1_faultPlace v_p1_keys v_p1_tape v_p2_cells v_p2_secrets v_p2_pages v_p2_blind v_p2_rubs v_p2_cellNames v_p2_letters v_p2_pageNames v_p2_secretNames)) hD rfl).sub (ws' := (k_X2_newName T a_p1 a_p1_tape a_p1_keys a_p2 a_p2_cellNames a_p2_secretNames a_p2_pageNames a_p2_speed a_p2_letters a_p2_room a_p2_now a_p2_rounds v_p1_filled v_p1_end u2 u3 u4 u5 u6 u7 v_p1_faultKind v_p1_faultPlace v_p1_keys v_p1_tape v_p2_cells v_p2_secrets v_p2_pages v_p2_blind v_p2_rubs v_p2_cellNames v_p2_pageNames v_p2_secretNames)) [0, 1, 2, 3, 4, 6, 7] rfl rfl
    refine mp_calll2 (isC := [0, 1, 2, 3, 4, 6, 7]) (isO := [5]) (wc := (k_X2_newName T a_p1 a_p1_tape a_p1_keys a_p2 a_p2_cellNames a_p2_secretNames a_p2_pageNames a_p2_speed a_p2_letters a_p2_room a_p2_now a_p2_rounds v_p1_filled v_p1_end u2 u3 u4 u5 u6 u7 v_p1_faultKind v_p1_faultPlace v_p1_keys v_p1_tape v_p2_cells v_p2_secrets v_p2_pages v_p2_blind v_p2_rubs v_p2_cellNames v_p2_pageNames v_p2_secretNames)) (w1 := (k_X2_newName T a_p1 a_p1_tape a_p1_keys a_p2 a_p2_cellNames a_p2_secretNames a_p2_pageNames a_p2_speed a_p2_letters a_p2_room a_p2_now a_p2_rounds v_p1_filled v_p1_end u10 u11 u12 u13 u14 u15 u16 u17 v_p1_keys v_p1_tape v_p2_cells v_p2_secrets v_p2_pages v_p2_blind v_p2_rubs v_p2_cellNames v_p2_pageNames v_p2_secretNames)) (wo := [(a_p2_letters, mp_aI T 6 v_p2_letters)]) (w2 := (k_X2_takeSecret T a_p1 a_p1_tape a_p1_keys a_p2 a_p2_cellNames a_p2_secretNames a_p2_pageNames a_p2_speed a_p2_letters a_p2_room a_p2_now a_p2_rounds v_p1_filled v_p1_end u10 u11 u12 u13 u14 u15 u16 u17 v_p1_keys v_p1_tape v_p2_cells v_p2_secrets v_p2_pages v_p2_blind v_p2_rubs v_p2_cellNames v_p2_letters v_p2_pageNames v_p2_secretNames)) (n := 8) hP (mp_D_of hD rfl) hS hA rfl rfl rfl rfl rfl rfl (by decide +kernel) (mp_runS (As := [.ref a_p1, .ref a_p2]) (rest := []) X me_X2_newName lk_X2_78 (c_X2_newName l D T fu a_p1 a_p1_tape a_p1_keys a_p2 a_p2_cellNames a_p2_secretNames a_p2_pageNames a_p2_speed a_p2_letters a_p2_room a_p2_now a_p2_rounds v_p1_filled v_p2_blind v_p2_rubs v_p1_end u2 u3 u4 u5 u6 u7 v_p1_faultKind v_p1_faultPlace v_p1_keys v_p1_tape v_p2_cells v_p2_secrets v_p2_pages v_p2_cellNames v_p2_pageNames v_p2_secretNames r9 u10 u11 u12 u13 u14 u15 u16 u17 c18) rfl rfl ⟨(Nat.le_of_ble_eq_true rfl), (Nat.le_of_ble_eq_true rfl)⟩ hK hPc hDc rfl hl.1 rfl (Nat.le_of_ble_eq_true rfl) dX2_takeSecret_22 ⟨Nat.zero_le _, Nat.zero_le _⟩) (fun H locs hP _ hS => ?_)
    refine lv_lstore_n (lv' := [(2, .long r9), (0, .ref a_p1), (1, .ref a_p2)]) hx hb dX2_takeSecret_25 rfl hl (by decide) rfl (fun ls hl => ?_)
    refine lv_lload_n hx hb dX2_takeSecret_26 rfl (lv_at hl 0 rfl) ?_
    refine lv_ldc2 (v := (-1 : Int64)) hx hb hown (hts _ (cw_X2_69)) dX2_takeSecret_27 ?_
    refine W.lcmp hx hb dX2_takeSecret_30 ?_
    refine lv_if_ne (tgt := 38) hx hb dX2_takeSecret_31 (by decide) (fun h19 => ?_) (fun h19 => ?_)
    · replace hf := if_f hf h19
      refine lv_aload_n hx hb dX2_takeSecret_38 rfl (lv_at hl 1 rfl) ?_
      refine lv_iconst (v := (nI 5)) hx hb dX2_takeSecret_39 (by decide) ?_
      refine lv_iconst (v := (nI 1)) hx hb dX2_takeSecret_40 (by decide) ?_
      refine lv_bipush (v := (nI 20)) hx hb dX2_takeSecret_41 (by decide) ?_
      obtain ⟨⟨r20, u21, u22, u23, u24, u25, u26, u27, u28⟩, c29, hf⟩ := bd_of hf
      dsimp only at hf
      have hPc := hP.sub (ws' := (k_X2_lastNumber T a_p1 a_p1_tape a_p1_keys v_p1_filled v_p1_end u10 u11 u12 u13 u14 u15 u16 u17 v_p1_keys v_p1_tape)) [0, 1, 2] rfl
      have hDc := (mp_D_of (w1 := (k_X2_takeSecret T a_p1 a_p1_tape a_p1_keys a_p2 a_p2_cellNames a_p2_secretNames a_p2_pageNames a_p2_speed a_p2_letters a_p2_room a_p2_now a_p2_rounds v_p1_filled v_p1_end u10 u11 u12 u13 u14 u15 u16 u17 v_p1_keys v_p1_tape v_p2_cells v_p2_secrets v_p2_pages v_p2_blind v_p2_rubs v_p2_cellNames v_p2_letters v_p2_pageNames v_p2_secretNames)) hD rfl).sub (ws' := (k_X2_lastNumber T a_p1 a_p1_tape a_p1_keys v_p1_filled v_p1_end u10 u11 u12 u13 u14 u15 u16 u17 v_p1_keys v_p1_tape)) [0, 1, 2] rfl rfl
      refine mp_calli (isC := [0, 1, 2]) (wc := (k_X2_lastNumber T a_p1 a_p1_tape a_p1_keys v_p1_filled v_p1_end u10 u11 u12 u13 u14 u15 u16 u17 v_p1_keys v_p1_tape)) (w1 := (k_X2_lastNumber T a_p1 a_p1_tape a_p1_keys v_p1_filled v_p1_end u21 u22 u23 u24 u25 u26 u27 u28 v_p1_keys v_p1_tape)) hP (mp_D_of hD rfl) hS hA rfl rfl (mp_runS (As := [.ref a_p1, .int (nI 5), .int (nI 1), .int (nI 20)]) (rest := []) X me_X2_lastNumber lk_X2_100 (c_X2_lastNumber l D T fu a_p1 a_p1_tape a_p1_keys (nI 5) (nI 1) (nI 20) v_p1_filled v_p1_end u10 u11 u12 u13 u14 u15 u16 u17 v_p1_keys v_p1_tape r20 u21 u22 u23 u24 u25 u26 u27 u28 c29) rfl rfl ⟨(Nat.le_of_ble_eq_true rfl), (Nat.le_of_ble_eq_true rfl)⟩ hK hPc hDc rfl hl.1 rfl (Nat.le_of_ble_eq_true rfl) dX2_takeSecret_43 ⟨Nat.zero_le _, Nat.zero_le _⟩) (fun H locs hP _ hS => ?_)
      replace hP : va_P D mp_cl (k_X2_takeSecret T a_p1 a_p1_tape a_p1_keys a_p2 a_p2_cellNames a_p2_secretNames a_p2_pageNames a_p2_speed a_p2_letters a_p2_room a_p2_now a_p2_rounds v_p1_filled v_p1_end u21 u22 u23 u24 u25 u26 u27 u28 v_p1_keys v_p1_tape v_p2_cells v_p2_secrets v_p2_pages v_p2_blind v_p2_rubs v_p2_cellNames v_p2_letters v_p2_pageNames v_p2_secretNames) H := hP
      exact w_X2_takeSecret_46 X hK hA  fu a_p1 a_p1_tape a_p1_keys a_p2 a_p2_cellNames a_p2_secretNames a_p2_pageNames a_p2_speed a_p2_letters a_p2_room a_p2_now a_p2_rounds v_p1_filled v_p2_blind v_p2_rubs v_p1_end v_p1_keys v_p1_tape v_p2_cells v_p2_pages v_p2_cellNames v_p2_pageNames r_ o_p1_at o_p1_kind o_p1_place o_p1_word o_p1_key o_p1_number o_p1_faultKind o_p1_faultPlace o_p2_secrets o_p2_letters o_p2_secretNames   r9 r20 u21 u22 u23 u24 u25 u26 u27 u28 v_p2_secrets v_p2_letters v_p2_secretNames hf _ _ _ hP (mp_D_of hD rfl) hS (lv_sub hl [2, 0] rfl)
    · replace hf := if_t hf h19
      refine lv_iconst (v := (-1 : Int32)) hx hb dX2_takeSecret_34 (by decide) ?_
      refine lv_goto (tgt := 46) hx hb dX2_takeSecret_35 (by decide) ?_
      exact w_X2_takeSecret_46 X hK hA  fu a_p1 a_p1_tape a_p1_keys a_p2 a_p2_cellNames a_p2_secretNames a_p2_pageNames a_p2_speed a_p2_letters a_p2_room a_p2_now a_p2_rounds v_p1_filled v_p2_blind v_p2_rubs v_p1_end v_p1_keys v_p1_tape v_p2_cells v_p2_pages v_p2_cellNames v_p2_pageNames r_ o_p1_at o_p1_kind o_p1_place o_p1_word o_p1_key o_p1_number o_p1_faultKind o_p1_faultPlace o_p2_secrets o_p2_letters o_p2_secretNames   r9 (-1 : Int32) u10 u11 u12 u13 u14 u15 u16 u17 v_p2_secrets v_p2_letters v_p2_secretNames hf _ _ _ hP (mp_D_of hD rfl) hS (lv_sub hl [2, 0] rfl)
  · replace hf := if_f hf h1
    refine lv_aload_n hx hb dX2_takeSecret_9 rfl (lv_at hl 0 rfl) ?_
    refine lv_bipush (v := (nI 6)) hx hb dX2_takeSecret_10 (by decide) ?_
    obtain ⟨⟨r30, u31, u32⟩, c33, hf⟩ := bd_of hf
    dsimp only at hf
    have hPc := hP.sub (ws' := (k_X8_fail T a_p1 a_p1_tape a_p1_keys v_p1_filled v_p1_end v_p1_at v_p1_kind v_p1_place v_p1_word v_p1_key v_p1_number v_p1_faultKind v_p1_faultPlace)) [0] rfl
    have hDc := (mp_D_of (w1 := (k_X2_takeSecret T a_p1 a_p1_tape a_p1_keys a_p2 a_p2_cellNames a_p2_secretNames a_p2_pageNames a_p2_speed a_p2_letters a_p2_room a_p2_now a_p2_rounds v_p1_filled v_p1_end v_p1_at v_p1_kind v_p1_place v_p1_word v_p1_key v_p1_number v_p1_faultKind v_p1_faultPlace v_p1_keys v_p1_tape v_p2_cells v_p2_secrets v_p2_pages v_p2_blind v_p2_rubs v_p2_cellNames v_p2_letters v_p2_pageNames v_p2_secretNames)) hD rfl).sub (ws' := (k_X8_fail T a_p1 a_p1_tape a_p1_keys v_p1_filled v_p1_end v_p1_at v_p1_kind v_p1_place v_p1_word v_p1_key v_p1_number v_p1_faultKind v_p1_faultPlace)) [0] rfl rfl
    refine mp_calli (isC := [0]) (wc := (k_X8_fail T a_p1 a_p1_tape a_p1_keys v_p1_filled v_p1_end v_p1_at v_p1_kind v_p1_place v_p1_word v_p1_key v_p1_number v_p1_faultKind v_p1_faultPlace)) (w1 := (k_X8_fail T a_p1 a_p1_tape a_p1_keys v_p1_filled v_p1_end v_p1_at v_p1_kind v_p1_place v_p1_word v_p1_key v_p1_number u31 u32)) hP (mp_D_of hD rfl) hS hA rfl rfl (mp_runV (As := [.int (nI 6)]) (rest := []) X me_X8_fail lk_X2_48 (c_X8_fail l D T a_p1 a_p1_tape a_p1_keys (nI 6) v_p1_filled v_p1_end v_p1_at v_p1_word v_p1_key v_p1_number v_p1_kind v_p1_place v_p1_faultKind v_p1_faultPlace r30 u31 u32 c33) rfl rfl ⟨(Nat.le_of_ble_eq_true rfl), (Nat.le_of_ble_eq_true rfl)⟩ hK hPc hDc rfl rfl rfl rfl hl.1 rfl (Nat.le_of_ble_eq_true rfl) dX2_takeSecret_12 ⟨Nat.zero_le _, Nat.zero_le _⟩) (fun H locs hP _ hS => ?_)
    replace hP : va_P D mp_cl (k_X2_takeSecret T a_p1 a_p1_tape a_p1_keys a_p2 a_p2_cellNames a_p2_secretNames a_p2_pageNames a_p2_speed a_p2_letters a_p2_room a_p2_now a_p2_rounds v_p1_filled v_p1_end v_p1_at v_p1_kind v_p1_place v_p1_word v_p1_key v_p1_number u31 u32 v_p1_keys v_p1_tape v_p2_cells v_p2_secrets v_p2_pages v_p2_blind v_p2_rubs v_p2_cellNames v_p2_letters v_p2_pageNames v_p2_secretNames) H := hP
    obtain ⟨h34, hf⟩ := gd_of hf
    cases hf
    exact mp_retz X hP hS rfl h34 dX2_takeSecret_15


def k_X2_takePage (T : Nat → ClassId) (a_p1 a_p1_tape a_p1_keys a_p2 a_p2_cellNames a_p2_secretNames a_p2_pageNames a_p2_speed a_p2_letters a_p2_room a_p2_now a_p2_rounds : Nat) (v_p1_filled : Int32) (v_p1_end : Int32) (v_p1_at : Int32) (v_p1_kind : Int32) (v_p1_place : Int32) (v_p1_word : Int64) (v_p1_key : Int32) (v_p1_number : Int32) (v_p1_faultKind : Int32) (v_p1_faultPlace : Int32) (v_p1_keys : (Nat → Int64)) (v_p1_tape : (Nat → Int32)) (v_p2_cells : Int32) (v_p2_secrets : Int32) (v_p2_pages : Int32) (v_p2_blind : Int32) (v_p2_rubs : Int32) (v_p2_cellNames : (Nat → Int64)) (v_p2_pageNames : (Nat → Int64)) (v_p2_room : (Nat → Int32)) (v_p2_secretNames : (Nat → Int64)) : va_W := [(a_p1, oX8 a_p1_tape v_p1_filled v_p1_end v_p1_at v_p1_kind v_p1_place v_p1_word v_p1_key v_p1_number v_p1_faultKind v_p1_faultPlace a_p1_keys), (a_p1_keys, mp_aJ T 24 v_p1_keys), (a_p1_tape, mp_aB T 900 v_p1_tape), (a_p2, oX1 v_p2_cells v_p2_secrets v_p2_pages a_p2_cellNames a_p2_secretNames a_p2_pageNames a_p2_speed v_p2_blind v_p2_rubs a_p2_letters a_p2_room a_p2_now a_p2_rounds), (a_p2_cellNames, mp_aJ T 8 v_p2_cellNames), (a_p2_pageNames, mp_aJ T 6 v_p2_pageNames), (a_p2_room, mp_aI T 6 v_p2_room), (a_p2_secretNames, mp_aJ T 6 v_p2_secretNames)]
set_option maxHeartbeats 4000000 in
set_option maxRecDepth 100000 in
theorem w_X2_takePage_47 {p : Program} {l : Launch} {e : Env} {s : State} {m : MethodId} {args : Array Value} {below : List Frame} {meth : Method} {c : Code} {D : va_G} {T : Nat → ClassId} {A : Nat → Prop} (X : mp_X p s m meth c args RX2 "takePage" cX2_takePage 5 (some .boolean)) (hK : va_K D mp_cl (mp_ty T) s) (hA : ∀ q, s.heap.size ≤ q → A q) (fu : Nat) (a_p1 a_p1_tape a_p1_keys a_p2 a_p2_cellNames a_p2_secretNames a_p2_pageNames a_p2_speed a_p2_letters a_p2_room a_p2_now a_p2_rounds : Nat) (v_p1_filled : Int32) (v_p2_blind : Int32) (v_p2_rubs : Int32) (v_p1_end : Int32) (v_p1_keys : (Nat → Int64)) (v_p1_tape : (Nat → Int32)) (v_p2_cells : Int32) (v_p2_secrets : Int32) (v_p2_cellNames : (Nat → Int64)) (v_p2_secretNames : (Nat → Int64)) (r_ : Int32) (o_p1_at : Int32) (o_p1_kind : Int32) (o_p1_place : Int32) (o_p1_word : Int64) (o_p1_key : Int32) (o_p1_number : Int32) (o_p1_faultKind : Int32) (o_p1_faultPlace : Int32) (o_p2_pages : Int32) (o_p2_pageNames : (Nat → Int64)) (o_p2_room : (Nat → Int32)) :
    ∀  (z2 : Int64) (w0 : Int32) (v_p1_at : Int32) (v_p1_kind : Int32) (v_p1_place : Int32) (v_p1_word : Int64) (v_p1_key : Int32) (v_p1_number : Int32) (v_p1_faultKind : Int32) (v_p1_faultPlace : Int32) (v_p2_pages : Int32) (v_p2_pageNames : (Nat → Int64)) (v_p2_room : (Nat → Int32)), f_X2_takePage_47 fu v_p1_end v_p1_keys v_p1_tape v_p2_cells v_p2_secrets v_p2_cellNames v_p2_secretNames  z2 w0 v_p1_at v_p1_kind v_p1_place v_p1_word v_p1_key v_p1_number v_p1_faultKind v_p1_faultPlace v_p2_pages v_p2_pageNames v_p2_room = some (r_, o_p1_at, o_p1_kind, o_p1_place, o_p1_word, o_p1_key, o_p1_number, o_p1_faultKind, o_p1_faultPlace, o_p2_pages, o_p2_pageNames, o_p2_room) → ∀ (H : Heap) (locs : List Loc) (ls : Array Slot), va_P D mp_cl (k_X2_takePage T a_p1 a_p1_tape a_p1_keys a_p2 a_p2_cellNames a_p2_secretNames a_p2_pageNames a_p2_speed a_p2_letters a_p2_room a_p2_now a_p2_rounds v_p1_filled v_p1_end v_p1_at v_p1_kind v_p1_place v_p1_word v_p1_key v_p1_number v_p1_faultKind v_p1_faultPlace v_p1_keys v_p1_tape v_p2_cells v_p2_secrets v_p2_pages v_p2_blind v_p2_rubs v_p2_cellNames v_p2_pageNames v_p2_room v_p2_secretNames) H → va_D A (k_X2_takePage T a_p1 a_p1_tape a_p1_keys a_p2 a_p2_cellNames a_p2_secretNames a_p2_pageNames a_p2_speed a_p2_letters a_p2_room a_p2_now a_p2_rounds v_p1_filled v_p1_end v_p1_at v_p1_kind v_p1_place v_p1_word v_p1_key v_p1_number v_p1_faultKind v_p1_faultPlace v_p1_keys v_p1_tape v_p2_cells v_p2_secrets v_p2_pages v_p2_blind v_p2_rubs v_p2_cellNames v_p2_pageNames v_p2_room v_p2_secretNames) → va_S A s.heap H locs → lv_has ls 5 [(1, .ref a_p2), (2, .long z2)] → W p l e ({ frames := 5, cells := 0, slots := 0, locals := 112 }) s m args below meth c H locs 0 0 (MQ below ((mp_Qi D r_ (k_X2_takePage T a_p1 a_p1_tape a_p1_keys a_p2 a_p2_cellNames a_p2_secretNames a_p2_pageNames a_p2_speed a_p2_letters a_p2_room a_p2_now a_p2_rounds v_p1_filled v_p1_end o_p1_at o_p1_kind o_p1_place o_p1_word o_p1_key o_p1_number o_p1_faultKind o_p1_faultPlace v_p1_keys v_p1_tape v_p2_cells v_p2_secrets o_p2_pages v_p2_blind v_p2_rubs v_p2_cellNames o_p2_pageNames o_p2_room v_p2_secretNames)) A) args s 0 0 A) (F0 m 47 ls [.int w0]) := by
  have hx := X.1
  have hb := X.2.1
  have hml := X.2.2.1
  have hown := X.2.2.2.2.1
  have hts := X.2.2.2.2.2.1
  intro z2 w0 v_p1_at v_p1_kind v_p1_place v_p1_word v_p1_key v_p1_number v_p1_faultKind v_p1_faultPlace v_p2_pages v_p2_pageNames v_p2_room hf H locs ls hP hD hS hl
  replace hf : (if w0 = (-1 : Int32) then some ((nI 0), v_p1_at, v_p1_kind, v_p1_place, v_p1_word, v_p1_key, v_p1_number, v_p1_faultKind, v_p1_faultPlace, v_p2_pages, v_p2_pageNames, v_p2_room) else bd_ (f_X1_addPage z2 w0 v_p2_pages v_p2_pageNames v_p2_room) (fun (z : Int32 × (Nat → Int64) × (Nat → Int32)) => match z with | (u2, u3, u4) => some ((nI 1), v_p1_at, v_p1_kind, v_p1_place, v_p1_word, v_p1_key, v_p1_number, v_p1_faultKind, v_p1_faultPlace, u2, u3, u4))) = some (r_, o_p1_at, o_p1_kind, o_p1_place, o_p1_word, o_p1_key, o_p1_number, o_p1_faultKind, o_p1_faultPlace, o_p2_pages, o_p2_pageNames, o_p2_room) := hf
  refine lv_istore (lv' := [(4, .int w0), (1, .ref a_p2), (2, .long z2)]) hx hb dX2_takePage_47 hl (by decide) rfl (fun ls hl => ?_)
  refine lv_iload hx hb dX2_takePage_49 (lv_at hl 0 rfl) ?_
  refine lv_iconst (v := (-1 : Int32)) hx hb dX2_takePage_51 (by decide) ?_
  refine lv_icmp_ne (tgt := 57) hx hb dX2_takePage_52 (by decide) (fun h1 => ?_) (fun h1 => ?_)
  · replace hf := if_f hf h1
    refine lv_aload_n hx hb dX2_takePage_57 rfl (lv_at hl 1 rfl) ?_
    refine lv_lload_n hx hb dX2_takePage_58 rfl (lv_at hl 2 rfl) ?_
    refine lv_iload hx hb dX2_takePage_59 (lv_at hl 0 rfl) ?_
    obtain ⟨⟨u2, u3, u4⟩, c5, hf⟩ := bd_of hf
    dsimp only at hf
    have hPc := hP.sub (ws' := (k_X1_addPage T a_p2 a_p2_cellNames a_p2_secretNames a_p2_pageNames a_p2_speed a_p2_letters a_p2_room a_p2_now a_p2_rounds v_p2_cells v_p2_secrets v_p2_pages v_p2_blind v_p2_rubs v_p2_pageNames v_p2_room)) [3, 5, 6] rfl
    have hDc := (mp_D_of (w1 := (k_X2_takePage T a_p1 a_p1_tape a_p1_keys a_p2 a_p2_cellNames a_p2_secretNames a_p2_pageNames a_p2_speed a_p2_letters a_p2_room a_p2_now a_p2_rounds v_p1_filled v_p1_end v_p1_at v_p1_kind v_p1_place v_p1_word v_p1_key v_p1_number v_p1_faultKind v_p1_faultPlace v_p1_keys v_p1_tape v_p2_cells v_p2_secrets v_p2_pages v_p2_blind v_p2_rubs v_p2_cellNames v_p2_pageNames v_p2_room v_p2_secretNames)) hD rfl).sub (ws' := (k_X1_addPage T a_p2 a_p2_cellNames a_p2_secretNames a_p2_pageNames a_p2_speed a_p2_letters a_p2_room a_p2_now a_p2_rounds v_p2_cells v_p2_secrets v_p2_pages v_p2_blind v_p2_rubs v_p2_pageNames v_p2_room)) [3, 5, 6] rfl rfl
    refine mp_callv (isC := [3, 5, 6]) (wc := (k_X1_addPage T a_p2 a_p2_cellNames a_p2_secretNames a_p2_pageNames a_p2_speed a_p2_letters a_p2_room a_p2_now a_p2_rounds v_p2_cells v_p2_secrets v_p2_pages v_p2_blind v_p2_rubs v_p2_pageNames v_p2_room)) (w1 := (k_X1_addPage T a_p2 a_p2_cellNames a_p2_secretNames a_p2_pageNames a_p2_speed a_p2_letters a_p2_room a_p2_now a_p2_rounds v_p2_cells v_p2_secrets u2 v_p2_blind v_p2_rubs u3 u4)) hP (mp_D_of hD rfl) hS hA rfl rfl (mp_runV (As := [.long z2, .int w0]) (rest := []) X me_X1_addPage lk_X2_111 (c_X1_addPage l D T a_p2 a_p2_cellNames a_p2_secretNames a_p2_pageNames a_p2_speed a_p2_letters a_p2_room a_p2_now a_p2_rounds z2 w0 v_p2_cells v_p2_secrets v_p2_blind v_p2_rubs v_p2_pages v_p2_pageNames v_p2_room u2 u3 u4 c5) rfl rfl ⟨(Nat.le_of_ble_eq_true rfl), (Nat.le_of_ble_eq_true rfl)⟩ hK hPc hDc rfl rfl rfl rfl hl.1 rfl (Nat.le_of_ble_eq_true rfl) dX2_takePage_61 ⟨Nat.zero_le _, Nat.zero_le _⟩) (fun H locs hP _ hS => ?_)
    replace hP : va_P D mp_cl (k_X2_takePage T a_p1 a_p1_tape a_p1_keys a_p2 a_p2_cellNames a_p2_secretNames a_p2_pageNames a_p2_speed a_p2_letters a_p2_room a_p2_now a_p2_rounds v_p1_filled v_p1_end v_p1_at v_p1_kind v_p1_place v_p1_word v_p1_key v_p1_number v_p1_faultKind v_p1_faultPlace v_p1_keys v_p1_tape v_p2_cells v_p2_secrets u2 v_p2_blind v_p2_rubs v_p2_cellNames u3 u4 v_p2_secretNames) H := hP
    refine lv_iconst (v := (nI 1)) hx hb dX2_takePage_64 (by decide) ?_
    cases hf
    exact mp_retz X hP hS rfl (Or.inr rfl) dX2_takePage_65
  · replace hf := if_t hf h1
    refine lv_iconst (v := (nI 0)) hx hb dX2_takePage_55 (by decide) ?_
    cases hf
    exact mp_retz X hP hS rfl (Or.inl rfl) dX2_takePage_56

set_option maxHeartbeats 4000000 in
set_option maxRecDepth 100000 in
theorem c_X2_takePage (l : Launch) (D : va_G) (T : Nat → ClassId) (fu : Nat) (a_p1 a_p1_tape a_p1_keys a_p2 a_p2_cellNames a_p2_secretNames a_p2_pageNames a_p2_speed a_p2_letters a_p2_room a_p2_now a_p2_rounds : Nat) (v_p1_filled : Int32) (v_p2_blind : Int32) (v_p2_rubs : Int32) (v_p1_end : Int32) (v_p1_at : Int32) (v_p1_kind : Int32) (v_p1_place : Int32) (v_p1_word : Int64) (v_p1_key : Int32) (v_p1_number : Int32) (v_p1_faultKind : Int32) (v_p1_faultPlace : Int32) (v_p1_keys : (Nat → Int64)) (v_p1_tape : (Nat → Int32)) (v_p2_cells : Int32) (v_p2_secrets : Int32) (v_p2_pages : Int32) (v_p2_cellNames : (Nat → Int64)) (v_p2_pageNames : (Nat → Int64)) (v_p2_room : (Nat → Int32)) (v_p2_secretNames : (Nat → Int64)) (r_ : Int32) (o_p1_at : Int32) (o_p1_kind : Int32) (o_p1_place : Int32) (o_p1_word : Int64) (o_p1_key : Int32) (o_p1_number : Int32) (o_p1_faultKind : Int32) (o_p1_faultPlace : Int32) (o_p2_pages : Int32) (o_p2_pageNames : (Nat → Int64)) (o_p2_room : (Nat → Int32)) (hf : f_X2_takePage fu v_p1_end v_p1_at v_p1_kind v_p1_place v_p1_word v_p1_key v_p1_number v_p1_faultKind v_p1_faultPlace v_p1_keys v_p1_tape v_p2_cells v_p2_secrets v_p2_pages v_p2_cellNames v_p2_pageNames v_p2_room v_p2_secretNames = some (r_, o_p1_at, o_p1_kind, o_p1_place, o_p1_word, o_p1_key, o_p1_number, o_p1_faultKind, o_p1_faultPlace, o_p2_pages, o_p2_pageNames, o_p2_room)) :
    mp_M l D T yX2_takePage cX2_takePage 5 (some .boolean) ({ frames := 5, cells := 0, slots := 0, locals := 112 }) 0 0 [.ref a_p1, .ref a_p2] (k_X2_takePage T a_p1 a_p1_tape a_p1_keys a_p2 a_p2_cellNames a_p2_secretNames a_p2_pageNames a_p2_speed a_p2_letters a_p2_room a_p2_now a_p2_rounds v_p1_filled v_p1_end v_p1_at v_p1_kind v_p1_place v_p1_word v_p1_key v_p1_number v_p1_faultKind v_p1_faultPlace v_p1_keys v_p1_tape v_p2_cells v_p2_secrets v_p2_pages v_p2_blind v_p2_rubs v_p2_cellNames v_p2_pageNames v_p2_room v_p2_secretNames) (mp_Qi D r_ (k_X2_takePage T a_p1 a_p1_tape a_p1_keys a_p2 a_p2_cellNames a_p2_secretNames a_p2_pageNames a_p2_speed a_p2_letters a_p2_room a_p2_now a_p2_rounds v_p1_filled v_p1_end o_p1_at o_p1_kind o_p1_place o_p1_word o_p1_key o_p1_number o_p1_faultKind o_p1_faultPlace v_p1_keys v_p1_tape v_p2_cells v_p2_secrets o_p2_pages v_p2_blind v_p2_rubs v_p2_cellNames o_p2_pageNames o_p2_room v_p2_secretNames)) := by
  refine mp_of (by decide) (Nat.le_of_ble_eq_true rfl) rfl ?_
  intro p e s m args below meth c A ls X hK hP hD hS hA hl
  replace X : mp_X p s m meth c args RX2 "takePage" cX2_takePage 5 (some .boolean) := X
  have hx := X.1
  have hb := X.2.1
  have hml := X.2.2.1
  have hown := X.2.2.2.2.1
  have hts := X.2.2.2.2.2.1
  replace hl : lv_has ls 5 [(0, .ref a_p1), (1, .ref a_p2)] := hl
  replace hf : (if v_p2_pages < (nI 6) then bd_ (f_X8_forward fu v_p1_end v_p1_at v_p1_kind v_p1_place v_p1_word v_p1_key v_p1_number v_p1_keys v_p1_tape) (fun (z : Int32 × Int32 × Int32 × Int64 × Int32 × Int32) => match z with | (u2, u3, u4, u5, u6, u7) => bd_ (f_X2_newName fu v_p1_end u2 u3 u4 u5 u6 u7 v_p1_faultKind v_p1_faultPlace v_p1_keys v_p1_tape v_p2_cells v_p2_secrets v_p2_pages v_p2_cellNames v_p2_pageNames v_p2_secretNames) (fun (z : Int64 × Int32 × Int32 × Int32 × Int64 × Int32 × Int32 × Int32 × Int32) => match z with | (r9, u10, u11, u12, u13, u14, u15, u16, u17) => (if (lg_cmp r9 (-1 : Int64)) = 0 then f_X2_takePage_47 fu v_p1_end v_p1_keys v_p1_tape v_p2_cells v_p2_secrets v_p2_cellNames v_p2_secretNames  r9 (-1 : Int32) u10 u11 u12 u13 u14 u15 u16 u17 v_p2_pages v_p2_pageNames v_p2_room else bd_ (f_X2_lastNumber fu (nI 7) (nI 0) (nI 60) v_p1_end u10 u11 u12 u13 u14 u15 u16 u17 v_p1_keys v_p1_tape) (fun (z : Int32 × Int32 × Int32 × Int32 × Int64 × Int32 × Int32 × Int32 × Int32) => match z with | (r20, u21, u22, u23, u24, u25, u26, u27, u28) => f_X2_takePage_47 fu v_p1_end v_p1_keys v_p1_tape v_p2_cells v_p2_secrets v_p2_cellNames v_p2_secretNames  r9 r20 u21 u22 u23 u24 u25 u26 u27 u28 v_p2_pages v_p2_pageNames v_p2_room)))) else bd_ (f_X8_fail (nI 6) v_p1_kind v_p1_place v_p1_faultKind v_p1_faultPlace) (fun (z : Int32 × Int32 × Int32) => match z with | (r30, u31, u32) => gd_ (r30 = 0 ∨ r30 = 1) (some (r30, v_p1_at, v_p1_kind, v_p1_place, v_p1_word, v_p1_key, v_p1_number, u31, u32, v_p2_pages, v_p2_pageNames, v_p2_room)))) = some (r_, o_p1_at, o_p1_kind, o_p1_place, o_p1_word, o_p1_key, o_p1_number, o_p1_faultKind, o_p1_faultPlace, o_p2_pages, o_p2_pageNames, o_p2_room) := hf
  refine lv_aload_n hx hb dX2_takePage_0 rfl (lv_at hl 1 rfl) ?_
  refine mp_get X fl_X2_108 hK hP 3 rfl rfl dX2_takePage_1 ?_
  refine lv_bipush (v := (nI 6)) hx hb dX2_takePage_4 (by decide) ?_
  refine lv_icmp_lt (tgt := 16) hx hb dX2_takePage_6 (by decide) (fun h1 => ?_) (fun h1 => ?_)
  · replace hf := if_t hf h1
    refine lv_aload_n hx hb dX2_takePage_16 rfl (lv_at hl 0 rfl) ?_
    obtain ⟨⟨u2, u3, u4, u5, u6, u7⟩, c8, hf⟩ := bd_of hf
    dsimp only at hf
    have hPc := hP.sub (ws' := (k_X8_forward T a_p1 a_p1_tape a_p1_keys v_p1_filled v_p1_end v_p1_at v_p1_kind v_p1_place v_p1_word v_p1_key v_p1_number v_p1_faultKind v_p1_faultPlace v_p1_keys v_p1_tape)) [0, 1, 2] rfl
    have hDc := (mp_D_of (w1 := (k_X2_takePage T a_p1 a_p1_tape a_p1_keys a_p2 a_p2_cellNames a_p2_secretNames a_p2_pageNames a_p2_speed a_p2_letters a_p2_room a_p2_now a_p2_rounds v_p1_filled v_p1_end v_p1_at v_p1_kind v_p1_place v_p1_word v_p1_key v_p1_number v_p1_faultKind v_p1_faultPlace v_p1_keys v_p1_tape v_p2_cells v_p2_secrets v_p2_pages v_p2_blind v_p2_rubs v_p2_cellNames v_p2_pageNames v_p2_room v_p2_secretNames)) hD rfl).sub (ws' := (k_X8_forward T a_p1 a_p1_tape a_p1_keys v_p1_filled v_p1_end v_p1_at v_p1_kind v_p1_place v_p1_word v_p1_key v_p1_number v_p1_faultKind v_p1_faultPlace v_p1_keys v_p1_tape)) [0, 1, 2] rfl rfl
    refine mp_callv (isC := [0, 1, 2]) (wc := (k_X8_forward T a_p1 a_p1_tape a_p1_keys v_p1_filled v_p1_end v_p1_at v_p1_kind v_p1_place v_p1_word v_p1_key v_p1_number v_p1_faultKind v_p1_faultPlace v_p1_keys v_p1_tape)) (w1 := (k_X8_forward T a_p1 a_p1_tape a_p1_keys v_p1_filled v_p1_end u2 u3 u4 u5 u6 u7 v_p1_faultKind v_p1_faultPlace v_p1_keys v_p1_tape)) hP (mp_D_of hD rfl) hS hA rfl rfl (mp_runV (As := []) (rest := []) X me_X8_forward lk_X2_75 (c_X8_forward l D T fu a_p1 a_p1_tape a_p1_keys v_p1_filled v_p1_faultKind v_p1_faultPlace v_p1_end v_p1_at v_p1_kind v_p1_place v_p1_word v_p1_key v_p1_number v_p1_keys v_p1_tape u2 u3 u4 u5 u6 u7 c8) rfl rfl ⟨(Nat.le_of_ble_eq_true rfl), (Nat.le_of_ble_eq_true rfl)⟩ hK hPc hDc rfl rfl rfl rfl hl.1 rfl (Nat.le_of_ble_eq_true rfl) dX2_takePage_17 ⟨Nat.zero_le _, Nat.zero_le _⟩) (fun H locs hP _ hS => ?_)
    replace hP : va_P D mp_cl (k_X2_takePage T a_p1 a_p1_tape a_p1_keys a_p2 a_p2_cellNames a_p2_secretNames a_p2_pageNames a_p2_speed a_p2_letters a_p2_room a_p2_now a_p2_rounds v_p1_filled v_p1_end u2 u3 u4 u5 u6 u7 v_p1_faultKind v_p1_faultPlace v_p1_keys v_p1_tape v_p2_cells v_p2_secrets v_p2_pages v_p2_blind v_p2_rubs v_p2_cellNames v_p2_pageNames v_p2_room v_p2_secretNames) H := hP
    refine lv_aload_n hx hb dX2_takePage_20 rfl (lv_at hl 0 rfl) ?_
    refine lv_aload_n hx hb dX2_takePage_21 rfl (lv_at hl 1 rfl) ?_
    obtain ⟨⟨r9, u10, u11, u12, u13, u14, u15, u16, u17⟩, c18, hf⟩ := bd_of hf
    dsimp only at hf
    have hPc := hP.sub (ws' := (k_X2_newName T a_p1 a_p1_tape a_p1_keys a_p2 a_p2_cellNames a_p2_secretNames a_p2_pageNames a_p2_speed a_p2_letters a_p2_room a_p2_now a_p2_rounds v_p1_filled v_p1_end u2 u3 u4 u5 u6 u7 v_p1_faultKind v_p1_faultPlace v_p1_keys v_p1_tape v_p2_cells v_p2_secrets v_p2_pages v_p2_blind v_p2_rubs v_p2_cellNames v_p2_pageNames v_p2_secretNames)) [0, 1, 2, 3, 4, 5, 7] rfl
    have hDc := (mp_D_of (w1 := (k_X2_takePage T a_p1 a_p1_tape a_p1_keys a_p2 a_p2_cellNames a_p2_secretNames a_p2_pageNames a_p2_speed a_p2_letters a_p2_room a_p2_now a_p2_rounds v_p1_filled v_p1_end u2 u3 u4 u5 u6 u7 v_p1_faultKind v_p1_faultPlace v_p1_keys v_p1_tape v_p2_cells v_p2_secrets v_p2_pages v_p2_blind v_p2_rubs v_p2_cellNames v_p2_pageNames v_p2_room v_p2_secretNames)) hD rfl).sub (ws' := (k_X2_newName T a_p1 a_p1_tape a_p1_keys a_p2 a_p2_cellNames a_p2_secretNames a_p2_pageNames a_p2_speed a_p2_letters a_p2_room a_p2_now a_p2_rounds v_p1_filled v_p1_end u2 u3 u4 u5 u6 u7 v_p1_faultKind v_p1_faultPlace v_p1_keys v_p1_tape v_p2_cells v_p2_secrets v_p2_pages v_p2_blind v_p2_rubs v_p2_cellNames v_p2_pageNames v_p2_secretNames)) [0, 1, 2, 3, 4, 5, 7] rfl rfl
    refine mp_calll2 (isC := [0, 1, 2, 3, 4, 5, 7]) (isO := [6]) (wc := (k_X2_newName T a_p1 a_p1_tape a_p1_keys a_p2 a_p2_cellNames a_p2_secretNames a_p2_pageNames a_p2_speed a_p2_letters a_p2_room a_p2_now a_p2_rounds v_p1_filled v_p1_end u2 u3 u4 u5 u6 u7 v_p1_faultKind v_p1_faultPlace v_p1_keys v_p1_tape v_p2_cells v_p2_secrets v_p2_pages v_p2_blind v_p2_rubs v_p2_cellNames v_p2_pageNames v_p2_secretNames)) (w1 := (k_X2_newName T a_p1 a_p1_tape a_p1_keys a_p2 a_p2_cellNames a_p2_secretNames a_p2_pageNames a_p2_speed a_p2_letters a_p2_room a_p2_now a_p2_rounds v_p1_filled v_p1_end u10 u11 u12 u13 u14 u15 u16 u17 v_p1_keys v_p1_tape v_p2_cells v_p2_secrets v_p2_pages v_p2_blind v_p2_rubs v_p2_cellNames v_p2_pageNames v_p2_secretNames)) (wo := [(a_p2_room, mp_aI T 6 v_p2_room)]) (w2 := (k_X2_takePage T a_p1 a_p1_tape a_p1_keys a_p2 a_p2_cellNames a_p2_secretNames a_p2_pageNames a_p2_speed a_p2_letters a_p2_room a_p2_now a_p2_rounds v_p1_filled v_p1_end u10 u11 u12 u13 u14 u15 u16 u17 v_p1_keys v_p1_tape v_p2_cells v_p2_secrets v_p2_pages v_p2_blind v_p2_rubs v_p2_cellNames v_p2_pageNames v_p2_room v_p2_secretNames)) (n := 8) hP (mp_D_of hD rfl) hS hA rfl rfl rfl rfl rfl rfl (by decide +kernel) (mp_runS (As := [.ref a_p1, .ref a_p2]) (rest := []) X me_X2_newName lk_X2_78 (c_X2_newName l D T fu a_p1 a_p1_tape a_p1_keys a_p2 a_p2_cellNames a_p2_secretNames a_p2_pageNames a_p2_speed a_p2_letters a_p2_room a_p2_now a_p2_rounds v_p1_filled v_p2_blind v_p2_rubs v_p1_end u2 u3 u4 u5 u6 u7 v_p1_faultKind v_p1_faultPlace v_p1_keys v_p1_tape v_p2_cells v_p2_secrets v_p2_pages v_p2_cellNames v_p2_pageNames v_p2_secretNames r9 u10 u11 u12 u13 u14 u15 u16 u17 c18) rfl rfl ⟨(Nat.le_of_ble_eq_true rfl), (Nat.le_of_ble_eq_true rfl)⟩ hK hPc hDc rfl hl.1 rfl (Nat.le_of_ble_eq_true rfl) dX2_takePage_22 ⟨Nat.zero_le _, Nat.zero_le _⟩) (fun H locs hP _ hS => ?_)
    refine lv_lstore_n (lv' := [(2, .long r9), (0, .ref a_p1), (1, .ref a_p2)]) hx hb dX2_takePage_25 rfl hl (by decide) rfl (fun ls hl => ?_)
    refine lv_lload_n hx hb dX2_takePage_26 rfl (lv_at hl 0 rfl) ?_
    refine lv_ldc2 (v := (-1 : Int64)) hx hb hown (hts _ (cw_X2_69)) dX2_takePage_27 ?_
    refine W.lcmp hx hb dX2_takePage_30 ?_
    refine lv_if_ne (tgt := 38) hx hb dX2_takePage_31 (by decide) (fun h19 => ?_) (fun h19 => ?_)
    · replace hf := if_f hf h19
      refine lv_aload_n hx hb dX2_takePage_38 rfl (lv_at hl 1 rfl) ?_
      refine lv_bipush (v := (nI 7)) hx hb dX2_takePage_39 (by decide) ?_
      refine lv_iconst (v := (nI 0)) hx hb dX2_takePage_41 (by decide) ?_
      refine lv_bipush (v := (nI 60)) hx hb dX2_takePage_42 (by decide) ?_
      obtain ⟨⟨r20, u21, u22, u23, u24, u25, u26, u27, u28⟩, c29, hf⟩ := bd_of hf
      dsimp only at hf
      have hPc := hP.sub (ws' := (k_X2_lastNumber T a_p1 a_p1_tape a_p1_keys v_p1_filled v_p1_end u10 u11 u12 u13 u14 u15 u16 u17 v_p1_keys v_p1_tape)) [0, 1, 2] rfl
      have hDc := (mp_D_of (w1 := (k_X2_takePage T a_p1 a_p1_tape a_p1_keys a_p2 a_p2_cellNames a_p2_secretNames a_p2_pageNames a_p2_speed a_p2_letters a_p2_room a_p2_now a_p2_rounds v_p1_filled v_p1_end u10 u11 u12 u13 u14 u15 u16 u17 v_p1_keys v_p1_tape v_p2_cells v_p2_secrets v_p2_pages v_p2_blind v_p2_rubs v_p2_cellNames v_p2_pageNames v_p2_room v_p2_secretNames)) hD rfl).sub (ws' := (k_X2_lastNumber T a_p1 a_p1_tape a_p1_keys v_p1_filled v_p1_end u10 u11 u12 u13 u14 u15 u16 u17 v_p1_keys v_p1_tape)) [0, 1, 2] rfl rfl
      refine mp_calli (isC := [0, 1, 2]) (wc := (k_X2_lastNumber T a_p1 a_p1_tape a_p1_keys v_p1_filled v_p1_end u10 u11 u12 u13 u14 u15 u16 u17 v_p1_keys v_p1_tape)) (w1 := (k_X2_lastNumber T a_p1 a_p1_tape a_p1_keys v_p1_filled v_p1_end u21 u22 u23 u24 u25 u26 u27 u28 v_p1_keys v_p1_tape)) hP (mp_D_of hD rfl) hS hA rfl rfl (mp_runS (As := [.ref a_p1, .int (nI 7), .int (nI 0), .int (nI 60)]) (rest := []) X me_X2_lastNumber lk_X2_100 (c_X2_lastNumber l D T fu a_p1 a_p1_tape a_p1_keys (nI 7) (nI 0) (nI 60) v_p1_filled v_p1_end u10 u11 u12 u13 u14 u15 u16 u17 v_p1_keys v_p1_tape r20 u21 u22 u23 u24 u25 u26 u27 u28 c29) rfl rfl ⟨(Nat.le_of_ble_eq_true rfl), (Nat.le_of_ble_eq_true rfl)⟩ hK hPc hDc rfl hl.1 rfl (Nat.le_of_ble_eq_true rfl) dX2_takePage_44 ⟨Nat.zero_le _, Nat.zero_le _⟩) (fun H locs hP _ hS => ?_)
      replace hP : va_P D mp_cl (k_X2_takePage T a_p1 a_p1_tape a_p1_keys a_p2 a_p2_cellNames a_p2_secretNames a_p2_pageNames a_p2_speed a_p2_letters a_p2_room a_p2_now a_p2_rounds v_p1_filled v_p1_end u21 u22 u23 u24 u25 u26 u27 u28 v_p1_keys v_p1_tape v_p2_cells v_p2_secrets v_p2_pages v_p2_blind v_p2_rubs v_p2_cellNames v_p2_pageNames v_p2_room v_p2_secretNames) H := hP
      exact w_X2_takePage_47 X hK hA  fu a_p1 a_p1_tape a_p1_keys a_p2 a_p2_cellNames a_p2_secretNames a_p2_pageNames a_p2_speed a_p2_letters a_p2_room a_p2_now a_p2_rounds v_p1_filled v_p2_blind v_p2_rubs v_p1_end v_p1_keys v_p1_tape v_p2_cells v_p2_secrets v_p2_cellNames v_p2_secretNames r_ o_p1_at o_p1_kind o_p1_place o_p1_word o_p1_key o_p1_number o_p1_faultKind o_p1_faultPlace o_p2_pages o_p2_pageNames o_p2_room   r9 r20 u21 u22 u23 u24 u25 u26 u27 u28 v_p2_pages v_p2_pageNames v_p2_room hf _ _ _ hP (mp_D_of hD rfl) hS (lv_sub hl [2, 0] rfl)
    · replace hf := if_t hf h19
      refine lv_iconst (v := (-1 : Int32)) hx hb dX2_takePage_34 (by decide) ?_
      refine lv_goto (tgt := 47) hx hb dX2_takePage_35 (by decide) ?_
      exact w_X2_takePage_47 X hK hA  fu a_p1 a_p1_tape a_p1_keys a_p2 a_p2_cellNames a_p2_secretNames a_p2_pageNames a_p2_speed a_p2_letters a_p2_room a_p2_now a_p2_rounds v_p1_filled v_p2_blind v_p2_rubs v_p1_end v_p1_keys v_p1_tape v_p2_cells v_p2_secrets v_p2_cellNames v_p2_secretNames r_ o_p1_at o_p1_kind o_p1_place o_p1_word o_p1_key o_p1_number o_p1_faultKind o_p1_faultPlace o_p2_pages o_p2_pageNames o_p2_room   r9 (-1 : Int32) u10 u11 u12 u13 u14 u15 u16 u17 v_p2_pages v_p2_pageNames v_p2_room hf _ _ _ hP (mp_D_of hD rfl) hS (lv_sub hl [2, 0] rfl)
  · replace hf := if_f hf h1
    refine lv_aload_n hx hb dX2_takePage_9 rfl (lv_at hl 0 rfl) ?_
    refine lv_bipush (v := (nI 6)) hx hb dX2_takePage_10 (by decide) ?_
    obtain ⟨⟨r30, u31, u32⟩, c33, hf⟩ := bd_of hf
    dsimp only at hf
    have hPc := hP.sub (ws' := (k_X8_fail T a_p1 a_p1_tape a_p1_keys v_p1_filled v_p1_end v_p1_at v_p1_kind v_p1_place v_p1_word v_p1_key v_p1_number v_p1_faultKind v_p1_faultPlace)) [0] rfl
    have hDc := (mp_D_of (w1 := (k_X2_takePage T a_p1 a_p1_tape a_p1_keys a_p2 a_p2_cellNames a_p2_secretNames a_p2_pageNames a_p2_speed a_p2_letters a_p2_room a_p2_now a_p2_rounds v_p1_filled v_p1_end v_p1_at v_p1_kind v_p1_place v_p1_word v_p1_key v_p1_number v_p1_faultKind v_p1_faultPlace v_p1_keys v_p1_tape v_p2_cells v_p2_secrets v_p2_pages v_p2_blind v_p2_rubs v_p2_cellNames v_p2_pageNames v_p2_room v_p2_secretNames)) hD rfl).sub (ws' := (k_X8_fail T a_p1 a_p1_tape a_p1_keys v_p1_filled v_p1_end v_p1_at v_p1_kind v_p1_place v_p1_word v_p1_key v_p1_number v_p1_faultKind v_p1_faultPlace)) [0] rfl rfl
    refine mp_calli (isC := [0]) (wc := (k_X8_fail T a_p1 a_p1_tape a_p1_keys v_p1_filled v_p1_end v_p1_at v_p1_kind v_p1_place v_p1_word v_p1_key v_p1_number v_p1_faultKind v_p1_faultPlace)) (w1 := (k_X8_fail T a_p1 a_p1_tape a_p1_keys v_p1_filled v_p1_end v_p1_at v_p1_kind v_p1_place v_p1_word v_p1_key v_p1_number u31 u32)) hP (mp_D_of hD rfl) hS hA rfl rfl (mp_runV (As := [.int (nI 6)]) (rest := []) X me_X8_fail lk_X2_48 (c_X8_fail l D T a_p1 a_p1_tape a_p1_keys (nI 6) v_p1_filled v_p1_end v_p1_at v_p1_word v_p1_key v_p1_number v_p1_kind v_p1_place v_p1_faultKind v_p1_faultPlace r30 u31 u32 c33) rfl rfl ⟨(Nat.le_of_ble_eq_true rfl), (Nat.le_of_ble_eq_true rfl)⟩ hK hPc hDc rfl rfl rfl rfl hl.1 rfl (Nat.le_of_ble_eq_true rfl) dX2_takePage_12 ⟨Nat.zero_le _, Nat.zero_le _⟩) (fun H locs hP _ hS => ?_)
    replace hP : va_P D mp_cl (k_X2_takePage T a_p1 a_p1_tape a_p1_keys a_p2 a_p2_cellNames a_p2_secretNames a_p2_pageNames a_p2_speed a_p2_letters a_p2_room a_p2_now a_p2_rounds v_p1_filled v_p1_end v_p1_at v_p1_kind v_p1_place v_p1_word v_p1_key v_p1_number u31 u32 v_p1_keys v_p1_tape v_p2_cells v_p2_secrets v_p2_pages v_p2_blind v_p2_rubs v_p2_cellNames v_p2_pageNames v_p2_room v_p2_secretNames) H := hP
    obtain ⟨h34, hf⟩ := gd_of hf
    cases hf
    exact mp_retz X hP hS rfl h34 dX2_takePage_15


def k_X8_oneOf (T : Nat → ClassId) (a_ a_tape a_keys a_p1 : Nat) (n1 : Nat) (v_filled : Int32) (v_end : Int32) (v_at : Int32) (v_kind : Int32) (v_place : Int32) (v_word : Int64) (v_key : Int32) (v_number : Int32) (v_faultKind : Int32) (v_faultPlace : Int32) (v_keys : (Nat → Int64)) (v_tape : (Nat → Int32)) (v_p1 : (Nat → Int64)) : va_W := [(a_, oX8 a_tape v_filled v_end v_at v_kind v_place v_word v_key v_number v_faultKind v_faultPlace a_keys), (a_keys, mp_aJ T 24 v_keys), (a_tape, mp_aB T 900 v_tape), (a_p1, mp_aJ T n1 v_p1)]
set_option maxHeartbeats 4000000 in
set_option maxRecDepth 100000 in
theorem c_X8_oneOf (l : Launch) (D : va_G) (T : Nat → ClassId) (fu : Nat) (a_ a_tape a_keys a_p1 : Nat) (n1 : Nat) (x2 : Int32) (v_filled : Int32) (v_end : Int32) (v_at : Int32) (v_kind : Int32) (v_place : Int32) (v_word : Int64) (v_key : Int32) (v_number : Int32) (v_faultKind : Int32) (v_faultPlace : Int32) (v_keys : (Nat → Int64)) (v_tape : (Nat → Int32)) (v_p1 : (Nat → Int64)) (r_ : Int32) (o_at : Int32) (o_kind : Int32) (o_place : Int32) (o_word : Int64) (o_key : Int32) (o_number : Int32) (o_faultKind : Int32) (o_faultPlace : Int32) (hf : f_X8_oneOf fu n1 x2 v_end v_at v_kind v_place v_word v_key v_number v_faultKind v_faultPlace v_keys v_tape v_p1 = some (r_, o_at, o_kind, o_place, o_word, o_key, o_number, o_faultKind, o_faultPlace)) :
    mp_M l D T yX8_oneOf cX8_oneOf 6 (some .int) ({ frames := 3, cells := 0, slots := 0, locals := 65 }) 0 0 [.ref a_, .ref a_p1, .int x2] (k_X8_oneOf T a_ a_tape a_keys a_p1 n1 v_filled v_end v_at v_kind v_place v_word v_key v_number v_faultKind v_faultPlace v_keys v_tape v_p1) (mp_Qi D r_ (k_X8_oneOf T a_ a_tape a_keys a_p1 n1 v_filled v_end o_at o_kind o_place o_word o_key o_number o_faultKind o_faultPlace v_keys v_tape v_p1)) := by
  refine mp_of (by decide) (Nat.le_of_ble_eq_true rfl) rfl ?_
  intro p e s m args below meth c A ls X hK hP hD hS hA hl
  replace X : mp_X p s m meth c args RX8 "oneOf" cX8_oneOf 6 (some .int) := X
  have hx := X.1
  have hb := X.2.1
  have hml := X.2.2.1
  have hown := X.2.2.2.2.1
  have hts := X.2.2.2.2.2.1
  replace hl : lv_has ls 6 [(0, .ref a_), (1, .ref a_p1), (2, .int x2)] := hl
  replace hf : bd_ (f_X8_nameHere v_kind v_place v_word v_key v_faultKind v_faultPlace) (fun (z : Int64 × Int32 × Int32) => match z with | (r1, u2, u3) => (if (lg_cmp r1 (-1 : Int64)) = 0 then some ((-1 : Int32), v_at, v_kind, v_place, v_word, v_key, v_number, u2, u3) else bd_ (f_X1_indexOf fu n1 x2 r1 v_p1) (fun (r6 : Int32) => (if r6 = (-1 : Int32) then bd_ (f_X8_fail (nI 3) v_kind v_place u2 u3) (fun (z : Int32 × Int32 × Int32) => match z with | (r16, u17, u18) => some ((-1 : Int32), v_at, v_kind, v_place, v_word, v_key, v_number, u17, u18)) else bd_ (f_X8_forward fu v_end v_at v_kind v_place v_word v_key v_number v_keys v_tape) (fun (z : Int32 × Int32 × Int32 × Int64 × Int32 × Int32) => match z with | (u9, u10, u11, u12, u13, u14) => some (r6, u9, u10, u11, u12, u13, u14, u2, u3)))))) = some (r_, o_at, o_kind, o_place, o_word, o_key, o_number, o_faultKind, o_faultPlace) := hf
  refine lv_aload_n hx hb dX8_oneOf_0 rfl (lv_at hl 0 rfl) ?_
  obtain ⟨⟨r1, u2, u3⟩, c4, hf⟩ := bd_of hf
  dsimp only at hf
  have hPc := hP.sub (ws' := (k_X8_nameHere T a_ a_tape a_keys v_filled v_end v_at v_kind v_place v_word v_key v_number v_faultKind v_faultPlace)) [0] rfl
  have hDc := (mp_D_of (w1 := (k_X8_oneOf T a_ a_tape a_keys a_p1 n1 v_filled v_end v_at v_kind v_place v_word v_key v_number v_faultKind v_faultPlace v_keys v_tape v_p1)) hD rfl).sub (ws' := (k_X8_nameHere T a_ a_tape a_keys v_filled v_end v_at v_kind v_place v_word v_key v_number v_faultKind v_faultPlace)) [0] rfl rfl
  refine mp_calll (isC := [0]) (wc := (k_X8_nameHere T a_ a_tape a_keys v_filled v_end v_at v_kind v_place v_word v_key v_number v_faultKind v_faultPlace)) (w1 := (k_X8_nameHere T a_ a_tape a_keys v_filled v_end v_at v_kind v_place v_word v_key v_number u2 u3)) hP (mp_D_of hD rfl) hS hA rfl rfl (mp_runV (As := []) (rest := []) X me_X8_nameHere lk_X8_101 (c_X8_nameHere l D T a_ a_tape a_keys v_filled v_end v_at v_number v_kind v_place v_word v_key v_faultKind v_faultPlace r1 u2 u3 c4) rfl rfl ⟨(Nat.le_of_ble_eq_true rfl), (Nat.le_of_ble_eq_true rfl)⟩ hK hPc hDc rfl rfl rfl rfl hl.1 rfl (Nat.le_of_ble_eq_true rfl) dX8_oneOf_1 ⟨Nat.zero_le _, Nat.zero_le _⟩) (fun H locs hP _ hS => ?_)
  replace hP : va_P D mp_cl (k_X8_oneOf T a_ a_tape a_keys a_p1 n1 v_filled v_end v_at v_kind v_place v_word v_key v_number u2 u3 v_keys v_tape v_p1) H := hP
  refine lv_lstore_n (lv' := [(3, .long r1), (0, .ref a_), (1, .ref a_p1), (2, .int x2)]) hx hb dX8_oneOf_4 rfl hl (by decide) rfl (fun ls hl => ?_)
  refine lv_lload_n hx hb dX8_oneOf_5 rfl (lv_at hl 0 rfl) ?_
  refine lv_ldc2 (v := (-1 : Int64)) hx hb hown (hts _ (cw_X8_31)) dX8_oneOf_6 ?_
  refine W.lcmp hx hb dX8_oneOf_9 ?_
  refine lv_if_ne (tgt := 15) hx hb dX8_oneOf_10 (by decide) (fun h5 => ?_) (fun h5 => ?_)
  · replace hf := if_f hf h5
    refine lv_aload_n hx hb dX8_oneOf_15 rfl (lv_at hl 2 rfl) ?_
    refine lv_iload_n hx hb dX8_oneOf_16 rfl (lv_at hl 3 rfl) ?_
    refine lv_lload_n hx hb dX8_oneOf_17 rfl (lv_at hl 0 rfl) ?_
    obtain ⟨r6, c7, hf⟩ := bd_of hf
    have hPc := hP.sub (ws' := (k_X1_indexOf T a_p1 n1 v_p1)) [3] rfl
    have hDc := (mp_D_of (w1 := (k_X8_oneOf T a_ a_tape a_keys a_p1 n1 v_filled v_end v_at v_kind v_place v_word v_key v_number u2 u3 v_keys v_tape v_p1)) hD rfl).sub (ws' := (k_X1_indexOf T a_p1 n1 v_p1)) [3] rfl rfl
    refine mp_calli (isC := [3]) (wc := (k_X1_indexOf T a_p1 n1 v_p1)) (w1 := (k_X1_indexOf T a_p1 n1 v_p1)) hP (mp_D_of hD rfl) hS hA rfl rfl (mp_runS (As := [.ref a_p1, .int x2, .long r1]) (rest := []) X me_X1_indexOf lk_X8_105 (c_X1_indexOf l D T fu a_p1 n1 x2 r1 v_p1 r6 c7) rfl rfl ⟨(Nat.le_of_ble_eq_true rfl), (Nat.le_of_ble_eq_true rfl)⟩ hK hPc hDc rfl hl.1 rfl (Nat.le_of_ble_eq_true rfl) dX8_oneOf_18 ⟨Nat.zero_le _, Nat.zero_le _⟩) (fun H locs hP _ hS => ?_)
    replace hP : va_P D mp_cl (k_X8_oneOf T a_ a_tape a_keys a_p1 n1 v_filled v_end v_at v_kind v_place v_word v_key v_number u2 u3 v_keys v_tape v_p1) H := hP
    refine lv_istore (lv' := [(5, .int r6), (3, .long r1), (0, .ref a_), (1, .ref a_p1), (2, .int x2)]) hx hb dX8_oneOf_21 hl (by decide) rfl (fun ls hl => ?_)
    refine lv_iload hx hb dX8_oneOf_23 (lv_at hl 0 rfl) ?_
    refine lv_iconst (v := (-1 : Int32)) hx hb dX8_oneOf_25 (by decide) ?_
    refine lv_icmp_ne (tgt := 37) hx hb dX8_oneOf_26 (by decide) (fun h8 => ?_) (fun h8 => ?_)
    · replace hf := if_f hf h8
      refine lv_aload_n hx hb dX8_oneOf_37 rfl (lv_at hl 2 rfl) ?_
      obtain ⟨⟨u9, u10, u11, u12, u13, u14⟩, c15, hf⟩ := bd_of hf
      dsimp only at hf
      have hPc := hP.sub (ws' := (k_X8_forward T a_ a_tape a_keys v_filled v_end v_at v_kind v_place v_word v_key v_number u2 u3 v_keys v_tape)) [0, 1, 2] rfl
      have hDc := (mp_D_of (w1 := (k_X8_oneOf T a_ a_tape a_keys a_p1 n1 v_filled v_end v_at v_kind v_place v_word v_key v_number u2 u3 v_keys v_tape v_p1)) hD rfl).sub (ws' := (k_X8_forward T a_ a_tape a_keys v_filled v_end v_at v_kind v_place v_word v_key v_number u2 u3 v_keys v_tape)) [0, 1, 2] rfl rfl
      refine mp_callv (isC := [0, 1, 2]) (wc := (k_X8_forward T a_ a_tape a_keys v_filled v_end v_at v_kind v_place v_word v_key v_number u2 u3 v_keys v_tape)) (w1 := (k_X8_forward T a_ a_tape a_keys v_filled v_end u9 u10 u11 u12 u13 u14 u2 u3 v_keys v_tape)) hP (mp_D_of hD rfl) hS hA rfl rfl (mp_runV (As := []) (rest := []) X me_X8_forward lk_X8_71 (c_X8_forward l D T fu a_ a_tape a_keys v_filled u2 u3 v_end v_at v_kind v_place v_word v_key v_number v_keys v_tape u9 u10 u11 u12 u13 u14 c15) rfl rfl ⟨(Nat.le_of_ble_eq_true rfl), (Nat.le_of_ble_eq_true rfl)⟩ hK hPc hDc rfl rfl rfl rfl hl.1 rfl (Nat.le_of_ble_eq_true rfl) dX8_oneOf_38 ⟨Nat.zero_le _, Nat.zero_le _⟩) (fun H locs hP _ hS => ?_)
      replace hP : va_P D mp_cl (k_X8_oneOf T a_ a_tape a_keys a_p1 n1 v_filled v_end u9 u10 u11 u12 u13 u14 u2 u3 v_keys v_tape v_p1) H := hP
      refine lv_iload hx hb dX8_oneOf_41 (lv_at hl 0 rfl) ?_
      cases hf
      exact mp_reti X hP hS rfl dX8_oneOf_43
    · replace hf := if_t hf h8
      refine lv_aload_n hx hb dX8_oneOf_29 rfl (lv_at hl 2 rfl) ?_
      refine lv_iconst (v := (nI 3)) hx hb dX8_oneOf_30 (by decide) ?_
      obtain ⟨⟨r16, u17, u18⟩, c19, hf⟩ := bd_of hf
      dsimp only at hf
      have hPc := hP.sub (ws' := (k_X8_fail T a_ a_tape a_keys v_filled v_end v_at v_kind v_place v_word v_key v_number u2 u3)) [0] rfl
      have hDc := (mp_D_of (w1 := (k_X8_oneOf T a_ a_tape a_keys a_p1 n1 v_filled v_end v_at v_kind v_place v_word v_key v_number u2 u3 v_keys v_tape v_p1)) hD rfl).sub (ws' := (k_X8_fail T a_ a_tape a_keys v_filled v_end v_at v_kind v_place v_word v_key v_number u2 u3)) [0] rfl rfl
      refine mp_calli (isC := [0]) (wc := (k_X8_fail T a_ a_tape a_keys v_filled v_end v_at v_kind v_place v_word v_key v_number u2 u3)) (w1 := (k_X8_fail T a_ a_tape a_keys v_filled v_end v_at v_kind v_place v_word v_key v_number u17 u18)) hP (mp_D_of hD rfl) hS hA rfl rfl (mp_runV (As := [.int (nI 3)]) (rest := []) X me_X8_fail lk_X8_98 (c_X8_fail l D T a_ a_tape a_keys (nI 3) v_filled v_end v_at v_word v_key v_number v_kind v_place u2 u3 r16 u17 u18 c19) rfl rfl ⟨(Nat.le_of_ble_eq_true rfl), (Nat.le_of_ble_eq_true rfl)⟩ hK hPc hDc rfl rfl rfl rfl hl.1 rfl (Nat.le_of_ble_eq_true rfl) dX8_oneOf_31 ⟨Nat.zero_le _, Nat.zero_le _⟩) (fun H locs hP _ hS => ?_)
      replace hP : va_P D mp_cl (k_X8_oneOf T a_ a_tape a_keys a_p1 n1 v_filled v_end v_at v_kind v_place v_word v_key v_number u17 u18 v_keys v_tape v_p1) H := hP
      refine lv_pop hx hb dX8_oneOf_34 rfl ?_
      refine lv_iconst (v := (-1 : Int32)) hx hb dX8_oneOf_35 (by decide) ?_
      cases hf
      exact mp_reti X hP hS rfl dX8_oneOf_36
  · replace hf := if_t hf h5
    refine lv_iconst (v := (-1 : Int32)) hx hb dX8_oneOf_13 (by decide) ?_
    cases hf
    exact mp_reti X hP hS rfl dX8_oneOf_14


