def k_X8_failAt (T : Nat → ClassId) (a_ a_tape a_keys : Nat) (v_filled : Int32) (v_end : Int32) (v_at : Int32) (v_kind : Int32) (v_place : Int32) (v_word : Int64) (v_key : Int32) (v_number : Int32) (v_faultKind : Int32) (v_faultPlace : Int32) : va_W := [(a_, oX8 a_tape v_filled v_end v_at v_kind v_place v_word v_key v_number v_faultKind v_faultPlace a_keys)]
set_option maxHeartbeats 4000000 in
set_option maxRecDepth 100000 in
theorem c_X8_failAt (l : Launch) (D : va_G) (T : Nat → ClassId) (a_ a_tape a_keys : Nat) (x1 : Int32) (x2 : Int32) (v_filled : Int32) (v_end : Int32) (v_at : Int32) (v_kind : Int32) (v_place : Int32) (v_word : Int64) (v_key : Int32) (v_number : Int32) (v_faultKind : Int32) (v_faultPlace : Int32) (r_ : Int32) (o_faultKind : Int32) (o_faultPlace : Int32) (hf : f_X8_failAt x1 x2 v_faultKind v_faultPlace = some (r_, o_faultKind, o_faultPlace)) :
    mp_M l D T yX8_failAt cX8_failAt 3 (some .boolean) ({ frames := 0, cells := 0, slots := 0, locals := 0 }) 0 0 [.ref a_, .int x1, .int x2] (k_X8_failAt T a_ a_tape a_keys v_filled v_end v_at v_kind v_place v_word v_key v_number v_faultKind v_faultPlace) (mp_Qi D r_ (k_X8_failAt T a_ a_tape a_keys v_filled v_end v_at v_kind v_place v_word v_key v_number o_faultKind o_faultPlace)) := by
  refine mp_of (by decide) (Nat.le_of_ble_eq_true rfl) rfl ?_
  intro p e s m args below meth c A ls X hK hP hD hS hA hl
  replace X : mp_X p s m meth c args RX8 "failAt" cX8_failAt 3 (some .boolean) := X
  have hx := X.1
  have hb := X.2.1
  have hml := X.2.2.1
  have hown := X.2.2.2.2.1
  have hts := X.2.2.2.2.2.1
  replace hl : lv_has ls 3 [(0, .ref a_), (1, .int x1), (2, .int x2)] := hl
  replace hf : some ((nI 0), x1, x2) = some (r_, o_faultKind, o_faultPlace) := hf
  refine lv_aload_n hx hb dX8_failAt_0 rfl (lv_at hl 0 rfl) ?_
  refine lv_iload_n hx hb dX8_failAt_1 rfl (lv_at hl 1 rfl) ?_
  refine mp_putf X fl_X8_43 fp_X8 rfl hK hP (mp_D_of hD rfl) hS 0 rfl rfl rfl (Nat.le_of_ble_eq_true rfl) dX8_failAt_2 (fun H locs hP _ hS => ?_)
  replace hP : va_P D mp_cl (k_X8_failAt T a_ a_tape a_keys v_filled v_end v_at v_kind v_place v_word v_key v_number x1 v_faultPlace) H := hP
  refine lv_aload_n hx hb dX8_failAt_5 rfl (lv_at hl 0 rfl) ?_
  refine lv_iload_n hx hb dX8_failAt_6 rfl (lv_at hl 2 rfl) ?_
  refine mp_putf X fl_X8_46 fp_X8 rfl hK hP (mp_D_of hD rfl) hS 0 rfl rfl rfl (Nat.le_of_ble_eq_true rfl) dX8_failAt_7 (fun H locs hP _ hS => ?_)
  replace hP : va_P D mp_cl (k_X8_failAt T a_ a_tape a_keys v_filled v_end v_at v_kind v_place v_word v_key v_number x1 x2) H := hP
  refine lv_iconst (v := (nI 0)) hx hb dX8_failAt_10 (by decide) ?_
  cases hf
  exact mp_retz X hP hS rfl (Or.inl rfl) dX8_failAt_11


def k_X8_fail (T : Nat → ClassId) (a_ a_tape a_keys : Nat) (v_filled : Int32) (v_end : Int32) (v_at : Int32) (v_kind : Int32) (v_place : Int32) (v_word : Int64) (v_key : Int32) (v_number : Int32) (v_faultKind : Int32) (v_faultPlace : Int32) : va_W := [(a_, oX8 a_tape v_filled v_end v_at v_kind v_place v_word v_key v_number v_faultKind v_faultPlace a_keys)]
set_option maxHeartbeats 4000000 in
set_option maxRecDepth 100000 in
theorem c_X8_fail (l : Launch) (D : va_G) (T : Nat → ClassId) (a_ a_tape a_keys : Nat) (x1 : Int32) (v_filled : Int32) (v_end : Int32) (v_at : Int32) (v_word : Int64) (v_key : Int32) (v_number : Int32) (v_kind : Int32) (v_place : Int32) (v_faultKind : Int32) (v_faultPlace : Int32) (r_ : Int32) (o_faultKind : Int32) (o_faultPlace : Int32) (hf : f_X8_fail x1 v_kind v_place v_faultKind v_faultPlace = some (r_, o_faultKind, o_faultPlace)) :
    mp_M l D T yX8_fail cX8_fail 2 (some .boolean) ({ frames := 1, cells := 0, slots := 0, locals := 22 }) 0 0 [.ref a_, .int x1] (k_X8_fail T a_ a_tape a_keys v_filled v_end v_at v_kind v_place v_word v_key v_number v_faultKind v_faultPlace) (mp_Qi D r_ (k_X8_fail T a_ a_tape a_keys v_filled v_end v_at v_kind v_place v_word v_key v_number o_faultKind o_faultPlace)) := by
  refine mp_of (by decide) (Nat.le_of_ble_eq_true rfl) rfl ?_
  intro p e s m args below meth c A ls X hK hP hD hS hA hl
  replace X : mp_X p s m meth c args RX8 "fail" cX8_fail 2 (some .boolean) := X
  have hx := X.1
  have hb := X.2.1
  have hml := X.2.2.1
  have hown := X.2.2.2.2.1
  have hts := X.2.2.2.2.2.1
  replace hl : lv_has ls 2 [(0, .ref a_), (1, .int x1)] := hl
  replace hf : (if v_kind = (nI 4) then bd_ (f_X8_failAt (nI 1) v_place v_faultKind v_faultPlace) (fun (z : Int32 × Int32 × Int32) => match z with | (r7, u8, u9) => gd_ (r7 = 0 ∨ r7 = 1) (some (r7, u8, u9))) else bd_ (f_X8_failAt x1 v_place v_faultKind v_faultPlace) (fun (z : Int32 × Int32 × Int32) => match z with | (r2, u3, u4) => gd_ (r2 = 0 ∨ r2 = 1) (some (r2, u3, u4)))) = some (r_, o_faultKind, o_faultPlace) := hf
  refine lv_aload_n hx hb dX8_fail_0 rfl (lv_at hl 0 rfl) ?_
  refine lv_aload_n hx hb dX8_fail_1 rfl (lv_at hl 0 rfl) ?_
  refine mp_get X fl_X8_25 hK hP 0 rfl rfl dX8_fail_2 ?_
  refine lv_iconst (v := (nI 4)) hx hb dX8_fail_5 (by decide) ?_
  refine lv_icmp_ne (tgt := 13) hx hb dX8_fail_6 (by decide) (fun h1 => ?_) (fun h1 => ?_)
  · replace hf := if_f hf h1
    refine lv_iload_n hx hb dX8_fail_13 rfl (lv_at hl 1 rfl) ?_
    refine lv_aload_n hx hb dX8_fail_14 rfl (lv_at hl 0 rfl) ?_
    refine mp_get X fl_X8_28 hK hP 0 rfl rfl dX8_fail_15 ?_
    obtain ⟨⟨r2, u3, u4⟩, c5, hf⟩ := bd_of hf
    dsimp only at hf
    have hPc := hP.sub (ws' := (k_X8_failAt T a_ a_tape a_keys v_filled v_end v_at v_kind v_place v_word v_key v_number v_faultKind v_faultPlace)) [0] rfl
    have hDc := (mp_D_of (w1 := (k_X8_fail T a_ a_tape a_keys v_filled v_end v_at v_kind v_place v_word v_key v_number v_faultKind v_faultPlace)) hD rfl).sub (ws' := (k_X8_failAt T a_ a_tape a_keys v_filled v_end v_at v_kind v_place v_word v_key v_number v_faultKind v_faultPlace)) [0] rfl rfl
    refine mp_calli (isC := [0]) (wc := (k_X8_failAt T a_ a_tape a_keys v_filled v_end v_at v_kind v_place v_word v_key v_number v_faultKind v_faultPlace)) (w1 := (k_X8_failAt T a_ a_tape a_keys v_filled v_end v_at v_kind v_place v_word v_key v_number u3 u4)) hP (mp_D_of hD rfl) hS hA rfl rfl (mp_runV (As := [.int x1, .int v_place]) (rest := []) X me_X8_failAt lk_X8_90 (c_X8_failAt l D T a_ a_tape a_keys x1 v_place v_filled v_end v_at v_kind v_place v_word v_key v_number v_faultKind v_faultPlace r2 u3 u4 c5) rfl rfl ⟨(Nat.le_of_ble_eq_true rfl), (Nat.le_of_ble_eq_true rfl)⟩ hK hPc hDc rfl rfl rfl rfl hl.1 rfl (Nat.le_of_ble_eq_true rfl) dX8_fail_18 ⟨Nat.zero_le _, Nat.zero_le _⟩) (fun H locs hP _ hS => ?_)
    replace hP : va_P D mp_cl (k_X8_fail T a_ a_tape a_keys v_filled v_end v_at v_kind v_place v_word v_key v_number u3 u4) H := hP
    obtain ⟨h6, hf⟩ := gd_of hf
    cases hf
    exact mp_retz X hP hS rfl h6 dX8_fail_21
  · replace hf := if_t hf h1
    refine lv_iconst (v := (nI 1)) hx hb dX8_fail_9 (by decide) ?_
    refine lv_goto (tgt := 14) hx hb dX8_fail_10 (by decide) ?_
    refine lv_aload_n hx hb dX8_fail_14 rfl (lv_at hl 0 rfl) ?_
    refine mp_get X fl_X8_28 hK hP 0 rfl rfl dX8_fail_15 ?_
    obtain ⟨⟨r7, u8, u9⟩, c10, hf⟩ := bd_of hf
    dsimp only at hf
    have hPc := hP.sub (ws' := (k_X8_failAt T a_ a_tape a_keys v_filled v_end v_at v_kind v_place v_word v_key v_number v_faultKind v_faultPlace)) [0] rfl
    have hDc := (mp_D_of (w1 := (k_X8_fail T a_ a_tape a_keys v_filled v_end v_at v_kind v_place v_word v_key v_number v_faultKind v_faultPlace)) hD rfl).sub (ws' := (k_X8_failAt T a_ a_tape a_keys v_filled v_end v_at v_kind v_place v_word v_key v_number v_faultKind v_faultPlace)) [0] rfl rfl
    refine mp_calli (isC := [0]) (wc := (k_X8_failAt T a_ a_tape a_keys v_filled v_end v_at v_kind v_place v_word v_key v_number v_faultKind v_faultPlace)) (w1 := (k_X8_failAt T a_ a_tape a_keys v_filled v_end v_at v_kind v_place v_word v_key v_number u8 u9)) hP (mp_D_of hD rfl) hS hA rfl rfl (mp_runV (As := [.int (nI 1), .int v_place]) (rest := []) X me_X8_failAt lk_X8_90 (c_X8_failAt l D T a_ a_tape a_keys (nI 1) v_place v_filled v_end v_at v_kind v_place v_word v_key v_number v_faultKind v_faultPlace r7 u8 u9 c10) rfl rfl ⟨(Nat.le_of_ble_eq_true rfl), (Nat.le_of_ble_eq_true rfl)⟩ hK hPc hDc rfl rfl rfl rfl hl.1 rfl (Nat.le_of_ble_eq_true rfl) dX8_fail_18 ⟨Nat.zero_le _, Nat.zero_le _⟩) (fun H locs hP _ hS => ?_)
    replace hP : va_P D mp_cl (k_X8_fail T a_ a_tape a_keys v_filled v_end v_at v_kind v_place v_word v_key v_number u8 u9) H := hP
    obtain ⟨h11, hf⟩ := gd_of hf
    cases hf
    exact mp_retz X hP hS rfl h11 dX8_fail_21


def k_X8_isLetter (T : Nat → ClassId) : va_W := []
set_option maxHeartbeats 4000000 in
set_option maxRecDepth 100000 in
theorem c_X8_isLetter (l : Launch) (D : va_G) (T : Nat → ClassId) (x1 : Int32) (r_ : Int32) (hf : f_X8_isLetter x1 = some r_) :
    mp_M l D T yX8_isLetter cX8_isLetter 1 (some .boolean) ({ frames := 0, cells := 0, slots := 0, locals := 0 }) 0 0 [.int x1] (k_X8_isLetter T ) (mp_Qi D r_ (k_X8_isLetter T )) := by
  refine mp_of (by decide) (Nat.le_of_ble_eq_true rfl) rfl ?_
  intro p e s m args below meth c A ls X hK hP hD hS hA hl
  replace X : mp_X p s m meth c args RX8 "isLetter" cX8_isLetter 1 (some .boolean) := X
  have hx := X.1
  have hb := X.2.1
  have hml := X.2.2.1
  have hown := X.2.2.2.2.1
  have hts := X.2.2.2.2.2.1
  replace hl : lv_has ls 1 [(0, .int x1)] := hl
  replace hf : (if x1 < (nI 97) then some ((nI 0)) else (if (nI 122) < x1 then some ((nI 0)) else some ((nI 1)))) = some r_ := hf
  refine lv_iload_n hx hb dX8_isLetter_0 rfl (lv_at hl 0 rfl) ?_
  refine lv_bipush (v := (nI 97)) hx hb dX8_isLetter_1 (by decide) ?_
  refine lv_icmp_lt (tgt := 16) hx hb dX8_isLetter_3 (by decide) (fun h1 => ?_) (fun h1 => ?_)
  · replace hf := if_t hf h1
    refine lv_iconst (v := (nI 0)) hx hb dX8_isLetter_16 (by decide) ?_
    cases hf
    exact mp_retz X hP hS rfl (Or.inl rfl) dX8_isLetter_17
  · replace hf := if_f hf h1
    refine lv_iload_n hx hb dX8_isLetter_6 rfl (lv_at hl 0 rfl) ?_
    refine lv_bipush (v := (nI 122)) hx hb dX8_isLetter_7 (by decide) ?_
    refine lv_icmp_gt (tgt := 16) hx hb dX8_isLetter_9 (by decide) (fun h2 => ?_) (fun h2 => ?_)
    · replace hf := if_t hf h2
      refine lv_iconst (v := (nI 0)) hx hb dX8_isLetter_16 (by decide) ?_
      cases hf
      exact mp_retz X hP hS rfl (Or.inl rfl) dX8_isLetter_17
    · replace hf := if_f hf h2
      refine lv_iconst (v := (nI 1)) hx hb dX8_isLetter_12 (by decide) ?_
      refine lv_goto (tgt := 17) hx hb dX8_isLetter_13 (by decide) ?_
      cases hf
      exact mp_retz X hP hS rfl (Or.inr rfl) dX8_isLetter_17


def k_X8_withLetter (T : Nat → ClassId) : va_W := []
set_option maxHeartbeats 4000000 in
set_option maxRecDepth 100000 in
theorem c_X8_withLetter (l : Launch) (D : va_G) (T : Nat → ClassId) (x1 : Int64) (x2 : Int32) (r_ : Int64) (hf : f_X8_withLetter x1 x2 = some r_) :
    mp_M l D T yX8_withLetter cX8_withLetter 3 (some .long) ({ frames := 0, cells := 0, slots := 0, locals := 0 }) 0 0 [.long x1, .int x2] (k_X8_withLetter T ) (mp_Ql D r_ (k_X8_withLetter T )) := by
  refine mp_of (by decide) (Nat.le_of_ble_eq_true rfl) rfl ?_
  intro p e s m args below meth c A ls X hK hP hD hS hA hl
  replace X : mp_X p s m meth c args RX8 "withLetter" cX8_withLetter 3 (some .long) := X
  have hx := X.1
  have hb := X.2.1
  have hml := X.2.2.1
  have hown := X.2.2.2.2.1
  have hts := X.2.2.2.2.2.1
  replace hl : lv_has ls 3 [(0, .long x1), (2, .int x2)] := hl
  replace hf : some ((x1 * (lN 32)) + ((x2 - (nI 97)) + (nI 1)).toInt64) = some r_ := hf
  refine lv_lload_n hx hb dX8_withLetter_0 rfl (lv_at hl 0 rfl) ?_
  refine lv_ldc2 (v := (lN 32)) hx hb hown (hts _ (cw_X8_69)) dX8_withLetter_1 ?_
  refine lv_lmul hx hb dX8_withLetter_4 ?_
  refine lv_iload_n hx hb dX8_withLetter_5 rfl (lv_at hl 1 rfl) ?_
  refine lv_bipush (v := (nI 97)) hx hb dX8_withLetter_6 (by decide) ?_
  refine lv_isub hx hb dX8_withLetter_8 ?_
  refine lv_iconst (v := (nI 1)) hx hb dX8_withLetter_9 (by decide) ?_
  refine lv_iadd hx hb dX8_withLetter_10 ?_
  refine lv_i2l hx hb dX8_withLetter_11 rfl ?_
  refine lv_ladd hx hb dX8_withLetter_12 ?_
  cases hf
  exact mp_retl X hP hS rfl dX8_withLetter_13


def k_X8_takeWord (T : Nat → ClassId) (a_ a_tape a_keys : Nat) (v_filled : Int32) (v_end : Int32) (v_at : Int32) (v_kind : Int32) (v_place : Int32) (v_word : Int64) (v_key : Int32) (v_number : Int32) (v_faultKind : Int32) (v_faultPlace : Int32) (v_keys : (Nat → Int64)) (v_tape : (Nat → Int32)) : va_W := [(a_, oX8 a_tape v_filled v_end v_at v_kind v_place v_word v_key v_number v_faultKind v_faultPlace a_keys), (a_keys, mp_aJ T 24 v_keys), (a_tape, mp_aB T 900 v_tape)]
set_option maxHeartbeats 4000000 in
set_option maxRecDepth 100000 in
theorem w_X8_takeWord_87 {p : Program} {l : Launch} {e : Env} {s : State} {m : MethodId} {args : Array Value} {below : List Frame} {meth : Method} {c : Code} {D : va_G} {T : Nat → ClassId} {A : Nat → Prop} (X : mp_X p s m meth c args RX8 "takeWord" cX8_takeWord 4 none) (hK : va_K D mp_cl (mp_ty T) s) (hA : ∀ q, s.heap.size ≤ q → A q) (fu : Nat) (a_ a_tape a_keys : Nat) (v_filled : Int32) (v_number : Int32) (v_faultKind : Int32) (v_faultPlace : Int32) (v_end : Int32) (v_place : Int32) (v_keys : (Nat → Int64)) (v_tape : (Nat → Int32)) (o_at : Int32) (o_kind : Int32) (o_word : Int64) (o_key : Int32) :
    ∀ (n : Nat) (z3 : Int32) (v_at : Int32) (v_kind : Int32) (v_word : Int64) (v_key : Int32), f_X8_takeWord_87 fu v_end v_place v_keys v_tape  n z3 v_at v_kind v_word v_key = some (o_at, o_kind, o_word, o_key) → ∀ (H : Heap) (locs : List Loc) (ls : Array Slot), va_P D mp_cl (k_X8_takeWord T a_ a_tape a_keys v_filled v_end v_at v_kind v_place v_word v_key v_number v_faultKind v_faultPlace v_keys v_tape) H → va_D A (k_X8_takeWord T a_ a_tape a_keys v_filled v_end v_at v_kind v_place v_word v_key v_number v_faultKind v_faultPlace v_keys v_tape) → va_S A s.heap H locs → lv_has ls 4 [(0, .ref a_), (3, .int z3)] → W p l e ({ frames := 1, cells := 0, slots := 0, locals := 22 }) s m args below meth c H locs 0 0 (MQ below ((mp_Qv D (k_X8_takeWord T a_ a_tape a_keys v_filled v_end o_at o_kind v_place o_word o_key v_number v_faultKind v_faultPlace v_keys v_tape)) A) args s 0 0 A) (F0 m 87 ls []) := by
  have hx := X.1
  have hb := X.2.1
  have hml := X.2.2.1
  have hown := X.2.2.2.2.1
  have hts := X.2.2.2.2.2.1
  intro n
  induction n with
  | zero => intro z3 v_at v_kind v_word v_key hf; exact absurd hf (by intro h; cases h)
  | succ n ih =>
    intro z3 v_at v_kind v_word v_key hf H locs ls hP hD hS hl
    replace hf : (if (nI 24) ≤ z3 then some (v_at, v_kind, v_word, v_key) else gi_ z3 24 ((if (lg_cmp (v_keys (z3).toNatClampNeg) v_word) = 0 then lt_ (z3 + (nI 1)) (fun (y5 : Int32) => f_X8_takeWord_87 fu v_end v_place v_keys v_tape  n y5 v_at v_kind v_word z3) else lt_ (z3 + (nI 1)) (fun (y4 : Int32) => f_X8_takeWord_87 fu v_end v_place v_keys v_tape  n y4 v_at v_kind v_word v_key)))) = some (o_at, o_kind, o_word, o_key) := hf
    refine lv_iload_n hx hb dX8_takeWord_87 rfl (lv_at hl 1 rfl) ?_
    refine lv_bipush (v := (nI 24)) hx hb dX8_takeWord_88 (by decide) ?_
    refine lv_icmp_ge (tgt := 118) hx hb dX8_takeWord_90 (by decide) (fun h1 => ?_) (fun h1 => ?_)
    · replace hf := if_t hf h1
      cases hf
      exact mp_retv X hP hS dX8_takeWord_118
    · replace hf := if_f hf h1
      refine lv_aload_n hx hb dX8_takeWord_93 rfl (lv_at hl 0 rfl) ?_
      refine mp_get X fl_X8_49 hK hP 0 rfl rfl dX8_takeWord_94 ?_
      refine lv_iload_n hx hb dX8_takeWord_97 rfl (lv_at hl 1 rfl) ?_
      obtain ⟨h2, hf⟩ := gi_of hf
      refine va_lald hx hb hK hP 1 1 rfl rfl h2 dX8_takeWord_98 ?_
      refine lv_aload_n hx hb dX8_takeWord_99 rfl (lv_at hl 0 rfl) ?_
      refine mp_get X fl_X8_33 hK hP 0 rfl rfl dX8_takeWord_100 ?_
      refine W.lcmp hx hb dX8_takeWord_103 ?_
      refine lv_if_ne (tgt := 112) hx hb dX8_takeWord_104 (by decide) (fun h3 => ?_) (fun h3 => ?_)
      · replace hf := if_f hf h3
        obtain ⟨y4, e4⟩ : ∃ y : Int32, y = z3 + (nI 1) := ⟨_, rfl⟩
        replace hf := lt_of e4 hf
        refine lv_iinc (v := y4) (lv' := [(3, .int y4), (0, .ref a_)]) hx hb dX8_takeWord_112 hl (k := 1) rfl (by rw [e4]; rfl) (by decide) rfl (fun ls hl => ?_)
        refine lv_goto (tgt := 87) hx hb dX8_takeWord_115 (by decide) ?_
        exact ih y4 v_at v_kind v_word v_key hf _ _ _ hP (mp_D_of hD rfl) hS (lv_sub hl [1, 0] rfl)
      · replace hf := if_t hf h3
        refine lv_aload_n hx hb dX8_takeWord_107 rfl (lv_at hl 0 rfl) ?_
        refine lv_iload_n hx hb dX8_takeWord_108 rfl (lv_at hl 1 rfl) ?_
        refine mp_putf X fl_X8_37 fp_X8 rfl hK hP (mp_D_of hD rfl) hS 0 rfl rfl rfl (Nat.le_of_ble_eq_true rfl) dX8_takeWord_109 (fun H locs hP _ hS => ?_)
        replace hP : va_P D mp_cl (k_X8_takeWord T a_ a_tape a_keys v_filled v_end v_at v_kind v_place v_word z3 v_number v_faultKind v_faultPlace v_keys v_tape) H := hP
        obtain ⟨y5, e5⟩ : ∃ y : Int32, y = z3 + (nI 1) := ⟨_, rfl⟩
        replace hf := lt_of e5 hf
        refine lv_iinc (v := y5) (lv' := [(3, .int y5), (0, .ref a_)]) hx hb dX8_takeWord_112 hl (k := 1) rfl (by rw [e5]; rfl) (by decide) rfl (fun ls hl => ?_)
        refine lv_goto (tgt := 87) hx hb dX8_takeWord_115 (by decide) ?_
        exact ih y5 v_at v_kind v_word z3 hf _ _ _ hP (mp_D_of hD rfl) hS (lv_sub hl [1, 0] rfl)

set_option maxHeartbeats 4000000 in
set_option maxRecDepth 100000 in
theorem w_X8_takeWord_55 {p : Program} {l : Launch} {e : Env} {s : State} {m : MethodId} {args : Array Value} {below : List Frame} {meth : Method} {c : Code} {D : va_G} {T : Nat → ClassId} {A : Nat → Prop} (X : mp_X p s m meth c args RX8 "takeWord" cX8_takeWord 4 none) (hK : va_K D mp_cl (mp_ty T) s) (hA : ∀ q, s.heap.size ≤ q → A q) (fu : Nat) (a_ a_tape a_keys : Nat) (v_filled : Int32) (v_number : Int32) (v_faultKind : Int32) (v_faultPlace : Int32) (v_end : Int32) (v_place : Int32) (v_keys : (Nat → Int64)) (v_tape : (Nat → Int32)) (o_at : Int32) (o_kind : Int32) (o_word : Int64) (o_key : Int32) :
    ∀  (z1 : Int64) (v_at : Int32) (v_kind : Int32) (v_word : Int64) (v_key : Int32), f_X8_takeWord_55 fu v_end v_place v_keys v_tape  z1 v_at v_kind v_word v_key = some (o_at, o_kind, o_word, o_key) → ∀ (H : Heap) (locs : List Loc) (ls : Array Slot), va_P D mp_cl (k_X8_takeWord T a_ a_tape a_keys v_filled v_end v_at v_kind v_place v_word v_key v_number v_faultKind v_faultPlace v_keys v_tape) H → va_D A (k_X8_takeWord T a_ a_tape a_keys v_filled v_end v_at v_kind v_place v_word v_key v_number v_faultKind v_faultPlace v_keys v_tape) → va_S A s.heap H locs → lv_has ls 4 [(0, .ref a_), (1, .long z1)] → W p l e ({ frames := 1, cells := 0, slots := 0, locals := 22 }) s m args below meth c H locs 0 0 (MQ below ((mp_Qv D (k_X8_takeWord T a_ a_tape a_keys v_filled v_end o_at o_kind v_place o_word o_key v_number v_faultKind v_faultPlace v_keys v_tape)) A) args s 0 0 A) (F0 m 55 ls []) := by
  have hx := X.1
  have hb := X.2.1
  have hml := X.2.2.1
  have hown := X.2.2.2.2.1
  have hts := X.2.2.2.2.2.1
  intro z1 v_at v_kind v_word v_key hf H locs ls hP hD hS hl
  replace hf : (if (v_at - v_place) ≤ (nI 8) then f_X8_takeWord_87 fu v_end v_place v_keys v_tape  fu (nI 0) v_at (nI 1) z1 v_key else f_X8_takeWord_87 fu v_end v_place v_keys v_tape  fu (nI 0) v_at (nI 1) (-1 : Int64) v_key) = some (o_at, o_kind, o_word, o_key) := hf
  refine lv_aload_n hx hb dX8_takeWord_55 rfl (lv_at hl 0 rfl) ?_
  refine lv_iconst (v := (nI 1)) hx hb dX8_takeWord_56 (by decide) ?_
  refine mp_putf X fl_X8_25 fp_X8 rfl hK hP (mp_D_of hD rfl) hS 0 rfl rfl rfl (Nat.le_of_ble_eq_true rfl) dX8_takeWord_57 (fun H locs hP _ hS => ?_)
  replace hP : va_P D mp_cl (k_X8_takeWord T a_ a_tape a_keys v_filled v_end v_at (nI 1) v_place v_word v_key v_number v_faultKind v_faultPlace v_keys v_tape) H := hP
  refine lv_aload_n hx hb dX8_takeWord_60 rfl (lv_at hl 0 rfl) ?_
  refine lv_aload_n hx hb dX8_takeWord_61 rfl (lv_at hl 0 rfl) ?_
  refine mp_get X fl_X8_22 hK hP 0 rfl rfl dX8_takeWord_62 ?_
  refine lv_aload_n hx hb dX8_takeWord_65 rfl (lv_at hl 0 rfl) ?_
  refine mp_get X fl_X8_28 hK hP 0 rfl rfl dX8_takeWord_66 ?_
  refine lv_isub hx hb dX8_takeWord_69 ?_
  refine lv_bipush (v := (nI 8)) hx hb dX8_takeWord_70 (by decide) ?_
  refine lv_icmp_le (tgt := 81) hx hb dX8_takeWord_72 (by decide) (fun h1 => ?_) (fun h1 => ?_)
  · replace hf := if_t hf h1
    refine lv_lload_n hx hb dX8_takeWord_81 rfl (lv_at hl 1 rfl) ?_
    refine mp_putf X fl_X8_33 fp_X8 rfl hK hP (mp_D_of hD rfl) hS 0 rfl rfl rfl (Nat.le_of_ble_eq_true rfl) dX8_takeWord_82 (fun H locs hP _ hS => ?_)
    replace hP : va_P D mp_cl (k_X8_takeWord T a_ a_tape a_keys v_filled v_end v_at (nI 1) v_place z1 v_key v_number v_faultKind v_faultPlace v_keys v_tape) H := hP
    refine lv_iconst (v := (nI 0)) hx hb dX8_takeWord_85 (by decide) ?_
    refine lv_istore_n (lv' := [(3, .int (nI 0)), (0, .ref a_), (1, .long z1)]) hx hb dX8_takeWord_86 rfl hl (by decide) rfl (fun ls hl => ?_)
    exact w_X8_takeWord_87 X hK hA  fu a_ a_tape a_keys v_filled v_number v_faultKind v_faultPlace v_end v_place v_keys v_tape o_at o_kind o_word o_key   fu (nI 0) v_at (nI 1) z1 v_key hf _ _ _ hP (mp_D_of hD rfl) hS (lv_sub hl [1, 0] rfl)
  · replace hf := if_f hf h1
    refine lv_ldc2 (v := (-1 : Int64)) hx hb hown (hts _ (cw_X8_31)) dX8_takeWord_75 ?_
    refine lv_goto (tgt := 82) hx hb dX8_takeWord_78 (by decide) ?_
    refine mp_putf X fl_X8_33 fp_X8 rfl hK hP (mp_D_of hD rfl) hS 0 rfl rfl rfl (Nat.le_of_ble_eq_true rfl) dX8_takeWord_82 (fun H locs hP _ hS => ?_)
    replace hP : va_P D mp_cl (k_X8_takeWord T a_ a_tape a_keys v_filled v_end v_at (nI 1) v_place (-1 : Int64) v_key v_number v_faultKind v_faultPlace v_keys v_tape) H := hP
    refine lv_iconst (v := (nI 0)) hx hb dX8_takeWord_85 (by decide) ?_
    refine lv_istore_n (lv' := [(3, .int (nI 0)), (0, .ref a_), (1, .long z1)]) hx hb dX8_takeWord_86 rfl hl (by decide) rfl (fun ls hl => ?_)
    exact w_X8_takeWord_87 X hK hA  fu a_ a_tape a_keys v_filled v_number v_faultKind v_faultPlace v_end v_place v_keys v_tape o_at o_kind o_word o_key   fu (nI 0) v_at (nI 1) (-1 : Int64) v_key hf _ _ _ hP (mp_D_of hD rfl) hS (lv_sub hl [1, 0] rfl)

set_option maxHeartbeats 4000000 in
set_option maxRecDepth 100000 in
theorem w_X8_takeWord_2 {p : Program} {l : Launch} {e : Env} {s : State} {m : MethodId} {args : Array Value} {below : List Frame} {meth : Method} {c : Code} {D : va_G} {T : Nat → ClassId} {A : Nat → Prop} (X : mp_X p s m meth c args RX8 "takeWord" cX8_takeWord 4 none) (hK : va_K D mp_cl (mp_ty T) s) (hA : ∀ q, s.heap.size ≤ q → A q) (fu : Nat) (a_ a_tape a_keys : Nat) (v_filled : Int32) (v_number : Int32) (v_faultKind : Int32) (v_faultPlace : Int32) (v_end : Int32) (v_place : Int32) (v_keys : (Nat → Int64)) (v_tape : (Nat → Int32)) (o_at : Int32) (o_kind : Int32) (o_word : Int64) (o_key : Int32) :
    ∀ (n : Nat) (z1 : Int64) (v_at : Int32) (v_kind : Int32) (v_word : Int64) (v_key : Int32), f_X8_takeWord_2 fu v_end v_place v_keys v_tape  n z1 v_at v_kind v_word v_key = some (o_at, o_kind, o_word, o_key) → ∀ (H : Heap) (locs : List Loc) (ls : Array Slot), va_P D mp_cl (k_X8_takeWord T a_ a_tape a_keys v_filled v_end v_at v_kind v_place v_word v_key v_number v_faultKind v_faultPlace v_keys v_tape) H → va_D A (k_X8_takeWord T a_ a_tape a_keys v_filled v_end v_at v_kind v_place v_word v_key v_number v_faultKind v_faultPlace v_keys v_tape) → va_S A s.heap H locs → lv_has ls 4 [(0, .ref a_), (1, .long z1)] → W p l e ({ frames := 1, cells := 0, slots := 0, locals := 22 }) s m args below meth c H locs 0 0 (MQ below ((mp_Qv D (k_X8_takeWord T a_ a_tape a_keys v_filled v_end o_at o_kind v_place o_word o_key v_number v_faultKind v_faultPlace v_keys v_tape)) A) args s 0 0 A) (F0 m 2 ls []) := by
  have hx := X.1
  have hb := X.2.1
  have hml := X.2.2.1
  have hown := X.2.2.2.2.1
  have hts := X.2.2.2.2.2.1
  intro n
  induction n with
  | zero => intro z1 v_at v_kind v_word v_key hf; exact absurd hf (by intro h; cases h)
  | succ n ih =>
    intro z1 v_at v_kind v_word v_key hf H locs ls hP hD hS hl
    replace hf : (if v_end ≤ v_at then f_X8_takeWord_55 fu v_end v_place v_keys v_tape  z1 v_at v_kind v_word v_key else gi_ v_at 900 (bd_ (f_X8_isLetter (v_tape (v_at).toNatClampNeg)) (fun (r3 : Int32) => (if r3 = 0 then f_X8_takeWord_55 fu v_end v_place v_keys v_tape  z1 v_at v_kind v_word v_key else gi_ v_at 900 (bd_ (f_X8_withLetter z1 (v_tape (v_at).toNatClampNeg)) (fun (r7 : Int64) => lt_ (v_at + (nI 1)) (fun (y9 : Int32) => f_X8_takeWord_2 fu v_end v_place v_keys v_tape  n r7 y9 v_kind v_word v_key))))))) = some (o_at, o_kind, o_word, o_key) := hf
    refine lv_aload_n hx hb dX8_takeWord_2 rfl (lv_at hl 0 rfl) ?_
    refine mp_get X fl_X8_22 hK hP 0 rfl rfl dX8_takeWord_3 ?_
    refine lv_aload_n hx hb dX8_takeWord_6 rfl (lv_at hl 0 rfl) ?_
    refine mp_get X fl_X8_19 hK hP 0 rfl rfl dX8_takeWord_7 ?_
    refine lv_icmp_ge (tgt := 55) hx hb dX8_takeWord_10 (by decide) (fun h1 => ?_) (fun h1 => ?_)
    · replace hf := if_t hf h1
      exact w_X8_takeWord_55 X hK hA  fu a_ a_tape a_keys v_filled v_number v_faultKind v_faultPlace v_end v_place v_keys v_tape o_at o_kind o_word o_key   z1 v_at v_kind v_word v_key hf _ _ _ hP (mp_D_of hD rfl) hS (lv_sub hl [0, 1] rfl)
    · replace hf := if_f hf h1
      refine lv_aload_n hx hb dX8_takeWord_13 rfl (lv_at hl 0 rfl) ?_
      refine mp_get X fl_X8_9 hK hP 0 rfl rfl dX8_takeWord_14 ?_
      refine lv_aload_n hx hb dX8_takeWord_17 rfl (lv_at hl 0 rfl) ?_
      refine mp_get X fl_X8_22 hK hP 0 rfl rfl dX8_takeWord_18 ?_
      obtain ⟨h2, hf⟩ := gi_of hf
      refine va_bald hx hb hK hP 2 2 rfl rfl h2 dX8_takeWord_21 ?_
      obtain ⟨r3, c4, hf⟩ := bd_of hf
      have hPc := hP.sub (ws' := (k_X8_isLetter T )) [] rfl
      have hDc := (mp_D_of (w1 := (k_X8_takeWord T a_ a_tape a_keys v_filled v_end v_at v_kind v_place v_word v_key v_number v_faultKind v_faultPlace v_keys v_tape)) hD rfl).sub (ws' := (k_X8_isLetter T )) [] rfl rfl
      refine mp_calli (isC := []) (wc := (k_X8_isLetter T )) (w1 := (k_X8_isLetter T )) hP (mp_D_of hD rfl) hS hA rfl rfl (mp_runS (As := [.int (v_tape (v_at).toNatClampNeg)]) (rest := []) X me_X8_isLetter lk_X8_74 (c_X8_isLetter l D T (v_tape (v_at).toNatClampNeg) r3 c4) rfl rfl ⟨(Nat.le_of_ble_eq_true rfl), (Nat.le_of_ble_eq_true rfl)⟩ hK hPc hDc rfl hl.1 rfl (Nat.le_of_ble_eq_true rfl) dX8_takeWord_22 ⟨Nat.zero_le _, Nat.zero_le _⟩) (fun H locs hP _ hS => ?_)
      replace hP : va_P D mp_cl (k_X8_takeWord T a_ a_tape a_keys v_filled v_end v_at v_kind v_place v_word v_key v_number v_faultKind v_faultPlace v_keys v_tape) H := hP
      refine lv_if_eq (tgt := 55) hx hb dX8_takeWord_25 (by decide) (fun h5 => ?_) (fun h5 => ?_)
      · replace hf := if_t hf h5
        exact w_X8_takeWord_55 X hK hA  fu a_ a_tape a_keys v_filled v_number v_faultKind v_faultPlace v_end v_place v_keys v_tape o_at o_kind o_word o_key   z1 v_at v_kind v_word v_key hf _ _ _ hP (mp_D_of hD rfl) hS (lv_sub hl [0, 1] rfl)
      · replace hf := if_f hf h5
        refine lv_lload_n hx hb dX8_takeWord_28 rfl (lv_at hl 1 rfl) ?_
        refine lv_aload_n hx hb dX8_takeWord_29 rfl (lv_at hl 0 rfl) ?_
        refine mp_get X fl_X8_9 hK hP 0 rfl rfl dX8_takeWord_30 ?_
        refine lv_aload_n hx hb dX8_takeWord_33 rfl (lv_at hl 0 rfl) ?_
        refine mp_get X fl_X8_22 hK hP 0 rfl rfl dX8_takeWord_34 ?_
        obtain ⟨h6, hf⟩ := gi_of hf
        refine va_bald hx hb hK hP 2 2 rfl rfl h6 dX8_takeWord_37 ?_
        obtain ⟨r7, c8, hf⟩ := bd_of hf
        have hPc := hP.sub (ws' := (k_X8_withLetter T )) [] rfl
        have hDc := (mp_D_of (w1 := (k_X8_takeWord T a_ a_tape a_keys v_filled v_end v_at v_kind v_place v_word v_key v_number v_faultKind v_faultPlace v_keys v_tape)) hD rfl).sub (ws' := (k_X8_withLetter T )) [] rfl rfl
        refine mp_calll (isC := []) (wc := (k_X8_withLetter T )) (w1 := (k_X8_withLetter T )) hP (mp_D_of hD rfl) hS hA rfl rfl (mp_runS (As := [.long z1, .int (v_tape (v_at).toNatClampNeg)]) (rest := []) X me_X8_withLetter lk_X8_65 (c_X8_withLetter l D T z1 (v_tape (v_at).toNatClampNeg) r7 c8) rfl rfl ⟨(Nat.le_of_ble_eq_true rfl), (Nat.le_of_ble_eq_true rfl)⟩ hK hPc hDc rfl hl.1 rfl (Nat.le_of_ble_eq_true rfl) dX8_takeWord_38 ⟨Nat.zero_le _, Nat.zero_le _⟩) (fun H locs hP _ hS => ?_)
        replace hP : va_P D mp_cl (k_X8_takeWord T a_ a_tape a_keys v_filled v_end v_at v_kind v_place v_word v_key v_number v_faultKind v_faultPlace v_keys v_tape) H := hP
        refine lv_lstore_n (lv' := [(1, .long r7), (0, .ref a_)]) hx hb dX8_takeWord_41 rfl hl (by decide) rfl (fun ls hl => ?_)
        refine lv_aload_n hx hb dX8_takeWord_42 rfl (lv_at hl 1 rfl) ?_
        refine lv_dup hx hb dX8_takeWord_43 rfl ?_
        refine mp_get X fl_X8_22 hK hP 0 rfl rfl dX8_takeWord_44 ?_
        refine lv_iconst (v := (nI 1)) hx hb dX8_takeWord_47 (by decide) ?_
        refine lv_iadd hx hb dX8_takeWord_48 ?_
        refine lv_topi (fun y9 e9 => ?_)
        replace hf := lt_of e9 hf
        refine mp_putf X fl_X8_22 fp_X8 rfl hK hP (mp_D_of hD rfl) hS 0 rfl rfl rfl (Nat.le_of_ble_eq_true rfl) dX8_takeWord_49 (fun H locs hP _ hS => ?_)
        replace hP : va_P D mp_cl (k_X8_takeWord T a_ a_tape a_keys v_filled v_end y9 v_kind v_place v_word v_key v_number v_faultKind v_faultPlace v_keys v_tape) H := hP
        refine lv_goto (tgt := 2) hx hb dX8_takeWord_52 (by decide) ?_
        exact ih r7 y9 v_kind v_word v_key hf _ _ _ hP (mp_D_of hD rfl) hS (lv_sub hl [1, 0] rfl)

set_option maxHeartbeats 4000000 in
set_option maxRecDepth 100000 in
theorem c_X8_takeWord (l : Launch) (D : va_G) (T : Nat → ClassId) (fu : Nat) (a_ a_tape a_keys : Nat) (v_filled : Int32) (v_number : Int32) (v_faultKind : Int32) (v_faultPlace : Int32) (v_end : Int32) (v_at : Int32) (v_kind : Int32) (v_place : Int32) (v_word : Int64) (v_key : Int32) (v_keys : (Nat → Int64)) (v_tape : (Nat → Int32)) (o_at : Int32) (o_kind : Int32) (o_word : Int64) (o_key : Int32) (hf : f_X8_takeWord fu v_end v_at v_kind v_place v_word v_key v_keys v_tape = some (o_at, o_kind, o_word, o_key)) :
    mp_M l D T yX8_takeWord cX8_takeWord 4 none ({ frames := 1, cells := 0, slots := 0, locals := 22 }) 0 0 [.ref a_] (k_X8_takeWord T a_ a_tape a_keys v_filled v_end v_at v_kind v_place v_word v_key v_number v_faultKind v_faultPlace v_keys v_tape) (mp_Qv D (k_X8_takeWord T a_ a_tape a_keys v_filled v_end o_at o_kind v_place o_word o_key v_number v_faultKind v_faultPlace v_keys v_tape)) := by
  refine mp_of (by decide) (Nat.le_of_ble_eq_true rfl) rfl ?_
  intro p e s m args below meth c A ls X hK hP hD hS hA hl
  replace X : mp_X p s m meth c args RX8 "takeWord" cX8_takeWord 4 none := X
  have hx := X.1
  have hb := X.2.1
  have hml := X.2.2.1
  have hown := X.2.2.2.2.1
  have hts := X.2.2.2.2.2.1
  replace hl : lv_has ls 4 [(0, .ref a_)] := hl
  replace hf : f_X8_takeWord_2 fu v_end v_place v_keys v_tape  fu (lN 0) v_at v_kind v_word v_key = some (o_at, o_kind, o_word, o_key) := hf
  refine lv_lconst (v := (lN 0)) hx hb dX8_takeWord_0 (by decide) ?_
  refine lv_lstore_n (lv' := [(1, .long (lN 0)), (0, .ref a_)]) hx hb dX8_takeWord_1 rfl hl (by decide) rfl (fun ls hl => ?_)
  exact w_X8_takeWord_2 X hK hA  fu a_ a_tape a_keys v_filled v_number v_faultKind v_faultPlace v_end v_place v_keys v_tape o_at o_kind o_word o_key   fu (lN 0) v_at v_kind v_word v_key hf _ _ _ hP (mp_D_of hD rfl) hS (lv_sub hl [1, 0] rfl)


def k_X8_isDigit (T : Nat → ClassId) : va_W := []
set_option maxHeartbeats 4000000 in
set_option maxRecDepth 100000 in
theorem c_X8_isDigit (l : Launch) (D : va_G) (T : Nat → ClassId) (x1 : Int32) (r_ : Int32) (hf : f_X8_isDigit x1 = some r_) :
    mp_M l D T yX8_isDigit cX8_isDigit 1 (some .boolean) ({ frames := 0, cells := 0, slots := 0, locals := 0 }) 0 0 [.int x1] (k_X8_isDigit T ) (mp_Qi D r_ (k_X8_isDigit T )) := by
  refine mp_of (by decide) (Nat.le_of_ble_eq_true rfl) rfl ?_
  intro p e s m args below meth c A ls X hK hP hD hS hA hl
  replace X : mp_X p s m meth c args RX8 "isDigit" cX8_isDigit 1 (some .boolean) := X
  have hx := X.1
  have hb := X.2.1
  have hml := X.2.2.1
  have hown := X.2.2.2.2.1
  have hts := X.2.2.2.2.2.1
  replace hl : lv_has ls 1 [(0, .int x1)] := hl
  replace hf : (if x1 < (nI 48) then some ((nI 0)) else (if (nI 57) < x1 then some ((nI 0)) else some ((nI 1)))) = some r_ := hf
  refine lv_iload_n hx hb dX8_isDigit_0 rfl (lv_at hl 0 rfl) ?_
  refine lv_bipush (v := (nI 48)) hx hb dX8_isDigit_1 (by decide) ?_
  refine lv_icmp_lt (tgt := 16) hx hb dX8_isDigit_3 (by decide) (fun h1 => ?_) (fun h1 => ?_)
  · replace hf := if_t hf h1
    refine lv_iconst (v := (nI 0)) hx hb dX8_isDigit_16 (by decide) ?_
    cases hf
    exact mp_retz X hP hS rfl (Or.inl rfl) dX8_isDigit_17
  · replace hf := if_f hf h1
    refine lv_iload_n hx hb dX8_isDigit_6 rfl (lv_at hl 0 rfl) ?_
    refine lv_bipush (v := (nI 57)) hx hb dX8_isDigit_7 (by decide) ?_
    refine lv_icmp_gt (tgt := 16) hx hb dX8_isDigit_9 (by decide) (fun h2 => ?_) (fun h2 => ?_)
    · replace hf := if_t hf h2
      refine lv_iconst (v := (nI 0)) hx hb dX8_isDigit_16 (by decide) ?_
      cases hf
      exact mp_retz X hP hS rfl (Or.inl rfl) dX8_isDigit_17
    · replace hf := if_f hf h2
      refine lv_iconst (v := (nI 1)) hx hb dX8_isDigit_12 (by decide) ?_
      refine lv_goto (tgt := 17) hx hb dX8_isDigit_13 (by decide) ?_
      cases hf
      exact mp_retz X hP hS rfl (Or.inr rfl) dX8_isDigit_17


def k_X8_takeNumber (T : Nat → ClassId) (a_ a_tape a_keys : Nat) (v_filled : Int32) (v_end : Int32) (v_at : Int32) (v_kind : Int32) (v_place : Int32) (v_word : Int64) (v_key : Int32) (v_number : Int32) (v_faultKind : Int32) (v_faultPlace : Int32) (v_tape : (Nat → Int32)) : va_W := [(a_, oX8 a_tape v_filled v_end v_at v_kind v_place v_word v_key v_number v_faultKind v_faultPlace a_keys), (a_tape, mp_aB T 900 v_tape)]
set_option maxHeartbeats 4000000 in
set_option maxRecDepth 100000 in
theorem w_X8_takeNumber_68 {p : Program} {l : Launch} {e : Env} {s : State} {m : MethodId} {args : Array Value} {below : List Frame} {meth : Method} {c : Code} {D : va_G} {T : Nat → ClassId} {A : Nat → Prop} (X : mp_X p s m meth c args RX8 "takeNumber" cX8_takeNumber 1 none) (hK : va_K D mp_cl (mp_ty T) s) (hA : ∀ q, s.heap.size ≤ q → A q) (fu : Nat) (a_ a_tape a_keys : Nat) (v_filled : Int32) (v_word : Int64) (v_key : Int32) (v_faultKind : Int32) (v_faultPlace : Int32) (v_end : Int32) (v_place : Int32) (v_tape : (Nat → Int32)) (o_at : Int32) (o_kind : Int32) (o_number : Int32) :
    ∀  (v_at : Int32) (v_kind : Int32) (v_number : Int32), f_X8_takeNumber_68 fu v_end v_place v_tape  v_at v_kind v_number = some (o_at, o_kind, o_number) → ∀ (H : Heap) (locs : List Loc) (ls : Array Slot), va_P D mp_cl (k_X8_takeNumber T a_ a_tape a_keys v_filled v_end v_at v_kind v_place v_word v_key v_number v_faultKind v_faultPlace v_tape) H → va_D A (k_X8_takeNumber T a_ a_tape a_keys v_filled v_end v_at v_kind v_place v_word v_key v_number v_faultKind v_faultPlace v_tape) → va_S A s.heap H locs → lv_has ls 1 [(0, .ref a_)] → W p l e ({ frames := 1, cells := 0, slots := 0, locals := 20 }) s m args below meth c H locs 0 0 (MQ below ((mp_Qv D (k_X8_takeNumber T a_ a_tape a_keys v_filled v_end o_at o_kind v_place v_word v_key o_number v_faultKind v_faultPlace v_tape)) A) args s 0 0 A) (F0 m 68 ls []) := by
  have hx := X.1
  have hb := X.2.1
  have hml := X.2.2.1
  have hown := X.2.2.2.2.1
  have hts := X.2.2.2.2.2.1
  intro v_at v_kind v_number hf H locs ls hP hD hS hl
  replace hf : (if (v_at - v_place) ≤ (nI 4) then some (v_at, (nI 2), v_number) else some (v_at, (nI 4), v_number)) = some (o_at, o_kind, o_number) := hf
  refine lv_aload_n hx hb dX8_takeNumber_68 rfl (lv_at hl 0 rfl) ?_
  refine lv_aload_n hx hb dX8_takeNumber_69 rfl (lv_at hl 0 rfl) ?_
  refine mp_get X fl_X8_22 hK hP 0 rfl rfl dX8_takeNumber_70 ?_
  refine lv_aload_n hx hb dX8_takeNumber_73 rfl (lv_at hl 0 rfl) ?_
  refine mp_get X fl_X8_28 hK hP 0 rfl rfl dX8_takeNumber_74 ?_
  refine lv_isub hx hb dX8_takeNumber_77 ?_
  refine lv_iconst (v := (nI 4)) hx hb dX8_takeNumber_78 (by decide) ?_
  refine lv_icmp_le (tgt := 86) hx hb dX8_takeNumber_79 (by decide) (fun h1 => ?_) (fun h1 => ?_)
  · replace hf := if_t hf h1
    refine lv_iconst (v := (nI 2)) hx hb dX8_takeNumber_86 (by decide) ?_
    refine mp_putf X fl_X8_25 fp_X8 rfl hK hP (mp_D_of hD rfl) hS 0 rfl rfl rfl (Nat.le_of_ble_eq_true rfl) dX8_takeNumber_87 (fun H locs hP _ hS => ?_)
    replace hP : va_P D mp_cl (k_X8_takeNumber T a_ a_tape a_keys v_filled v_end v_at (nI 2) v_place v_word v_key v_number v_faultKind v_faultPlace v_tape) H := hP
    cases hf
    exact mp_retv X hP hS dX8_takeNumber_90
  · replace hf := if_f hf h1
    refine lv_iconst (v := (nI 4)) hx hb dX8_takeNumber_82 (by decide) ?_
    refine lv_goto (tgt := 87) hx hb dX8_takeNumber_83 (by decide) ?_
    refine mp_putf X fl_X8_25 fp_X8 rfl hK hP (mp_D_of hD rfl) hS 0 rfl rfl rfl (Nat.le_of_ble_eq_true rfl) dX8_takeNumber_87 (fun H locs hP _ hS => ?_)
    replace hP : va_P D mp_cl (k_X8_takeNumber T a_ a_tape a_keys v_filled v_end v_at (nI 4) v_place v_word v_key v_number v_faultKind v_faultPlace v_tape) H := hP
    cases hf
    exact mp_retv X hP hS dX8_takeNumber_90

set_option maxHeartbeats 4000000 in
set_option maxRecDepth 100000 in
theorem w_X8_takeNumber_5 {p : Program} {l : Launch} {e : Env} {s : State} {m : MethodId} {args : Array Value} {below : List Frame} {meth : Method} {c : Code} {D : va_G} {T : Nat → ClassId} {A : Nat → Prop} (X : mp_X p s m meth c args RX8 "takeNumber" cX8_takeNumber 1 none) (hK : va_K D mp_cl (mp_ty T) s) (hA : ∀ q, s.heap.size ≤ q → A q) (fu : Nat) (a_ a_tape a_keys : Nat) (v_filled : Int32) (v_word : Int64) (v_key : Int32) (v_faultKind : Int32) (v_faultPlace : Int32) (v_end : Int32) (v_place : Int32) (v_tape : (Nat → Int32)) (o_at : Int32) (o_kind : Int32) (o_number : Int32) :
    ∀ (n : Nat) (v_at : Int32) (v_kind : Int32) (v_number : Int32), f_X8_takeNumber_5 fu v_end v_place v_tape  n v_at v_kind v_number = some (o_at, o_kind, o_number) → ∀ (H : Heap) (locs : List Loc) (ls : Array Slot), va_P D mp_cl (k_X8_takeNumber T a_ a_tape a_keys v_filled v_end v_at v_kind v_place v_word v_key v_number v_faultKind v_faultPlace v_tape) H → va_D A (k_X8_takeNumber T a_ a_tape a_keys v_filled v_end v_at v_kind v_place v_word v_key v_number v_faultKind v_faultPlace v_tape) → va_S A s.heap H locs → lv_has ls 1 [(0, .ref a_)] → W p l e ({ frames := 1, cells := 0, slots := 0, locals := 20 }) s m args below meth c H locs 0 0 (MQ below ((mp_Qv D (k_X8_takeNumber T a_ a_tape a_keys v_filled v_end o_at o_kind v_place v_word v_key o_number v_faultKind v_faultPlace v_tape)) A) args s 0 0 A) (F0 m 5 ls []) := by
  have hx := X.1
  have hb := X.2.1
  have hml := X.2.2.1
  have hown := X.2.2.2.2.1
  have hts := X.2.2.2.2.2.1
  intro n
  induction n with
  | zero => intro v_at v_kind v_number hf; exact absurd hf (by intro h; cases h)
  | succ n ih =>
    intro v_at v_kind v_number hf H locs ls hP hD hS hl
    replace hf : (if v_end ≤ v_at then f_X8_takeNumber_68 fu v_end v_place v_tape  v_at v_kind v_number else gi_ v_at 900 (bd_ (f_X8_isDigit (v_tape (v_at).toNatClampNeg)) (fun (r3 : Int32) => (if r3 = 0 then f_X8_takeNumber_68 fu v_end v_place v_tape  v_at v_kind v_number else gi_ v_at 900 (lt_ ((v_number * (nI 10)) + ((v_tape (v_at).toNatClampNeg) - (nI 48))) (fun (y7 : Int32) => lt_ (v_at + (nI 1)) (fun (y8 : Int32) => f_X8_takeNumber_5 fu v_end v_place v_tape  n y8 v_kind y7))))))) = some (o_at, o_kind, o_number) := hf
    refine lv_aload_n hx hb dX8_takeNumber_5 rfl (lv_at hl 0 rfl) ?_
    refine mp_get X fl_X8_22 hK hP 0 rfl rfl dX8_takeNumber_6 ?_
    refine lv_aload_n hx hb dX8_takeNumber_9 rfl (lv_at hl 0 rfl) ?_
    refine mp_get X fl_X8_19 hK hP 0 rfl rfl dX8_takeNumber_10 ?_
    refine lv_icmp_ge (tgt := 68) hx hb dX8_takeNumber_13 (by decide) (fun h1 => ?_) (fun h1 => ?_)
    · replace hf := if_t hf h1
      exact w_X8_takeNumber_68 X hK hA  fu a_ a_tape a_keys v_filled v_word v_key v_faultKind v_faultPlace v_end v_place v_tape o_at o_kind o_number   v_at v_kind v_number hf _ _ _ hP (mp_D_of hD rfl) hS (lv_sub hl [0] rfl)
    · replace hf := if_f hf h1
      refine lv_aload_n hx hb dX8_takeNumber_16 rfl (lv_at hl 0 rfl) ?_
      refine mp_get X fl_X8_9 hK hP 0 rfl rfl dX8_takeNumber_17 ?_
      refine lv_aload_n hx hb dX8_takeNumber_20 rfl (lv_at hl 0 rfl) ?_
      refine mp_get X fl_X8_22 hK hP 0 rfl rfl dX8_takeNumber_21 ?_
      obtain ⟨h2, hf⟩ := gi_of hf
      refine va_bald hx hb hK hP 1 2 rfl rfl h2 dX8_takeNumber_24 ?_
      obtain ⟨r3, c4, hf⟩ := bd_of hf
      have hPc := hP.sub (ws' := (k_X8_isDigit T )) [] rfl
      have hDc := (mp_D_of (w1 := (k_X8_takeNumber T a_ a_tape a_keys v_filled v_end v_at v_kind v_place v_word v_key v_number v_faultKind v_faultPlace v_tape)) hD rfl).sub (ws' := (k_X8_isDigit T )) [] rfl rfl
      refine mp_calli (isC := []) (wc := (k_X8_isDigit T )) (w1 := (k_X8_isDigit T )) hP (mp_D_of hD rfl) hS hA rfl rfl (mp_runS (As := [.int (v_tape (v_at).toNatClampNeg)]) (rest := []) X me_X8_isDigit lk_X8_81 (c_X8_isDigit l D T (v_tape (v_at).toNatClampNeg) r3 c4) rfl rfl ⟨(Nat.le_of_ble_eq_true rfl), (Nat.le_of_ble_eq_true rfl)⟩ hK hPc hDc rfl hl.1 rfl (Nat.le_of_ble_eq_true rfl) dX8_takeNumber_25 ⟨Nat.zero_le _, Nat.zero_le _⟩) (fun H locs hP _ hS => ?_)
      replace hP : va_P D mp_cl (k_X8_takeNumber T a_ a_tape a_keys v_filled v_end v_at v_kind v_place v_word v_key v_number v_faultKind v_faultPlace v_tape) H := hP
      refine lv_if_eq (tgt := 68) hx hb dX8_takeNumber_28 (by decide) (fun h5 => ?_) (fun h5 => ?_)
      · replace hf := if_t hf h5
        exact w_X8_takeNumber_68 X hK hA  fu a_ a_tape a_keys v_filled v_word v_key v_faultKind v_faultPlace v_end v_place v_tape o_at o_kind o_number   v_at v_kind v_number hf _ _ _ hP (mp_D_of hD rfl) hS (lv_sub hl [0] rfl)
      · replace hf := if_f hf h5
        refine lv_aload_n hx hb dX8_takeNumber_31 rfl (lv_at hl 0 rfl) ?_
        refine lv_aload_n hx hb dX8_takeNumber_32 rfl (lv_at hl 0 rfl) ?_
        refine mp_get X fl_X8_40 hK hP 0 rfl rfl dX8_takeNumber_33 ?_
        refine lv_bipush (v := (nI 10)) hx hb dX8_takeNumber_36 (by decide) ?_
        refine lv_imul hx hb dX8_takeNumber_38 ?_
        refine lv_aload_n hx hb dX8_takeNumber_39 rfl (lv_at hl 0 rfl) ?_
        refine mp_get X fl_X8_9 hK hP 0 rfl rfl dX8_takeNumber_40 ?_
        refine lv_aload_n hx hb dX8_takeNumber_43 rfl (lv_at hl 0 rfl) ?_
        refine mp_get X fl_X8_22 hK hP 0 rfl rfl dX8_takeNumber_44 ?_
        obtain ⟨h6, hf⟩ := gi_of hf
        refine va_bald hx hb hK hP 1 2 rfl rfl h6 dX8_takeNumber_47 ?_
        refine lv_bipush (v := (nI 48)) hx hb dX8_takeNumber_48 (by decide) ?_
        refine lv_isub hx hb dX8_takeNumber_50 ?_
        refine lv_iadd hx hb dX8_takeNumber_51 ?_
        refine lv_topi (fun y7 e7 => ?_)
        replace hf := lt_of e7 hf
        refine mp_putf X fl_X8_40 fp_X8 rfl hK hP (mp_D_of hD rfl) hS 0 rfl rfl rfl (Nat.le_of_ble_eq_true rfl) dX8_takeNumber_52 (fun H locs hP _ hS => ?_)
        replace hP : va_P D mp_cl (k_X8_takeNumber T a_ a_tape a_keys v_filled v_end v_at v_kind v_place v_word v_key y7 v_faultKind v_faultPlace v_tape) H := hP
        refine lv_aload_n hx hb dX8_takeNumber_55 rfl (lv_at hl 0 rfl) ?_
        refine lv_dup hx hb dX8_takeNumber_56 rfl ?_
        refine mp_get X fl_X8_22 hK hP 0 rfl rfl dX8_takeNumber_57 ?_
        refine lv_iconst (v := (nI 1)) hx hb dX8_takeNumber_60 (by decide) ?_
        refine lv_iadd hx hb dX8_takeNumber_61 ?_
        refine lv_topi (fun y8 e8 => ?_)
        replace hf := lt_of e8 hf
        refine mp_putf X fl_X8_22 fp_X8 rfl hK hP (mp_D_of hD rfl) hS 0 rfl rfl rfl (Nat.le_of_ble_eq_true rfl) dX8_takeNumber_62 (fun H locs hP _ hS => ?_)
        replace hP : va_P D mp_cl (k_X8_takeNumber T a_ a_tape a_keys v_filled v_end y8 v_kind v_place v_word v_key y7 v_faultKind v_faultPlace v_tape) H := hP
        refine lv_goto (tgt := 5) hx hb dX8_takeNumber_65 (by decide) ?_
        exact ih y8 v_kind y7 hf _ _ _ hP (mp_D_of hD rfl) hS (lv_sub hl [0] rfl)

set_option maxHeartbeats 4000000 in
set_option maxRecDepth 100000 in
theorem c_X8_takeNumber (l : Launch) (D : va_G) (T : Nat → ClassId) (fu : Nat) (a_ a_tape a_keys : Nat) (v_filled : Int32) (v_word : Int64) (v_key : Int32) (v_faultKind : Int32) (v_faultPlace : Int32) (v_end : Int32) (v_at : Int32) (v_kind : Int32) (v_place : Int32) (v_number : Int32) (v_tape : (Nat → Int32)) (o_at : Int32) (o_kind : Int32) (o_number : Int32) (hf : f_X8_takeNumber fu v_end v_at v_kind v_place v_number v_tape = some (o_at, o_kind, o_number)) :
    mp_M l D T yX8_takeNumber cX8_takeNumber 1 none ({ frames := 1, cells := 0, slots := 0, locals := 20 }) 0 0 [.ref a_] (k_X8_takeNumber T a_ a_tape a_keys v_filled v_end v_at v_kind v_place v_word v_key v_number v_faultKind v_faultPlace v_tape) (mp_Qv D (k_X8_takeNumber T a_ a_tape a_keys v_filled v_end o_at o_kind v_place v_word v_key o_number v_faultKind v_faultPlace v_tape)) := by
  refine mp_of (by decide) (Nat.le_of_ble_eq_true rfl) rfl ?_
  intro p e s m args below meth c A ls X hK hP hD hS hA hl
  replace X : mp_X p s m meth c args RX8 "takeNumber" cX8_takeNumber 1 none := X
  have hx := X.1
  have hb := X.2.1
  have hml := X.2.2.1
  have hown := X.2.2.2.2.1
  have hts := X.2.2.2.2.2.1
  replace hl : lv_has ls 1 [(0, .ref a_)] := hl
  replace hf : f_X8_takeNumber_5 fu v_end v_place v_tape  fu v_at v_kind (nI 0) = some (o_at, o_kind, o_number) := hf
  refine lv_aload_n hx hb dX8_takeNumber_0 rfl (lv_at hl 0 rfl) ?_
  refine lv_iconst (v := (nI 0)) hx hb dX8_takeNumber_1 (by decide) ?_
  refine mp_putf X fl_X8_40 fp_X8 rfl hK hP (mp_D_of hD rfl) hS 0 rfl rfl rfl (Nat.le_of_ble_eq_true rfl) dX8_takeNumber_2 (fun H locs hP _ hS => ?_)
  replace hP : va_P D mp_cl (k_X8_takeNumber T a_ a_tape a_keys v_filled v_end v_at v_kind v_place v_word v_key (nI 0) v_faultKind v_faultPlace v_tape) H := hP
  exact w_X8_takeNumber_5 X hK hA  fu a_ a_tape a_keys v_filled v_word v_key v_faultKind v_faultPlace v_end v_place v_tape o_at o_kind o_number   fu v_at v_kind (nI 0) hf _ _ _ hP (mp_D_of hD rfl) hS (lv_sub hl [0] rfl)


def k_X8_isSign (T : Nat → ClassId) : va_W := []
set_option maxHeartbeats 4000000 in
set_option maxRecDepth 100000 in
theorem c_X8_isSign (l : Launch) (D : va_G) (T : Nat → ClassId) (x1 : Int32) (r_ : Int32) (hf : f_X8_isSign x1 = some r_) :
    mp_M l D T yX8_isSign cX8_isSign 1 (some .boolean) ({ frames := 0, cells := 0, slots := 0, locals := 0 }) 0 0 [.int x1] (k_X8_isSign T ) (mp_Qi D r_ (k_X8_isSign T )) := by
  refine mp_of (by decide) (Nat.le_of_ble_eq_true rfl) rfl ?_
  intro p e s m args below meth c A ls X hK hP hD hS hA hl
  replace X : mp_X p s m meth c args RX8 "isSign" cX8_isSign 1 (some .boolean) := X
  have hx := X.1
  have hb := X.2.1
  have hml := X.2.2.1
  have hown := X.2.2.2.2.1
  have hts := X.2.2.2.2.2.1
  replace hl : lv_has ls 1 [(0, .int x1)] := hl
  replace hf : (if x1 < (nI 59) then some ((nI 0)) else (if (nI 62) < x1 then some ((nI 0)) else some ((nI 1)))) = some r_ := hf
  refine lv_iload_n hx hb dX8_isSign_0 rfl (lv_at hl 0 rfl) ?_
  refine lv_bipush (v := (nI 59)) hx hb dX8_isSign_1 (by decide) ?_
  refine lv_icmp_lt (tgt := 16) hx hb dX8_isSign_3 (by decide) (fun h1 => ?_) (fun h1 => ?_)
  · replace hf := if_t hf h1
    refine lv_iconst (v := (nI 0)) hx hb dX8_isSign_16 (by decide) ?_
    cases hf
    exact mp_retz X hP hS rfl (Or.inl rfl) dX8_isSign_17
  · replace hf := if_f hf h1
    refine lv_iload_n hx hb dX8_isSign_6 rfl (lv_at hl 0 rfl) ?_
    refine lv_bipush (v := (nI 62)) hx hb dX8_isSign_7 (by decide) ?_
    refine lv_icmp_gt (tgt := 16) hx hb dX8_isSign_9 (by decide) (fun h2 => ?_) (fun h2 => ?_)
    · replace hf := if_t hf h2
      refine lv_iconst (v := (nI 0)) hx hb dX8_isSign_16 (by decide) ?_
      cases hf
      exact mp_retz X hP hS rfl (Or.inl rfl) dX8_isSign_17
    · replace hf := if_f hf h2
      refine lv_iconst (v := (nI 1)) hx hb dX8_isSign_12 (by decide) ?_
      refine lv_goto (tgt := 17) hx hb dX8_isSign_13 (by decide) ?_
      cases hf
      exact mp_retz X hP hS rfl (Or.inr rfl) dX8_isSign_17


def k_X8_forward (T : Nat → ClassId) (a_ a_tape a_keys : Nat) (v_filled : Int32) (v_end : Int32) (v_at : Int32) (v_kind : Int32) (v_place : Int32) (v_word : Int64) (v_key : Int32) (v_number : Int32) (v_faultKind : Int32) (v_faultPlace : Int32) (v_keys : (Nat → Int64)) (v_tape : (Nat → Int32)) : va_W := [(a_, oX8 a_tape v_filled v_end v_at v_kind v_place v_word v_key v_number v_faultKind v_faultPlace a_keys), (a_keys, mp_aJ T 24 v_keys), (a_tape, mp_aB T 900 v_tape)]
set_option maxHeartbeats 4000000 in
set_option maxRecDepth 100000 in
theorem w_X8_forward_52 {p : Program} {l : Launch} {e : Env} {s : State} {m : MethodId} {args : Array Value} {below : List Frame} {meth : Method} {c : Code} {D : va_G} {T : Nat → ClassId} {A : Nat → Prop} (X : mp_X p s m meth c args RX8 "forward" cX8_forward 1 none) (hK : va_K D mp_cl (mp_ty T) s) (hA : ∀ q, s.heap.size ≤ q → A q) (fu : Nat) (a_ a_tape a_keys : Nat) (v_filled : Int32) (v_faultKind : Int32) (v_faultPlace : Int32) (v_end : Int32) (v_keys : (Nat → Int64)) (v_tape : (Nat → Int32)) (o_at : Int32) (o_kind : Int32) (o_place : Int32) (o_word : Int64) (o_key : Int32) (o_number : Int32) :
    ∀  (v_at : Int32) (v_kind : Int32) (v_place : Int32) (v_word : Int64) (v_key : Int32) (v_number : Int32), f_X8_forward_52 fu v_end v_keys v_tape  v_at v_kind v_place v_word v_key v_number = some (o_at, o_kind, o_place, o_word, o_key, o_number) → ∀ (H : Heap) (locs : List Loc) (ls : Array Slot), va_P D mp_cl (k_X8_forward T a_ a_tape a_keys v_filled v_end v_at v_kind v_place v_word v_key v_number v_faultKind v_faultPlace v_keys v_tape) H → va_D A (k_X8_forward T a_ a_tape a_keys v_filled v_end v_at v_kind v_place v_word v_key v_number v_faultKind v_faultPlace v_keys v_tape) → va_S A s.heap H locs → lv_has ls 1 [(0, .ref a_)] → W p l e ({ frames := 2, cells := 0, slots := 0, locals := 45 }) s m args below meth c H locs 0 0 (MQ below ((mp_Qv D (k_X8_forward T a_ a_tape a_keys v_filled v_end o_at o_kind o_place o_word o_key o_number v_faultKind v_faultPlace v_keys v_tape)) A) args s 0 0 A) (F0 m 52 ls []) := by
  have hx := X.1
  have hb := X.2.1
  have hml := X.2.2.1
  have hown := X.2.2.2.2.1
  have hts := X.2.2.2.2.2.1
  intro v_at v_kind v_place v_word v_key v_number hf H locs ls hP hD hS hl
  replace hf : (if v_at < v_end then gi_ v_at 900 (bd_ (f_X8_isLetter (v_tape (v_at).toNatClampNeg)) (fun (r3 : Int32) => (if r3 = 0 then gi_ v_at 900 (bd_ (f_X8_isDigit (v_tape (v_at).toNatClampNeg)) (fun (r7 : Int32) => (if r7 = 0 then gi_ v_at 900 (bd_ (f_X8_isSign (v_tape (v_at).toNatClampNeg)) (fun (r11 : Int32) => (if r11 = 0 then lt_ (v_at + (nI 1)) (fun (y14 : Int32) => some (y14, (nI 4), v_at, v_word, (-1 : Int32), v_number)) else lt_ (v_at + (nI 1)) (fun (y15 : Int32) => some (y15, (nI 3), v_at, v_word, (-1 : Int32), v_number))))) else bd_ (f_X8_takeNumber fu v_end v_at v_kind v_at v_number v_tape) (fun (z : Int32 × Int32 × Int32) => match z with | (u16, u17, u18) => some (u16, u17, v_at, v_word, (-1 : Int32), u18))))) else bd_ (f_X8_takeWord fu v_end v_at v_kind v_at v_word (-1 : Int32) v_keys v_tape) (fun (z : Int32 × Int32 × Int64 × Int32) => match z with | (u20, u21, u22, u23) => some (u20, u21, v_at, u22, u23, v_number))))) else some (v_at, (nI 0), v_at, v_word, (-1 : Int32), v_number)) = some (o_at, o_kind, o_place, o_word, o_key, o_number) := hf
  refine lv_aload_n hx hb dX8_forward_52 rfl (lv_at hl 0 rfl) ?_
  refine lv_aload_n hx hb dX8_forward_53 rfl (lv_at hl 0 rfl) ?_
  refine mp_get X fl_X8_22 hK hP 0 rfl rfl dX8_forward_54 ?_
  refine mp_putf X fl_X8_28 fp_X8 rfl hK hP (mp_D_of hD rfl) hS 0 rfl rfl rfl (Nat.le_of_ble_eq_true rfl) dX8_forward_57 (fun H locs hP _ hS => ?_)
  replace hP : va_P D mp_cl (k_X8_forward T a_ a_tape a_keys v_filled v_end v_at v_kind v_at v_word v_key v_number v_faultKind v_faultPlace v_keys v_tape) H := hP
  refine lv_aload_n hx hb dX8_forward_60 rfl (lv_at hl 0 rfl) ?_
  refine lv_iconst (v := (-1 : Int32)) hx hb dX8_forward_61 (by decide) ?_
  refine mp_putf X fl_X8_37 fp_X8 rfl hK hP (mp_D_of hD rfl) hS 0 rfl rfl rfl (Nat.le_of_ble_eq_true rfl) dX8_forward_62 (fun H locs hP _ hS => ?_)
  replace hP : va_P D mp_cl (k_X8_forward T a_ a_tape a_keys v_filled v_end v_at v_kind v_at v_word (-1 : Int32) v_number v_faultKind v_faultPlace v_keys v_tape) H := hP
  refine lv_aload_n hx hb dX8_forward_65 rfl (lv_at hl 0 rfl) ?_
  refine mp_get X fl_X8_22 hK hP 0 rfl rfl dX8_forward_66 ?_
  refine lv_aload_n hx hb dX8_forward_69 rfl (lv_at hl 0 rfl) ?_
  refine mp_get X fl_X8_19 hK hP 0 rfl rfl dX8_forward_70 ?_
  refine lv_icmp_lt (tgt := 84) hx hb dX8_forward_73 (by decide) (fun h1 => ?_) (fun h1 => ?_)
  · replace hf := if_t hf h1
    refine lv_aload_n hx hb dX8_forward_84 rfl (lv_at hl 0 rfl) ?_
    refine mp_get X fl_X8_9 hK hP 0 rfl rfl dX8_forward_85 ?_
    refine lv_aload_n hx hb dX8_forward_88 rfl (lv_at hl 0 rfl) ?_
    refine mp_get X fl_X8_22 hK hP 0 rfl rfl dX8_forward_89 ?_
    obtain ⟨h2, hf⟩ := gi_of hf
    refine va_bald hx hb hK hP 2 2 rfl rfl h2 dX8_forward_92 ?_
    obtain ⟨r3, c4, hf⟩ := bd_of hf
    have hPc := hP.sub (ws' := (k_X8_isLetter T )) [] rfl
    have hDc := (mp_D_of (w1 := (k_X8_forward T a_ a_tape a_keys v_filled v_end v_at v_kind v_at v_word (-1 : Int32) v_number v_faultKind v_faultPlace v_keys v_tape)) hD rfl).sub (ws' := (k_X8_isLetter T )) [] rfl rfl
    refine mp_calli (isC := []) (wc := (k_X8_isLetter T )) (w1 := (k_X8_isLetter T )) hP (mp_D_of hD rfl) hS hA rfl rfl (mp_runS (As := [.int (v_tape (v_at).toNatClampNeg)]) (rest := []) X me_X8_isLetter lk_X8_74 (c_X8_isLetter l D T (v_tape (v_at).toNatClampNeg) r3 c4) rfl rfl ⟨(Nat.le_of_ble_eq_true rfl), (Nat.le_of_ble_eq_true rfl)⟩ hK hPc hDc rfl hl.1 rfl (Nat.le_of_ble_eq_true rfl) dX8_forward_93 ⟨Nat.zero_le _, Nat.zero_le _⟩) (fun H locs hP _ hS => ?_)
    replace hP : va_P D mp_cl (k_X8_forward T a_ a_tape a_keys v_filled v_end v_at v_kind v_at v_word (-1 : Int32) v_number v_faultKind v_faultPlace v_keys v_tape) H := hP
    refine lv_if_eq (tgt := 106) hx hb dX8_forward_96 (by decide) (fun h5 => ?_) (fun h5 => ?_)
    · replace hf := if_t hf h5
      refine lv_aload_n hx hb dX8_forward_106 rfl (lv_at hl 0 rfl) ?_
      refine mp_get X fl_X8_9 hK hP 0 rfl rfl dX8_forward_107 ?_
      refine lv_aload_n hx hb dX8_forward_110 rfl (lv_at hl 0 rfl) ?_
      refine mp_get X fl_X8_22 hK hP 0 rfl rfl dX8_forward_111 ?_
      obtain ⟨h6, hf⟩ := gi_of hf
      refine va_bald hx hb hK hP 2 2 rfl rfl h6 dX8_forward_114 ?_
      obtain ⟨r7, c8, hf⟩ := bd_of hf
      have hPc := hP.sub (ws' := (k_X8_isDigit T )) [] rfl
      have hDc := (mp_D_of (w1 := (k_X8_forward T a_ a_tape a_keys v_filled v_end v_at v_kind v_at v_word (-1 : Int32) v_number v_faultKind v_faultPlace v_keys v_tape)) hD rfl).sub (ws' := (k_X8_isDigit T )) [] rfl rfl
      refine mp_calli (isC := []) (wc := (k_X8_isDigit T )) (w1 := (k_X8_isDigit T )) hP (mp_D_of hD rfl) hS hA rfl rfl (mp_runS (As := [.int (v_tape (v_at).toNatClampNeg)]) (rest := []) X me_X8_isDigit lk_X8_81 (c_X8_isDigit l D T (v_tape (v_at).toNatClampNeg) r7 c8) rfl rfl ⟨(Nat.le_of_ble_eq_true rfl), (Nat.le_of_ble_eq_true rfl)⟩ hK hPc hDc rfl hl.1 rfl (Nat.le_of_ble_eq_true rfl) dX8_forward_115 ⟨Nat.zero_le _, Nat.zero_le _⟩) (fun H locs hP _ hS => ?_)
      replace hP : va_P D mp_cl (k_X8_forward T a_ a_tape a_keys v_filled v_end v_at v_kind v_at v_word (-1 : Int32) v_number v_faultKind v_faultPlace v_keys v_tape) H := hP
      refine lv_if_eq (tgt := 128) hx hb dX8_forward_118 (by decide) (fun h9 => ?_) (fun h9 => ?_)
      · replace hf := if_t hf h9
        refine lv_aload_n hx hb dX8_forward_128 rfl (lv_at hl 0 rfl) ?_
        refine lv_aload_n hx hb dX8_forward_129 rfl (lv_at hl 0 rfl) ?_
        refine mp_get X fl_X8_9 hK hP 0 rfl rfl dX8_forward_130 ?_
        refine lv_aload_n hx hb dX8_forward_133 rfl (lv_at hl 0 rfl) ?_
        refine mp_get X fl_X8_22 hK hP 0 rfl rfl dX8_forward_134 ?_
        obtain ⟨h10, hf⟩ := gi_of hf
        refine va_bald hx hb hK hP 2 2 rfl rfl h10 dX8_forward_137 ?_
        obtain ⟨r11, c12, hf⟩ := bd_of hf
        have hPc := hP.sub (ws' := (k_X8_isSign T )) [] rfl
        have hDc := (mp_D_of (w1 := (k_X8_forward T a_ a_tape a_keys v_filled v_end v_at v_kind v_at v_word (-1 : Int32) v_number v_faultKind v_faultPlace v_keys v_tape)) hD rfl).sub (ws' := (k_X8_isSign T )) [] rfl rfl
        refine mp_calli (isC := []) (wc := (k_X8_isSign T )) (w1 := (k_X8_isSign T )) hP (mp_D_of hD rfl) hS hA rfl rfl (mp_runS (As := [.int (v_tape (v_at).toNatClampNeg)]) (rest := [.ref a_]) X me_X8_isSign lk_X8_87 (c_X8_isSign l D T (v_tape (v_at).toNatClampNeg) r11 c12) rfl rfl ⟨(Nat.le_of_ble_eq_true rfl), (Nat.le_of_ble_eq_true rfl)⟩ hK hPc hDc rfl hl.1 rfl (Nat.le_of_ble_eq_true rfl) dX8_forward_138 ⟨Nat.zero_le _, Nat.zero_le _⟩) (fun H locs hP _ hS => ?_)
        replace hP : va_P D mp_cl (k_X8_forward T a_ a_tape a_keys v_filled v_end v_at v_kind v_at v_word (-1 : Int32) v_number v_faultKind v_faultPlace v_keys v_tape) H := hP
        refine lv_if_eq (tgt := 148) hx hb dX8_forward_141 (by decide) (fun h13 => ?_) (fun h13 => ?_)
        · replace hf := if_t hf h13
          refine lv_iconst (v := (nI 4)) hx hb dX8_forward_148 (by decide) ?_
          refine mp_putf X fl_X8_25 fp_X8 rfl hK hP (mp_D_of hD rfl) hS 0 rfl rfl rfl (Nat.le_of_ble_eq_true rfl) dX8_forward_149 (fun H locs hP _ hS => ?_)
          replace hP : va_P D mp_cl (k_X8_forward T a_ a_tape a_keys v_filled v_end v_at (nI 4) v_at v_word (-1 : Int32) v_number v_faultKind v_faultPlace v_keys v_tape) H := hP
          refine lv_aload_n hx hb dX8_forward_152 rfl (lv_at hl 0 rfl) ?_
          refine lv_dup hx hb dX8_forward_153 rfl ?_
          refine mp_get X fl_X8_22 hK hP 0 rfl rfl dX8_forward_154 ?_
          refine lv_iconst (v := (nI 1)) hx hb dX8_forward_157 (by decide) ?_
          refine lv_iadd hx hb dX8_forward_158 ?_
          refine lv_topi (fun y14 e14 => ?_)
          replace hf := lt_of e14 hf
          refine mp_putf X fl_X8_22 fp_X8 rfl hK hP (mp_D_of hD rfl) hS 0 rfl rfl rfl (Nat.le_of_ble_eq_true rfl) dX8_forward_159 (fun H locs hP _ hS => ?_)
          replace hP : va_P D mp_cl (k_X8_forward T a_ a_tape a_keys v_filled v_end y14 (nI 4) v_at v_word (-1 : Int32) v_number v_faultKind v_faultPlace v_keys v_tape) H := hP
          cases hf
          exact mp_retv X hP hS dX8_forward_162
        · replace hf := if_f hf h13
          refine lv_iconst (v := (nI 3)) hx hb dX8_forward_144 (by decide) ?_
          refine lv_goto (tgt := 149) hx hb dX8_forward_145 (by decide) ?_
          refine mp_putf X fl_X8_25 fp_X8 rfl hK hP (mp_D_of hD rfl) hS 0 rfl rfl rfl (Nat.le_of_ble_eq_true rfl) dX8_forward_149 (fun H locs hP _ hS => ?_)
          replace hP : va_P D mp_cl (k_X8_forward T a_ a_tape a_keys v_filled v_end v_at (nI 3) v_at v_word (-1 : Int32) v_number v_faultKind v_faultPlace v_keys v_tape) H := hP
          refine lv_aload_n hx hb dX8_forward_152 rfl (lv_at hl 0 rfl) ?_
          refine lv_dup hx hb dX8_forward_153 rfl ?_
          refine mp_get X fl_X8_22 hK hP 0 rfl rfl dX8_forward_154 ?_
          refine lv_iconst (v := (nI 1)) hx hb dX8_forward_157 (by decide) ?_
          refine lv_iadd hx hb dX8_forward_158 ?_
          refine lv_topi (fun y15 e15 => ?_)
          replace hf := lt_of e15 hf
          refine mp_putf X fl_X8_22 fp_X8 rfl hK hP (mp_D_of hD rfl) hS 0 rfl rfl rfl (Nat.le_of_ble_eq_true rfl) dX8_forward_159 (fun H locs hP _ hS => ?_)
          replace hP : va_P D mp_cl (k_X8_forward T a_ a_tape a_keys v_filled v_end y15 (nI 3) v_at v_word (-1 : Int32) v_number v_faultKind v_faultPlace v_keys v_tape) H := hP
          cases hf
          exact mp_retv X hP hS dX8_forward_162
      · replace hf := if_f hf h9
        refine lv_aload_n hx hb dX8_forward_121 rfl (lv_at hl 0 rfl) ?_
        obtain ⟨⟨u16, u17, u18⟩, c19, hf⟩ := bd_of hf
        dsimp only at hf
        have hPc := hP.sub (ws' := (k_X8_takeNumber T a_ a_tape a_keys v_filled v_end v_at v_kind v_at v_word (-1 : Int32) v_number v_faultKind v_faultPlace v_tape)) [0, 2] rfl
        have hDc := (mp_D_of (w1 := (k_X8_forward T a_ a_tape a_keys v_filled v_end v_at v_kind v_at v_word (-1 : Int32) v_number v_faultKind v_faultPlace v_keys v_tape)) hD rfl).sub (ws' := (k_X8_takeNumber T a_ a_tape a_keys v_filled v_end v_at v_kind v_at v_word (-1 : Int32) v_number v_faultKind v_faultPlace v_tape)) [0, 2] rfl rfl
        refine mp_callv (isC := [0, 2]) (wc := (k_X8_takeNumber T a_ a_tape a_keys v_filled v_end v_at v_kind v_at v_word (-1 : Int32) v_number v_faultKind v_faultPlace v_tape)) (w1 := (k_X8_takeNumber T a_ a_tape a_keys v_filled v_end u16 u17 v_at v_word (-1 : Int32) u18 v_faultKind v_faultPlace v_tape)) hP (mp_D_of hD rfl) hS hA rfl rfl (mp_runV (As := []) (rest := []) X me_X8_takeNumber lk_X8_84 (c_X8_takeNumber l D T fu a_ a_tape a_keys v_filled v_word (-1 : Int32) v_faultKind v_faultPlace v_end v_at v_kind v_at v_number v_tape u16 u17 u18 c19) rfl rfl ⟨(Nat.le_of_ble_eq_true rfl), (Nat.le_of_ble_eq_true rfl)⟩ hK hPc hDc rfl rfl rfl rfl hl.1 rfl (Nat.le_of_ble_eq_true rfl) dX8_forward_122 ⟨Nat.zero_le _, Nat.zero_le _⟩) (fun H locs hP _ hS => ?_)
        replace hP : va_P D mp_cl (k_X8_forward T a_ a_tape a_keys v_filled v_end u16 u17 v_at v_word (-1 : Int32) u18 v_faultKind v_faultPlace v_keys v_tape) H := hP
        refine lv_goto (tgt := 162) hx hb dX8_forward_125 (by decide) ?_
        cases hf
        exact mp_retv X hP hS dX8_forward_162
    · replace hf := if_f hf h5
      refine lv_aload_n hx hb dX8_forward_99 rfl (lv_at hl 0 rfl) ?_
      obtain ⟨⟨u20, u21, u22, u23⟩, c24, hf⟩ := bd_of hf
      dsimp only at hf
      have hPc := hP.sub (ws' := (k_X8_takeWord T a_ a_tape a_keys v_filled v_end v_at v_kind v_at v_word (-1 : Int32) v_number v_faultKind v_faultPlace v_keys v_tape)) [0, 1, 2] rfl
      have hDc := (mp_D_of (w1 := (k_X8_forward T a_ a_tape a_keys v_filled v_end v_at v_kind v_at v_word (-1 : Int32) v_number v_faultKind v_faultPlace v_keys v_tape)) hD rfl).sub (ws' := (k_X8_takeWord T a_ a_tape a_keys v_filled v_end v_at v_kind v_at v_word (-1 : Int32) v_number v_faultKind v_faultPlace v_keys v_tape)) [0, 1, 2] rfl rfl
      refine mp_callv (isC := [0, 1, 2]) (wc := (k_X8_takeWord T a_ a_tape a_keys v_filled v_end v_at v_kind v_at v_word (-1 : Int32) v_number v_faultKind v_faultPlace v_keys v_tape)) (w1 := (k_X8_takeWord T a_ a_tape a_keys v_filled v_end u20 u21 v_at u22 u23 v_number v_faultKind v_faultPlace v_keys v_tape)) hP (mp_D_of hD rfl) hS hA rfl rfl (mp_runV (As := []) (rest := []) X me_X8_takeWord lk_X8_78 (c_X8_takeWord l D T fu a_ a_tape a_keys v_filled v_number v_faultKind v_faultPlace v_end v_at v_kind v_at v_word (-1 : Int32) v_keys v_tape u20 u21 u22 u23 c24) rfl rfl ⟨(Nat.le_of_ble_eq_true rfl), (Nat.le_of_ble_eq_true rfl)⟩ hK hPc hDc rfl rfl rfl rfl hl.1 rfl (Nat.le_of_ble_eq_true rfl) dX8_forward_100 ⟨Nat.zero_le _, Nat.zero_le _⟩) (fun H locs hP _ hS => ?_)
      replace hP : va_P D mp_cl (k_X8_forward T a_ a_tape a_keys v_filled v_end u20 u21 v_at u22 u23 v_number v_faultKind v_faultPlace v_keys v_tape) H := hP
      refine lv_goto (tgt := 162) hx hb dX8_forward_103 (by decide) ?_
      cases hf
      exact mp_retv X hP hS dX8_forward_162
  · replace hf := if_f hf h1
    refine lv_aload_n hx hb dX8_forward_76 rfl (lv_at hl 0 rfl) ?_
    refine lv_iconst (v := (nI 0)) hx hb dX8_forward_77 (by decide) ?_
    refine mp_putf X fl_X8_25 fp_X8 rfl hK hP (mp_D_of hD rfl) hS 0 rfl rfl rfl (Nat.le_of_ble_eq_true rfl) dX8_forward_78 (fun H locs hP _ hS => ?_)
    replace hP : va_P D mp_cl (k_X8_forward T a_ a_tape a_keys v_filled v_end v_at (nI 0) v_at v_word (-1 : Int32) v_number v_faultKind v_faultPlace v_keys v_tape) H := hP
    refine lv_goto (tgt := 162) hx hb dX8_forward_81 (by decide) ?_
    cases hf
    exact mp_retv X hP hS dX8_forward_162

set_option maxHeartbeats 4000000 in
set_option maxRecDepth 100000 in
theorem w_X8_forward_0 {p : Program} {l : Launch} {e : Env} {s : State} {m : MethodId} {args : Array Value} {below : List Frame} {meth : Method} {c : Code} {D : va_G} {T : Nat → ClassId} {A : Nat → Prop} (X : mp_X p s m meth c args RX8 "forward" cX8_forward 1 none) (hK : va_K D mp_cl (mp_ty T) s) (hA : ∀ q, s.heap.size ≤ q → A q) (fu : Nat) (a_ a_tape a_keys : Nat) (v_filled : Int32) (v_faultKind : Int32) (v_faultPlace : Int32) (v_end : Int32) (v_keys : (Nat → Int64)) (v_tape : (Nat → Int32)) (o_at : Int32) (o_kind : Int32) (o_place : Int32) (o_word : Int64) (o_key : Int32) (o_number : Int32) :
    ∀ (n : Nat) (v_at : Int32) (v_kind : Int32) (v_place : Int32) (v_word : Int64) (v_key : Int32) (v_number : Int32), f_X8_forward_0 fu v_end v_keys v_tape  n v_at v_kind v_place v_word v_key v_number = some (o_at, o_kind, o_place, o_word, o_key, o_number) → ∀ (H : Heap) (locs : List Loc) (ls : Array Slot), va_P D mp_cl (k_X8_forward T a_ a_tape a_keys v_filled v_end v_at v_kind v_place v_word v_key v_number v_faultKind v_faultPlace v_keys v_tape) H → va_D A (k_X8_forward T a_ a_tape a_keys v_filled v_end v_at v_kind v_place v_word v_key v_number v_faultKind v_faultPlace v_keys v_tape) → va_S A s.heap H locs → lv_has ls 1 [(0, .ref a_)] → W p l e ({ frames := 2, cells := 0, slots := 0, locals := 45 }) s m args below meth c H locs 0 0 (MQ below ((mp_Qv D (k_X8_forward T a_ a_tape a_keys v_filled v_end o_at o_kind o_place o_word o_key o_number v_faultKind v_faultPlace v_keys v_tape)) A) args s 0 0 A) (F0 m 0 ls []) := by
  have hx := X.1
  have hb := X.2.1
  have hml := X.2.2.1
  have hown := X.2.2.2.2.1
  have hts := X.2.2.2.2.2.1
  intro n
  induction n with
  | zero => intro v_at v_kind v_place v_word v_key v_number hf; exact absurd hf (by intro h; cases h)
  | succ n ih =>
    intro v_at v_kind v_place v_word v_key v_number hf H locs ls hP hD hS hl
    replace hf : (if v_end ≤ v_at then f_X8_forward_52 fu v_end v_keys v_tape  v_at v_kind v_place v_word v_key v_number else gi_ v_at 900 ((if (v_tape (v_at).toNatClampNeg) = (nI 10) then lt_ (v_at + (nI 1)) (fun (y4 : Int32) => f_X8_forward_0 fu v_end v_keys v_tape  n y4 v_kind v_place v_word v_key v_number) else gi_ v_at 900 ((if (v_tape (v_at).toNatClampNeg) = (nI 32) then lt_ (v_at + (nI 1)) (fun (y7 : Int32) => f_X8_forward_0 fu v_end v_keys v_tape  n y7 v_kind v_place v_word v_key v_number) else f_X8_forward_52 fu v_end v_keys v_tape  v_at v_kind v_place v_word v_key v_number))))) = some (o_at, o_kind, o_place, o_word, o_key, o_number) := hf
    refine lv_aload_n hx hb dX8_forward_0 rfl (lv_at hl 0 rfl) ?_
    refine mp_get X fl_X8_22 hK hP 0 rfl rfl dX8_forward_1 ?_
    refine lv_aload_n hx hb dX8_forward_4 rfl (lv_at hl 0 rfl) ?_
    refine mp_get X fl_X8_19 hK hP 0 rfl rfl dX8_forward_5 ?_
    refine lv_icmp_ge (tgt := 52) hx hb dX8_forward_8 (by decide) (fun h1 => ?_) (fun h1 => ?_)
    · replace hf := if_t hf h1
      exact w_X8_forward_52 X hK hA  fu a_ a_tape a_keys v_filled v_faultKind v_faultPlace v_end v_keys v_tape o_at o_kind o_place o_word o_key o_number   v_at v_kind v_place v_word v_key v_number hf _ _ _ hP (mp_D_of hD rfl) hS (lv_sub hl [0] rfl)
    · replace hf := if_f hf h1
      refine lv_aload_n hx hb dX8_forward_11 rfl (lv_at hl 0 rfl) ?_
      refine mp_get X fl_X8_9 hK hP 0 rfl rfl dX8_forward_12 ?_
      refine lv_aload_n hx hb dX8_forward_15 rfl (lv_at hl 0 rfl) ?_
      refine mp_get X fl_X8_22 hK hP 0 rfl rfl dX8_forward_16 ?_
      obtain ⟨h2, hf⟩ := gi_of hf
      refine va_bald hx hb hK hP 2 2 rfl rfl h2 dX8_forward_19 ?_
      refine lv_bipush (v := (nI 10)) hx hb dX8_forward_20 (by decide) ?_
      refine lv_icmp_eq (tgt := 39) hx hb dX8_forward_22 (by decide) (fun h3 => ?_) (fun h3 => ?_)
      · replace hf := if_t hf h3
        refine lv_aload_n hx hb dX8_forward_39 rfl (lv_at hl 0 rfl) ?_
        refine lv_dup hx hb dX8_forward_40 rfl ?_
        refine mp_get X fl_X8_22 hK hP 0 rfl rfl dX8_forward_41 ?_
        refine lv_iconst (v := (nI 1)) hx hb dX8_forward_44 (by decide) ?_
        refine lv_iadd hx hb dX8_forward_45 ?_
        refine lv_topi (fun y4 e4 => ?_)
        replace hf := lt_of e4 hf
        refine mp_putf X fl_X8_22 fp_X8 rfl hK hP (mp_D_of hD rfl) hS 0 rfl rfl rfl (Nat.le_of_ble_eq_true rfl) dX8_forward_46 (fun H locs hP _ hS => ?_)
        replace hP : va_P D mp_cl (k_X8_forward T a_ a_tape a_keys v_filled v_end y4 v_kind v_place v_word v_key v_number v_faultKind v_faultPlace v_keys v_tape) H := hP
        refine lv_goto (tgt := 0) hx hb dX8_forward_49 (by decide) ?_
        exact ih y4 v_kind v_place v_word v_key v_number hf _ _ _ hP (mp_D_of hD rfl) hS (lv_sub hl [0] rfl)
      · replace hf := if_f hf h3
        refine lv_aload_n hx hb dX8_forward_25 rfl (lv_at hl 0 rfl) ?_
        refine mp_get X fl_X8_9 hK hP 0 rfl rfl dX8_forward_26 ?_
        refine lv_aload_n hx hb dX8_forward_29 rfl (lv_at hl 0 rfl) ?_
        refine mp_get X fl_X8_22 hK hP 0 rfl rfl dX8_forward_30 ?_
        obtain ⟨h5, hf⟩ := gi_of hf
        refine va_bald hx hb hK hP 2 2 rfl rfl h5 dX8_forward_33 ?_
        refine lv_bipush (v := (nI 32)) hx hb dX8_forward_34 (by decide) ?_
        refine lv_icmp_ne (tgt := 52) hx hb dX8_forward_36 (by decide) (fun h6 => ?_) (fun h6 => ?_)
        · replace hf := if_f hf h6
          exact w_X8_forward_52 X hK hA  fu a_ a_tape a_keys v_filled v_faultKind v_faultPlace v_end v_keys v_tape o_at o_kind o_place o_word o_key o_number   v_at v_kind v_place v_word v_key v_number hf _ _ _ hP (mp_D_of hD rfl) hS (lv_sub hl [0] rfl)
        · replace hf := if_t hf h6
          refine lv_aload_n hx hb dX8_forward_39 rfl (lv_at hl 0 rfl) ?_
          refine lv_dup hx hb dX8_forward_40 rfl ?_
          refine mp_get X fl_X8_22 hK hP 0 rfl rfl dX8_forward_41 ?_
          refine lv_iconst (v := (nI 1)) hx hb dX8_forward_44 (by decide) ?_
          refine lv_iadd hx hb dX8_forward_45 ?_
          refine lv_topi (fun y7 e7 => ?_)
          replace hf := lt_of e7 hf
          refine mp_putf X fl_X8_22 fp_X8 rfl hK hP (mp_D_of hD rfl) hS 0 rfl rfl rfl (Nat.le_of_ble_eq_true rfl) dX8_forward_46 (fun H locs hP _ hS => ?_)
          replace hP : va_P D mp_cl (k_X8_forward T a_ a_tape a_keys v_filled v_end y7 v_kind v_place v_word v_key v_number v_faultKind v_faultPlace v_keys v_tape) H := hP
          refine lv_goto (tgt := 0) hx hb dX8_forward_49 (by decide) ?_
          exact ih y7 v_kind v_place v_word v_key v_number hf _ _ _ hP (mp_D_of hD rfl) hS (lv_sub hl [0] rfl)

set_option maxHeartbeats 4000000 in
set_option maxRecDepth 100000 in
theorem c_X8_forward (l : Launch) (D : va_G) (T : Nat → ClassId) (fu : Nat) (a_ a_tape a_keys : Nat) (v_filled : Int32) (v_faultKind : Int32) (v_faultPlace : Int32) (v_end : Int32) (v_at : Int32) (v_kind : Int32) (v_place : Int32) (v_word : Int64) (v_key : Int32) (v_number : Int32) (v_keys : (Nat → Int64)) (v_tape : (Nat → Int32)) (o_at : Int32) (o_kind : Int32) (o_place : Int32) (o_word : Int64) (o_key : Int32) (o_number : Int32) (hf : f_X8_forward fu v_end v_at v_kind v_place v_word v_key v_number v_keys v_tape = some (o_at, o_kind, o_place, o_word, o_key, o_number)) :
    mp_M l D T yX8_forward cX8_forward 1 none ({ frames := 2, cells := 0, slots := 0, locals := 45 }) 0 0 [.ref a_] (k_X8_forward T a_ a_tape a_keys v_filled v_end v_at v_kind v_place v_word v_key v_number v_faultKind v_faultPlace v_keys v_tape) (mp_Qv D (k_X8_forward T a_ a_tape a_keys v_filled v_end o_at o_kind o_place o_word o_key o_number v_faultKind v_faultPlace v_keys v_tape)) := by
  refine mp_of (by decide) (Nat.le_of_ble_eq_true rfl) rfl ?_
  intro p e s m args below meth c A ls X hK hP hD hS hA hl
  replace X : mp_X p s m meth c args RX8 "forward" cX8_forward 1 none := X
  have hx := X.1
  have hb := X.2.1
  have hml := X.2.2.1
  have hown := X.2.2.2.2.1
  have hts := X.2.2.2.2.2.1
  replace hl : lv_has ls 1 [(0, .ref a_)] := hl
  replace hf : f_X8_forward_0 fu v_end v_keys v_tape  fu v_at v_kind v_place v_word v_key v_number = some (o_at, o_kind, o_place, o_word, o_key, o_number) := hf
  exact w_X8_forward_0 X hK hA  fu a_ a_tape a_keys v_filled v_faultKind v_faultPlace v_end v_keys v_tape o_at o_kind o_place o_word o_key o_number   fu v_at v_kind v_place v_word v_key v_number hf _ _ _ hP (mp_D_of hD rfl) hS (lv_sub hl [0] rfl)


def k_X8_nameHere (T : Nat → ClassId) (a_ a_tape a_keys : Nat) (v_filled : Int32) (v_end : Int32) (v_at : Int32) (v_kind : Int32) (v_place : Int32) (v_word : Int64) (v_key : Int32) (v_number : Int32) (v_faultKind : Int32) (v_faultPlace : Int32) : va_W := [(a_, oX8 a_tape v_filled v_end v_at v_kind v_place v_word v_key v_number v_faultKind v_faultPlace a_keys)]
set_option maxHeartbeats 4000000 in
set_option maxRecDepth 100000 in
theorem c_X8_nameHere (l : Launch) (D : va_G) (T : Nat → ClassId) (a_ a_tape a_keys : Nat) (v_filled : Int32) (v_end : Int32) (v_at : Int32) (v_number : Int32) (v_kind : Int32) (v_place : Int32) (v_word : Int64) (v_key : Int32) (v_faultKind : Int32) (v_faultPlace : Int32) (r_ : Int64) (o_faultKind : Int32) (o_faultPlace : Int32) (hf : f_X8_nameHere v_kind v_place v_word v_key v_faultKind v_faultPlace = some (r_, o_faultKind, o_faultPlace)) :
    mp_M l D T yX8_nameHere cX8_nameHere 1 (some .long) ({ frames := 2, cells := 0, slots := 0, locals := 43 }) 0 0 [.ref a_] (k_X8_nameHere T a_ a_tape a_keys v_filled v_end v_at v_kind v_place v_word v_key v_number v_faultKind v_faultPlace) (mp_Ql D r_ (k_X8_nameHere T a_ a_tape a_keys v_filled v_end v_at v_kind v_place v_word v_key v_number o_faultKind o_faultPlace)) := by
  refine mp_of (by decide) (Nat.le_of_ble_eq_true rfl) rfl ?_
  intro p e s m args below meth c A ls X hK hP hD hS hA hl
  replace X : mp_X p s m meth c args RX8 "nameHere" cX8_nameHere 1 (some .long) := X
  have hx := X.1
  have hb := X.2.1
  have hml := X.2.2.1
  have hown := X.2.2.2.2.1
  have hts := X.2.2.2.2.2.1
  replace hl : lv_has ls 1 [(0, .ref a_)] := hl
  replace hf : (if v_kind = (nI 1) then (if (lg_cmp v_word (-1 : Int64)) = 0 then bd_ (f_X8_fail (nI 2) v_kind v_place v_faultKind v_faultPlace) (fun (z : Int32 × Int32 × Int32) => match z with | (r7, u8, u9) => some ((-1 : Int64), u8, u9)) else (if v_key = (-1 : Int32) then some (v_word, v_faultKind, v_faultPlace) else bd_ (f_X8_fail (nI 2) v_kind v_place v_faultKind v_faultPlace) (fun (z : Int32 × Int32 × Int32) => match z with | (r12, u13, u14) => some ((-1 : Int64), u13, u14)))) else bd_ (f_X8_fail (nI 2) v_kind v_place v_faultKind v_faultPlace) (fun (z : Int32 × Int32 × Int32) => match z with | (r2, u3, u4) => some ((-1 : Int64), u3, u4))) = some (r_, o_faultKind, o_faultPlace) := hf
  refine lv_aload_n hx hb dX8_nameHere_0 rfl (lv_at hl 0 rfl) ?_
  refine mp_get X fl_X8_25 hK hP 0 rfl rfl dX8_nameHere_1 ?_
  refine lv_iconst (v := (nI 1)) hx hb dX8_nameHere_4 (by decide) ?_
  refine lv_icmp_ne (tgt := 32) hx hb dX8_nameHere_5 (by decide) (fun h1 => ?_) (fun h1 => ?_)
  · replace hf := if_f hf h1
    refine lv_aload_n hx hb dX8_nameHere_32 rfl (lv_at hl 0 rfl) ?_
    refine lv_iconst (v := (nI 2)) hx hb dX8_nameHere_33 (by decide) ?_
    obtain ⟨⟨r2, u3, u4⟩, c5, hf⟩ := bd_of hf
    dsimp only at hf
    have hPc := hP.sub (ws' := (k_X8_fail T a_ a_tape a_keys v_filled v_end v_at v_kind v_place v_word v_key v_number v_faultKind v_faultPlace)) [0] rfl
    have hDc := (mp_D_of (w1 := (k_X8_nameHere T a_ a_tape a_keys v_filled v_end v_at v_kind v_place v_word v_key v_number v_faultKind v_faultPlace)) hD rfl).sub (ws' := (k_X8_fail T a_ a_tape a_keys v_filled v_end v_at v_kind v_place v_word v_key v_number v_faultKind v_faultPlace)) [0] rfl rfl
    refine mp_calli (isC := [0]) (wc := (k_X8_fail T a_ a_tape a_keys v_filled v_end v_at v_kind v_place v_word v_key v_number v_faultKind v_faultPlace)) (w1 := (k_X8_fail T a_ a_tape a_keys v_filled v_end v_at v_kind v_place v_word v_key v_number u3 u4)) hP (mp_D_of hD rfl) hS hA rfl rfl (mp_runV (As := [.int (nI 2)]) (rest := []) X me_X8_fail lk_X8_98 (c_X8_fail l D T a_ a_tape a_keys (nI 2) v_filled v_end v_at v_word v_key v_number v_kind v_place v_faultKind v_faultPlace r2 u3 u4 c5) rfl rfl ⟨(Nat.le_of_ble_eq_true rfl), (Nat.le_of_ble_eq_true rfl)⟩ hK hPc hDc rfl rfl rfl rfl hl.1 rfl (Nat.le_of_ble_eq_true rfl) dX8_nameHere_34 ⟨Nat.zero_le _, Nat.zero_le _⟩) (fun H locs hP _ hS => ?_)
    replace hP : va_P D mp_cl (k_X8_nameHere T a_ a_tape a_keys v_filled v_end v_at v_kind v_place v_word v_key v_number u3 u4) H := hP
    refine lv_pop hx hb dX8_nameHere_37 rfl ?_
    refine lv_ldc2 (v := (-1 : Int64)) hx hb hown (hts _ (cw_X8_31)) dX8_nameHere_38 ?_
    cases hf
    exact mp_retl X hP hS rfl dX8_nameHere_41
  · replace hf := if_t hf h1
    refine lv_aload_n hx hb dX8_nameHere_8 rfl (lv_at hl 0 rfl) ?_
    refine mp_get X fl_X8_33 hK hP 0 rfl rfl dX8_nameHere_9 ?_
    refine lv_ldc2 (v := (-1 : Int64)) hx hb hown (hts _ (cw_X8_31)) dX8_nameHere_12 ?_
    refine W.lcmp hx hb dX8_nameHere_15 ?_
    refine lv_if_eq (tgt := 32) hx hb dX8_nameHere_16 (by decide) (fun h6 => ?_) (fun h6 => ?_)
    · replace hf := if_t hf h6
      refine lv_aload_n hx hb dX8_nameHere_32 rfl (lv_at hl 0 rfl) ?_
      refine lv_iconst (v := (nI 2)) hx hb dX8_nameHere_33 (by decide) ?_
      obtain ⟨⟨r7, u8, u9⟩, c10, hf⟩ := bd_of hf
      dsimp only at hf
      have hPc := hP.sub (ws' := (k_X8_fail T a_ a_tape a_keys v_filled v_end v_at v_kind v_place v_word v_key v_number v_faultKind v_faultPlace)) [0] rfl
      have hDc := (mp_D_of (w1 := (k_X8_nameHere T a_ a_tape a_keys v_filled v_end v_at v_kind v_place v_word v_key v_number v_faultKind v_faultPlace)) hD rfl).sub (ws' := (k_X8_fail T a_ a_tape a_keys v_filled v_end v_at v_kind v_place v_word v_key v_number v_faultKind v_faultPlace)) [0] rfl rfl
      refine mp_calli (isC := [0]) (wc := (k_X8_fail T a_ a_tape a_keys v_filled v_end v_at v_kind v_place v_word v_key v_number v_faultKind v_faultPlace)) (w1 := (k_X8_fail T a_ a_tape a_keys v_filled v_end v_at v_kind v_place v_word v_key v_number u8 u9)) hP (mp_D_of hD rfl) hS hA rfl rfl (mp_runV (As := [.int (nI 2)]) (rest := []) X me_X8_fail lk_X8_98 (c_X8_fail l D T a_ a_tape a_keys (nI 2) v_filled v_end v_at v_word v_key v_number v_kind v_place v_faultKind v_faultPlace r7 u8 u9 c10) rfl rfl ⟨(Nat.le_of_ble_eq_true rfl), (Nat.le_of_ble_eq_true rfl)⟩ hK hPc hDc rfl rfl rfl rfl hl.1 rfl (Nat.le_of_ble_eq_true rfl) dX8_nameHere_34 ⟨Nat.zero_le _, Nat.zero_le _⟩) (fun H locs hP _ hS => ?_)
      replace hP : va_P D mp_cl (k_X8_nameHere T a_ a_tape a_keys v_filled v_end v_at v_kind v_place v_word v_key v_number u8 u9) H := hP
      refine lv_pop hx hb dX8_nameHere_37 rfl ?_
      refine lv_ldc2 (v := (-1 : Int64)) hx hb hown (hts _ (cw_X8_31)) dX8_nameHere_38 ?_
      cases hf
      exact mp_retl X hP hS rfl dX8_nameHere_41
    · replace hf := if_f hf h6
      refine lv_aload_n hx hb dX8_nameHere_19 rfl (lv_at hl 0 rfl) ?_
      refine mp_get X fl_X8_37 hK hP 0 rfl rfl dX8_nameHere_20 ?_
      refine lv_iconst (v := (-1 : Int32)) hx hb dX8_nameHere_23 (by decide) ?_
      refine lv_icmp_ne (tgt := 32) hx hb dX8_nameHere_24 (by decide) (fun h11 => ?_) (fun h11 => ?_)
      · replace hf := if_f hf h11
        refine lv_aload_n hx hb dX8_nameHere_32 rfl (lv_at hl 0 rfl) ?_
        refine lv_iconst (v := (nI 2)) hx hb dX8_nameHere_33 (by decide) ?_
        obtain ⟨⟨r12, u13, u14⟩, c15, hf⟩ := bd_of hf
        dsimp only at hf
        have hPc := hP.sub (ws' := (k_X8_fail T a_ a_tape a_keys v_filled v_end v_at v_kind v_place v_word v_key v_number v_faultKind v_faultPlace)) [0] rfl
        have hDc := (mp_D_of (w1 := (k_X8_nameHere T a_ a_tape a_keys v_filled v_end v_at v_kind v_place v_word v_key v_number v_faultKind v_faultPlace)) hD rfl).sub (ws' := (k_X8_fail T a_ a_tape a_keys v_filled v_end v_at v_kind v_place v_word v_key v_number v_faultKind v_faultPlace)) [0] rfl rfl
        refine mp_calli (isC := [0]) (wc := (k_X8_fail T a_ a_tape a_keys v_filled v_end v_at v_kind v_place v_word v_key v_number v_faultKind v_faultPlace)) (w1 := (k_X8_fail T a_ a_tape a_keys v_filled v_end v_at v_kind v_place v_word v_key v_number u13 u14)) hP (mp_D_of hD rfl) hS hA rfl rfl (mp_runV (As := [.int (nI 2)]) (rest := []) X me_X8_fail lk_X8_98 (c_X8_fail l D T a_ a_tape a_keys (nI 2) v_filled v_end v_at v_word v_key v_number v_kind v_place v_faultKind v_faultPlace r12 u13 u14 c15) rfl rfl ⟨(Nat.le_of_ble_eq_true rfl), (Nat.le_of_ble_eq_true rfl)⟩ hK hPc hDc rfl rfl rfl rfl hl.1 rfl (Nat.le_of_ble_eq_true rfl) dX8_nameHere_34 ⟨Nat.zero_le _, Nat.zero_le _⟩) (fun H locs hP _ hS => ?_)
        replace hP : va_P D mp_cl (k_X8_nameHere T a_ a_tape a_keys v_filled v_end v_at v_kind v_place v_word v_key v_number u13 u14) H := hP
        refine lv_pop hx hb dX8_nameHere_37 rfl ?_
        refine lv_ldc2 (v := (-1 : Int64)) hx hb hown (hts _ (cw_X8_31)) dX8_nameHere_38 ?_
        cases hf
        exact mp_retl X hP hS rfl dX8_nameHere_41
      · replace hf := if_t hf h11
        refine lv_aload_n hx hb dX8_nameHere_27 rfl (lv_at hl 0 rfl) ?_
        refine mp_get X fl_X8_33 hK hP 0 rfl rfl dX8_nameHere_28 ?_
        cases hf
        exact mp_retl X hP hS rfl dX8_nameHere_31


def k_X2_newName (T : Nat → ClassId) (a_p1 a_p1_tape a_p1_keys a_p2 a_p2_cellNames a_p2_secretNames a_p2_pageNames a_p2_speed a_p2_letters a_p2_room a_p2_now a_p2_rounds : Nat) (v_p1_filled : Int32) (v_p1_end : Int32) (v_p1_at : Int32) (v_p1_kind : Int32) (v_p1_place : Int32) (v_p1_word : Int64) (v_p1_key : Int32) (v_p1_number : Int32) (v_p1_faultKind : Int32) (v_p1_faultPlace : Int32) (v_p1_keys : (Nat → Int64)) (v_p1_tape : (Nat → Int32)) (v_p2_cells : Int32) (v_p2_secrets : Int32) (v_p2_pages : Int32) (v_p2_blind : Int32) (v_p2_rubs : Int32) (v_p2_cellNames : (Nat → Int64)) (v_p2_pageNames : (Nat → Int64)) (v_p2_secretNames : (Nat → Int64)) : va_W := [(a_p1, oX8 a_p1_tape v_p1_filled v_p1_end v_p1_at v_p1_kind v_p1_place v_p1_word v_p1_key v_p1_number v_p1_faultKind v_p1_faultPlace a_p1_keys), (a_p1_keys, mp_aJ T 24 v_p1_keys), (a_p1_tape, mp_aB T 900 v_p1_tape), (a_p2, oX1 v_p2_cells v_p2_secrets v_p2_pages a_p2_cellNames a_p2_secretNames a_p2_pageNames a_p2_speed v_p2_blind v_p2_rubs a_p2_letters a_p2_room a_p2_now a_p2_rounds), (a_p2_cellNames, mp_aJ T 8 v_p2_cellNames), (a_p2_pageNames, mp_aJ T 6 v_p2_pageNames), (a_p2_secretNames, mp_aJ T 6 v_p2_secretNames)]
set_option maxHeartbeats 4000000 in
set_option maxRecDepth 100000 in
theorem c_X2_newName (l : Launch) (D : va_G) (T : Nat → ClassId) (fu : Nat) (a_p1 a_p1_tape a_p1_keys a_p2 a_p2_cellNames a_p2_secretNames a_p2_pageNames a_p2_speed a_p2_letters a_p2_room a_p2_now a_p2_rounds : Nat) (v_p1_filled : Int32) (v_p2_blind : Int32) (v_p2_rubs : Int32) (v_p1_end : Int32) (v_p1_at : Int32) (v_p1_kind : Int32) (v_p1_place : Int32) (v_p1_word : Int64) (v_p1_key : Int32) (v_p1_number : Int32) (v_p1_faultKind : Int32) (v_p1_faultPlace : Int32) (v_p1_keys : (Nat → Int64)) (v_p1_tape : (Nat → Int32)) (v_p2_cells : Int32) (v_p2_secrets : Int32) (v_p2_pages : Int32) (v_p2_cellNames : (Nat → Int64)) (v_p2_pageNames : (Nat → Int64)) (v_p2_secretNames : (Nat → Int64)) (r_ : Int64) (o_p1_at : Int32) (o_p1_kind : Int32) (o_p1_place : Int32) (o_p1_word : Int64) (o_p1_key : Int32) (o_p1_number : Int32) (o_p1_faultKind : Int32) (o_p1_faultPlace : Int32) (hf : f_X2_newName fu v_p1_end v_p1_at v_p1_kind v_p1_place v_p1_word v_p1_key v_p1_number v_p1_faultKind v_p1_faultPlace v_p1_keys v_p1_tape v_p2_cells v_p2_secrets v_p2_pages v_p2_cellNames v_p2_pageNames v_p2_secretNames = some (r_, o_p1_at, o_p1_kind, o_p1_place, o_p1_word, o_p1_key, o_p1_number, o_p1_faultKind, o_p1_faultPlace)) :
    mp_M l D T yX2_newName cX2_newName 4 (some .long) ({ frames := 3, cells := 0, slots := 0, locals := 65 }) 0 0 [.ref a_p1, .ref a_p2] (k_X2_newName T a_p1 a_p1_tape a_p1_keys a_p2 a_p2_cellNames a_p2_secretNames a_p2_pageNames a_p2_speed a_p2_letters a_p2_room a_p2_now a_p2_rounds v_p1_filled v_p1_end v_p1_at v_p1_kind v_p1_place v_p1_word v_p1_key v_p1_number v_p1_faultKind v_p1_faultPlace v_p1_keys v_p1_tape v_p2_cells v_p2_secrets v_p2_pages v_p2_blind v_p2_rubs v_p2_cellNames v_p2_pageNames v_p2_secretNames) (mp_Ql D r_ (k_X2_newName T a_p1 a_p1_tape a_p1_keys a_p2 a_p2_cellNames a_p2_secretNames a_p2_pageNames a_p2_speed a_p2_letters a_p2_room a_p2_now a_p2_rounds v_p1_filled v_p1_end o_p1_at o_p1_kind o_p1_place o_p1_word o_p1_key o_p1_number o_p1_faultKind o_p1_faultPlace v_p1_keys v_p1_tape v_p2_cells v_p2_secrets v_p2_pages v_p2_blind v_p2_rubs v_p2_cellNames v_p2_pageNames v_p2_secretNames)) := by
  refine mp_of (by decide) (Nat.le_of_ble_eq_true rfl) rfl ?_
  intro p e s m args below meth c A ls X hK hP hD hS hA hl
  replace X : mp_X p s m meth c args RX2 "newName" cX2_newName 4 (some .long) := X
  have hx := X.1
  have hb := X.2.1
  have hml := X.2.2.1
  have hown := X.2.2.2.2.1
  have hts := X.2.2.2.2.2.1
  replace hl : lv_has ls 4 [(0, .ref a_p1), (1, .ref a_p2)] := hl
  replace hf : bd_ (f_X8_nameHere v_p1_kind v_p1_place v_p1_word v_p1_key v_p1_faultKind v_p1_faultPlace) (fun (z : Int64 × Int32 × Int32) => match z with | (r1, u2, u3) => (if (lg_cmp r1 (-1 : Int64)) = 0 then some ((-1 : Int64), v_p1_at, v_p1_kind, v_p1_place, v_p1_word, v_p1_key, v_p1_number, u2, u3) else bd_ (f_X1_isTaken fu r1 v_p2_cells v_p2_secrets v_p2_pages v_p2_cellNames v_p2_pageNames v_p2_secretNames) (fun (r6 : Int32) => (if r6 = 0 then bd_ (f_X8_forward fu v_p1_end v_p1_at v_p1_kind v_p1_place v_p1_word v_p1_key v_p1_number v_p1_keys v_p1_tape) (fun (z : Int32 × Int32 × Int32 × Int64 × Int32 × Int32) => match z with | (u9, u10, u11, u12, u13, u14) => some (r1, u9, u10, u11, u12, u13, u14, u2, u3)) else bd_ (f_X8_fail (nI 3) v_p1_kind v_p1_place u2 u3) (fun (z : Int32 × Int32 × Int32) => match z with | (r16, u17, u18) => some ((-1 : Int64), v_p1_at, v_p1_kind, v_p1_place, v_p1_word, v_p1_key, v_p1_number, u17, u18)))))) = some (r_, o_p1_at, o_p1_kind, o_p1_place, o_p1_word, o_p1_key, o_p1_number, o_p1_faultKind, o_p1_faultPlace) := hf
  refine lv_aload_n hx hb dX2_newName_0 rfl (lv_at hl 0 rfl) ?_
  obtain ⟨⟨r1, u2, u3⟩, c4, hf⟩ := bd_of hf
  dsimp only at hf
  have hPc := hP.sub (ws' := (k_X8_nameHere T a_p1 a_p1_tape a_p1_keys v_p1_filled v_p1_end v_p1_at v_p1_kind v_p1_place v_p1_word v_p1_key v_p1_number v_p1_faultKind v_p1_faultPlace)) [0] rfl
  have hDc := (mp_D_of (w1 := (k_X2_newName T a_p1 a_p1_tape a_p1_keys a_p2 a_p2_cellNames a_p2_secretNames a_p2_pageNames a_p2_speed a_p2_letters a_p2_room a_p2_now a_p2_rounds v_p1_filled v_p1_end v_p1_at v_p1_kind v_p1_place v_p1_word v_p1_key v_p1_number v_p1_faultKind v_p1_faultPlace v_p1_keys v_p1_tape v_p2_cells v_p2_secrets v_p2_pages v_p2_blind v_p2_rubs v_p2_cellNames v_p2_pageNames v_p2_secretNames)) hD rfl).sub (ws' := (k_X8_nameHere T a_p1 a_p1_tape a_p1_keys v_p1_filled v_p1_end v_p1_at v_p1_kind v_p1_place v_p1_word v_p1_key v_p1_number v_p1_faultKind v_p1_faultPlace)) [0] rfl rfl
  refine mp_calll (isC := [0]) (wc := (k_X8_nameHere T a_p1 a_p1_tape a_p1_keys v_p1_filled v_p1_end v_p1_at v_p1_kind v_p1_place v_p1_word v_p1_key v_p1_number v_p1_faultKind v_p1_faultPlace)) (w1 := (k_X8_nameHere T a_p1 a_p1_tape a_p1_keys v_p1_filled v_p1_end v_p1_at v_p1_kind v_p1_place v_p1_word v_p1_key v_p1_number u2 u3)) hP (mp_D_of hD rfl) hS hA rfl rfl (mp_runV (As := []) (rest := []) X me_X8_nameHere lk_X2_65 (c_X8_nameHere l D T a_p1 a_p1_tape a_p1_keys v_p1_filled v_p1_end v_p1_at v_p1_number v_p1_kind v_p1_place v_p1_word v_p1_key v_p1_faultKind v_p1_faultPlace r1 u2 u3 c4) rfl rfl ⟨(Nat.le_of_ble_eq_true rfl), (Nat.le_of_ble_eq_true rfl)⟩ hK hPc hDc rfl rfl rfl rfl hl.1 rfl (Nat.le_of_ble_eq_true rfl) dX2_newName_1 ⟨Nat.zero_le _, Nat.zero_le _⟩) (fun H locs hP _ hS => ?_)
  replace hP : va_P D mp_cl (k_X2_newName T a_p1 a_p1_tape a_p1_keys a_p2 a_p2_cellNames a_p2_secretNames a_p2_pageNames a_p2_speed a_p2_letters a_p2_room a_p2_now a_p2_rounds v_p1_filled v_p1_end v_p1_at v_p1_kind v_p1_place v_p1_word v_p1_key v_p1_number u2 u3 v_p1_keys v_p1_tape v_p2_cells v_p2_secrets v_p2_pages v_p2_blind v_p2_rubs v_p2_cellNames v_p2_pageNames v_p2_secretNames) H := hP
  refine lv_lstore_n (lv' := [(2, .long r1), (0, .ref a_p1), (1, .ref a_p2)]) hx hb dX2_newName_4 rfl hl (by decide) rfl (fun ls hl => ?_)
  refine lv_lload_n hx hb dX2_newName_5 rfl (lv_at hl 0 rfl) ?_
  refine lv_ldc2 (v := (-1 : Int64)) hx hb hown (hts _ (cw_X2_69)) dX2_newName_6 ?_
  refine W.lcmp hx hb dX2_newName_9 ?_
  refine lv_if_ne (tgt := 17) hx hb dX2_newName_10 (by decide) (fun h5 => ?_) (fun h5 => ?_)
  · replace hf := if_f hf h5
    refine lv_aload_n hx hb dX2_newName_17 rfl (lv_at hl 2 rfl) ?_
    refine lv_lload_n hx hb dX2_newName_18 rfl (lv_at hl 0 rfl) ?_
    obtain ⟨r6, c7, hf⟩ := bd_of hf
    have hPc := hP.sub (ws' := (k_X1_isTaken T a_p2 a_p2_cellNames a_p2_secretNames a_p2_pageNames a_p2_speed a_p2_letters a_p2_room a_p2_now a_p2_rounds v_p2_cells v_p2_secrets v_p2_pages v_p2_blind v_p2_rubs v_p2_cellNames v_p2_pageNames v_p2_secretNames)) [3, 4, 5, 6] rfl
    have hDc := (mp_D_of (w1 := (k_X2_newName T a_p1 a_p1_tape a_p1_keys a_p2 a_p2_cellNames a_p2_secretNames a_p2_pageNames a_p2_speed a_p2_letters a_p2_room a_p2_now a_p2_rounds v_p1_filled v_p1_end v_p1_at v_p1_kind v_p1_place v_p1_word v_p1_key v_p1_number u2 u3 v_p1_keys v_p1_tape v_p2_cells v_p2_secrets v_p2_pages v_p2_blind v_p2_rubs v_p2_cellNames v_p2_pageNames v_p2_secretNames)) hD rfl).sub (ws' := (k_X1_isTaken T a_p2 a_p2_cellNames a_p2_secretNames a_p2_pageNames a_p2_speed a_p2_letters a_p2_room a_p2_now a_p2_rounds v_p2_cells v_p2_secrets v_p2_pages v_p2_blind v_p2_rubs v_p2_cellNames v_p2_pageNames v_p2_secretNames)) [3, 4, 5, 6] rfl rfl
    refine mp_calli (isC := [3, 4, 5, 6]) (wc := (k_X1_isTaken T a_p2 a_p2_cellNames a_p2_secretNames a_p2_pageNames a_p2_speed a_p2_letters a_p2_room a_p2_now a_p2_rounds v_p2_cells v_p2_secrets v_p2_pages v_p2_blind v_p2_rubs v_p2_cellNames v_p2_pageNames v_p2_secretNames)) (w1 := (k_X1_isTaken T a_p2 a_p2_cellNames a_p2_secretNames a_p2_pageNames a_p2_speed a_p2_letters a_p2_room a_p2_now a_p2_rounds v_p2_cells v_p2_secrets v_p2_pages v_p2_blind v_p2_rubs v_p2_cellNames v_p2_pageNames v_p2_secretNames)) hP (mp_D_of hD rfl) hS hA rfl rfl (mp_runV (As := [.long r1]) (rest := []) X me_X1_isTaken lk_X2_71 (c_X1_isTaken l D T fu a_p2 a_p2_cellNames a_p2_secretNames a_p2_pageNames a_p2_speed a_p2_letters a_p2_room a_p2_now a_p2_rounds r1 v_p2_blind v_p2_rubs v_p2_cells v_p2_secrets v_p2_pages v_p2_cellNames v_p2_pageNames v_p2_secretNames r6 c7) rfl rfl ⟨(Nat.le_of_ble_eq_true rfl), (Nat.le_of_ble_eq_true rfl)⟩ hK hPc hDc rfl rfl rfl rfl hl.1 rfl (Nat.le_of_ble_eq_true rfl) dX2_newName_19 ⟨Nat.zero_le _, Nat.zero_le _⟩) (fun H locs hP _ hS => ?_)
    replace hP : va_P D mp_cl (k_X2_newName T a_p1 a_p1_tape a_p1_keys a_p2 a_p2_cellNames a_p2_secretNames a_p2_pageNames a_p2_speed a_p2_letters a_p2_room a_p2_now a_p2_rounds v_p1_filled v_p1_end v_p1_at v_p1_kind v_p1_place v_p1_word v_p1_key v_p1_number u2 u3 v_p1_keys v_p1_tape v_p2_cells v_p2_secrets v_p2_pages v_p2_blind v_p2_rubs v_p2_cellNames v_p2_pageNames v_p2_secretNames) H := hP
    refine lv_if_eq (tgt := 35) hx hb dX2_newName_22 (by decide) (fun h8 => ?_) (fun h8 => ?_)
    · replace hf := if_t hf h8
      refine lv_aload_n hx hb dX2_newName_35 rfl (lv_at hl 1 rfl) ?_
      obtain ⟨⟨u9, u10, u11, u12, u13, u14⟩, c15, hf⟩ := bd_of hf
      dsimp only at hf
      have hPc := hP.sub (ws' := (k_X8_forward T a_p1 a_p1_tape a_p1_keys v_p1_filled v_p1_end v_p1_at v_p1_kind v_p1_place v_p1_word v_p1_key v_p1_number u2 u3 v_p1_keys v_p1_tape)) [0, 1, 2] rfl
      have hDc := (mp_D_of (w1 := (k_X2_newName T a_p1 a_p1_tape a_p1_keys a_p2 a_p2_cellNames a_p2_secretNames a_p2_pageNames a_p2_speed a_p2_letters a_p2_room a_p2_now a_p2_rounds v_p1_filled v_p1_end v_p1_at v_p1_kind v_p1_place v_p1_word v_p1_key v_p1_number u2 u3 v_p1_keys v_p1_tape v_p2_cells v_p2_secrets v_p2_pages v_p2_blind v_p2_rubs v_p2_cellNames v_p2_pageNames v_p2_secretNames)) hD rfl).sub (ws' := (k_X8_forward T a_p1 a_p1_tape a_p1_keys v_p1_filled v_p1_end v_p1_at v_p1_kind v_p1_place v_p1_word v_p1_key v_p1_number u2 u3 v_p1_keys v_p1_tape)) [0, 1, 2] rfl rfl
      refine mp_callv (isC := [0, 1, 2]) (wc := (k_X8_forward T a_p1 a_p1_tape a_p1_keys v_p1_filled v_p1_end v_p1_at v_p1_kind v_p1_place v_p1_word v_p1_key v_p1_number u2 u3 v_p1_keys v_p1_tape)) (w1 := (k_X8_forward T a_p1 a_p1_tape a_p1_keys v_p1_filled v_p1_end u9 u10 u11 u12 u13 u14 u2 u3 v_p1_keys v_p1_tape)) hP (mp_D_of hD rfl) hS hA rfl rfl (mp_runV (As := []) (rest := []) X me_X8_forward lk_X2_75 (c_X8_forward l D T fu a_p1 a_p1_tape a_p1_keys v_p1_filled u2 u3 v_p1_end v_p1_at v_p1_kind v_p1_place v_p1_word v_p1_key v_p1_number v_p1_keys v_p1_tape u9 u10 u11 u12 u13 u14 c15) rfl rfl ⟨(Nat.le_of_ble_eq_true rfl), (Nat.le_of_ble_eq_true rfl)⟩ hK hPc hDc rfl rfl rfl rfl hl.1 rfl (Nat.le_of_ble_eq_true rfl) dX2_newName_36 ⟨Nat.zero_le _, Nat.zero_le _⟩) (fun H locs hP _ hS => ?_)
      replace hP : va_P D mp_cl (k_X2_newName T a_p1 a_p1_tape a_p1_keys a_p2 a_p2_cellNames a_p2_secretNames a_p2_pageNames a_p2_speed a_p2_letters a_p2_room a_p2_now a_p2_rounds v_p1_filled v_p1_end u9 u10 u11 u12 u13 u14 u2 u3 v_p1_keys v_p1_tape v_p2_cells v_p2_secrets v_p2_pages v_p2_blind v_p2_rubs v_p2_cellNames v_p2_pageNames v_p2_secretNames) H := hP
      refine lv_lload_n hx hb dX2_newName_39 rfl (lv_at hl 0 rfl) ?_
      cases hf
      exact mp_retl X hP hS rfl dX2_newName_40
    · replace hf := if_f hf h8
      refine lv_aload_n hx hb dX2_newName_25 rfl (lv_at hl 1 rfl) ?_
      refine lv_iconst (v := (nI 3)) hx hb dX2_newName_26 (by decide) ?_
      obtain ⟨⟨r16, u17, u18⟩, c19, hf⟩ := bd_of hf
      dsimp only at hf
      have hPc := hP.sub (ws' := (k_X8_fail T a_p1 a_p1_tape a_p1_keys v_p1_filled v_p1_end v_p1_at v_p1_kind v_p1_place v_p1_word v_p1_key v_p1_number u2 u3)) [0] rfl
      have hDc := (mp_D_of (w1 := (k_X2_newName T a_p1 a_p1_tape a_p1_keys a_p2 a_p2_cellNames a_p2_secretNames a_p2_pageNames a_p2_speed a_p2_letters a_p2_room a_p2_now a_p2_rounds v_p1_filled v_p1_end v_p1_at v_p1_kind v_p1_place v_p1_word v_p1_key v_p1_number u2 u3 v_p1_keys v_p1_tape v_p2_cells v_p2_secrets v_p2_pages v_p2_blind v_p2_rubs v_p2_cellNames v_p2_pageNames v_p2_secretNames)) hD rfl).sub (ws' := (k_X8_fail T a_p1 a_p1_tape a_p1_keys v_p1_filled v_p1_end v_p1_at v_p1_kind v_p1_place v_p1_word v_p1_key v_p1_number u2 u3)) [0] rfl rfl
      refine mp_calli (isC := [0]) (wc := (k_X8_fail T a_p1 a_p1_tape a_p1_keys v_p1_filled v_p1_end v_p1_at v_p1_kind v_p1_place v_p1_word v_p1_key v_p1_number u2 u3)) (w1 := (k_X8_fail T a_p1 a_p1_tape a_p1_keys v_p1_filled v_p1_end v_p1_at v_p1_kind v_p1_place v_p1_word v_p1_key v_p1_number u17 u18)) hP (mp_D_of hD rfl) hS hA rfl rfl (mp_runV (As := [.int (nI 3)]) (rest := []) X me_X8_fail lk_X2_48 (c_X8_fail l D T a_p1 a_p1_tape a_p1_keys (nI 3) v_p1_filled v_p1_end v_p1_at v_p1_word v_p1_key v_p1_number v_p1_kind v_p1_place u2 u3 r16 u17 u18 c19) rfl rfl ⟨(Nat.le_of_ble_eq_true rfl), (Nat.le_of_ble_eq_true rfl)⟩ hK hPc hDc rfl rfl rfl rfl hl.1 rfl (Nat.le_of_ble_eq_true rfl) dX2_newName_27 ⟨Nat.zero_le _, Nat.zero_le _⟩) (fun H locs hP _ hS => ?_)
      replace hP : va_P D mp_cl (k_X2_newName T a_p1 a_p1_tape a_p1_keys a_p2 a_p2_cellNames a_p2_secretNames a_p2_pageNames a_p2_speed a_p2_letters a_p2_room a_p2_now a_p2_rounds v_p1_filled v_p1_end v_p1_at v_p1_kind v_p1_place v_p1_word v_p1_key v_p1_number u17 u18 v_p1_keys v_p1_tape v_p2_cells v_p2_secrets v_p2_pages v_p2_blind v_p2_rubs v_p2_cellNames v_p2_pageNames v_p2_secretNames) H := hP
      refine lv_pop hx hb dX2_newName_30 rfl ?_
      refine lv_ldc2 (v := (-1 : Int64)) hx hb hown (hts _ (cw_X2_69)) dX2_newName_31 ?_
      cases hf
      exact mp_retl X hP hS rfl dX2_newName_34
  · replace hf := if_t hf h5
    refine lv_ldc2 (v := (-1 : Int64)) hx hb hown (hts _ (cw_X2_69)) dX2_newName_13 ?_
    cases hf
    exact mp_retl X hP hS rfl dX2_newName_16


def k_X8_skips (T : Nat → ClassId) (a_ a_tape a_keys : Nat) (v_filled : Int32) (v_end : Int32) (v_at : Int32) (v_kind : Int32) (v_place : Int32) (v_word : Int64) (v_key : Int32) (v_number : Int32) (v_faultKind : Int32) (v_faultPlace : Int32) (v_keys : (Nat → Int64)) (v_tape : (Nat → Int32)) : va_W := [(a_, oX8 a_tape v_filled v_end v_at v_kind v_place v_word v_key v_number v_faultKind v_faultPlace a_keys), (a_keys, mp_aJ T 24 v_keys), (a_tape, mp_aB T 900 v_tape)]
set_option maxHeartbeats 4000000 in
set_option maxRecDepth 100000 in
theorem w_X8_skips_13 {p : Program} {l : Launch} {e : Env} {s : State} {m : MethodId} {args : Array Value} {below : List Frame} {meth : Method} {c : Code} {D : va_G} {T : Nat → ClassId} {A : Nat → Prop} (X : mp_X p s m meth c args RX8 "skips" cX8_skips 3 (some .boolean)) (hK : va_K D mp_cl (mp_ty T) s) (hA : ∀ q, s.heap.size ≤ q → A q) (fu : Nat) (a_ a_tape a_keys : Nat) (v_filled : Int32) (v_faultKind : Int32) (v_faultPlace : Int32) (v_end : Int32) (v_keys : (Nat → Int64)) (v_tape : (Nat → Int32)) (r_ : Int32) (o_at : Int32) (o_kind : Int32) (o_place : Int32) (o_word : Int64) (o_key : Int32) (o_number : Int32) :
    ∀  (w0 : Int32) (v_at : Int32) (v_kind : Int32) (v_place : Int32) (v_word : Int64) (v_key : Int32) (v_number : Int32), f_X8_skips_13 fu v_end v_keys v_tape  w0 v_at v_kind v_place v_word v_key v_number = some (r_, o_at, o_kind, o_place, o_word, o_key, o_number) → ∀ (H : Heap) (locs : List Loc) (ls : Array Slot), va_P D mp_cl (k_X8_skips T a_ a_tape a_keys v_filled v_end v_at v_kind v_place v_word v_key v_number v_faultKind v_faultPlace v_keys v_tape) H → va_D A (k_X8_skips T a_ a_tape a_keys v_filled v_end v_at v_kind v_place v_word v_key v_number v_faultKind v_faultPlace v_keys v_tape) → va_S A s.heap H locs → lv_has ls 3 [(0, .ref a_)] → W p l e ({ frames := 3, cells := 0, slots := 0, locals := 65 }) s m args below meth c H locs 0 0 (MQ below ((mp_Qi D r_ (k_X8_skips T a_ a_tape a_keys v_filled v_end o_at o_kind o_place o_word o_key o_number v_faultKind v_faultPlace v_keys v_tape)) A) args s 0 0 A) (F0 m 13 ls [.int w0]) := by
  have hx := X.1
  have hb := X.2.1
  have hml := X.2.2.1
  have hown := X.2.2.2.2.1
  have hts := X.2.2.2.2.2.1
  intro w0 v_at v_kind v_place v_word v_key v_number hf H locs ls hP hD hS hl
  replace hf : (if w0 = 0 then gd_ (w0 = 0 ∨ w0 = 1) (some (w0, v_at, v_kind, v_place, v_word, v_key, v_number)) else bd_ (f_X8_forward fu v_end v_at v_kind v_place v_word v_key v_number v_keys v_tape) (fun (z : Int32 × Int32 × Int32 × Int64 × Int32 × Int32) => match z with | (u3, u4, u5, u6, u7, u8) => gd_ (w0 = 0 ∨ w0 = 1) (some (w0, u3, u4, u5, u6, u7, u8)))) = some (r_, o_at, o_kind, o_place, o_word, o_key, o_number) := hf
  refine lv_istore_n (lv' := [(2, .int w0), (0, .ref a_)]) hx hb dX8_skips_13 rfl hl (by decide) rfl (fun ls hl => ?_)
  refine lv_iload_n hx hb dX8_skips_14 rfl (lv_at hl 0 rfl) ?_
  refine lv_if_eq (tgt := 22) hx hb dX8_skips_15 (by decide) (fun h1 => ?_) (fun h1 => ?_)
  · replace hf := if_t hf h1
    refine lv_iload_n hx hb dX8_skips_22 rfl (lv_at hl 0 rfl) ?_
    obtain ⟨h2, hf⟩ := gd_of hf
    cases hf
    exact mp_retz X hP hS rfl h2 dX8_skips_23
  · replace hf := if_f hf h1
    refine lv_aload_n hx hb dX8_skips_18 rfl (lv_at hl 1 rfl) ?_
    obtain ⟨⟨u3, u4, u5, u6, u7, u8⟩, c9, hf⟩ := bd_of hf
    dsimp only at hf
    have hPc := hP.sub (ws' := (k_X8_forward T a_ a_tape a_keys v_filled v_end v_at v_kind v_place v_word v_key v_number v_faultKind v_faultPlace v_keys v_tape)) [0, 1, 2] rfl
    have hDc := (mp_D_of (w1 := (k_X8_skips T a_ a_tape a_keys v_filled v_end v_at v_kind v_place v_word v_key v_number v_faultKind v_faultPlace v_keys v_tape)) hD rfl).sub (ws' := (k_X8_forward T a_ a_tape a_keys v_filled v_end v_at v_kind v_place v_word v_key v_number v_faultKind v_faultPlace v_keys v_tape)) [0, 1, 2] rfl rfl
    refine mp_callv (isC := [0, 1, 2]) (wc := (k_X8_forward T a_ a_tape a_keys v_filled v_end v_at v_kind v_place v_word v_key v_number v_faultKind v_faultPlace v_keys v_tape)) (w1 := (k_X8_forward T a_ a_tape a_keys v_filled v_end u3 u4 u5 u6 u7 u8 v_faultKind v_faultPlace v_keys v_tape)) hP (mp_D_of hD rfl) hS hA rfl rfl (mp_runV (As := []) (rest := []) X me_X8_forward lk_X8_71 (c_X8_forward l D T fu a_ a_tape a_keys v_filled v_faultKind v_faultPlace v_end v_at v_kind v_place v_word v_key v_number v_keys v_tape u3 u4 u5 u6 u7 u8 c9) rfl rfl ⟨(Nat.le_of_ble_eq_true rfl), (Nat.le_of_ble_eq_true rfl)⟩ hK hPc hDc rfl rfl rfl rfl hl.1 rfl (Nat.le_of_ble_eq_true rfl) dX8_skips_19 ⟨Nat.zero_le _, Nat.zero_le _⟩) (fun H locs hP _ hS => ?_)
    replace hP : va_P D mp_cl (k_X8_skips T a_ a_tape a_keys v_filled v_end u3 u4 u5 u6 u7 u8 v_faultKind v_faultPlace v_keys v_tape) H := hP
    refine lv_iload_n hx hb dX8_skips_22 rfl (lv_at hl 0 rfl) ?_
    obtain ⟨h10, hf⟩ := gd_of hf
    cases hf
    exact mp_retz X hP hS rfl h10 dX8_skips_23

set_option maxHeartbeats 4000000 in
set_option maxRecDepth 100000 in
theorem c_X8_skips (l : Launch) (D : va_G) (T : Nat → ClassId) (fu : Nat) (a_ a_tape a_keys : Nat) (x1 : Int32) (v_filled : Int32) (v_faultKind : Int32) (v_faultPlace : Int32) (v_end : Int32) (v_at : Int32) (v_kind : Int32) (v_place : Int32) (v_word : Int64) (v_key : Int32) (v_number : Int32) (v_keys : (Nat → Int64)) (v_tape : (Nat → Int32)) (r_ : Int32) (o_at : Int32) (o_kind : Int32) (o_place : Int32) (o_word : Int64) (o_key : Int32) (o_number : Int32) (hf : f_X8_skips fu x1 v_end v_at v_kind v_place v_word v_key v_number v_keys v_tape = some (r_, o_at, o_kind, o_place, o_word, o_key, o_number)) :
    mp_M l D T yX8_skips cX8_skips 3 (some .boolean) ({ frames := 3, cells := 0, slots := 0, locals := 65 }) 0 0 [.ref a_, .int x1] (k_X8_skips T a_ a_tape a_keys v_filled v_end v_at v_kind v_place v_word v_key v_number v_faultKind v_faultPlace v_keys v_tape) (mp_Qi D r_ (k_X8_skips T a_ a_tape a_keys v_filled v_end o_at o_kind o_place o_word o_key o_number v_faultKind v_faultPlace v_keys v_tape)) := by
  refine mp_of (by decide) (Nat.le_of_ble_eq_true rfl) rfl ?_
  intro p e s m args below meth c A ls X hK hP hD hS hA hl
  replace X : mp_X p s m meth c args RX8 "skips" cX8_skips 3 (some .boolean) := X
  have hx := X.1
  have hb := X.2.1
  have hml := X.2.2.1
  have hown := X.2.2.2.2.1
  have hts := X.2.2.2.2.2.1
  replace hl : lv_has ls 3 [(0, .ref a_), (1, .int x1)] := hl
  replace hf : (if v_key = x1 then f_X8_skips_13 fu v_end v_keys v_tape  (nI 1) v_at v_kind v_place v_word v_key v_number else f_X8_skips_13 fu v_end v_keys v_tape  (nI 0) v_at v_kind v_place v_word v_key v_number) = some (r_, o_at, o_kind, o_place, o_word, o_key, o_number) := hf
  refine lv_aload_n hx hb dX8_skips_0 rfl (lv_at hl 0 rfl) ?_
  refine mp_get X fl_X8_37 hK hP 0 rfl rfl dX8_skips_1 ?_
  refine lv_iload_n hx hb dX8_skips_4 rfl (lv_at hl 1 rfl) ?_
  refine lv_icmp_ne (tgt := 12) hx hb dX8_skips_5 (by decide) (fun h1 => ?_) (fun h1 => ?_)
  · replace hf := if_f hf h1
    refine lv_iconst (v := (nI 0)) hx hb dX8_skips_12 (by decide) ?_
    exact w_X8_skips_13 X hK hA  fu a_ a_tape a_keys v_filled v_faultKind v_faultPlace v_end v_keys v_tape r_ o_at o_kind o_place o_word o_key o_number   (nI 0) v_at v_kind v_place v_word v_key v_number hf _ _ _ hP (mp_D_of hD rfl) hS (lv_sub hl [0] rfl)
  · replace hf := if_t hf h1
    refine lv_iconst (v := (nI 1)) hx hb dX8_skips_8 (by decide) ?_
    refine lv_goto (tgt := 13) hx hb dX8_skips_9 (by decide) ?_
    exact w_X8_skips_13 X hK hA  fu a_ a_tape a_keys v_filled v_faultKind v_faultPlace v_end v_keys v_tape r_ o_at o_kind o_place o_word o_key o_number   (nI 1) v_at v_kind v_place v_word v_key v_number hf _ _ _ hP (mp_D_of hD rfl) hS (lv_sub hl [0] rfl)


def k_X8_numberWithin (T : Nat → ClassId) (a_ a_tape a_keys : Nat) (v_filled : Int32) (v_end : Int32) (v_at : Int32) (v_kind : Int32) (v_place : Int32) (v_word : Int64) (v_key : Int32) (v_number : Int32) (v_faultKind : Int32) (v_faultPlace : Int32) (v_keys : (Nat → Int64)) (v_tape : (Nat → Int32)) : va_W := [(a_, oX8 a_tape v_filled v_end v_at v_kind v_place v_word v_key v_number v_faultKind v_faultPlace a_keys), (a_keys, mp_aJ T 24 v_keys), (a_tape, mp_aB T 900 v_tape)]
set_option maxHeartbeats 4000000 in
set_option maxRecDepth 100000 in
theorem c_X8_numberWithin (l : Launch) (D : va_G) (T : Nat → ClassId) (fu : Nat) (a_ a_tape a_keys : Nat) (x1 : Int32) (x2 : Int32) (v_filled : Int32) (v_end : Int32) (v_at : Int32) (v_kind : Int32) (v_place : Int32) (v_word : Int64) (v_key : Int32) (v_number : Int32) (v_faultKind : Int32) (v_faultPlace : Int32) (v_keys : (Nat → Int64)) (v_tape : (Nat → Int32)) (r_ : Int32) (o_at : Int32) (o_kind : Int32) (o_place : Int32) (o_word : Int64) (o_key : Int32) (o_number : Int32) (o_faultKind : Int32) (o_faultPlace : Int32) (hf : f_X8_numberWithin fu x1 x2 v_end v_at v_kind v_place v_word v_key v_number v_faultKind v_faultPlace v_keys v_tape = some (r_, o_at, o_kind, o_place, o_word, o_key, o_number, o_faultKind, o_faultPlace)) :
    mp_M l D T yX8_numberWithin cX8_numberWithin 4 (some .int) ({ frames := 3, cells := 0, slots := 0, locals := 65 }) 0 0 [.ref a_, .int x1, .int x2] (k_X8_numberWithin T a_ a_tape a_keys v_filled v_end v_at v_kind v_place v_word v_key v_number v_faultKind v_faultPlace v_keys v_tape) (mp_Qi D r_ (k_X8_numberWithin T a_ a_tape a_keys v_filled v_end o_at o_kind o_place o_word o_key o_number o_faultKind o_faultPlace v_keys v_tape)) := by
  refine mp_of (by decide) (Nat.le_of_ble_eq_true rfl) rfl ?_
  intro p e s m args below meth c A ls X hK hP hD hS hA hl
  replace X : mp_X p s m meth c args RX8 "numberWithin" cX8_numberWithin 4 (some .int) := X
  have hx := X.1
  have hb := X.2.1
  have hml := X.2.2.1
  have hown := X.2.2.2.2.1
  have hts := X.2.2.2.2.2.1
  replace hl : lv_has ls 4 [(0, .ref a_), (1, .int x1), (2, .int x2)] := hl
  replace hf : (if v_kind = (nI 2) then (if v_number < x1 then bd_ (f_X8_fail (nI 4) v_kind v_place v_faultKind v_faultPlace) (fun (z : Int32 × Int32 × Int32) => match z with | (r3, u4, u5) => some ((-1 : Int32), v_at, v_kind, v_place, v_word, v_key, v_number, u4, u5)) else (if v_number ≤ x2 then bd_ (f_X8_forward fu v_end v_at v_kind v_place v_word v_key v_number v_keys v_tape) (fun (z : Int32 × Int32 × Int32 × Int64 × Int32 × Int32) => match z with | (u8, u9, u10, u11, u12, u13) => some (v_number, u8, u9, u10, u11, u12, u13, v_faultKind, v_faultPlace)) else bd_ (f_X8_fail (nI 4) v_kind v_place v_faultKind v_faultPlace) (fun (z : Int32 × Int32 × Int32) => match z with | (r15, u16, u17) => some ((-1 : Int32), v_at, v_kind, v_place, v_word, v_key, v_number, u16, u17)))) else bd_ (f_X8_fail (nI 2) v_kind v_place v_faultKind v_faultPlace) (fun (z : Int32 × Int32 × Int32) => match z with | (r19, u20, u21) => some ((-1 : Int32), v_at, v_kind, v_place, v_word, v_key, v_number, u20, u21))) = some (r_, o_at, o_kind, o_place, o_word, o_key, o_number, o_faultKind, o_faultPlace) := hf
  refine lv_aload_n hx hb dX8_numberWithin_0 rfl (lv_at hl 0 rfl) ?_
  refine mp_get X fl_X8_25 hK hP 0 rfl rfl dX8_numberWithin_1 ?_
  refine lv_iconst (v := (nI 2)) hx hb dX8_numberWithin_4 (by decide) ?_
  refine lv_icmp_eq (tgt := 16) hx hb dX8_numberWithin_5 (by decide) (fun h1 => ?_) (fun h1 => ?_)
  · replace hf := if_t hf h1
    refine lv_aload_n hx hb dX8_numberWithin_16 rfl (lv_at hl 0 rfl) ?_
    refine mp_get X fl_X8_40 hK hP 0 rfl rfl dX8_numberWithin_17 ?_
    refine lv_iload_n hx hb dX8_numberWithin_20 rfl (lv_at hl 1 rfl) ?_
    refine lv_icmp_lt (tgt := 32) hx hb dX8_numberWithin_21 (by decide) (fun h2 => ?_) (fun h2 => ?_)
    · replace hf := if_t hf h2
      refine lv_aload_n hx hb dX8_numberWithin_32 rfl (lv_at hl 0 rfl) ?_
      refine lv_iconst (v := (nI 4)) hx hb dX8_numberWithin_33 (by decide) ?_
      obtain ⟨⟨r3, u4, u5⟩, c6, hf⟩ := bd_of hf
      dsimp only at hf
      have hPc := hP.sub (ws' := (k_X8_fail T a_ a_tape a_keys v_filled v_end v_at v_kind v_place v_word v_key v_number v_faultKind v_faultPlace)) [0] rfl
      have hDc := (mp_D_of (w1 := (k_X8_numberWithin T a_ a_tape a_keys v_filled v_end v_at v_kind v_place v_word v_key v_number v_faultKind v_faultPlace v_keys v_tape)) hD rfl).sub (ws' := (k_X8_fail T a_ a_tape a_keys v_filled v_end v_at v_kind v_place v_word v_key v_number v_faultKind v_faultPlace)) [0] rfl rfl
      refine mp_calli (isC := [0]) (wc := (k_X8_fail T a_ a_tape a_keys v_filled v_end v_at v_kind v_place v_word v_key v_number v_faultKind v_faultPlace)) (w1 := (k_X8_fail T a_ a_tape a_keys v_filled v_end v_at v_kind v_place v_word v_key v_number u4 u5)) hP (mp_D_of hD rfl) hS hA rfl rfl (mp_runV (As := [.int (nI 4)]) (rest := []) X me_X8_fail lk_X8_98 (c_X8_fail l D T a_ a_tape a_keys (nI 4) v_filled v_end v_at v_word v_key v_number v_kind v_place v_faultKind v_faultPlace r3 u4 u5 c6) rfl rfl ⟨(Nat.le_of_ble_eq_true rfl), (Nat.le_of_ble_eq_true rfl)⟩ hK hPc hDc rfl rfl rfl rfl hl.1 rfl (Nat.le_of_ble_eq_true rfl) dX8_numberWithin_34 ⟨Nat.zero_le _, Nat.zero_le _⟩) (fun H locs hP _ hS => ?_)
      replace hP : va_P D mp_cl (k_X8_numberWithin T a_ a_tape a_keys v_filled v_end v_at v_kind v_place v_word v_key v_number u4 u5 v_keys v_tape) H := hP
      refine lv_pop hx hb dX8_numberWithin_37 rfl ?_
      refine lv_iconst (v := (-1 : Int32)) hx hb dX8_numberWithin_38 (by decide) ?_
      cases hf
      exact mp_reti X hP hS rfl dX8_numberWithin_39
    · replace hf := if_f hf h2
      refine lv_aload_n hx hb dX8_numberWithin_24 rfl (lv_at hl 0 rfl) ?_
      refine mp_get X fl_X8_40 hK hP 0 rfl rfl dX8_numberWithin_25 ?_
      refine lv_iload_n hx hb dX8_numberWithin_28 rfl (lv_at hl 2 rfl) ?_
      refine lv_icmp_le (tgt := 40) hx hb dX8_numberWithin_29 (by decide) (fun h7 => ?_) (fun h7 => ?_)
      · replace hf := if_t hf h7
        refine lv_aload_n hx hb dX8_numberWithin_40 rfl (lv_at hl 0 rfl) ?_
        refine mp_get X fl_X8_40 hK hP 0 rfl rfl dX8_numberWithin_41 ?_
        refine lv_istore_n (lv' := [(3, .int v_number), (0, .ref a_), (1, .int x1), (2, .int x2)]) hx hb dX8_numberWithin_44 rfl hl (by decide) rfl (fun ls hl => ?_)
        refine lv_aload_n hx hb dX8_numberWithin_45 rfl (lv_at hl 1 rfl) ?_
        obtain ⟨⟨u8, u9, u10, u11, u12, u13⟩, c14, hf⟩ := bd_of hf
        dsimp only at hf
        have hPc := hP.sub (ws' := (k_X8_forward T a_ a_tape a_keys v_filled v_end v_at v_kind v_place v_word v_key v_number v_faultKind v_faultPlace v_keys v_tape)) [0, 1, 2] rfl
        have hDc := (mp_D_of (w1 := (k_X8_numberWithin T a_ a_tape a_keys v_filled v_end v_at v_kind v_place v_word v_key v_number v_faultKind v_faultPlace v_keys v_tape)) hD rfl).sub (ws' := (k_X8_forward T a_ a_tape a_keys v_filled v_end v_at v_kind v_place v_word v_key v_number v_faultKind v_faultPlace v_keys v_tape)) [0, 1, 2] rfl rfl
        refine mp_callv (isC := [0, 1, 2]) (wc := (k_X8_forward T a_ a_tape a_keys v_filled v_end v_at v_kind v_place v_word v_key v_number v_faultKind v_faultPlace v_keys v_tape)) (w1 := (k_X8_forward T a_ a_tape a_keys v_filled v_end u8 u9 u10 u11 u12 u13 v_faultKind v_faultPlace v_keys v_tape)) hP (mp_D_of hD rfl) hS hA rfl rfl (mp_runV (As := []) (rest := []) X me_X8_forward lk_X8_71 (c_X8_forward l D T fu a_ a_tape a_keys v_filled v_faultKind v_faultPlace v_end v_at v_kind v_place v_word v_key v_number v_keys v_tape u8 u9 u10 u11 u12 u13 c14) rfl rfl ⟨(Nat.le_of_ble_eq_true rfl), (Nat.le_of_ble_eq_true rfl)⟩ hK hPc hDc rfl rfl rfl rfl hl.1 rfl (Nat.le_of_ble_eq_true rfl) dX8_numberWithin_46 ⟨Nat.zero_le _, Nat.zero_le _⟩) (fun H locs hP _ hS => ?_)
        replace hP : va_P D mp_cl (k_X8_numberWithin T a_ a_tape a_keys v_filled v_end u8 u9 u10 u11 u12 u13 v_faultKind v_faultPlace v_keys v_tape) H := hP
        refine lv_iload_n hx hb dX8_numberWithin_49 rfl (lv_at hl 0 rfl) ?_
        cases hf
        exact mp_reti X hP hS rfl dX8_numberWithin_50
      · replace hf := if_f hf h7
        refine lv_aload_n hx hb dX8_numberWithin_32 rfl (lv_at hl 0 rfl) ?_
        refine lv_iconst (v := (nI 4)) hx hb dX8_numberWithin_33 (by decide) ?_
        obtain ⟨⟨r15, u16, u17⟩, c18, hf⟩ := bd_of hf
        dsimp only at hf
        have hPc := hP.sub (ws' := (k_X8_fail T a_ a_tape a_keys v_filled v_end v_at v_kind v_place v_word v_key v_number v_faultKind v_faultPlace)) [0] rfl
        have hDc := (mp_D_of (w1 := (k_X8_numberWithin T a_ a_tape a_keys v_filled v_end v_at v_kind v_place v_word v_key v_number v_faultKind v_faultPlace v_keys v_tape)) hD rfl).sub (ws' := (k_X8_fail T a_ a_tape a_keys v_filled v_end v_at v_kind v_place v_word v_key v_number v_faultKind v_faultPlace)) [0] rfl rfl
        refine mp_calli (isC := [0]) (wc := (k_X8_fail T a_ a_tape a_keys v_filled v_end v_at v_kind v_place v_word v_key v_number v_faultKind v_faultPlace)) (w1 := (k_X8_fail T a_ a_tape a_keys v_filled v_end v_at v_kind v_place v_word v_key v_number u16 u17)) hP (mp_D_of hD rfl) hS hA rfl rfl (mp_runV (As := [.int (nI 4)]) (rest := []) X me_X8_fail lk_X8_98 (c_X8_fail l D T a_ a_tape a_keys (nI 4) v_filled v_end v_at v_word v_key v_number v_kind v_place v_faultKind v_faultPlace r15 u16 u17 c18) rfl rfl ⟨(Nat.le_of_ble_eq_true rfl), (Nat.le_of_ble_eq_true rfl)⟩ hK hPc hDc rfl rfl rfl rfl hl.1 rfl (Nat.le_of_ble_eq_true rfl) dX8_numberWithin_34 ⟨Nat.zero_le _, Nat.zero_le _⟩) (fun H locs hP _ hS => ?_)
        replace hP : va_P D mp_cl (k_X8_numberWithin T a_ a_tape a_keys v_filled v_end v_at v_kind v_place v_word v_key v_number u16 u17 v_keys v_tape) H := hP
        refine lv_pop hx hb dX8_numberWithin_37 rfl ?_
        refine lv_iconst (v := (-1 : Int32)) hx hb dX8_numberWithin_38 (by decide) ?_
        cases hf
        exact mp_reti X hP hS rfl dX8_numberWithin_39
  · replace hf := if_f hf h1
    refine lv_aload_n hx hb dX8_numberWithin_8 rfl (lv_at hl 0 rfl) ?_
    refine lv_iconst (v := (nI 2)) hx hb dX8_numberWithin_9 (by decide) ?_
    obtain ⟨⟨r19, u20, u21⟩, c22, hf⟩ := bd_of hf
    dsimp only at hf
    have hPc := hP.sub (ws' := (k_X8_fail T a_ a_tape a_keys v_filled v_end v_at v_kind v_place v_word v_key v_number v_faultKind v_faultPlace)) [0] rfl
    have hDc := (mp_D_of (w1 := (k_X8_numberWithin T a_ a_tape a_keys v_filled v_end v_at v_kind v_place v_word v_key v_number v_faultKind v_faultPlace v_keys v_tape)) hD rfl).sub (ws' := (k_X8_fail T a_ a_tape a_keys v_filled v_end v_at v_kind v_place v_word v_key v_number v_faultKind v_faultPlace)) [0] rfl rfl
    refine mp_calli (isC := [0]) (wc := (k_X8_fail T a_ a_tape a_keys v_filled v_end v_at v_kind v_place v_word v_key v_number v_faultKind v_faultPlace)) (w1 := (k_X8_fail T a_ a_tape a_keys v_filled v_end v_at v_kind v_place v_word v_key v_number u20 u21)) hP (mp_D_of hD rfl) hS hA rfl rfl (mp_runV (As := [.int (nI 2)]) (rest := []) X me_X8_fail lk_X8_98 (c_X8_fail l D T a_ a_tape a_keys (nI 2) v_filled v_end v_at v_word v_key v_number v_kind v_place v_faultKind v_faultPlace r19 u20 u21 c22) rfl rfl ⟨(Nat.le_of_ble_eq_true rfl), (Nat.le_of_ble_eq_true rfl)⟩ hK hPc hDc rfl rfl rfl rfl hl.1 rfl (Nat.le_of_ble_eq_true rfl) dX8_numberWithin_10 ⟨Nat.zero_le _, Nat.zero_le _⟩) (fun H locs hP _ hS => ?_)
    replace hP : va_P D mp_cl (k_X8_numberWithin T a_ a_tape a_keys v_filled v_end v_at v_kind v_place v_word v_key v_number u20 u21 v_keys v_tape) H := hP
    refine lv_pop hx hb dX8_numberWithin_13 rfl ?_
    refine lv_iconst (v := (-1 : Int32)) hx hb dX8_numberWithin_14 (by decide) ?_
    cases hf
    exact mp_reti X hP hS rfl dX8_numberWithin_15


def k_X8_atSemicolon (T : Nat → ClassId) (a_ a_tape a_keys : Nat) (v_filled : Int32) (v_end : Int32) (v_at : Int32) (v_kind : Int32) (v_place : Int32) (v_word : Int64) (v_key : Int32) (v_number : Int32) (v_faultKind : Int32) (v_faultPlace : Int32) (v_tape : (Nat → Int32)) : va_W := [(a_, oX8 a_tape v_filled v_end v_at v_kind v_place v_word v_key v_number v_faultKind v_faultPlace a_keys), (a_tape, mp_aB T 900 v_tape)]
set_option maxHeartbeats 4000000 in
set_option maxRecDepth 100000 in
theorem c_X8_atSemicolon (l : Launch) (D : va_G) (T : Nat → ClassId) (a_ a_tape a_keys : Nat) (v_filled : Int32) (v_end : Int32) (v_at : Int32) (v_word : Int64) (v_key : Int32) (v_number : Int32) (v_faultKind : Int32) (v_faultPlace : Int32) (v_kind : Int32) (v_place : Int32) (v_tape : (Nat → Int32)) (r_ : Int32) (hf : f_X8_atSemicolon v_kind v_place v_tape = some r_) :
    mp_M l D T yX8_atSemicolon cX8_atSemicolon 1 (some .boolean) ({ frames := 0, cells := 0, slots := 0, locals := 0 }) 0 0 [.ref a_] (k_X8_atSemicolon T a_ a_tape a_keys v_filled v_end v_at v_kind v_place v_word v_key v_number v_faultKind v_faultPlace v_tape) (mp_Qi D r_ (k_X8_atSemicolon T a_ a_tape a_keys v_filled v_end v_at v_kind v_place v_word v_key v_number v_faultKind v_faultPlace v_tape)) := by
  refine mp_of (by decide) (Nat.le_of_ble_eq_true rfl) rfl ?_
  intro p e s m args below meth c A ls X hK hP hD hS hA hl
  replace X : mp_X p s m meth c args RX8 "atSemicolon" cX8_atSemicolon 1 (some .boolean) := X
  have hx := X.1
  have hb := X.2.1
  have hml := X.2.2.1
  have hown := X.2.2.2.2.1
  have hts := X.2.2.2.2.2.1
  replace hl : lv_has ls 1 [(0, .ref a_)] := hl
  replace hf : (if v_kind = (nI 3) then gi_ v_place 900 ((if (v_tape (v_place).toNatClampNeg) = (nI 59) then some ((nI 1)) else some ((nI 0)))) else some ((nI 0))) = some r_ := hf
  refine lv_aload_n hx hb dX8_atSemicolon_0 rfl (lv_at hl 0 rfl) ?_
  refine mp_get X fl_X8_25 hK hP 0 rfl rfl dX8_atSemicolon_1 ?_
  refine lv_iconst (v := (nI 3)) hx hb dX8_atSemicolon_4 (by decide) ?_
  refine lv_icmp_ne (tgt := 26) hx hb dX8_atSemicolon_5 (by decide) (fun h1 => ?_) (fun h1 => ?_)
  · replace hf := if_f hf h1
    refine lv_iconst (v := (nI 0)) hx hb dX8_atSemicolon_26 (by decide) ?_
    cases hf
    exact mp_retz X hP hS rfl (Or.inl rfl) dX8_atSemicolon_27
  · replace hf := if_t hf h1
    refine lv_aload_n hx hb dX8_atSemicolon_8 rfl (lv_at hl 0 rfl) ?_
    refine mp_get X fl_X8_9 hK hP 0 rfl rfl dX8_atSemicolon_9 ?_
    refine lv_aload_n hx hb dX8_atSemicolon_12 rfl (lv_at hl 0 rfl) ?_
    refine mp_get X fl_X8_28 hK hP 0 rfl rfl dX8_atSemicolon_13 ?_
    obtain ⟨h2, hf⟩ := gi_of hf
    refine va_bald hx hb hK hP 1 2 rfl rfl h2 dX8_atSemicolon_16 ?_
    refine lv_bipush (v := (nI 59)) hx hb dX8_atSemicolon_17 (by decide) ?_
    refine lv_icmp_ne (tgt := 26) hx hb dX8_atSemicolon_19 (by decide) (fun h3 => ?_) (fun h3 => ?_)
    · replace hf := if_f hf h3
      refine lv_iconst (v := (nI 0)) hx hb dX8_atSemicolon_26 (by decide) ?_
      cases hf
      exact mp_retz X hP hS rfl (Or.inl rfl) dX8_atSemicolon_27
    · replace hf := if_t hf h3
      refine lv_iconst (v := (nI 1)) hx hb dX8_atSemicolon_22 (by decide) ?_
      refine lv_goto (tgt := 27) hx hb dX8_atSemicolon_23 (by decide) ?_
      cases hf
      exact mp_retz X hP hS rfl (Or.inr rfl) dX8_atSemicolon_27


def k_X8_closes (T : Nat → ClassId) (a_ a_tape a_keys : Nat) (v_filled : Int32) (v_end : Int32) (v_at : Int32) (v_kind : Int32) (v_place : Int32) (v_word : Int64) (v_key : Int32) (v_number : Int32) (v_faultKind : Int32) (v_faultPlace : Int32) (v_keys : (Nat → Int64)) (v_tape : (Nat → Int32)) : va_W := [(a_, oX8 a_tape v_filled v_end v_at v_kind v_place v_word v_key v_number v_faultKind v_faultPlace a_keys), (a_keys, mp_aJ T 24 v_keys), (a_tape, mp_aB T 900 v_tape)]
set_option maxHeartbeats 4000000 in
set_option maxRecDepth 100000 in
theorem c_X8_closes (l : Launch) (D : va_G) (T : Nat → ClassId) (fu : Nat) (a_ a_tape a_keys : Nat) (v_filled : Int32) (v_end : Int32) (v_at : Int32) (v_kind : Int32) (v_place : Int32) (v_word : Int64) (v_key : Int32) (v_number : Int32) (v_faultKind : Int32) (v_faultPlace : Int32) (v_keys : (Nat → Int64)) (v_tape : (Nat → Int32)) (r_ : Int32) (o_at : Int32) (o_kind : Int32) (o_place : Int32) (o_word : Int64) (o_key : Int32) (o_number : Int32) (o_faultKind : Int32) (o_faultPlace : Int32) (hf : f_X8_closes fu v_end v_at v_kind v_place v_word v_key v_number v_faultKind v_faultPlace v_keys v_tape = some (r_, o_at, o_kind, o_place, o_word, o_key, o_number, o_faultKind, o_faultPlace)) :
    mp_M l D T yX8_closes cX8_closes 1 (some .boolean) ({ frames := 3, cells := 0, slots := 0, locals := 65 }) 0 0 [.ref a_] (k_X8_closes T a_ a_tape a_keys v_filled v_end v_at v_kind v_place v_word v_key v_number v_faultKind v_faultPlace v_keys v_tape) (mp_Qi D r_ (k_X8_closes T a_ a_tape a_keys v_filled v_end o_at o_kind o_place o_word o_key o_number o_faultKind o_faultPlace v_keys v_tape)) := by
  refine mp_of (by decide) (Nat.le_of_ble_eq_true rfl) rfl ?_
  intro p e s m args below meth c A ls X hK hP hD hS hA hl
  replace X : mp_X p s m meth c args RX8 "closes" cX8_closes 1 (some .boolean) := X
  have hx := X.1
  have hb := X.2.1
  have hml := X.2.2.1
  have hown := X.2.2.2.2.1
  have hts := X.2.2.2.2.2.1
  replace hl : lv_has ls 1 [(0, .ref a_)] := hl
  replace hf : bd_ (f_X8_atSemicolon v_kind v_place v_tape) (fun (r1 : Int32) => (if r1 = 0 then bd_ (f_X8_fail (nI 2) v_kind v_place v_faultKind v_faultPlace) (fun (z : Int32 × Int32 × Int32) => match z with | (r11, u12, u13) => gd_ (r11 = 0 ∨ r11 = 1) (some (r11, v_at, v_kind, v_place, v_word, v_key, v_number, u12, u13))) else bd_ (f_X8_forward fu v_end v_at v_kind v_place v_word v_key v_number v_keys v_tape) (fun (z : Int32 × Int32 × Int32 × Int64 × Int32 × Int32) => match z with | (u4, u5, u6, u7, u8, u9) => some ((nI 1), u4, u5, u6, u7, u8, u9, v_faultKind, v_faultPlace)))) = some (r_, o_at, o_kind, o_place, o_word, o_key, o_number, o_faultKind, o_faultPlace) := hf
  refine lv_aload_n hx hb dX8_closes_0 rfl (lv_at hl 0 rfl) ?_
  obtain ⟨r1, c2, hf⟩ := bd_of hf
  have hPc := hP.sub (ws' := (k_X8_atSemicolon T a_ a_tape a_keys v_filled v_end v_at v_kind v_place v_word v_key v_number v_faultKind v_faultPlace v_tape)) [0, 2] rfl
  have hDc := (mp_D_of (w1 := (k_X8_closes T a_ a_tape a_keys v_filled v_end v_at v_kind v_place v_word v_key v_number v_faultKind v_faultPlace v_keys v_tape)) hD rfl).sub (ws' := (k_X8_atSemicolon T a_ a_tape a_keys v_filled v_end v_at v_kind v_place v_word v_key v_number v_faultKind v_faultPlace v_tape)) [0, 2] rfl rfl
  refine mp_calli (isC := [0, 2]) (wc := (k_X8_atSemicolon T a_ a_tape a_keys v_filled v_end v_at v_kind v_place v_word v_key v_number v_faultKind v_faultPlace v_tape)) (w1 := (k_X8_atSemicolon T a_ a_tape a_keys v_filled v_end v_at v_kind v_place v_word v_key v_number v_faultKind v_faultPlace v_tape)) hP (mp_D_of hD rfl) hS hA rfl rfl (mp_runV (As := []) (rest := []) X me_X8_atSemicolon lk_X8_94 (c_X8_atSemicolon l D T a_ a_tape a_keys v_filled v_end v_at v_word v_key v_number v_faultKind v_faultPlace v_kind v_place v_tape r1 c2) rfl rfl ⟨(Nat.le_of_ble_eq_true rfl), (Nat.le_of_ble_eq_true rfl)⟩ hK hPc hDc rfl rfl rfl rfl hl.1 rfl (Nat.le_of_ble_eq_true rfl) dX8_closes_1 ⟨Nat.zero_le _, Nat.zero_le _⟩) (fun H locs hP _ hS => ?_)
  replace hP : va_P D mp_cl (k_X8_closes T a_ a_tape a_keys v_filled v_end v_at v_kind v_place v_word v_key v_number v_faultKind v_faultPlace v_keys v_tape) H := hP
  refine lv_if_ne (tgt := 13) hx hb dX8_closes_4 (by decide) (fun h3 => ?_) (fun h3 => ?_)
  · replace hf := if_f hf h3
    refine lv_aload_n hx hb dX8_closes_13 rfl (lv_at hl 0 rfl) ?_
    obtain ⟨⟨u4, u5, u6, u7, u8, u9⟩, c10, hf⟩ := bd_of hf
    dsimp only at hf
    have hPc := hP.sub (ws' := (k_X8_forward T a_ a_tape a_keys v_filled v_end v_at v_kind v_place v_word v_key v_number v_faultKind v_faultPlace v_keys v_tape)) [0, 1, 2] rfl
    have hDc := (mp_D_of (w1 := (k_X8_closes T a_ a_tape a_keys v_filled v_end v_at v_kind v_place v_word v_key v_number v_faultKind v_faultPlace v_keys v_tape)) hD rfl).sub (ws' := (k_X8_forward T a_ a_tape a_keys v_filled v_end v_at v_kind v_place v_word v_key v_number v_faultKind v_faultPlace v_keys v_tape)) [0, 1, 2] rfl rfl
    refine mp_callv (isC := [0, 1, 2]) (wc := (k_X8_forward T a_ a_tape a_keys v_filled v_end v_at v_kind v_place v_word v_key v_number v_faultKind v_faultPlace v_keys v_tape)) (w1 := (k_X8_forward T a_ a_tape a_keys v_filled v_end u4 u5 u6 u7 u8 u9 v_faultKind v_faultPlace v_keys v_tape)) hP (mp_D_of hD rfl) hS hA rfl rfl (mp_runV (As := []) (rest := []) X me_X8_forward lk_X8_71 (c_X8_forward l D T fu a_ a_tape a_keys v_filled v_faultKind v_faultPlace v_end v_at v_kind v_place v_word v_key v_number v_keys v_tape u4 u5 u6 u7 u8 u9 c10) rfl rfl ⟨(Nat.le_of_ble_eq_true rfl), (Nat.le_of_ble_eq_true rfl)⟩ hK hPc hDc rfl rfl rfl rfl hl.1 rfl (Nat.le_of_ble_eq_true rfl) dX8_closes_14 ⟨Nat.zero_le _, Nat.zero_le _⟩) (fun H locs hP _ hS => ?_)
    replace hP : va_P D mp_cl (k_X8_closes T a_ a_tape a_keys v_filled v_end u4 u5 u6 u7 u8 u9 v_faultKind v_faultPlace v_keys v_tape) H := hP
    refine lv_iconst (v := (nI 1)) hx hb dX8_closes_17 (by decide) ?_
    cases hf
    exact mp_retz X hP hS rfl (Or.inr rfl) dX8_closes_18
  · replace hf := if_t hf h3
    refine lv_aload_n hx hb dX8_closes_7 rfl (lv_at hl 0 rfl) ?_
    refine lv_iconst (v := (nI 2)) hx hb dX8_closes_8 (by decide) ?_
    obtain ⟨⟨r11, u12, u13⟩, c14, hf⟩ := bd_of hf
    dsimp only at hf
    have hPc := hP.sub (ws' := (k_X8_fail T a_ a_tape a_keys v_filled v_end v_at v_kind v_place v_word v_key v_number v_faultKind v_faultPlace)) [0] rfl
    have hDc := (mp_D_of (w1 := (k_X8_closes T a_ a_tape a_keys v_filled v_end v_at v_kind v_place v_word v_key v_number v_faultKind v_faultPlace v_keys v_tape)) hD rfl).sub (ws' := (k_X8_fail T a_ a_tape a_keys v_filled v_end v_at v_kind v_place v_word v_key v_number v_faultKind v_faultPlace)) [0] rfl rfl
    refine mp_calli (isC := [0]) (wc := (k_X8_fail T a_ a_tape a_keys v_filled v_end v_at v_kind v_place v_word v_key v_number v_faultKind v_faultPlace)) (w1 := (k_X8_fail T a_ a_tape a_keys v_filled v_end v_at v_kind v_place v_word v_key v_number u12 u13)) hP (mp_D_of hD rfl) hS hA rfl rfl (mp_runV (As := [.int (nI 2)]) (rest := []) X me_X8_fail lk_X8_98 (c_X8_fail l D T a_ a_tape a_keys (nI 2) v_filled v_end v_at v_word v_key v_number v_kind v_place v_faultKind v_faultPlace r11 u12 u13 c14) rfl rfl ⟨(Nat.le_of_ble_eq_true rfl), (Nat.le_of_ble_eq_true rfl)⟩ hK hPc hDc rfl rfl rfl rfl hl.1 rfl (Nat.le_of_ble_eq_true rfl) dX8_closes_9 ⟨Nat.zero_le _, Nat.zero_le _⟩) (fun H locs hP _ hS => ?_)
    replace hP : va_P D mp_cl (k_X8_closes T a_ a_tape a_keys v_filled v_end v_at v_kind v_place v_word v_key v_number u12 u13 v_keys v_tape) H := hP
    obtain ⟨h15, hf⟩ := gd_of hf
    cases hf
    exact mp_retz X hP hS rfl h15 dX8_closes_12


def k_X2_takeCell (T : Nat → ClassId) (a_p1 a_p1_tape a_p1_keys a_p2 a_p2_cellNames a_p2_secretNames a_p2_pageNames a_p2_speed a_p2_letters a_p2_room a_p2_now a_p2_rounds : Nat) (v_p1_filled : Int32) (v_p1_end : Int32) (v_p1_at : Int32) (v_p1_kind : Int32) (v_p1_place : Int32) (v_p1_word : Int64) (v_p1_key : Int32) (v_p1_number : Int32) (v_p1_faultKind : Int32) (v_p1_faultPlace : Int32) (v_p1_keys : (Nat → Int64)) (v_p1_tape : (Nat → Int32)) (v_p2_cells : Int32) (v_p2_secrets : Int32) (v_p2_pages : Int32) (v_p2_blind : Int32) (v_p2_rubs : Int32) (v_p2_cellNames : (Nat → Int64)) (v_p2_pageNames : (Nat → Int64)) (v_p2_secretNames : (Nat → Int64)) (v_p2_speed : (Nat → Int32)) : va_W := [(a_p1, oX8 a_p1_tape v_p1_filled v_p1_end v_p1_at v_p1_kind v_p1_place v_p1_word v_p1_key v_p1_number v_p1_faultKind v_p1_faultPlace a_p1_keys), (a_p1_keys, mp_aJ T 24 v_p1_keys), (a_p1_tape, mp_aB T 900 v_p1_tape), (a_p2, oX1 v_p2_cells v_p2_secrets v_p2_pages a_p2_cellNames a_p2_secretNames a_p2_pageNames a_p2_speed v_p2_blind v_p2_rubs a_p2_letters a_p2_room a_p2_now a_p2_rounds), (a_p2_cellNames, mp_aJ T 8 v_p2_cellNames), (a_p2_pageNames, mp_aJ T 6 v_p2_pageNames), (a_p2_secretNames, mp_aJ T 6 v_p2_secretNames), (a_p2_speed, mp_aI T 8 v_p2_speed)]
set_option maxHeartbeats 4000000 in
set_option maxRecDepth 100000 in
theorem w_X2_takeCell_55 {p : Program} {l : Launch} {e : Env} {s : State} {m : MethodId} {args : Array Value} {below : List Frame} {meth : Method} {c : Code} {D : va_G} {T : Nat → ClassId} {A : Nat → Prop} (X : mp_X p s m meth c args RX2 "takeCell" cX2_takeCell 7 (some .boolean)) (hK : va_K D mp_cl (mp_ty T) s) (hA : ∀ q, s.heap.size ≤ q → A q) (fu : Nat) (a_p1 a_p1_tape a_p1_keys a_p2 a_p2_cellNames a_p2_secretNames a_p2_pageNames a_p2_speed a_p2_letters a_p2_room a_p2_now a_p2_rounds : Nat) (v_p1_filled : Int32) (v_p1_end : Int32) (v_p1_keys : (Nat → Int64)) (v_p1_tape : (Nat → Int32)) (v_p2_secrets : Int32) (v_p2_pages : Int32) (v_p2_pageNames : (Nat → Int64)) (v_p2_secretNames : (Nat → Int64)) (r_ : Int32) (o_p1_at : Int32) (o_p1_kind : Int32) (o_p1_place : Int32) (o_p1_word : Int64) (o_p1_key : Int32) (o_p1_number : Int32) (o_p1_faultKind : Int32) (o_p1_faultPlace : Int32) (o_p2_cells : Int32) (o_p2_blind : Int32) (o_p2_rubs : Int32) (o_p2_cellNames : (Nat → Int64)) (o_p2_speed : (Nat → Int32)) :
    ∀  (z2 : Int64) (w0 : Int32) (v_p1_at : Int32) (v_p1_kind : Int32) (v_p1_place : Int32) (v_p1_word : Int64) (v_p1_key : Int32) (v_p1_number : Int32) (v_p1_faultKind : Int32) (v_p1_faultPlace : Int32) (v_p2_cells : Int32) (v_p2_blind : Int32) (v_p2_rubs : Int32) (v_p2_cellNames : (Nat → Int64)) (v_p2_speed : (Nat → Int32)), f_X2_takeCell_55 fu v_p1_end v_p1_keys v_p1_tape v_p2_secrets v_p2_pages v_p2_pageNames v_p2_secretNames  z2 w0 v_p1_at v_p1_kind v_p1_place v_p1_word v_p1_key v_p1_number v_p1_faultKind v_p1_faultPlace v_p2_cells v_p2_blind v_p2_rubs v_p2_cellNames v_p2_speed = some (r_, o_p1_at, o_p1_kind, o_p1_place, o_p1_word, o_p1_key, o_p1_number, o_p1_faultKind, o_p1_faultPlace, o_p2_cells, o_p2_blind, o_p2_rubs, o_p2_cellNames, o_p2_speed) → ∀ (H : Heap) (locs : List Loc) (ls : Array Slot), va_P D mp_cl (k_X2_takeCell T a_p1 a_p1_tape a_p1_keys a_p2 a_p2_cellNames a_p2_secretNames a_p2_pageNames a_p2_speed a_p2_letters a_p2_room a_p2_now a_p2_rounds v_p1_filled v_p1_end v_p1_at v_p1_kind v_p1_place v_p1_word v_p1_key v_p1_number v_p1_faultKind v_p1_faultPlace v_p1_keys v_p1_tape v_p2_cells v_p2_secrets v_p2_pages v_p2_blind v_p2_rubs v_p2_cellNames v_p2_pageNames v_p2_secretNames v_p2_speed) H → va_D A (k_X2_takeCell T a_p1 a_p1_tape a_p1_keys a_p2 a_p2_cellNames a_p2_secretNames a_p2_pageNames a_p2_speed a_p2_letters a_p2_room a_p2_now a_p2_rounds v_p1_filled v_p1_end v_p1_at v_p1_kind v_p1_place v_p1_word v_p1_key v_p1_number v_p1_faultKind v_p1_faultPlace v_p1_keys v_p1_tape v_p2_cells v_p2_secrets v_p2_pages v_p2_blind v_p2_rubs v_p2_cellNames v_p2_pageNames v_p2_secretNames v_p2_speed) → va_S A s.heap H locs → lv_has ls 7 [(0, .ref a_p1), (1, .ref a_p2), (2, .long z2)] → W p l e ({ frames := 4, cells := 0, slots := 0, locals := 88 }) s m args below meth c H locs 0 0 (MQ below ((mp_Qi D r_ (k_X2_takeCell T a_p1 a_p1_tape a_p1_keys a_p2 a_p2_cellNames a_p2_secretNames a_p2_pageNames a_p2_speed a_p2_letters a_p2_room a_p2_now a_p2_rounds v_p1_filled v_p1_end o_p1_at o_p1_kind o_p1_place o_p1_word o_p1_key o_p1_number o_p1_faultKind o_p1_faultPlace v_p1_keys v_p1_tape o_p2_cells v_p2_secrets v_p2_pages o_p2_blind o_p2_rubs o_p2_cellNames v_p2_pageNames v_p2_secretNames o_p2_speed)) A) args s 0 0 A) (F0 m 55 ls [.int w0]) := by
  have hx := X.1
  have hb := X.2.1
  have hml := X.2.2.1
  have hown := X.2.2.2.2.1
  have hts := X.2.2.2.2.2.1
  intro z2 w0 v_p1_at v_p1_kind v_p1_place v_p1_word v_p1_key v_p1_number v_p1_faultKind v_p1_faultPlace v_p2_cells v_p2_blind v_p2_rubs v_p2_cellNames v_p2_speed hf H locs ls hP hD hS hl
  replace hf : (if w0 = (-1 : Int32) then some ((nI 0), v_p1_at, v_p1_kind, v_p1_place, v_p1_word, v_p1_key, v_p1_number, v_p1_faultKind, v_p1_faultPlace, v_p2_cells, v_p2_blind, v_p2_rubs, v_p2_cellNames, v_p2_speed) else bd_ (f_X8_skips fu (nI 2) v_p1_end v_p1_at v_p1_kind v_p1_place v_p1_word v_p1_key v_p1_number v_p1_keys v_p1_tape) (fun (z : Int32 × Int32 × Int32 × Int32 × Int64 × Int32 × Int32) => match z with | (r2, u3, u4, u5, u6, u7, u8) => bd_ (f_X8_skips fu (nI 3) v_p1_end u3 u4 u5 u6 u7 u8 v_p1_keys v_p1_tape) (fun (z : Int32 × Int32 × Int32 × Int32 × Int64 × Int32 × Int32) => match z with | (r10, u11, u12, u13, u14, u15, u16) => bd_ (f_X8_closes fu v_p1_end u11 u12 u13 u14 u15 u16 v_p1_faultKind v_p1_faultPlace v_p1_keys v_p1_tape) (fun (z : Int32 × Int32 × Int32 × Int32 × Int64 × Int32 × Int32 × Int32 × Int32) => match z with | (r18, u19, u20, u21, u22, u23, u24, u25, u26) => (if r18 = 0 then some ((nI 0), u19, u20, u21, u22, u23, u24, u25, u26, v_p2_cells, v_p2_blind, v_p2_rubs, v_p2_cellNames, v_p2_speed) else bd_ (f_X1_addCell z2 w0 r2 r10 v_p2_cells v_p2_blind v_p2_rubs v_p2_cellNames v_p2_speed) (fun (z : Int32 × Int32 × Int32 × (Nat → Int64) × (Nat → Int32)) => match z with | (u29, u30, u31, u32, u33) => some ((nI 1), u19, u20, u21, u22, u23, u24, u25, u26, u29, u30, u31, u32, u33))))))) = some (r_, o_p1_at, o_p1_kind, o_p1_place, o_p1_word, o_p1_key, o_p1_number, o_p1_faultKind, o_p1_faultPlace, o_p2_cells, o_p2_blind, o_p2_rubs, o_p2_cellNames, o_p2_speed) := hf
  refine lv_istore (lv' := [(4, .int w0), (0, .ref a_p1), (1, .ref a_p2), (2, .long z2)]) hx hb dX2_takeCell_55 hl (by decide) rfl (fun ls hl => ?_)
  refine lv_iload hx hb dX2_takeCell_57 (lv_at hl 0 rfl) ?_
  refine lv_iconst (v := (-1 : Int32)) hx hb dX2_takeCell_59 (by decide) ?_
  refine lv_icmp_ne (tgt := 65) hx hb dX2_takeCell_60 (by decide) (fun h1 => ?_) (fun h1 => ?_)
  · replace hf := if_f hf h1
    refine lv_aload_n hx hb dX2_takeCell_65 rfl (lv_at hl 1 rfl) ?_
    refine lv_iconst (v := (nI 2)) hx hb dX2_takeCell_66 (by decide) ?_
    obtain ⟨⟨r2, u3, u4, u5, u6, u7, u8⟩, c9, hf⟩ := bd_of hf
    dsimp only at hf
    have hPc := hP.sub (ws' := (k_X8_skips T a_p1 a_p1_tape a_p1_keys v_p1_filled v_p1_end v_p1_at v_p1_kind v_p1_place v_p1_word v_p1_key v_p1_number v_p1_faultKind v_p1_faultPlace v_p1_keys v_p1_tape)) [0, 1, 2] rfl
    have hDc := (mp_D_of (w1 := (k_X2_takeCell T a_p1 a_p1_tape a_p1_keys a_p2 a_p2_cellNames a_p2_secretNames a_p2_pageNames a_p2_speed a_p2_letters a_p2_room a_p2_now a_p2_rounds v_p1_filled v_p1_end v_p1_at v_p1_kind v_p1_place v_p1_word v_p1_key v_p1_number v_p1_faultKind v_p1_faultPlace v_p1_keys v_p1_tape v_p2_cells v_p2_secrets v_p2_pages v_p2_blind v_p2_rubs v_p2_cellNames v_p2_pageNames v_p2_secretNames v_p2_speed)) hD rfl).sub (ws' := (k_X8_skips T a_p1 a_p1_tape a_p1_keys v_p1_filled v_p1_end v_p1_at v_p1_kind v_p1_place v_p1_word v_p1_key v_p1_number v_p1_faultKind v_p1_faultPlace v_p1_keys v_p1_tape)) [0, 1, 2] rfl rfl
    refine mp_calli (isC := [0, 1, 2]) (wc := (k_X8_skips T a_p1 a_p1_tape a_p1_keys v_p1_filled v_p1_end v_p1_at v_p1_kind v_p1_place v_p1_word v_p1_key v_p1_number v_p1_faultKind v_p1_faultPlace v_p1_keys v_p1_tape)) (w1 := (k_X8_skips T a_p1 a_p1_tape a_p1_keys v_p1_filled v_p1_end u3 u4 u5 u6 u7 u8 v_p1_faultKind v_p1_faultPlace v_p1_keys v_p1_tape)) hP (mp_D_of hD rfl) hS hA rfl rfl (mp_runV (As := [.int (nI 2)]) (rest := []) X me_X8_skips lk_X2_82 (c_X8_skips l D T fu a_p1 a_p1_tape a_p1_keys (nI 2) v_p1_filled v_p1_faultKind v_p1_faultPlace v_p1_end v_p1_at v_p1_kind v_p1_place v_p1_word v_p1_key v_p1_number v_p1_keys v_p1_tape r2 u3 u4 u5 u6 u7 u8 c9) rfl rfl ⟨(Nat.le_of_ble_eq_true rfl), (Nat.le_of_ble_eq_true rfl)⟩ hK hPc hDc rfl rfl rfl rfl hl.1 rfl (Nat.le_of_ble_eq_true rfl) dX2_takeCell_67 ⟨Nat.zero_le _, Nat.zero_le _⟩) (fun H locs hP _ hS => ?_)
    replace hP : va_P D mp_cl (k_X2_takeCell T a_p1 a_p1_tape a_p1_keys a_p2 a_p2_cellNames a_p2_secretNames a_p2_pageNames a_p2_speed a_p2_letters a_p2_room a_p2_now a_p2_rounds v_p1_filled v_p1_end u3 u4 u5 u6 u7 u8 v_p1_faultKind v_p1_faultPlace v_p1_keys v_p1_tape v_p2_cells v_p2_secrets v_p2_pages v_p2_blind v_p2_rubs v_p2_cellNames v_p2_pageNames v_p2_secretNames v_p2_speed) H := hP
    refine lv_istore (lv' := [(5, .int r2), (4, .int w0), (0, .ref a_p1), (1, .ref a_p2), (2, .long z2)]) hx hb dX2_takeCell_70 hl (by decide) rfl (fun ls hl => ?_)
    refine lv_aload_n hx hb dX2_takeCell_72 rfl (lv_at hl 2 rfl) ?_
    refine lv_iconst (v := (nI 3)) hx hb dX2_takeCell_73 (by decide) ?_
    obtain ⟨⟨r10, u11, u12, u13, u14, u15, u16⟩, c17, hf⟩ := bd_of hf
    dsimp only at hf
    have hPc := hP.sub (ws' := (k_X8_skips T a_p1 a_p1_tape a_p1_keys v_p1_filled v_p1_end u3 u4 u5 u6 u7 u8 v_p1_faultKind v_p1_faultPlace v_p1_keys v_p1_tape)) [0, 1, 2] rfl
    have hDc := (mp_D_of (w1 := (k_X2_takeCell T a_p1 a_p1_tape a_p1_keys a_p2 a_p2_cellNames a_p2_secretNames a_p2_pageNames a_p2_speed a_p2_letters a_p2_room a_p2_now a_p2_rounds v_p1_filled v_p1_end u3 u4 u5 u6 u7 u8 v_p1_faultKind v_p1_faultPlace v_p1_keys v_p1_tape v_p2_cells v_p2_secrets v_p2_pages v_p2_blind v_p2_rubs v_p2_cellNames v_p2_pageNames v_p2_secretNames v_p2_speed)) hD rfl).sub (ws' := (k_X8_skips T a_p1 a_p1_tape a_p1_keys v_p1_filled v_p1_end u3 u4 u5 u6 u7 u8 v_p1_faultKind v_p1_faultPlace v_p1_keys v_p1_tape)) [0, 1, 2] rfl rfl
    refine mp_calli (isC := [0, 1, 2]) (wc := (k_X8_skips T a_p1 a_p1_tape a_p1_keys v_p1_filled v_p1_end u3 u4 u5 u6 u7 u8 v_p1_faultKind v_p1_faultPlace v_p1_keys v_p1_tape)) (w1 := (k_X8_skips T a_p1 a_p1_tape a_p1_keys v_p1_filled v_p1_end u11 u12 u13 u14 u15 u16 v_p1_faultKind v_p1_faultPlace v_p1_keys v_p1_tape)) hP (mp_D_of hD rfl) hS hA rfl rfl (mp_runV (As := [.int (nI 3)]) (rest := []) X me_X8_skips lk_X2_82 (c_X8_skips l D T fu a_p1 a_p1_tape a_p1_keys (nI 3) v_p1_filled v_p1_faultKind v_p1_faultPlace v_p1_end u3 u4 u5 u6 u7 u8 v_p1_keys v_p1_tape r10 u11 u12 u13 u14 u15 u16 c17) rfl rfl ⟨(Nat.le_of_ble_eq_true rfl), (Nat.le_of_ble_eq_true rfl)⟩ hK hPc hDc rfl rfl rfl rfl hl.1 rfl (Nat.le_of_ble_eq_true rfl) dX2_takeCell_74 ⟨Nat.zero_le _, Nat.zero_le _⟩) (fun H locs hP _ hS => ?_)
    replace hP : va_P D mp_cl (k_X2_takeCell T a_p1 a_p1_tape a_p1_keys a_p2 a_p2_cellNames a_p2_secretNames a_p2_pageNames a_p2_speed a_p2_letters a_p2_room a_p2_now a_p2_rounds v_p1_filled v_p1_end u11 u12 u13 u14 u15 u16 v_p1_faultKind v_p1_faultPlace v_p1_keys v_p1_tape v_p2_cells v_p2_secrets v_p2_pages v_p2_blind v_p2_rubs v_p2_cellNames v_p2_pageNames v_p2_secretNames v_p2_speed) H := hP
    refine lv_istore (lv' := [(6, .int r10), (5, .int r2), (4, .int w0), (0, .ref a_p1), (1, .ref a_p2), (2, .long z2)]) hx hb dX2_takeCell_77 hl (by decide) rfl (fun ls hl => ?_)
    refine lv_aload_n hx hb dX2_takeCell_79 rfl (lv_at hl 3 rfl) ?_
    obtain ⟨⟨r18, u19, u20, u21, u22, u23, u24, u25, u26⟩, c27, hf⟩ := bd_of hf
    dsimp only at hf
    have hPc := hP.sub (ws' := (k_X8_closes T a_p1 a_p1_tape a_p1_keys v_p1_filled v_p1_end u11 u12 u13 u14 u15 u16 v_p1_faultKind v_p1_faultPlace v_p1_keys v_p1_tape)) [0, 1, 2] rfl
    have hDc := (mp_D_of (w1 := (k_X2_takeCell T a_p1 a_p1_tape a_p1_keys a_p2 a_p2_cellNames a_p2_secretNames a_p2_pageNames a_p2_speed a_p2_letters a_p2_room a_p2_now a_p2_rounds v_p1_filled v_p1_end u11 u12 u13 u14 u15 u16 v_p1_faultKind v_p1_faultPlace v_p1_keys v_p1_tape v_p2_cells v_p2_secrets v_p2_pages v_p2_blind v_p2_rubs v_p2_cellNames v_p2_pageNames v_p2_secretNames v_p2_speed)) hD rfl).sub (ws' := (k_X8_closes T a_p1 a_p1_tape a_p1_keys v_p1_filled v_p1_end u11 u12 u13 u14 u15 u16 v_p1_faultKind v_p1_faultPlace v_p1_keys v_p1_tape)) [0, 1, 2] rfl rfl
    refine mp_calli (isC := [0, 1, 2]) (wc := (k_X8_closes T a_p1 a_p1_tape a_p1_keys v_p1_filled v_p1_end u11 u12 u13 u14 u15 u16 v_p1_faultKind v_p1_faultPlace v_p1_keys v_p1_tape)) (w1 := (k_X8_closes T a_p1 a_p1_tape a_p1_keys v_p1_filled v_p1_end u19 u20 u21 u22 u23 u24 u25 u26 v_p1_keys v_p1_tape)) hP (mp_D_of hD rfl) hS hA rfl rfl (mp_runV (As := []) (rest := []) X me_X8_closes lk_X2_89 (c_X8_closes l D T fu a_p1 a_p1_tape a_p1_keys v_p1_filled v_p1_end u11 u12 u13 u14 u15 u16 v_p1_faultKind v_p1_faultPlace v_p1_keys v_p1_tape r18 u19 u20 u21 u22 u23 u24 u25 u26 c27) rfl rfl ⟨(Nat.le_of_ble_eq_true rfl), (Nat.le_of_ble_eq_true rfl)⟩ hK hPc hDc rfl rfl rfl rfl hl.1 rfl (Nat.le_of_ble_eq_true rfl) dX2_takeCell_80 ⟨Nat.zero_le _, Nat.zero_le _⟩) (fun H locs hP _ hS => ?_)
    replace hP : va_P D mp_cl (k_X2_takeCell T a_p1 a_p1_tape a_p1_keys a_p2 a_p2_cellNames a_p2_secretNames a_p2_pageNames a_p2_speed a_p2_letters a_p2_room a_p2_now a_p2_rounds v_p1_filled v_p1_end u19 u20 u21 u22 u23 u24 u25 u26 v_p1_keys v_p1_tape v_p2_cells v_p2_secrets v_p2_pages v_p2_blind v_p2_rubs v_p2_cellNames v_p2_pageNames v_p2_secretNames v_p2_speed) H := hP
    refine lv_if_ne (tgt := 88) hx hb dX2_takeCell_83 (by decide) (fun h28 => ?_) (fun h28 => ?_)
    · replace hf := if_f hf h28
      refine lv_aload_n hx hb dX2_takeCell_88 rfl (lv_at hl 4 rfl) ?_
      refine lv_lload_n hx hb dX2_takeCell_89 rfl (lv_at hl 5 rfl) ?_
      refine lv_iload hx hb dX2_takeCell_90 (lv_at hl 2 rfl) ?_
      refine lv_iload hx hb dX2_takeCell_92 (lv_at hl 1 rfl) ?_
      refine lv_iload hx hb dX2_takeCell_94 (lv_at hl 0 rfl) ?_
      obtain ⟨⟨u29, u30, u31, u32, u33⟩, c34, hf⟩ := bd_of hf
      dsimp only at hf
      have hPc := hP.sub (ws' := (k_X1_addCell T a_p2 a_p2_cellNames a_p2_secretNames a_p2_pageNames a_p2_speed a_p2_letters a_p2_room a_p2_now a_p2_rounds v_p2_cells v_p2_secrets v_p2_pages v_p2_blind v_p2_rubs v_p2_cellNames v_p2_speed)) [3, 4, 7] rfl
      have hDc := (mp_D_of (w1 := (k_X2_takeCell T a_p1 a_p1_tape a_p1_keys a_p2 a_p2_cellNames a_p2_secretNames a_p2_pageNames a_p2_speed a_p2_letters a_p2_room a_p2_now a_p2_rounds v_p1_filled v_p1_end u19 u20 u21 u22 u23 u24 u25 u26 v_p1_keys v_p1_tape v_p2_cells v_p2_secrets v_p2_pages v_p2_blind v_p2_rubs v_p2_cellNames v_p2_pageNames v_p2_secretNames v_p2_speed)) hD rfl).sub (ws' := (k_X1_addCell T a_p2 a_p2_cellNames a_p2_secretNames a_p2_pageNames a_p2_speed a_p2_letters a_p2_room a_p2_now a_p2_rounds v_p2_cells v_p2_secrets v_p2_pages v_p2_blind v_p2_rubs v_p2_cellNames v_p2_speed)) [3, 4, 7] rfl rfl
      refine mp_callv (isC := [3, 4, 7]) (wc := (k_X1_addCell T a_p2 a_p2_cellNames a_p2_secretNames a_p2_pageNames a_p2_speed a_p2_letters a_p2_room a_p2_now a_p2_rounds v_p2_cells v_p2_secrets v_p2_pages v_p2_blind v_p2_rubs v_p2_cellNames v_p2_speed)) (w1 := (k_X1_addCell T a_p2 a_p2_cellNames a_p2_secretNames a_p2_pageNames a_p2_speed a_p2_letters a_p2_room a_p2_now a_p2_rounds u29 v_p2_secrets v_p2_pages u30 u31 u32 u33)) hP (mp_D_of hD rfl) hS hA rfl rfl (mp_runV (As := [.long z2, .int w0, .int r2, .int r10]) (rest := []) X me_X1_addCell lk_X2_93 (c_X1_addCell l D T a_p2 a_p2_cellNames a_p2_secretNames a_p2_pageNames a_p2_speed a_p2_letters a_p2_room a_p2_now a_p2_rounds z2 w0 r2 r10 v_p2_secrets v_p2_pages v_p2_cells v_p2_blind v_p2_rubs v_p2_cellNames v_p2_speed u29 u30 u31 u32 u33 c34) rfl rfl ⟨(Nat.le_of_ble_eq_true rfl), (Nat.le_of_ble_eq_true rfl)⟩ hK hPc hDc rfl rfl rfl rfl hl.1 rfl (Nat.le_of_ble_eq_true rfl) dX2_takeCell_96 ⟨Nat.zero_le _, Nat.zero_le _⟩) (fun H locs hP _ hS => ?_)
      replace hP : va_P D mp_cl (k_X2_takeCell T a_p1 a_p1_tape a_p1_keys a_p2 a_p2_cellNames a_p2_secretNames a_p2_pageNames a_p2_speed a_p2_letters a_p2_room a_p2_now a_p2_rounds v_p1_filled v_p1_end u19 u20 u21 u22 u23 u24 u25 u26 v_p1_keys v_p1_tape u29 v_p2_secrets v_p2_pages u30 u31 u32 v_p2_pageNames v_p2_secretNames u33) H := hP
      refine lv_iconst (v := (nI 1)) hx hb dX2_takeCell_99 (by decide) ?_
      cases hf
      exact mp_retz X hP hS rfl (Or.inr rfl) dX2_takeCell_100
    · replace hf := if_t hf h28
      refine lv_iconst (v := (nI 0)) hx hb dX2_takeCell_86 (by decide) ?_
      cases hf
      exact mp_retz X hP hS rfl (Or.inl rfl) dX2_takeCell_87
  · replace hf := if_t hf h1
    refine lv_iconst (v := (nI 0)) hx hb dX2_takeCell_63 (by decide) ?_
    cases hf
    exact mp_retz X hP hS rfl (Or.inl rfl) dX2_takeCell_64

set_option maxHeartbeats 4000000 in
set_option maxRecDepth 100000 in
theorem c_X2_takeCell (l : Launch) (D : va_G) (T : Nat → ClassId) (fu : Nat) (a_p1 a_p1_tape a_p1_keys a_p2 a_p2_cellNames a_p2_secretNames a_p2_pageNames a_p2_speed a_p2_letters a_p2_room a_p2_now a_p2_rounds : Nat) (v_p1_filled : Int32) (v_p1_end : Int32) (v_p1_at : Int32) (v_p1_kind : Int32) (v_p1_place : Int32) (v_p1_word : Int64) (v_p1_key : Int32) (v_p1_number : Int32) (v_p1_faultKind : Int32) (v_p1_faultPlace : Int32) (v_p1_keys : (Nat → Int64)) (v_p1_tape : (Nat → Int32)) (v_p2_cells : Int32) (v_p2_secrets : Int32) (v_p2_pages : Int32) (v_p2_blind : Int32) (v_p2_rubs : Int32) (v_p2_cellNames : (Nat → Int64)) (v_p2_pageNames : (Nat → Int64)) (v_p2_secretNames : (Nat → Int64)) (v_p2_speed : (Nat → Int32)) (r_ : Int32) (o_p1_at : Int32) (o_p1_kind : Int32) (o_p1_place : Int32) (o_p1_word : Int64) (o_p1_key : Int32) (o_p1_number : Int32) (o_p1_faultKind : Int32) (o_p1_faultPlace : Int32) (o_p2_cells : Int32) (o_p2_blind : Int32) (o_p2_rubs : Int32) (o_p2_cellNames : (Nat → Int64)) (o_p2_speed : (Nat → Int32)) (hf : f_X2_takeCell fu v_p1_end v_p1_at v_p1_kind v_p1_place v_p1_word v_p1_key v_p1_number v_p1_faultKind v_p1_faultPlace v_p1_keys v_p1_tape v_p2_cells v_p2_secrets v_p2_pages v_p2_blind v_p2_rubs v_p2_cellNames v_p2_pageNames v_p2_secretNames v_p2_speed = some (r_, o_p1_at, o_p1_kind, o_p1_place, o_p1_word, o_p1_key, o_p1_number, o_p1_faultKind, o_p1_faultPlace, o_p2_cells, o_p2_blind, o_p2_rubs, o_p2_cellNames, o_p2_speed)) :
    mp_M l D T yX2_takeCell cX2_takeCell 7 (some .boolean) ({ frames := 4, cells := 0, slots := 0, locals := 88 }) 0 0 [.ref a_p1, .ref a_p2] (k_X2_takeCell T a_p1 a_p1_tape a_p1_keys a_p2 a_p2_cellNames a_p2_secretNames a_p2_pageNames a_p2_speed a_p2_letters a_p2_room a_p2_now a_p2_rounds v_p1_filled v_p1_end v_p1_at v_p1_kind v_p1_place v_p1_word v_p1_key v_p1_number v_p1_faultKind v_p1_faultPlace v_p1_keys v_p1_tape v_p2_cells v_p2_secrets v_p2_pages v_p2_blind v_p2_rubs v_p2_cellNames v_p2_pageNames v_p2_secretNames v_p2_speed) (mp_Qi D r_ (k_X2_takeCell T a_p1 a_p1_tape a_p1_keys a_p2 a_p2_cellNames a_p2_secretNames a_p2_pageNames a_p2_speed a_p2_letters a_p2_room a_p2_now a_p2_rounds v_p1_filled v_p1_end o_p1_at o_p1_kind o_p1_place o_p1_word o_p1_key o_p1_number o_p1_faultKind o_p1_faultPlace v_p1_keys v_p1_tape o_p2_cells v_p2_secrets v_p2_pages o_p2_blind o_p2_rubs o_p2_cellNames v_p2_pageNames v_p2_secretNames o_p2_speed)) := by
  refine mp_of (by decide) (Nat.le_of_ble_eq_true rfl) rfl ?_
  intro p e s m args below meth c A ls X hK hP hD hS hA hl
  replace X : mp_X p s m meth c args RX2 "takeCell" cX2_takeCell 7 (some .boolean) := X
  have hx := X.1
  have hb := X.2.1
  have hml := X.2.2.1
  have hown := X.2.2.2.2.1
  have hts := X.2.2.2.2.2.1
  replace hl : lv_has ls 7 [(0, .ref a_p1), (1, .ref a_p2)] := hl
  replace hf : (if v_p2_cells < (nI 8) then bd_ (f_X8_forward fu v_p1_end v_p1_at v_p1_kind v_p1_place v_p1_word v_p1_key v_p1_number v_p1_keys v_p1_tape) (fun (z : Int32 × Int32 × Int32 × Int64 × Int32 × Int32) => match z with | (u2, u3, u4, u5, u6, u7) => bd_ (f_X2_newName fu v_p1_end u2 u3 u4 u5 u6 u7 v_p1_faultKind v_p1_faultPlace v_p1_keys v_p1_tape v_p2_cells v_p2_secrets v_p2_pages v_p2_cellNames v_p2_pageNames v_p2_secretNames) (fun (z : Int64 × Int32 × Int32 × Int32 × Int64 × Int32 × Int32 × Int32 × Int32) => match z with | (r9, u10, u11, u12, u13, u14, u15, u16, u17) => (if (lg_cmp r9 (-1 : Int64)) = 0 then some ((nI 0), u10, u11, u12, u13, u14, u15, u16, u17, v_p2_cells, v_p2_blind, v_p2_rubs, v_p2_cellNames, v_p2_speed) else bd_ (f_X8_skips fu (nI 1) v_p1_end u10 u11 u12 u13 u14 u15 v_p1_keys v_p1_tape) (fun (z : Int32 × Int32 × Int32 × Int32 × Int64 × Int32 × Int32) => match z with | (r20, u21, u22, u23, u24, u25, u26) => (if r20 = 0 then f_X2_takeCell_55 fu v_p1_end v_p1_keys v_p1_tape v_p2_secrets v_p2_pages v_p2_pageNames v_p2_secretNames  r9 (nI 5) u21 u22 u23 u24 u25 u26 u16 u17 v_p2_cells v_p2_blind v_p2_rubs v_p2_cellNames v_p2_speed else bd_ (f_X8_numberWithin fu (nI 0) (nI 20) v_p1_end u21 u22 u23 u24 u25 u26 u16 u17 v_p1_keys v_p1_tape) (fun (z : Int32 × Int32 × Int32 × Int32 × Int64 × Int32 × Int32 × Int32 × Int32) => match z with | (r29, u30, u31, u32, u33, u34, u35, u36, u37) => f_X2_takeCell_55 fu v_p1_end v_p1_keys v_p1_tape v_p2_secrets v_p2_pages v_p2_pageNames v_p2_secretNames  r9 r29 u30 u31 u32 u33 u34 u35 u36 u37 v_p2_cells v_p2_blind v_p2_rubs v_p2_cellNames v_p2_speed)))))) else bd_ (f_X8_fail (nI 6) v_p1_kind v_p1_place v_p1_faultKind v_p1_faultPlace) (fun (z : Int32 × Int32 × Int32) => match z with | (r39, u40, u41) => gd_ (r39 = 0 ∨ r39 = 1) (some (r39, v_p1_at, v_p1_kind, v_p1_place, v_p1_word, v_p1_key, v_p1_number, u40, u41, v_p2_cells, v_p2_blind, v_p2_rubs, v_p2_cellNames, v_p2_speed)))) = some (r_, o_p1_at, o_p1_kind, o_p1_place, o_p1_word, o_p1_key, o_p1_number, o_p1_faultKind, o_p1_faultPlace, o_p2_cells, o_p2_blind, o_p2_rubs, o_p2_cellNames, o_p2_speed) := hf
  refine lv_aload_n hx hb dX2_takeCell_0 rfl (lv_at hl 1 rfl) ?_
  refine mp_get X fl_X2_56 hK hP 3 rfl rfl dX2_takeCell_1 ?_
  refine lv_bipush (v := (nI 8)) hx hb dX2_takeCell_4 (by decide) ?_
  refine lv_icmp_lt (tgt := 16) hx hb dX2_takeCell_6 (by decide) (fun h1 => ?_) (fun h1 => ?_)
  · replace hf := if_t hf h1
    refine lv_aload_n hx hb dX2_takeCell_16 rfl (lv_at hl 0 rfl) ?_
    obtain ⟨⟨u2, u3, u4, u5, u6, u7⟩, c8, hf⟩ := bd_of hf
    dsimp only at hf
    have hPc := hP.sub (ws' := (k_X8_forward T a_p1 a_p1_tape a_p1_keys v_p1_filled v_p1_end v_p1_at v_p1_kind v_p1_place v_p1_word v_p1_key v_p1_number v_p1_faultKind v_p1_faultPlace v_p1_keys v_p1_tape)) [0, 1, 2] rfl
    have hDc := (mp_D_of (w1 := (k_X2_takeCell T a_p1 a_p1_tape a_p1_keys a_p2 a_p2_cellNames a_p2_secretNames a_p2_pageNames a_p2_speed a_p2_letters a_p2_room a_p2_now a_p2_rounds v_p1_filled v_p1_end v_p1_at v_p1_kind v_p1_place v_p1_word v_p1_key v_p1_number v_p1_faultKind v_p1_faultPlace v_p1_keys v_p1_tape v_p2_cells v_p2_secrets v_p2_pages v_p2_blind v_p2_rubs v_p2_cellNames v_p2_pageNames v_p2_secretNames v_p2_speed)) hD rfl).sub (ws' := (k_X8_forward T a_p1 a_p1_tape a_p1_keys v_p1_filled v_p1_end v_p1_at v_p1_kind v_p1_place v_p1_word v_p1_key v_p1_number v_p1_faultKind v_p1_faultPlace v_p1_keys v_p1_tape)) [0, 1, 2] rfl rfl
    refine mp_callv (isC := [0, 1, 2]) (wc := (k_X8_forward T a_p1 a_p1_tape a_p1_keys v_p1_filled v_p1_end v_p1_at v_p1_kind v_p1_place v_p1_word v_p1_key v_p1_number v_p1_faultKind v_p1_faultPlace v_p1_keys v_p1_tape)) (w1 := (k_X8_forward T a_p1 a_p1_tape a_p1_keys v_p1_filled v_p1_end u2 u3 u4 u5 u6 u7 v_p1_faultKind v_p1_faultPlace v_p1_keys v_p1_tape)) hP (mp_D_of hD rfl) hS hA rfl rfl (mp_runV (As := []) (rest := []) X me_X8_forward lk_X2_75 (c_X8_forward l D T fu a_p1 a_p1_tape a_p1_keys v_p1_filled v_p1_faultKind v_p1_faultPlace v_p1_end v_p1_at v_p1_kind v_p1_place v_p1_word v_p1_key v_p1_number v_p1_keys v_p1_tape u2 u3 u4 u5 u6 u7 c8) rfl rfl ⟨(Nat.le_of_ble_eq_true rfl), (Nat.le_of_ble_eq_true rfl)⟩ hK hPc hDc rfl rfl rfl rfl hl.1 rfl (Nat.le_of_ble_eq_true rfl) dX2_takeCell_17 ⟨Nat.zero_le _, Nat.zero_le _⟩) (fun H locs hP _ hS => ?_)
    replace hP : va_P D mp_cl (k_X2_takeCell T a_p1 a_p1_tape a_p1_keys a_p2 a_p2_cellNames a_p2_secretNames a_p2_pageNames a_p2_speed a_p2_letters a_p2_room a_p2_now a_p2_rounds v_p1_filled v_p1_end u2 u3 u4 u5 u6 u7 v_p1_faultKind v_p1_faultPlace v_p1_keys v_p1_tape v_p2_cells v_p2_secrets v_p2_pages v_p2_blind v_p2_rubs v_p2_cellNames v_p2_pageNames v_p2_secretNames v_p2_speed) H := hP
    refine lv_aload_n hx hb dX2_takeCell_20 rfl (lv_at hl 0 rfl) ?_
    refine lv_aload_n hx hb dX2_takeCell_21 rfl (lv_at hl 1 rfl) ?_
    obtain ⟨⟨r9, u10, u11, u12, u13, u14, u15, u16, u17⟩, c18, hf⟩ := bd_of hf
    dsimp only at hf
    have hPc := hP.sub (ws' := (k_X2_newName T a_p1 a_p1_tape a_p1_keys a_p2 a_p2_cellNames a_p2_secretNames a_p2_pageNames a_p2_speed a_p2_letters a_p2_room a_p2_now a_p2_rounds v_p1_filled v_p1_end u2 u3 u4 u5 u6 u7 v_p1_faultKind v_p1_faultPlace v_p1_keys v_p1_tape v_p2_cells v_p2_secrets v_p2_pages v_p2_blind v_p2_rubs v_p2_cellNames v_p2_pageNames v_p2_secretNames)) [0, 1, 2, 3, 4, 5, 6] rfl
    have hDc := (mp_D_of (w1 := (k_X2_takeCell T a_p1 a_p1_tape a_p1_keys a_p2 a_p2_cellNames a_p2_secretNames a_p2_pageNames a_p2_speed a_p2_letters a_p2_room a_p2_now a_p2_rounds v_p1_filled v_p1_end u2 u3 u4 u5 u6 u7 v_p1_faultKind v_p1_faultPlace v_p1_keys v_p1_tape v_p2_cells v_p2_secrets v_p2_pages v_p2_blind v_p2_rubs v_p2_cellNames v_p2_pageNames v_p2_secretNames v_p2_speed)) hD rfl).sub (ws' := (k_X2_newName T a_p1 a_p1_tape a_p1_keys a_p2 a_p2_cellNames a_p2_secretNames a_p2_pageNames a_p2_speed a_p2_letters a_p2_room a_p2_now a_p2_rounds v_p1_filled v_p1_end u2 u3 u4 u5 u6 u7 v_p1_faultKind v_p1_faultPlace v_p1_keys v_p1_tape v_p2_cells v_p2_secrets v_p2_pages v_p2_blind v_p2_rubs v_p2_cellNames v_p2_pageNames v_p2_secretNames)) [0, 1, 2, 3, 4, 5, 6] rfl rfl
    refine mp_calll (isC := [0, 1, 2, 3, 4, 5, 6]) (wc := (k_X2_newName T a_p1 a_p1_tape a_p1_keys a_p2 a_p2_cellNames a_p2_secretNames a_p2_pageNames a_p2_speed a_p2_letters a_p2_room a_p2_now a_p2_rounds v_p1_filled v_p1_end u2 u3 u4 u5 u6 u7 v_p1_faultKind v_p1_faultPlace v_p1_keys v_p1_tape v_p2_cells v_p2_secrets v_p2_pages v_p2_blind v_p2_rubs v_p2_cellNames v_p2_pageNames v_p2_secretNames)) (w1 := (k_X2_newName T a_p1 a_p1_tape a_p1_keys a_p2 a_p2_cellNames a_p2_secretNames a_p2_pageNames a_p2_speed a_p2_letters a_p2_room a_p2_now a_p2_rounds v_p1_filled v_p1_end u10 u11 u12 u13 u14 u15 u16 u17 v_p1_keys v_p1_tape v_p2_cells v_p2_secrets v_p2_pages v_p2_blind v_p2_rubs v_p2_cellNames v_p2_pageNames v_p2_secretNames)) hP (mp_D_of hD rfl) hS hA rfl rfl (mp_runS (As := [.ref a_p1, .ref a_p2]) (rest := []) X me_X2_newName lk_X2_78 (c_X2_newName l D T fu a_p1 a_p1_tape a_p1_keys a_p2 a_p2_cellNames a_p2_secretNames a_p2_pageNames a_p2_speed a_p2_letters a_p2_room a_p2_now a_p2_rounds v_p1_filled v_p2_blind v_p2_rubs v_p1_end u2 u3 u4 u5 u6 u7 v_p1_faultKind v_p1_faultPlace v_p1_keys v_p1_tape v_p2_cells v_p2_secrets v_p2_pages v_p2_cellNames v_p2_pageNames v_p2_secretNames r9 u10 u11 u12 u13 u14 u15 u16 u17 c18) rfl rfl ⟨(Nat.le_of_ble_eq_true rfl), (Nat.le_of_ble_eq_true rfl)⟩ hK hPc hDc rfl hl.1 rfl (Nat.le_of_ble_eq_true rfl) dX2_takeCell_22 ⟨Nat.zero_le _, Nat.zero_le _⟩) (fun H locs hP _ hS => ?_)
    replace hP : va_P D mp_cl (k_X2_takeCell T a_p1 a_p1_tape a_p1_keys a_p2 a_p2_cellNames a_p2_secretNames a_p2_pageNames a_p2_speed a_p2_letters a_p2_room a_p2_now a_p2_rounds v_p1_filled v_p1_end u10 u11 u12 u13 u14 u15 u16 u17 v_p1_keys v_p1_tape v_p2_cells v_p2_secrets v_p2_pages v_p2_blind v_p2_rubs v_p2_cellNames v_p2_pageNames v_p2_secretNames v_p2_speed) H := hP
    refine lv_lstore_n (lv' := [(2, .long r9), (0, .ref a_p1), (1, .ref a_p2)]) hx hb dX2_takeCell_25 rfl hl (by decide) rfl (fun ls hl => ?_)
    refine lv_lload_n hx hb dX2_takeCell_26 rfl (lv_at hl 0 rfl) ?_
    refine lv_ldc2 (v := (-1 : Int64)) hx hb hown (hts _ (cw_X2_69)) dX2_takeCell_27 ?_
    refine W.lcmp hx hb dX2_takeCell_30 ?_
    refine lv_if_ne (tgt := 36) hx hb dX2_takeCell_31 (by decide) (fun h19 => ?_) (fun h19 => ?_)
    · replace hf := if_f hf h19
      refine lv_aload_n hx hb dX2_takeCell_36 rfl (lv_at hl 1 rfl) ?_
      refine lv_iconst (v := (nI 1)) hx hb dX2_takeCell_37 (by decide) ?_
      obtain ⟨⟨r20, u21, u22, u23, u24, u25, u26⟩, c27, hf⟩ := bd_of hf
      dsimp only at hf
      have hPc := hP.sub (ws' := (k_X8_skips T a_p1 a_p1_tape a_p1_keys v_p1_filled v_p1_end u10 u11 u12 u13 u14 u15 u16 u17 v_p1_keys v_p1_tape)) [0, 1, 2] rfl
      have hDc := (mp_D_of (w1 := (k_X2_takeCell T a_p1 a_p1_tape a_p1_keys a_p2 a_p2_cellNames a_p2_secretNames a_p2_pageNames a_p2_speed a_p2_letters a_p2_room a_p2_now a_p2_rounds v_p1_filled v_p1_end u10 u11 u12 u13 u14 u15 u16 u17 v_p1_keys v_p1_tape v_p2_cells v_p2_secrets v_p2_pages v_p2_blind v_p2_rubs v_p2_cellNames v_p2_pageNames v_p2_secretNames v_p2_speed)) hD rfl).sub (ws' := (k_X8_skips T a_p1 a_p1_tape a_p1_keys v_p1_filled v_p1_end u10 u11 u12 u13 u14 u15 u16 u17 v_p1_keys v_p1_tape)) [0, 1, 2] rfl rfl
      refine mp_calli (isC := [0, 1, 2]) (wc := (k_X8_skips T a_p1 a_p1_tape a_p1_keys v_p1_filled v_p1_end u10 u11 u12 u13 u14 u15 u16 u17 v_p1_keys v_p1_tape)) (w1 := (k_X8_skips T a_p1 a_p1_tape a_p1_keys v_p1_filled v_p1_end u21 u22 u23 u24 u25 u26 u16 u17 v_p1_keys v_p1_tape)) hP (mp_D_of hD rfl) hS hA rfl rfl (mp_runV (As := [.int (nI 1)]) (rest := []) X me_X8_skips lk_X2_82 (c_X8_skips l D T fu a_p1 a_p1_tape a_p1_keys (nI 1) v_p1_filled u16 u17 v_p1_end u10 u11 u12 u13 u14 u15 v_p1_keys v_p1_tape r20 u21 u22 u23 u24 u25 u26 c27) rfl rfl ⟨(Nat.le_of_ble_eq_true rfl), (Nat.le_of_ble_eq_true rfl)⟩ hK hPc hDc rfl rfl rfl rfl hl.1 rfl (Nat.le_of_ble_eq_true rfl) dX2_takeCell_38 ⟨Nat.zero_le _, Nat.zero_le _⟩) (fun H locs hP _ hS => ?_)
      replace hP : va_P D mp_cl (k_X2_takeCell T a_p1 a_p1_tape a_p1_keys a_p2 a_p2_cellNames a_p2_secretNames a_p2_pageNames a_p2_speed a_p2_letters a_p2_room a_p2_now a_p2_rounds v_p1_filled v_p1_end u21 u22 u23 u24 u25 u26 u16 u17 v_p1_keys v_p1_tape v_p2_cells v_p2_secrets v_p2_pages v_p2_blind v_p2_rubs v_p2_cellNames v_p2_pageNames v_p2_secretNames v_p2_speed) H := hP
      refine lv_if_eq (tgt := 54) hx hb dX2_takeCell_41 (by decide) (fun h28 => ?_) (fun h28 => ?_)
      · replace hf := if_t hf h28
        refine lv_iconst (v := (nI 5)) hx hb dX2_takeCell_54 (by decide) ?_
        exact w_X2_takeCell_55 X hK hA  fu a_p1 a_p1_tape a_p1_keys a_p2 a_p2_cellNames a_p2_secretNames a_p2_pageNames a_p2_speed a_p2_letters a_p2_room a_p2_now a_p2_rounds v_p1_filled v_p1_end v_p1_keys v_p1_tape v_p2_secrets v_p2_pages v_p2_pageNames v_p2_secretNames r_ o_p1_at o_p1_kind o_p1_place o_p1_word o_p1_key o_p1_number o_p1_faultKind o_p1_faultPlace o_p2_cells o_p2_blind o_p2_rubs o_p2_cellNames o_p2_speed   r9 (nI 5) u21 u22 u23 u24 u25 u26 u16 u17 v_p2_cells v_p2_blind v_p2_rubs v_p2_cellNames v_p2_speed hf _ _ _ hP (mp_D_of hD rfl) hS (lv_sub hl [1, 2, 0] rfl)
      · replace hf := if_f hf h28
        refine lv_aload_n hx hb dX2_takeCell_44 rfl (lv_at hl 1 rfl) ?_
        refine lv_iconst (v := (nI 0)) hx hb dX2_takeCell_45 (by decide) ?_
        refine lv_bipush (v := (nI 20)) hx hb dX2_takeCell_46 (by decide) ?_
        obtain ⟨⟨r29, u30, u31, u32, u33, u34, u35, u36, u37⟩, c38, hf⟩ := bd_of hf
        dsimp only at hf
        have hPc := hP.sub (ws' := (k_X8_numberWithin T a_p1 a_p1_tape a_p1_keys v_p1_filled v_p1_end u21 u22 u23 u24 u25 u26 u16 u17 v_p1_keys v_p1_tape)) [0, 1, 2] rfl
        have hDc := (mp_D_of (w1 := (k_X2_takeCell T a_p1 a_p1_tape a_p1_keys a_p2 a_p2_cellNames a_p2_secretNames a_p2_pageNames a_p2_speed a_p2_letters a_p2_room a_p2_now a_p2_rounds v_p1_filled v_p1_end u21 u22 u23 u24 u25 u26 u16 u17 v_p1_keys v_p1_tape v_p2_cells v_p2_secrets v_p2_pages v_p2_blind v_p2_rubs v_p2_cellNames v_p2_pageNames v_p2_secretNames v_p2_speed)) hD rfl).sub (ws' := (k_X8_numberWithin T a_p1 a_p1_tape a_p1_keys v_p1_filled v_p1_end u21 u22 u23 u24 u25 u26 u16 u17 v_p1_keys v_p1_tape)) [0, 1, 2] rfl rfl
        refine mp_calli (isC := [0, 1, 2]) (wc := (k_X8_numberWithin T a_p1 a_p1_tape a_p1_keys v_p1_filled v_p1_end u21 u22 u23 u24 u25 u26 u16 u17 v_p1_keys v_p1_tape)) (w1 := (k_X8_numberWithin T a_p1 a_p1_tape a_p1_keys v_p1_filled v_p1_end u30 u31 u32 u33 u34 u35 u36 u37 v_p1_keys v_p1_tape)) hP (mp_D_of hD rfl) hS hA rfl rfl (mp_runV (As := [.int (nI 0), .int (nI 20)]) (rest := []) X me_X8_numberWithin lk_X2_85 (c_X8_numberWithin l D T fu a_p1 a_p1_tape a_p1_keys (nI 0) (nI 20) v_p1_filled v_p1_end u21 u22 u23 u24 u25 u26 u16 u17 v_p1_keys v_p1_tape r29 u30 u31 u32 u33 u34 u35 u36 u37 c38) rfl rfl ⟨(Nat.le_of_ble_eq_true rfl), (Nat.le_of_ble_eq_true rfl)⟩ hK hPc hDc rfl rfl rfl rfl hl.1 rfl (Nat.le_of_ble_eq_true rfl) dX2_takeCell_48 ⟨Nat.zero_le _, Nat.zero_le _⟩) (fun H locs hP _ hS => ?_)
        replace hP : va_P D mp_cl (k_X2_takeCell T a_p1 a_p1_tape a_p1_keys a_p2 a_p2_cellNames a_p2_secretNames a_p2_pageNames a_p2_speed a_p2_letters a_p2_room a_p2_now a_p2_rounds v_p1_filled v_p1_end u30 u31 u32 u33 u34 u35 u36 u37 v_p1_keys v_p1_tape v_p2_cells v_p2_secrets v_p2_pages v_p2_blind v_p2_rubs v_p2_cellNames v_p2_pageNames v_p2_secretNames v_p2_speed) H := hP
        refine lv_goto (tgt := 55) hx hb dX2_takeCell_51 (by decide) ?_
        exact w_X2_takeCell_55 X hK hA  fu a_p1 a_p1_tape a_p1_keys a_p2 a_p2_cellNames a_p2_secretNames a_p2_pageNames a_p2_speed a_p2_letters a_p2_room a_p2_now a_p2_rounds v_p1_filled v_p1_end v_p1_keys v_p1_tape v_p2_secrets v_p2_pages v_p2_pageNames v_p2_secretNames r_ o_p1_at o_p1_kind o_p1_place o_p1_word o_p1_key o_p1_number o_p1_faultKind o_p1_faultPlace o_p2_cells o_p2_blind o_p2_rubs o_p2_cellNames o_p2_speed   r9 r29 u30 u31 u32 u33 u34 u35 u36 u37 v_p2_cells v_p2_blind v_p2_rubs v_p2_cellNames v_p2_speed hf _ _ _ hP (mp_D_of hD rfl) hS (lv_sub hl [1, 2, 0] rfl)
    · replace hf := if_t hf h19
      refine lv_iconst (v := (nI 0)) hx hb dX2_takeCell_34 (by decide) ?_
      cases hf
      exact mp_retz X hP hS rfl (Or.inl rfl) dX2_takeCell_35
  · replace hf := if_f hf h1
    refine lv_aload_n hx hb dX2_takeCell_9 rfl (lv_at hl 0 rfl) ?_
    refine lv_bipush (v := (nI 6)) hx hb dX2_takeCell_10 (by decide) ?_
    obtain ⟨⟨r39, u40, u41⟩, c42, hf⟩ := bd_of hf
    dsimp only at hf
    have hPc := hP.sub (ws' := (k_X8_fail T a_p1 a_p1_tape a_p1_keys v_p1_filled v_p1_end v_p1_at v_p1_kind v_p1_place v_p1_word v_p1_key v_p1_number v_p1_faultKind v_p1_faultPlace)) [0] rfl
    have hDc := (mp_D_of (w1 := (k_X2_takeCell T a_p1 a_p1_tape a_p1_keys a_p2 a_p2_cellNames a_p2_secretNames a_p2_pageNames a_p2_speed a_p2_letters a_p2_room a_p2_now a_p2_rounds v_p1_filled v_p1_end v_p1_at v_p1_kind v_p1_place v_p1_word v_p1_key v_p1_number v_p1_faultKind v_p1_faultPlace v_p1_keys v_p1_tape v_p2_cells v_p2_secrets v_p2_pages v_p2_blind v_p2_rubs v_p2_cellNames v_p2_pageNames v_p2_secretNames v_p2_speed)) hD rfl).sub (ws' := (k_X8_fail T a_p1 a_p1_tape a_p1_keys v_p1_filled v_p1_end v_p1_at v_p1_kind v_p1_place v_p1_word v_p1_key v_p1_number v_p1_faultKind v_p1_faultPlace)) [0] rfl rfl
    refine mp_calli (isC := [0]) (wc := (k_X8_fail T a_p1 a_p1_tape a_p1_keys v_p1_filled v_p1_end v_p1_at v_p1_kind v_p1_place v_p1_word v_p1_key v_p1_number v_p1_faultKind v_p1_faultPlace)) (w1 := (k_X8_fail T a_p1 a_p1_tape a_p1_keys v_p1_filled v_p1_end v_p1_at v_p1_kind v_p1_place v_p1_word v_p1_key v_p1_number u40 u41)) hP (mp_D_of hD rfl) hS hA rfl rfl (mp_runV (As := [.int (nI 6)]) (rest := []) X me_X8_fail lk_X2_48 (c_X8_fail l D T a_p1 a_p1_tape a_p1_keys (nI 6) v_p1_filled v_p1_end v_p1_at v_p1_word v_p1_key v_p1_number v_p1_kind v_p1_place v_p1_faultKind v_p1_faultPlace r39 u40 u41 c42) rfl rfl ⟨(Nat.le_of_ble_eq_true rfl), (Nat.le_of_ble_eq_true rfl)⟩ hK hPc hDc rfl rfl rfl rfl hl.1 rfl (Nat.le_of_ble_eq_true rfl) dX2_takeCell_12 ⟨Nat.zero_le _, Nat.zero_le _⟩) (fun H locs hP _ hS => ?_)
    replace hP : va_P D mp_cl (k_X2_takeCell T a_p1 a_p1_tape a_p1_keys a_p2 a_p2_cellNames a_p2_secretNames a_p2_pageNames a_p2_speed a_p2_letters a_p2_room a_p2_now a_p2_rounds v_p1_filled v_p1_end v_p1_at v_p1_kind v_p1_place v_p1_word v_p1_key v_p1_number u40 u41 v_p1_keys v_p1_tape v_p2_cells v_p2_secrets v_p2_pages v_p2_blind v_p2_rubs v_p2_cellNames v_p2_pageNames v_p2_secretNames v_p2_speed) H := hP
    obtain ⟨h43, hf⟩ := gd_of hf
    cases hf
    exact mp_retz X hP hS rfl h43 dX2_takeCell_15


def k_X2_lastNumber (T : Nat → ClassId) (a_p1 a_p1_tape a_p1_keys : Nat) (v_p1_filled : Int32) (v_p1_end : Int32) (v_p1_at : Int32) (v_p1_kind : Int32) (v_p1_place : Int32) (v_p1_word : Int64) (v_p1_key : Int32) (v_p1_number : Int32) (v_p1_faultKind : Int32) (v_p1_faultPlace : Int32) (v_p1_keys : (Nat → Int64)) (v_p1_tape : (Nat → Int32)) : va_W := [(a_p1, oX8 a_p1_tape v_p1_filled v_p1_end v_p1_at v_p1_kind v_p1_place v_p1_word v_p1_key v_p1_number v_p1_faultKind v_p1_faultPlace a_p1_keys), (a_p1_keys, mp_aJ T 24 v_p1_keys), (a_p1_tape, mp_aB T 900 v_p1_tape)]
set_option maxHeartbeats 4000000 in
set_option maxRecDepth 100000 in
theorem c_X2_lastNumber (l : Launch) (D : va_G) (T : Nat → ClassId) (fu : Nat) (a_p1 a_p1_tape a_p1_keys : Nat) (x2 : Int32) (x3 : Int32) (x4 : Int32) (v_p1_filled : Int32) (v_p1_end : Int32) (v_p1_at : Int32) (v_p1_kind : Int32) (v_p1_place : Int32) (v_p1_word : Int64) (v_p1_key : Int32) (v_p1_number : Int32) (v_p1_faultKind : Int32) (v_p1_faultPlace : Int32) (v_p1_keys : (Nat → Int64)) (v_p1_tape : (Nat → Int32)) (r_ : Int32) (o_p1_at : Int32) (o_p1_kind : Int32) (o_p1_place : Int32) (o_p1_word : Int64) (o_p1_key : Int32) (o_p1_number : Int32) (o_p1_faultKind : Int32) (o_p1_faultPlace : Int32) (hf : f_X2_lastNumber fu x2 x3 x4 v_p1_end v_p1_at v_p1_kind v_p1_place v_p1_word v_p1_key v_p1_number v_p1_faultKind v_p1_faultPlace v_p1_keys v_p1_tape = some (r_, o_p1_at, o_p1_kind, o_p1_place, o_p1_word, o_p1_key, o_p1_number, o_p1_faultKind, o_p1_faultPlace)) :
    mp_M l D T yX2_lastNumber cX2_lastNumber 5 (some .int) ({ frames := 4, cells := 0, slots := 0, locals := 88 }) 0 0 [.ref a_p1, .int x2, .int x3, .int x4] (k_X2_lastNumber T a_p1 a_p1_tape a_p1_keys v_p1_filled v_p1_end v_p1_at v_p1_kind v_p1_place v_p1_word v_p1_key v_p1_number v_p1_faultKind v_p1_faultPlace v_p1_keys v_p1_tape) (mp_Qi D r_ (k_X2_lastNumber T a_p1 a_p1_tape a_p1_keys v_p1_filled v_p1_end o_p1_at o_p1_kind o_p1_place o_p1_word o_p1_key o_p1_number o_p1_faultKind o_p1_faultPlace v_p1_keys v_p1_tape)) := by
  refine mp_of (by decide) (Nat.le_of_ble_eq_true rfl) rfl ?_
  intro p e s m args below meth c A ls X hK hP hD hS hA hl
  replace X : mp_X p s m meth c args RX2 "lastNumber" cX2_lastNumber 5 (some .int) := X
  have hx := X.1
  have hb := X.2.1
  have hml := X.2.2.1
  have hown := X.2.2.2.2.1
  have hts := X.2.2.2.2.2.1
  replace hl : lv_has ls 5 [(0, .ref a_p1), (1, .int x2), (2, .int x3), (3, .int x4)] := hl
  replace hf : bd_ (f_X8_skips fu x2 v_p1_end v_p1_at v_p1_kind v_p1_place v_p1_word v_p1_key v_p1_number v_p1_keys v_p1_tape) (fun (z : Int32 × Int32 × Int32 × Int32 × Int64 × Int32 × Int32) => match z with | (r1, u2, u3, u4, u5, u6, u7) => (if r1 = 0 then bd_ (f_X8_fail (nI 2) u3 u4 v_p1_faultKind v_p1_faultPlace) (fun (z : Int32 × Int32 × Int32) => match z with | (r32, u33, u34) => some ((-1 : Int32), u2, u3, u4, u5, u6, u7, u33, u34)) else bd_ (f_X8_numberWithin fu x3 x4 v_p1_end u2 u3 u4 u5 u6 u7 v_p1_faultKind v_p1_faultPlace v_p1_keys v_p1_tape) (fun (z : Int32 × Int32 × Int32 × Int32 × Int64 × Int32 × Int32 × Int32 × Int32) => match z with | (r10, u11, u12, u13, u14, u15, u16, u17, u18) => (if r10 = (-1 : Int32) then some ((-1 : Int32), u11, u12, u13, u14, u15, u16, u17, u18) else bd_ (f_X8_closes fu v_p1_end u11 u12 u13 u14 u15 u16 u17 u18 v_p1_keys v_p1_tape) (fun (z : Int32 × Int32 × Int32 × Int32 × Int64 × Int32 × Int32 × Int32 × Int32) => match z with | (r21, u22, u23, u24, u25, u26, u27, u28, u29) => (if r21 = 0 then some ((-1 : Int32), u22, u23, u24, u25, u26, u27, u28, u29) else some (r10, u22, u23, u24, u25, u26, u27, u28, u29))))))) = some (r_, o_p1_at, o_p1_kind, o_p1_place, o_p1_word, o_p1_key, o_p1_number, o_p1_faultKind, o_p1_faultPlace) := hf
  refine lv_aload_n hx hb dX2_lastNumber_0 rfl (lv_at hl 0 rfl) ?_
  refine lv_iload_n hx hb dX2_lastNumber_1 rfl (lv_at hl 1 rfl) ?_
  obtain ⟨⟨r1, u2, u3, u4, u5, u6, u7⟩, c8, hf⟩ := bd_of hf
  dsimp only at hf
  have hPc := hP.sub (ws' := (k_X8_skips T a_p1 a_p1_tape a_p1_keys v_p1_filled v_p1_end v_p1_at v_p1_kind v_p1_place v_p1_word v_p1_key v_p1_number v_p1_faultKind v_p1_faultPlace v_p1_keys v_p1_tape)) [0, 1, 2] rfl
  have hDc := (mp_D_of (w1 := (k_X2_lastNumber T a_p1 a_p1_tape a_p1_keys v_p1_filled v_p1_end v_p1_at v_p1_kind v_p1_place v_p1_word v_p1_key v_p1_number v_p1_faultKind v_p1_faultPlace v_p1_keys v_p1_tape)) hD rfl).sub (ws' := (k_X8_skips T a_p1 a_p1_tape a_p1_keys v_p1_filled v_p1_end v_p1_at v_p1_kind v_p1_place v_p1_word v_p1_key v_p1_number v_p1_faultKind v_p1_faultPlace v_p1_keys v_p1_tape)) [0, 1, 2] rfl rfl
  refine mp_calli (isC := [0, 1, 2]) (wc := (k_X8_skips T a_p1 a_p1_tape a_p1_keys v_p1_filled v_p1_end v_p1_at v_p1_kind v_p1_place v_p1_word v_p1_key v_p1_number v_p1_faultKind v_p1_faultPlace v_p1_keys v_p1_tape)) (w1 := (k_X8_skips T a_p1 a_p1_tape a_p1_keys v_p1_filled v_p1_end u2 u3 u4 u5 u6 u7 v_p1_faultKind v_p1_faultPlace v_p1_keys v_p1_tape)) hP (mp_D_of hD rfl) hS hA rfl rfl (mp_runV (As := [.int x2]) (rest := []) X me_X8_skips lk_X2_82 (c_X8_skips l D T fu a_p1 a_p1_tape a_p1_keys x2 v_p1_filled v_p1_faultKind v_p1_faultPlace v_p1_end v_p1_at v_p1_kind v_p1_place v_p1_word v_p1_key v_p1_number v_p1_keys v_p1_tape r1 u2 u3 u4 u5 u6 u7 c8) rfl rfl ⟨(Nat.le_of_ble_eq_true rfl), (Nat.le_of_ble_eq_true rfl)⟩ hK hPc hDc rfl rfl rfl rfl hl.1 rfl (Nat.le_of_ble_eq_true rfl) dX2_lastNumber_2 ⟨Nat.zero_le _, Nat.zero_le _⟩) (fun H locs hP _ hS => ?_)
  replace hP : va_P D mp_cl (k_X2_lastNumber T a_p1 a_p1_tape a_p1_keys v_p1_filled v_p1_end u2 u3 u4 u5 u6 u7 v_p1_faultKind v_p1_faultPlace v_p1_keys v_p1_tape) H := hP
  refine lv_if_ne (tgt := 16) hx hb dX2_lastNumber_5 (by decide) (fun h9 => ?_) (fun h9 => ?_)
  · replace hf := if_f hf h9
    refine lv_aload_n hx hb dX2_lastNumber_16 rfl (lv_at hl 0 rfl) ?_
    refine lv_iload_n hx hb dX2_lastNumber_17 rfl (lv_at hl 2 rfl) ?_
    refine lv_iload_n hx hb dX2_lastNumber_18 rfl (lv_at hl 3 rfl) ?_
    obtain ⟨⟨r10, u11, u12, u13, u14, u15, u16, u17, u18⟩, c19, hf⟩ := bd_of hf
    dsimp only at hf
    have hPc := hP.sub (ws' := (k_X8_numberWithin T a_p1 a_p1_tape a_p1_keys v_p1_filled v_p1_end u2 u3 u4 u5 u6 u7 v_p1_faultKind v_p1_faultPlace v_p1_keys v_p1_tape)) [0, 1, 2] rfl
    have hDc := (mp_D_of (w1 := (k_X2_lastNumber T a_p1 a_p1_tape a_p1_keys v_p1_filled v_p1_end u2 u3 u4 u5 u6 u7 v_p1_faultKind v_p1_faultPlace v_p1_keys v_p1_tape)) hD rfl).sub (ws' := (k_X8_numberWithin T a_p1 a_p1_tape a_p1_keys v_p1_filled v_p1_end u2 u3 u4 u5 u6 u7 v_p1_faultKind v_p1_faultPlace v_p1_keys v_p1_tape)) [0, 1, 2] rfl rfl
    refine mp_calli (isC := [0, 1, 2]) (wc := (k_X8_numberWithin T a_p1 a_p1_tape a_p1_keys v_p1_filled v_p1_end u2 u3 u4 u5 u6 u7 v_p1_faultKind v_p1_faultPlace v_p1_keys v_p1_tape)) (w1 := (k_X8_numberWithin T a_p1 a_p1_tape a_p1_keys v_p1_filled v_p1_end u11 u12 u13 u14 u15 u16 u17 u18 v_p1_keys v_p1_tape)) hP (mp_D_of hD rfl) hS hA rfl rfl (mp_runV (As := [.int x3, .int x4]) (rest := []) X me_X8_numberWithin lk_X2_85 (c_X8_numberWithin l D T fu a_p1 a_p1_tape a_p1_keys x3 x4 v_p1_filled v_p1_end u2 u3 u4 u5 u6 u7 v_p1_faultKind v_p1_faultPlace v_p1_keys v_p1_tape r10 u11 u12 u13 u14 u15 u16 u17 u18 c19) rfl rfl ⟨(Nat.le_of_ble_eq_true rfl), (Nat.le_of_ble_eq_true rfl)⟩ hK hPc hDc rfl rfl rfl rfl hl.1 rfl (Nat.le_of_ble_eq_true rfl) dX2_lastNumber_19 ⟨Nat.zero_le _, Nat.zero_le _⟩) (fun H locs hP _ hS => ?_)
    replace hP : va_P D mp_cl (k_X2_lastNumber T a_p1 a_p1_tape a_p1_keys v_p1_filled v_p1_end u11 u12 u13 u14 u15 u16 u17 u18 v_p1_keys v_p1_tape) H := hP
    refine lv_istore (lv' := [(4, .int r10), (0, .ref a_p1), (1, .int x2), (2, .int x3), (3, .int x4)]) hx hb dX2_lastNumber_22 hl (by decide) rfl (fun ls hl => ?_)
    refine lv_iload hx hb dX2_lastNumber_24 (lv_at hl 0 rfl) ?_
    refine lv_iconst (v := (-1 : Int32)) hx hb dX2_lastNumber_26 (by decide) ?_
    refine lv_icmp_eq (tgt := 42) hx hb dX2_lastNumber_27 (by decide) (fun h20 => ?_) (fun h20 => ?_)
    · replace hf := if_t hf h20
      refine lv_iconst (v := (-1 : Int32)) hx hb dX2_lastNumber_42 (by decide) ?_
      cases hf
      exact mp_reti X hP hS rfl dX2_lastNumber_43
    · replace hf := if_f hf h20
      refine lv_aload_n hx hb dX2_lastNumber_30 rfl (lv_at hl 1 rfl) ?_
      obtain ⟨⟨r21, u22, u23, u24, u25, u26, u27, u28, u29⟩, c30, hf⟩ := bd_of hf
      dsimp only at hf
      have hPc := hP.sub (ws' := (k_X8_closes T a_p1 a_p1_tape a_p1_keys v_p1_filled v_p1_end u11 u12 u13 u14 u15 u16 u17 u18 v_p1_keys v_p1_tape)) [0, 1, 2] rfl
      have hDc := (mp_D_of (w1 := (k_X2_lastNumber T a_p1 a_p1_tape a_p1_keys v_p1_filled v_p1_end u11 u12 u13 u14 u15 u16 u17 u18 v_p1_keys v_p1_tape)) hD rfl).sub (ws' := (k_X8_closes T a_p1 a_p1_tape a_p1_keys v_p1_filled v_p1_end u11 u12 u13 u14 u15 u16 u17 u18 v_p1_keys v_p1_tape)) [0, 1, 2] rfl rfl
      refine mp_calli (isC := [0, 1, 2]) (wc := (k_X8_closes T a_p1 a_p1_tape a_p1_keys v_p1_filled v_p1_end u11 u12 u13 u14 u15 u16 u17 u18 v_p1_keys v_p1_tape)) (w1 := (k_X8_closes T a_p1 a_p1_tape a_p1_keys v_p1_filled v_p1_end u22 u23 u24 u25 u26 u27 u28 u29 v_p1_keys v_p1_tape)) hP (mp_D_of hD rfl) hS hA rfl rfl (mp_runV (As := []) (rest := []) X me_X8_closes lk_X2_89 (c_X8_closes l D T fu a_p1 a_p1_tape a_p1_keys v_p1_filled v_p1_end u11 u12 u13 u14 u15 u16 u17 u18 v_p1_keys v_p1_tape r21 u22 u23 u24 u25 u26 u27 u28 u29 c30) rfl rfl ⟨(Nat.le_of_ble_eq_true rfl), (Nat.le_of_ble_eq_true rfl)⟩ hK hPc hDc rfl rfl rfl rfl hl.1 rfl (Nat.le_of_ble_eq_true rfl) dX2_lastNumber_31 ⟨Nat.zero_le _, Nat.zero_le _⟩) (fun H locs hP _ hS => ?_)
      replace hP : va_P D mp_cl (k_X2_lastNumber T a_p1 a_p1_tape a_p1_keys v_p1_filled v_p1_end u22 u23 u24 u25 u26 u27 u28 u29 v_p1_keys v_p1_tape) H := hP
      refine lv_if_eq (tgt := 42) hx hb dX2_lastNumber_34 (by decide) (fun h31 => ?_) (fun h31 => ?_)
      · replace hf := if_t hf h31
        refine lv_iconst (v := (-1 : Int32)) hx hb dX2_lastNumber_42 (by decide) ?_
        cases hf
        exact mp_reti X hP hS rfl dX2_lastNumber_43
      · replace hf := if_f hf h31
        refine lv_iload hx hb dX2_lastNumber_37 (lv_at hl 0 rfl) ?_
        refine lv_goto (tgt := 43) hx hb dX2_lastNumber_39 (by decide) ?_
        cases hf
        exact mp_reti X hP hS rfl dX2_lastNumber_43
  · replace hf := if_t hf h9
    refine lv_aload_n hx hb dX2_lastNumber_8 rfl (lv_at hl 0 rfl) ?_
    refine lv_iconst (v := (nI 2)) hx hb dX2_lastNumber_9 (by decide) ?_
    obtain ⟨⟨r32, u33, u34⟩, c35, hf⟩ := bd_of hf
    dsimp only at hf
    have hPc := hP.sub (ws' := (k_X8_fail T a_p1 a_p1_tape a_p1_keys v_p1_filled v_p1_end u2 u3 u4 u5 u6 u7 v_p1_faultKind v_p1_faultPlace)) [0] rfl
    have hDc := (mp_D_of (w1 := (k_X2_lastNumber T a_p1 a_p1_tape a_p1_keys v_p1_filled v_p1_end u2 u3 u4 u5 u6 u7 v_p1_faultKind v_p1_faultPlace v_p1_keys v_p1_tape)) hD rfl).sub (ws' := (k_X8_fail T a_p1 a_p1_tape a_p1_keys v_p1_filled v_p1_end u2 u3 u4 u5 u6 u7 v_p1_faultKind v_p1_faultPlace)) [0] rfl rfl
    refine mp_calli (isC := [0]) (wc := (k_X8_fail T a_p1 a_p1_tape a_p1_keys v_p1_filled v_p1_end u2 u3 u4 u5 u6 u7 v_p1_faultKind v_p1_faultPlace)) (w1 := (k_X8_fail T a_p1 a_p1_tape a_p1_keys v_p1_filled v_p1_end u2 u3 u4 u5 u6 u7 u33 u34)) hP (mp_D_of hD rfl) hS hA rfl rfl (mp_runV (As := [.int (nI 2)]) (rest := []) X me_X8_fail lk_X2_48 (c_X8_fail l D T a_p1 a_p1_tape a_p1_keys (nI 2) v_p1_filled v_p1_end u2 u5 u6 u7 u3 u4 v_p1_faultKind v_p1_faultPlace r32 u33 u34 c35) rfl rfl ⟨(Nat.le_of_ble_eq_true rfl), (Nat.le_of_ble_eq_true rfl)⟩ hK hPc hDc rfl rfl rfl rfl hl.1 rfl (Nat.le_of_ble_eq_true rfl) dX2_lastNumber_10 ⟨Nat.zero_le _, Nat.zero_le _⟩) (fun H locs hP _ hS => ?_)
    replace hP : va_P D mp_cl (k_X2_lastNumber T a_p1 a_p1_tape a_p1_keys v_p1_filled v_p1_end u2 u3 u4 u5 u6 u7 u33 u34 v_p1_keys v_p1_tape) H := hP
    refine lv_pop hx hb dX2_lastNumber_13 rfl ?_
    refine lv_iconst (v := (-1 : Int32)) hx hb dX2_lastNumber_14 (by decide) ?_
    cases hf
    exact mp_reti X hP hS rfl dX2_lastNumber_15


def k_X2_takeSecret (T : Nat → ClassId) (a_p1 a_p1_tape a_p1_keys a_p2 a_p2_cellNames a_p2_secretNames a_p2_pageNames a_p2_speed a_p2_letters a_p2_room a_p2_now a_p2_rounds : Nat) (v_p1_filled : Int32) (v_p1_end : Int32) (v_p1_at : Int32) (v_p1_kind : Int32) (v_p1_place : Int32) (v_p1_word : Int64) (v_p1_key : Int32) (v_p1_number : Int32) (v_p1_faultKind : Int32) (v_p1_faultPlace : Int32) (v_p1_keys : (Nat → Int64)) (v_p1_tape : (Nat → Int32)) (v_p2_cells : Int32) (v_p2_secrets : Int32) (v_p2_pages : Int32) (v_p2_blind : Int32) (v_p2_rubs : Int32) (v_p2_cellNames : (Nat → Int64)) (v_p2_letters : (Nat → Int32)) (v_p2_pageNames : (Nat → Int64)) (v_p2_secretNames : (Nat → Int64)) : va_W := [(a_p1, oX8 a_p1_tape v_p1_filled v_p1_end v_p1_at v_p1_kind v_p1_place v_p1_word v_p1_key v_p1_number v_p1_faultKind v_p1_faultPlace a_p1_keys), (a_p1_keys, mp_aJ T 24 v_p1_keys), (a_p1_tape, mp_aB T 900 v_p1_tape), (a_p2, oX1 v_p2_cells v_p2_secrets v_p2_pages a_p2_cellNames a_p2_secretNames a_p2_pageNames a_p2_speed v_p2_blind v_p2_rubs a_p2_letters a_p2_room a_p2_now a_p2_rounds), (a_p2_cellNames, mp_aJ T 8 v_p2_cellNames), (a_p2_letters, mp_aI T 6 v_p2_letters), (a_p2_pageNames, mp_aJ T 6 v_p2_pageNames), (a_p2_secretNames, mp_aJ T 6 v_p2_secretNames)]
set_option maxHeartbeats 4000000 in
set_option maxRecDepth 100000 in
theorem w_X2_takeSecret_46 {p : Program} {l : Launch} {e : Env} {s : State} {m : MethodId} {args : Array Value} {below : List Frame} {meth : Method} {c : Code} {D : va_G} {T : Nat → ClassId} {A : Nat → Prop} (X : mp_X p s m meth c args RX2 "takeSecret" cX2_takeSecret 5 (some .boolean)) (hK : va_K D mp_cl (mp_ty T) s) (hA : ∀ q, s.heap.size ≤ q → A q) (fu : Nat) (a_p1 a_p1_tape a_p1_keys a_p2 a_p2_cellNames a_p2_secretNames a_p2_pageNames a_p2_speed a_p2_letters a_p2_room a_p2_now a_p2_rounds : Nat) (v_p1_filled : Int32) (v_p2_blind : Int32) (v_p2_rubs : Int32) (v_p1_end : Int32) (v_p1_keys : (Nat → Int64)) (v_p1_tape : (Nat → Int32)) (v_p2_cells : Int32) (v_p2_pages : Int32) (v_p2_cellNames : (Nat → Int64)) (v_p2_pageNames : (Nat → Int64)) (r_ : Int32) (o_p1_at : Int32) (o_p1_kind : Int32) (o_p1_place : Int32) (o_p1_word : Int64) (o_p1_key : Int32) (o_p1_number : Int32) (o_p1_faultKind : Int32) (o_p1_faultPlace : Int32) (o_p2_secrets : Int32) (o_p2_letters : (Nat → Int32)) (o_p2_secretNames : (Nat → Int64)) :
    ∀  (z2 : Int64) (w0 : Int32) (v_p1_at : Int32) (v_p1_kind : Int32) (v_p1_place : Int32) (v_p1_word : Int64) (v_p1_key : Int32) (v_p1_number : Int32) (v_p1_faultKind : Int32) (v_p1_faultPlace : Int32) (v_p2_secrets : Int32) (v_p2_letters : (Nat → Int32)) (v_p2_secretNames : (Nat → Int64)), f_X2_takeSecret_46 fu v_p1_end v_p1_keys v_p1_tape v_p2_cells v_p2_pages v_p2_cellNames v_p2_pageNames  z2 w0 v_p1_at v_p1_kind v_p1_place v_p1_word v_p1_key v_p1_number v_p1_faultKind v_p1_faultPlace v_p2_secrets v_p2_letters v_p2_secretNames = some (r_, o_p1_at, o_p1_kind, o_p1_place, o_p1_word, o_p1_key, o_p1_number, o_p1_faultKind, o_p1_faultPlace, o_p2_secrets, o_p2_letters, o_p2_secretNames) → ∀ (H : Heap) (locs : List Loc) (ls : Array Slot), va_P D mp_cl (k_X2_takeSecret T a_p1 a_p1_tape a_p1_keys a_p2 a_p2_cellNames a_p2_secretNames a_p2_pageNames a_p2_speed a_p2_letters a_p2_room a_p2_now a_p2_rounds v_p1_filled v_p1_end v_p1_at v_p1_kind v_p1_place v_p1_word v_p1_key v_p1_number v_p1_faultKind v_p1_faultPlace v_p1_keys v_p1_tape v_p2_cells v_p2_secrets v_p2_pages v_p2_blind v_p2_rubs v_p2_cellNames v_p2_letters v_p2_pageNames v_p2_secretNames) H → va_D A (k_X2_takeSecret T a_p1 a_p1_tape a_p1_keys a_p2 a_p2_cellNames a_p2_secretNames a_p2_pageNames a_p2_speed a_p2_letters a_p2_room a_p2_now a_p2_rounds v_p1_filled v_p1_end v_p1_at v_p1_kind v_p1_place v_p1_word v_p1_key v_p1_number v_p1_faultKind v_p1_faultPlace v_p1_keys v_p1_tape v_p2_cells v_p2_secrets v_p2_pages v_p2_blind v_p2_rubs v_p2_cellNames v_p2_letters v_p2_pageNames v_p2_secretNames) → va_S A s.heap H locs → lv_has ls 5 [(1, .ref a_p2), (2, .long z2)] → W p l e ({ frames := 5, cells := 0, slots := 0, locals := 112 }) s m args below meth c H locs 0 0 (MQ below ((mp_Qi D r_ (k_X2_takeSecret T a_p1 a_p1_tape a_p1_keys a_p2 a_p2_cellNames a_p2_secretNames a_p2_pageNames a_p2_speed a_p2_letters a_p2_room a_p2_now a_p2_rounds v_p1_filled v_p1_end o_p1_at o_p1_kind o_p1_place o_p1_word o_p1_key o_p1_number o_p1_faultKind o_p1_faultPlace v_p1_keys v_p1_tape v_p2_cells o_p2_secrets v_p2_pages v_p2_blind v_p2_rubs v_p2_cellNames o_p2_letters v_p2_pageNames o_p2_secretNames)) A) args s 0 0 A) (F0 m 46 ls [.int w0]) := by
  have hx := X.1
  have hb := X.2.1
  have hml := X.2.2.1
  have hown := X.2.2.2.2.1
  have hts := X.2.2.2.2.2.1
  intro z2 w0 v_p1_at v_p1_kind v_p1_place v_p1_word v_p1_key v_p1_number v_p1_faultKind v_p1_faultPlace v_p2_secrets v_p2_letters v_p2_secretNames hf H locs ls hP hD hS hl
  replace hf : (if w0 = (-1 : Int32) then some ((nI 0), v_p1_at, v_p1_kind, v_p1_place, v_p1_word, v_p1_key, v_p1_number, v_p1_faultKind, v_p1_faultPlace, v_p2_secrets, v_p2_letters, v_p2_secretNames) else bd_ (f_X1_addSecret z2 w0 v_p2_secrets v_p2_letters v_p2_secretNames) (fun (z : Int32 × (Nat → Int32) × (Nat → Int64)) => match z with | (u2, u3, u4) => some ((nI 1), v_p1_at, v_p1_kind, v_p1_place, v_p1_word, v_p1_key, v_p1_number, v_p1_faultKind, v_p1_faultPlace, u2, u3, u4))) = some (r_, o_p1_at, o_p1_kind, o_p1_place, o_p1_word, o_p1_key, o_p1_number, o_p1_faultKind, o_p1_faultPlace, o_p2_secrets, o_p2_letters, o_p2_secretNames) := hf
  refine lv_istore (lv' := [(4, .int w0), (1, .ref a_p2), (2, .long z2)]) hx hb dX2_takeSecret_46 hl (by decide) rfl (fun ls hl => ?_)
  refine lv_iload hx hb dX2_takeSecret_48 (lv_at hl 0 rfl) ?_
  refine lv_iconst (v := (-1 : Int32)) hx hb dX2_takeSecret_50 (by decide) ?_
  refine lv_icmp_ne (tgt := 56) hx hb dX2_takeSecret_51 (by decide) (fun h1 => ?_) (fun h1 => ?_)
  · replace hf := if_f hf h1
    refine lv_aload_n hx hb dX2_takeSecret_56 rfl (lv_at hl 1 rfl) ?_
    refine lv_lload_n hx hb dX2_takeSecret_57 rfl (lv_at hl 2 rfl) ?_
    refine lv_iload hx hb dX2_takeSecret_58 (lv_at hl 0 rfl) ?_
    obtain ⟨⟨u2, u3, u4⟩, c5, hf⟩ := bd_of hf
    dsimp only at hf
    have hPc := hP.sub (ws' := (k_X1_addSecret T a_p2 a_p2_cellNames a_p2_secretNames a_p2_pageNames a_p2_speed a_p2_letters a_p2_room a_p2_now a_p2_rounds v_p2_cells v_p2_secrets v_p2_pages v_p2_blind v_p2_rubs v_p2_letters v_p2_secretNames)) [3, 5, 7] rfl
    have hDc := (mp_D_of (w1 := (k_X2_takeSecret T a_p1 a_p1_tape a_p1_keys a_p2 a_p2_cellNames a_p2_secretNames a_p2_pageNames a_p2_speed a_p2_letters a_p2_room a_p2_now a_p2_rounds v_p1_filled v_p1_end v_p1_at v_p1_kind v_p1_place v_p1_word v_p1_key v_p1_number v_p1_faultKind v_p1_faultPlace v_p1_keys v_p1_tape v_p2_cells v_p2_secrets v_p2_pages v_p2_blind v_p2_rubs v_p2_cellNames v_p2_letters v_p2_pageNames v_p2_secretNames)) hD rfl).sub (ws' := (k_X1_addSecret T a_p2 a_p2_cellNames a_p2_secretNames a_p2_pageNames a_p2_speed a_p2_letters a_p2_room a_p2_now a_p2_rounds v_p2_cells v_p2_secrets v_p2_pages v_p2_blind v_p2_rubs v_p2_letters v_p2_secretNames)) [3, 5, 7] rfl rfl
    refine mp_callv (isC := [3, 5, 7]) (wc := (k_X1_addSecret T a_p2 a_p2_cellNames a_p2_secretNames a_p2_pageNames a_p2_speed a_p2_letters a_p2_room a_p2_now a_p2_rounds v_p2_cells v_p2_secrets v_p2_pages v_p2_blind v_p2_rubs v_p2_letters v_p2_secretNames)) (w1 := (k_X1_addSecret T a_p2 a_p2_cellNames a_p2_secretNames a_p2_pageNames a_p2_speed a_p2_letters a_p2_room a_p2_now a_p2_rounds v_p2_cells u2 v_p2_pages v_p2_blind v_p2_rubs u3 u4)) hP (mp_D_of hD rfl) hS hA rfl rfl (mp_runV (As := [.long z2, .int w0]) (rest := []) X me_X1_addSecret lk_X2_104 (c_X1_addSecret l D T a_p2 a_p2_cellNames a_p2_secretNames a_p2_pageNames a_p2_speed a_p2_letters a_p2_room a_p2_now a_p2_rounds z2 w0 v_p2_cells v_p2_pages v_p2_blind v_p2_rubs v_p2_secrets v_p2_letters v_p2_secretNames u2 u3 u4 c5) rfl rfl ⟨(Nat.le_of_ble_eq_true rfl), (Nat.le_of_ble_eq_true rfl)⟩ hK hPc hDc rfl rfl rfl rfl hl.1 rfl (Nat.le_of_ble_eq_true rfl) dX2_takeSecret_60 ⟨Nat.zero_le _, Nat.zero_le _⟩) (fun H locs hP _ hS => ?_)
    replace hP : va_P D mp_cl (k_X2_takeSecret T a_p1 a_p1_tape a_p1_keys a_p2 a_p2_cellNames a_p2_secretNames a_p2_pageNames a_p2_speed a_p2_letters a_p2_room a_p2_now a_p2_rounds v_p1_filled v_p1_end v_p1_at v_p1_kind v_p1_place v_p1_word v_p1_key v_p1_number v_p1_faultKind v_p1_faultPlace v_p1_keys v_p1_tape v_p2_cells u2 v_p2_pages v_p2_blind v_p2_rubs v_p2_cellNames u3 v_p2_pageNames u4) H := hP
    refine lv_iconst (v := (nI 1)) hx hb dX2_takeSecret_63 (by decide) ?_
    cases hf
    exact mp_retz X hP hS rfl (Or.inr rfl) dX2_takeSecret_64
  · replace hf := if_t hf h1
    refine lv_iconst (v := (nI 0)) hx hb dX2_takeSecret_54 (by decide) ?_
    cases hf
    exact mp_retz X hP hS rfl (Or.inl rfl) dX2_takeSecret_55

set_option maxHeartbeats 4000000 in
set_option maxRecDepth 100000 in
theorem c_X2_takeSecret (l : Launch) (D : va_G) (T : Nat → ClassId) (fu : Nat) (a_p1 a_p1_tape a_p1_keys a_p2 a_p2_cellNames a_p2_secretNames a_p2_pageNames a_p2_speed a_p2_letters a_p2_room a_p2_now a_p2_rounds : Nat) (v_p1_filled : Int32) (v_p2_blind : Int32) (v_p2_rubs : Int32) (v_p1_end : Int32) (v_p1_at : Int32) (v_p1_kind : Int32) (v_p1_place : Int32) (v_p1_word : Int64) (v_p1_key : Int32) (v_p1_number : Int32) (v_p1_faultKind : Int32) (v_p1_faultPlace : Int32) (v_p1_keys : (Nat → Int64)) (v_p1_tape : (Nat → Int32)) (v_p2_cells : Int32) (v_p2_secrets : Int32) (v_p2_pages : Int32) (v_p2_cellNames : (Nat → Int64)) (v_p2_letters : (Nat → Int32)) (v_p2_pageNames : (Nat → Int64)) (v_p2_secretNames : (Nat → Int64)) (r_ : Int32) (o_p1_at : Int32) (o_p1_kind : Int32) (o_p1_place : Int32) (o_p1_word : Int64) (o_p1_key : Int32) (o_p1_number : Int32) (o_p1_faultKind : Int32) (o_p1_faultPlace : Int32) (o_p2_secrets : Int32) (o_p2_letters : (Nat → Int32)) (o_p2_secretNames : (Nat → Int64)) (hf : f_X2_takeSecret fu v_p1_end v_p1_at v_p1_kind v_p1_place v_p1_word v_p1_key v_p1_number v_p1_faultKind v_p1_faultPlace v_p1_keys v_p1_tape v_p2_cells v_p2_secrets v_p2_pages v_p2_cellNames v_p2_letters v_p2_pageNames v_p2_secretNames = some (r_, o_p1_at, o_p1_kind, o_p1_place, o_p1_word, o_p1_key, o_p1_number, o_p1_faultKind, o_p1_faultPlace, o_p2_secrets, o_p2_letters, o_p2_secretNames)) :
    mp_M l D T yX2_takeSecret cX2_takeSecret 5 (some .boolean) ({ frames := 5, cells := 0, slots := 0, locals := 112 }) 0 0 [.ref a_p1, .ref a_p2] (k_X2_takeSecret T a_p1 a_p1_tape a_p1_keys a_p2 a_p2_cellNames a_p2_secretNames a_p2_pageNames a_p2_speed a_p2_letters a_p2_room a_p2_now a_p2_rounds v_p1_filled v_p1_end v_p1_at v_p1_kind v_p1_place v_p1_word v_p1_key v_p1_number v_p1_faultKind v_p1_faultPlace v_p1_keys v_p1_tape v_p2_cells v_p2_secrets v_p2_pages v_p2_blind v_p2_rubs v_p2_cellNames v_p2_letters v_p2_pageNames v_p2_secretNames) (mp_Qi D r_ (k_X2_takeSecret T a_p1 a_p1_tape a_p1_keys a_p2 a_p2_cellNames a_p2_secretNames a_p2_pageNames a_p2_speed a_p2_letters a_p2_room a_p2_now a_p2_rounds v_p1_filled v_p1_end o_p1_at o_p1_kind o_p1_place o_p1_word o_p1_key o_p1_number o_p1_faultKind o_p1_faultPlace v_p1_keys v_p1_tape v_p2_cells o_p2_secrets v_p2_pages v_p2_blind v_p2_rubs v_p2_cellNames o_p2_letters v_p2_pageNames o_p2_secretNames)) := by
  refine mp_of (by decide) (Nat.le_of_ble_eq_true rfl) rfl ?_
  intro p e s m args below meth c A ls X hK hP hD hS hA hl
  replace X : mp_X p s m meth c args RX2 "takeSecret" cX2_takeSecret 5 (some .boolean) := X
  have hx := X.1
  have hb := X.2.1
  have hml := X.2.2.1
  have hown := X.2.2.2.2.1
  have hts := X.2.2.2.2.2.1
  replace hl : lv_has ls 5 [(0, .ref a_p1), (1, .ref a_p2)] := hl
  replace hf : (if v_p2_secrets < (nI 6) then bd_ (f_X8_forward fu v_p1_end v_p1_at v_p1_kind v_p1_place v_p1_word v_p1_key v_p1_number v_p1_keys v_p1_tape) (fun (z : Int32 × Int32 × Int32 × Int64 × Int32 × Int32) => match z with | (u2, u3, u4, u5, u6, u7) => bd_ (f_X2_newName fu v_p1_end u2 u3 u4 u5 u6 u7 v_p1_faultKind v_p1_faultPlace v_p1_keys v_p1_tape v_p2_cells v_p2_secrets v_p2_pages v_p2_cellNames v_p2_pageNames v_p2_secretNames) (fun (z : Int64 × Int32 × Int32 × Int32 × Int64 × Int32 × Int32 × Int32 × Int32) => match z with | (r9, u10, u11, u12, u13, u14, u15, u16, u17) => (if (lg_cmp r9 (-1 : Int64)) = 0 then f_X2_takeSecret_46 fu v_p1_end v_p1_keys v_p1_tape v_p2_cells v_p2_pages v_p2_cellNames v_p2_pageNames  r9 (-1 : Int32) u10 u11 u12 u13 u14 u15 u16 u17 v_p2_secrets v_p2_letters v_p2_secretNames else bd_ (f_X2_lastNumber fu (nI 5) (nI 1) (nI 20) v_p1_end u10 u11 u12 u13 u14 u15 u16 u17 v_p1_keys v_p1_tape) (fun (z : Int32 × Int32 × Int32 × Int32 × Int64 × Int32 × Int32 × Int32 × Int32) => match z with | (r20, u21, u22, u23, u24, u25, u26, u27, u28) => f_X2_takeSecret_46 fu v_p1_end v_p1_keys v_p1_tape v_p2_cells v_p2_pages v_p2_cellNames v_p2_pageNames  r9 r20 u21 u22 u23 u24 u25 u26 u27 u28 v_p2_secrets v_p2_letters v_p2_secretNames)))) else bd_ (f_X8_fail (nI 6) v_p1_kind v_p1_place v_p1_faultKind v_p1_faultPlace) (fun (z : Int32 × Int32 × Int32) => match z with | (r30, u31, u32) => gd_ (r30 = 0 ∨ r30 = 1) (some (r30, v_p1_at, v_p1_kind, v_p1_place, v_p1_word, v_p1_key, v_p1_number, u31, u32, v_p2_secrets, v_p2_letters, v_p2_secretNames)))) = some (r_, o_p1_at, o_p1_kind, o_p1_place, o_p1_word, o_p1_key, o_p1_number, o_p1_faultKind, o_p1_faultPlace, o_p2_secrets, o_p2_letters, o_p2_secretNames) := hf
  refine lv_aload_n hx hb dX2_takeSecret_0 rfl (lv_at hl 1 rfl) ?_
  refine mp_get X fl_X2_97 hK hP 3 rfl rfl dX2_takeSecret_1 ?_
  refine lv_bipush (v := (nI 6)) hx hb dX2_takeSecret_4 (by decide) ?_
  refine lv_icmp_lt (tgt := 16) hx hb dX2_takeSecret_6 (by decide) (fun h1 => ?_) (fun h1 => ?_)
  · replace hf := if_t hf h1
    refine lv_aload_n hx hb dX2_takeSecret_16 rfl (lv_at hl 0 rfl) ?_
    obtain ⟨⟨u2, u3, u4, u5, u6, u7⟩, c8, hf⟩ := bd_of hf
    dsimp only at hf
    have hPc := hP.sub (ws' := (k_X8_forward T a_p1 a_p1_tape a_p1_keys v_p1_filled v_p1_end v_p1_at v_p1_kind v_p1_place v_p1_word v_p1_key v_p1_number v_p1_faultKind v_p1_faultPlace v_p1_keys v_p1_tape)) [0, 1, 2] rfl
    have hDc := (mp_D_of (w1 := (k_X2_takeSecret T a_p1 a_p1_tape a_p1_keys a_p2 a_p2_cellNames a_p2_secretNames a_p2_pageNames a_p2_speed a_p2_letters a_p2_room a_p2_now a_p2_rounds v_p1_filled v_p1_end v_p1_at v_p1_kind v_p1_place v_p1_word v_p1_key v_p1_number v_p1_faultKind v_p1_faultPlace v_p1_keys v_p1_tape v_p2_cells v_p2_secrets v_p2_pages v_p2_blind v_p2_rubs v_p2_cellNames v_p2_letters v_p2_pageNames v_p2_secretNames)) hD rfl).sub (ws' := (k_X8_forward T a_p1 a_p1_tape a_p1_keys v_p1_filled v_p1_end v_p1_at v_p1_kind v_p1_place v_p1_word v_p1_key v_p1_number v_p1_faultKind v_p1_faultPlace v_p1_keys v_p1_tape)) [0, 1, 2] rfl rfl
    refine mp_callv (isC := [0, 1, 2]) (wc := (k_X8_forward T a_p1 a_p1_tape a_p1_keys v_p1_filled v_p1_end v_p1_at v_p1_kind v_p1_place v_p1_word v_p1_key v_p1_number v_p1_faultKind v_p1_faultPlace v_p1_keys v_p1_tape)) (w1 := (k_X8_forward T a_p1 a_p1_tape a_p1_keys v_p1_filled v_p1_end u2 u3 u4 u5 u6 u7 v_p1_faultKind v_p1_faultPlace v_p1_keys v_p1_tape)) hP (mp_D_of hD rfl) hS hA rfl rfl (mp_runV (As := []) (rest := []) X me_X8_forward lk_X2_75 (c_X8_forward l D T fu a_p1 a_p1_tape a_p1_keys v_p1_filled v_p1_faultKind v_p1_faultPlace v_p1_end v_p1_at v_p1_kind v_p1_place v_p1_word v_p1_key v_p1_number v_p1_keys v_p1_tape u2 u3 u4 u5 u6 u7 c8) rfl rfl ⟨(Nat.le_of_ble_eq_true rfl), (Nat.le_of_ble_eq_true rfl)⟩ hK hPc hDc rfl rfl rfl rfl hl.1 rfl (Nat.le_of_ble_eq_true rfl) dX2_takeSecret_17 ⟨Nat.zero_le _, Nat.zero_le _⟩) (fun H locs hP _ hS => ?_)
    replace hP : va_P D mp_cl (k_X2_takeSecret T a_p1 a_p1_tape a_p1_keys a_p2 a_p2_cellNames a_p2_secretNames a_p2_pageNames a_p2_speed a_p2_letters a_p2_room a_p2_now a_p2_rounds v_p1_filled v_p1_end u2 u3 u4 u5 u6 u7 v_p1_faultKind v_p1_faultPlace v_p1_keys v_p1_tape v_p2_cells v_p2_secrets v_p2_pages v_p2_blind v_p2_rubs v_p2_cellNames v_p2_letters v_p2_pageNames v_p2_secretNames) H := hP
    refine lv_aload_n hx hb dX2_takeSecret_20 rfl (lv_at hl 0 rfl) ?_
    refine lv_aload_n hx hb dX2_takeSecret_21 rfl (lv_at hl 1 rfl) ?_
    obtain ⟨⟨r9, u10, u11, u12, u13, u14, u15, u16, u17⟩, c18, hf⟩ := bd_of hf
    dsimp only at hf
    have hPc := hP.sub (ws' := (k_X2_newName T a_p1 a_p1_tape a_p1_keys a_p2 a_p2_cellNames a_p2_secretNames a_p2_pageNames a_p2_speed a_p2_letters a_p2_room a_p2_now a_p2_rounds v_p1_filled v_p1_end u2 u3 u4 u5 u6 u7 v_p1_faultKind v_p1_faultPlace v_p1_keys v_p1_tape v_p2_cells v_p2_secrets v_p2_pages v_p2_blind v_p2_rubs v_p2_cellNames v_p2_pageNames v_p2_secretNames)) [0, 1, 2, 3, 4, 6, 7] rfl
    have hDc := (mp_D_of (w1 := (k_X2_takeSecret T a_p1 a_p1_tape a_p1_keys a_p2 a_p2_cellNames a_p2_secretNames a_p2_pageNames a_p2_speed a_p2_letters a_p2_room a_p2_now a_p2_rounds v_p1_filled v_p1_end u2 u3 u4 u5 u6 u7 v_p1_faultKind v_p1_faultPlace v_p1_keys v_p1_tape v_p2_cells v_p2_secrets v_p2_pages v_p2_blind v_p2_rubs v_p2_cellNames v_p2_letters v_p2_pageNames v_p2_secretNames)) hD rfl).sub (ws' := (k_X2_newName T a_p1 a_p1_tape a_p1_keys a_p2 a_p2_cellNames a_p2_secretNames a_p2_pageNames a_p2_speed a_p2_letters a_p2_room a_p2_now a_p2_rounds v_p1_filled v_p1_end u2 u3 u4 u5 u6 u7 v_p1_faultKind v_p1_faultPlace v_p1_keys v_p1_tape v_p2_cells v_p2_secrets v_p2_pages v_p2_blind v_p2_rubs v_p2_cellNames v_p2_pageNames v_p2_secretNames)) [0, 1, 2, 3, 4, 6, 7] rfl rfl
    refine mp_calll (isC := [0, 1, 2, 3, 4, 6, 7]) (wc := (k_X2_newName T a_p1 a_p1_tape a_p1_keys a_p2 a_p2_cellNames a_p2_secretNames a_p2_pageNames a_p2_speed a_p2_letters a_p2_room a_p2_now a_p2_rounds v_p1_filled v_p1_end u2 u3 u4 u5 u6 u7 v_p1_faultKind v_p1_faultPlace v_p1_keys v_p1_tape v_p2_cells v_p2_secrets v_p2_pages v_p2_blind v_p2_rubs v_p2_cellNames v_p2_pageNames v_p2_secretNames)) (w1 := (k_X2_newName T a_p1 a_p1_tape a_p1_keys a_p2 a_p2_cellNames a_p2_secretNames a_p2_pageNames a_p2_speed a_p2_letters a_p2_room a_p2_now a_p2_rounds v_p1_filled v_p1_end u10 u11 u12 u13 u14 u15 u16 u17 v_p1_keys v_p1_tape v_p2_cells v_p2_secrets v_p2_pages v_p2_blind v_p2_rubs v_p2_cellNames v_p2_pageNames v_p2_secretNames)) hP (mp_D_of hD rfl) hS hA rfl rfl (mp_runS (As := [.ref a_p1, .ref a_p2]) (rest := []) X me_X2_newName lk_X2_78 (c_X2_newName l D T fu a_p1 a_p1_tape a_p1_keys a_p2 a_p2_cellNames a_p2_secretNames a_p2_pageNames a_p2_speed a_p2_letters a_p2_room a_p2_now a_p2_rounds v_p1_filled v_p2_blind v_p2_rubs v_p1_end u2 u3 u4 u5 u6 u7 v_p1_faultKind v_p1_faultPlace v_p1_keys v_p1_tape v_p2_cells v_p2_secrets v_p2_pages v_p2_cellNames v_p2_pageNames v_p2_secretNames r9 u10 u11 u12 u13 u14 u15 u16 u17 c18) rfl rfl ⟨(Nat.le_of_ble_eq_true rfl), (Nat.le_of_ble_eq_true rfl)⟩ hK hPc hDc rfl hl.1 rfl (Nat.le_of_ble_eq_true rfl) dX2_takeSecret_22 ⟨Nat.zero_le _, Nat.zero_le _⟩) (fun H locs hP _ hS => ?_)
    replace hP : va_P D mp_cl (k_X2_takeSecret T a_p1 a_p1_tape a_p1_keys a_p2 a_p2_cellNames a_p2_secretNames a_p2_pageNames a_p2_speed a_p2_letters a_p2_room a_p2_now a_p2_rounds v_p1_filled v_p1_end u10 u11 u12 u13 u14 u15 u16 u17 v_p1_keys v_p1_tape v_p2_cells v_p2_secrets v_p2_pages v_p2_blind v_p2_rubs v_p2_cellNames v_p2_letters v_p2_pageNames v_p2_secretNames) H := hP
    refine lv_lstore_n (lv' := [(2, .long r9), (0, .ref a_p1), (1, .ref a_p2)]) hx hb dX2_takeSecret_25 rfl hl (by decide) rfl (fun ls hl => ?_)
    refine lv_lload_n hx hb dX2_takeSecret_26 rfl (lv_at hl 0 rfl) ?_
    refine lv_ldc2 (v := (-1 : Int64)) hx hb hown (hts _ (cw_X2_69)) dX2_takeSecret_27 ?_
    refine W.lcmp hx hb dX2_takeSecret_30 ?_
    refine lv_if_ne (tgt := 38) hx hb dX2_takeSecret_31 (by decide) (fun h19 => ?_) (fun h19 => ?_)
    · replace hf := if_f hf h19
      refine lv_aload_n hx hb dX2_takeSecret_38 rfl (lv_at hl 1 rfl) ?_
      refine lv_iconst (v := (nI 5)) hx hb dX2_takeSecret_39 (by decide) ?_
      refine lv_iconst (v := (nI 1)) hx hb dX2_takeSecret_40 (by decide) ?_
      refine lv_bipush (v := (nI 20)) hx hb dX2_takeSecret_41 (by decide) ?_
      obtain ⟨⟨r20, u21, u22, u23, u24, u25, u26, u27, u28⟩, c29, hf⟩ := bd_of hf
      dsimp only at hf
      have hPc := hP.sub (ws' := (k_X2_lastNumber T a_p1 a_p1_tape a_p1_keys v_p1_filled v_p1_end u10 u11 u12 u13 u14 u15 u16 u17 v_p1_keys v_p1_tape)) [0, 1, 2] rfl
      have hDc := (mp_D_of (w1 := (k_X2_takeSecret T a_p1 a_p1_tape a_p1_keys a_p2 a_p2_cellNames a_p2_secretNames a_p2_pageNames a_p2_speed a_p2_letters a_p2_room a_p2_now a_p2_rounds v_p1_filled v_p1_end u10 u11 u12 u13 u14 u15 u16 u17 v_p1_keys v_p1_tape v_p2_cells v_p2_secrets v_p2_pages v_p2_blind v_p2_rubs v_p2_cellNames v_p2_letters v_p2_pageNames v_p2_secretNames)) hD rfl).sub (ws' := (k_X2_lastNumber T a_p1 a_p1_tape a_p1_keys v_p1_filled v_p1_end u10 u11 u12 u13 u14 u15 u16 u17 v_p1_keys v_p1_tape)) [0, 1, 2] rfl rfl
      refine mp_calli (isC := [0, 1, 2]) (wc := (k_X2_lastNumber T a_p1 a_p1_tape a_p1_keys v_p1_filled v_p1_end u10 u11 u12 u13 u14 u15 u16 u17 v_p1_keys v_p1_tape)) (w1 := (k_X2_lastNumber T a_p1 a_p1_tape a_p1_keys v_p1_filled v_p1_end u21 u22 u23 u24 u25 u26 u27 u28 v_p1_keys v_p1_tape)) hP (mp_D_of hD rfl) hS hA rfl rfl (mp_runS (As := [.ref a_p1, .int (nI 5), .int (nI 1), .int (nI 20)]) (rest := []) X me_X2_lastNumber lk_X2_100 (c_X2_lastNumber l D T fu a_p1 a_p1_tape a_p1_keys (nI 5) (nI 1) (nI 20) v_p1_filled v_p1_end u10 u11 u12 u13 u14 u15 u16 u17 v_p1_keys v_p1_tape r20 u21 u22 u23 u24 u25 u26 u27 u28 c29) rfl rfl ⟨(Nat.le_of_ble_eq_true rfl), (Nat.le_of_ble_eq_true rfl)⟩ hK hPc hDc rfl hl.1 rfl (Nat.le_of_ble_eq_true rfl) dX2_takeSecret_43 ⟨Nat.zero_le _, Nat.zero_le _⟩) (fun H locs hP _ hS => ?_)
      replace hP : va_P D mp_cl (k_X2_takeSecret T a_p1 a_p1_tape a_p1_keys a_p2 a_p2_cellNames a_p2_secretNames a_p2_pageNames a_p2_speed a_p2_letters a_p2_room a_p2_now a_p2_rounds v_p1_filled v_p1_end u21 u22 u23 u24 u25 u26 u27 u28 v_p1_keys v_p1_tape v_p2_cells v_p2_secrets v_p2_pages v_p2_blind v_p2_rubs v_p2_cellNames v_p2_letters v_p2_pageNames v_p2_secretNames) H := hP
      exact w_X2_takeSecret_46 X hK hA  fu a_p1 a_p1_tape a_p1_keys a_p2 a_p2_cellNames a_p2_secretNames a_p2_pageNames a_p2_speed a_p2_letters a_p2_room a_p2_now a_p2_rounds v_p1_filled v_p2_blind v_p2_rubs v_p1_end v_p1_keys v_p1_tape v_p2_cells v_p2_pages v_p2_cellNames v_p2_pageNames r_ o_p1_at o_p1_kind o_p1_place o_p1_word o_p1_key o_p1_number o_p1_faultKind o_p1_faultPlace o_p2_secrets o_p2_letters o_p2_secretNames   r9 r20 u21 u22 u23 u24 u25 u26 u27 u28 v_p2_secrets v_p2_letters v_p2_secretNames hf _ _ _ hP (mp_D_of hD rfl) hS (lv_sub hl [2, 0] rfl)
    · replace hf := if_t hf h19
      refine lv_iconst (v := (-1 : Int32)) hx hb dX2_takeSecret_34 (by decide) ?_
      refine lv_goto (tgt := 46) hx hb dX2_takeSecret_35 (by decide) ?_
      exact w_X2_takeSecret_46 X hK hA  fu a_p1 a_p1_tape a_p1_keys a_p2 a_p2_cellNames a_p2_secretNames a_p2_pageNames a_p2_speed a_p2_letters a_p2_room a_p2_now a_p2_rounds v_p1_filled v_p2_blind v_p2_rubs v_p1_end v_p1_keys v_p1_tape v_p2_cells v_p2_pages v_p2_cellNames v_p2_pageNames r_ o_p1_at o_p1_kind o_p1_place o_p1_word o_p1_key o_p1_number o_p1_faultKind o_p1_faultPlace o_p2_secrets o_p2_letters o_p2_secretNames   r9 (-1 : Int32) u10 u11 u12 u13 u14 u15 u16 u17 v_p2_secrets v_p2_letters v_p2_secretNames hf _ _ _ hP (mp_D_of hD rfl) hS (lv_sub hl [2, 0] rfl)
  · replace hf := if_f hf h1
    refine lv_aload_n hx hb dX2_takeSecret_9 rfl (lv_at hl 0 rfl) ?_
    refine lv_bipush (v := (nI 6)) hx hb dX2_takeSecret_10 (by decide) ?_
    obtain ⟨⟨r30, u31, u32⟩, c33, hf⟩ := bd_of hf
    dsimp only at hf
    have hPc := hP.sub (ws' := (k_X8_fail T a_p1 a_p1_tape a_p1_keys v_p1_filled v_p1_end v_p1_at v_p1_kind v_p1_place v_p1_word v_p1_key v_p1_number v_p1_faultKind v_p1_faultPlace)) [0] rfl
    have hDc := (mp_D_of (w1 := (k_X2_takeSecret T a_p1 a_p1_tape a_p1_keys a_p2 a_p2_cellNames a_p2_secretNames a_p2_pageNames a_p2_speed a_p2_letters a_p2_room a_p2_now a_p2_rounds v_p1_filled v_p1_end v_p1_at v_p1_kind v_p1_place v_p1_word v_p1_key v_p1_number v_p1_faultKind v_p1_faultPlace v_p1_keys v_p1_tape v_p2_cells v_p2_secrets v_p2_pages v_p2_blind v_p2_rubs v_p2_cellNames v_p2_letters v_p2_pageNames v_p2_secretNames)) hD rfl).sub (ws' := (k_X8_fail T a_p1 a_p1_tape a_p1_keys v_p1_filled v_p1_end v_p1_at v_p1_kind v_p1_place v_p1_word v_p1_key v_p1_number v_p1_faultKind v_p1_faultPlace)) [0] rfl rfl
    refine mp_calli (isC := [0]) (wc := (k_X8_fail T a_p1 a_p1_tape a_p1_keys v_p1_filled v_p1_end v_p1_at v_p1_kind v_p1_place v_p1_word v_p1_key v_p1_number v_p1_faultKind v_p1_faultPlace)) (w1 := (k_X8_fail T a_p1 a_p1_tape a_p1_keys v_p1_filled v_p1_end v_p1_at v_p1_kind v_p1_place v_p1_word v_p1_key v_p1_number u31 u32)) hP (mp_D_of hD rfl) hS hA rfl rfl (mp_runV (As := [.int (nI 6)]) (rest := []) X me_X8_fail lk_X2_48 (c_X8_fail l D T a_p1 a_p1_tape a_p1_keys (nI 6) v_p1_filled v_p1_end v_p1_at v_p1_word v_p1_key v_p1_number v_p1_kind v_p1_place v_p1_faultKind v_p1_faultPlace r30 u31 u32 c33) rfl rfl ⟨(Nat.le_of_ble_eq_true rfl), (Nat.le_of_ble_eq_true rfl)⟩ hK hPc hDc rfl rfl rfl rfl hl.1 rfl (Nat.le_of_ble_eq_true rfl) dX2_takeSecret_12 ⟨Nat.zero_le _, Nat.zero_le _⟩) (fun H locs hP _ hS => ?_)
    replace hP : va_P D mp_cl (k_X2_takeSecret T a_p1 a_p1_tape a_p1_keys a_p2 a_p2_cellNames a_p2_secretNames a_p2_pageNames a_p2_speed a_p2_letters a_p2_room a_p2_now a_p2_rounds v_p1_filled v_p1_end v_p1_at v_p1_kind v_p1_place v_p1_word v_p1_key v_p1_number u31 u32 v_p1_keys v_p1_tape v_p2_cells v_p2_secrets v_p2_pages v_p2_blind v_p2_rubs v_p2_cellNames v_p2_letters v_p2_pageNames v_p2_secretNames) H := hP
    obtain ⟨h34, hf⟩ := gd_of hf
    cases hf
    exact mp_retz X hP hS rfl h34 dX2_takeSecret_15


def k_X2_takePage (T : Nat → ClassId) (a_p1 a_p1_tape a_p1_keys a_p2 a_p2_cellNames a_p2_secretNames a_p2_pageNames a_p2_speed a_p2_letters a_p2_room a_p2_now a_p2_rounds : Nat) (v_p1_filled : Int32) (v_p1_end : Int32) (v_p1_at : Int32) (v_p1_kind : Int32) (v_p1_place : Int32) (v_p1_word : Int64) (v_p1_key : Int32) (v_p1_number : Int32) (v_p1_faultKind : Int32) (v_p1_faultPlace : Int32) (v_p1_keys : (Nat → Int64)) (v_p1_tape : (Nat → Int32)) (v_p2_cells : Int32) (v_p2_secrets : Int32) (v_p2_pages : Int32) (v_p2_blind : Int32) (v_p2_rubs : Int32) (v_p2_cellNames : (Nat → Int64)) (v_p2_pageNames : (Nat → Int64)) (v_p2_room : (Nat → Int32)) (v_p2_secretNames : (Nat → Int64)) : va_W := [(a_p1, oX8 a_p1_tape v_p1_filled v_p1_end v_p1_at v_p1_kind v_p1_place v_p1_word v_p1_key v_p1_number v_p1_faultKind v_p1_faultPlace a_p1_keys), (a_p1_keys, mp_aJ T 24 v_p1_keys), (a_p1_tape, mp_aB T 900 v_p1_tape), (a_p2, oX1 v_p2_cells v_p2_secrets v_p2_pages a_p2_cellNames a_p2_secretNames a_p2_pageNames a_p2_speed v_p2_blind v_p2_rubs a_p2_letters a_p2_room a_p2_now a_p2_rounds), (a_p2_cellNames, mp_aJ T 8 v_p2_cellNames), (a_p2_pageNames, mp_aJ T 6 v_p2_pageNames), (a_p2_room, mp_aI T 6 v_p2_room), (a_p2_secretNames, mp_aJ T 6 v_p2_secretNames)]
set_option maxHeartbeats 4000000 in
set_option maxRecDepth 100000 in
theorem w_X2_takePage_47 {p : Program} {l : Launch} {e : Env} {s : State} {m : MethodId} {args : Array Value} {below : List Frame} {meth : Method} {c : Code} {D : va_G} {T : Nat → ClassId} {A : Nat → Prop} (X : mp_X p s m meth c args RX2 "takePage" cX2_takePage 5 (some .boolean)) (hK : va_K D mp_cl (mp_ty T) s) (hA : ∀ q, s.heap.size ≤ q → A q) (fu : Nat) (a_p1 a_p1_tape a_p1_keys a_p2 a_p2_cellNames a_p2_secretNames a_p2_pageNames a_p2_speed a_p2_letters a_p2_room a_p2_now a_p2_rounds : Nat) (v_p1_filled : Int32) (v_p2_blind : Int32) (v_p2_rubs : Int32) (v_p1_end : Int32) (v_p1_keys : (Nat → Int64)) (v_p1_tape : (Nat → Int32)) (v_p2_cells : Int32) (v_p2_secrets : Int32) (v_p2_cellNames : (Nat → Int64)) (v_p2_secretNames : (Nat → Int64)) (r_ : Int32) (o_p1_at : Int32) (o_p1_kind : Int32) (o_p1_place : Int32) (o_p1_word : Int64) (o_p1_key : Int32) (o_p1_number : Int32) (o_p1_faultKind : Int32) (o_p1_faultPlace : Int32) (o_p2_pages : Int32) (o_p2_pageNames : (Nat → Int64)) (o_p2_room : (Nat → Int32)) :
    ∀  (z2 : Int64) (w0 : Int32) (v_p1_at : Int32) (v_p1_kind : Int32) (v_p1_place : Int32) (v_p1_word : Int64) (v_p1_key : Int32) (v_p1_number : Int32) (v_p1_faultKind : Int32) (v_p1_faultPlace : Int32) (v_p2_pages : Int32) (v_p2_pageNames : (Nat → Int64)) (v_p2_room : (Nat → Int32)), f_X2_takePage_47 fu v_p1_end v_p1_keys v_p1_tape v_p2_cells v_p2_secrets v_p2_cellNames v_p2_secretNames  z2 w0 v_p1_at v_p1_kind v_p1_place v_p1_word v_p1_key v_p1_number v_p1_faultKind v_p1_faultPlace v_p2_pages v_p2_pageNames v_p2_room = some (r_, o_p1_at, o_p1_kind, o_p1_place, o_p1_word, o_p1_key, o_p1_number, o_p1_faultKind, o_p1_faultPlace, o_p2_pages, o_p2_pageNames, o_p2_room) → ∀ (H : Heap) (locs : List Loc) (ls : Array Slot), va_P D mp_cl (k_X2_takePage T a_p1 a_p1_tape a_p1_keys a_p2 a_p2_cellNames a_p2_secretNames a_p2_pageNames a_p2_speed a_p2_letters a_p2_room a_p2_now a_p2_rounds v_p1_filled v_p1_end v_p1_at v_p1_kind v_p1_place v_p1_word v_p1_key v_p1_number v_p1_faultKind v_p1_faultPlace v_p1_keys v_p1_tape v_p2_cells v_p2_secrets v_p2_pages v_p2_blind v_p2_rubs v_p2_cellNames v_p2_pageNames v_p2_room v_p2_secretNames) H → va_D A (k_X2_takePage T a_p1 a_p1_tape a_p1_keys a_p2 a_p2_cellNames a_p2_secretNames a_p2_pageNames a_p2_speed a_p2_letters a_p2_room a_p2_now a_p2_rounds v_p1_filled v_p1_end v_p1_at v_p1_kind v_p1_place v_p1_word v_p1_key v_p1_number v_p1_faultKind v_p1_faultPlace v_p1_keys v_p1_tape v_p2_cells v_p2_secrets v_p2_pages v_p2_blind v_p2_rubs v_p2_cellNames v_p2_pageNames v_p2_room v_p2_secretNames) → va_S A s.heap H locs → lv_has ls 5 [(1, .ref a_p2), (2, .long z2)] → W p l e ({ frames := 5, cells := 0, slots := 0, locals := 112 }) s m args below meth c H locs 0 0 (MQ below ((mp_Qi D r_ (k_X2_takePage T a_p1 a_p1_tape a_p1_keys a_p2 a_p2_cellNames a_p2_secretNames a_p2_pageNames a_p2_speed a_p2_letters a_p2_room a_p2_now a_p2_rounds v_p1_filled v_p1_end o_p1_at o_p1_kind o_p1_place o_p1_word o_p1_key o_p1_number o_p1_faultKind o_p1_faultPlace v_p1_keys v_p1_tape v_p2_cells v_p2_secrets o_p2_pages v_p2_blind v_p2_rubs v_p2_cellNames o_p2_pageNames o_p2_room v_p2_secretNames)) A) args s 0 0 A) (F0 m 47 ls [.int w0]) := by
  have hx := X.1
  have hb := X.2.1
  have hml := X.2.2.1
  have hown := X.2.2.2.2.1
  have hts := X.2.2.2.2.2.1
  intro z2 w0 v_p1_at v_p1_kind v_p1_place v_p1_word v_p1_key v_p1_number v_p1_faultKind v_p1_faultPlace v_p2_pages v_p2_pageNames v_p2_room hf H locs ls hP hD hS hl
  replace hf : (if w0 = (-1 : Int32) then some ((nI 0), v_p1_at, v_p1_kind, v_p1_place, v_p1_word, v_p1_key, v_p1_number, v_p1_faultKind, v_p1_faultPlace, v_p2_pages, v_p2_pageNames, v_p2_room) else bd_ (f_X1_addPage z2 w0 v_p2_pages v_p2_pageNames v_p2_room) (fun (z : Int32 × (Nat → Int64) × (Nat → Int32)) => match z with | (u2, u3, u4) => some ((nI 1), v_p1_at, v_p1_kind, v_p1_place, v_p1_word, v_p1_key, v_p1_number, v_p1_faultKind, v_p1_faultPlace, u2, u3, u4))) = some (r_, o_p1_at, o_p1_kind, o_p1_place, o_p1_word, o_p1_key, o_p1_number, o_p1_faultKind, o_p1_faultPlace, o_p2_pages, o_p2_pageNames, o_p2_room) := hf
  refine lv_istore (lv' := [(4, .int w0), (1, .ref a_p2), (2, .long z2)]) hx hb dX2_takePage_47 hl (by decide) rfl (fun ls hl => ?_)
  refine lv_iload hx hb dX2_takePage_49 (lv_at hl 0 rfl) ?_
  refine lv_iconst (v := (-1 : Int32)) hx hb dX2_takePage_51 (by decide) ?_
  refine lv_icmp_ne (tgt := 57) hx hb dX2_takePage_52 (by decide) (fun h1 => ?_) (fun h1 => ?_)
  · replace hf := if_f hf h1
    refine lv_aload_n hx hb dX2_takePage_57 rfl (lv_at hl 1 rfl) ?_
    refine lv_lload_n hx hb dX2_takePage_58 rfl (lv_at hl 2 rfl) ?_
    refine lv_iload hx hb dX2_takePage_59 (lv_at hl 0 rfl) ?_
    obtain ⟨⟨u2, u3, u4⟩, c5, hf⟩ := bd_of hf
    dsimp only at hf
    have hPc := hP.sub (ws' := (k_X1_addPage T a_p2 a_p2_cellNames a_p2_secretNames a_p2_pageNames a_p2_speed a_p2_letters a_p2_room a_p2_now a_p2_rounds v_p2_cells v_p2_secrets v_p2_pages v_p2_blind v_p2_rubs v_p2_pageNames v_p2_room)) [3, 5, 6] rfl
    have hDc := (mp_D_of (w1 := (k_X2_takePage T a_p1 a_p1_tape a_p1_keys a_p2 a_p2_cellNames a_p2_secretNames a_p2_pageNames a_p2_speed a_p2_letters a_p2_room a_p2_now a_p2_rounds v_p1_filled v_p1_end v_p1_at v_p1_kind v_p1_place v_p1_word v_p1_key v_p1_number v_p1_faultKind v_p1_faultPlace v_p1_keys v_p1_tape v_p2_cells v_p2_secrets v_p2_pages v_p2_blind v_p2_rubs v_p2_cellNames v_p2_pageNames v_p2_room v_p2_secretNames)) hD rfl).sub (ws' := (k_X1_addPage T a_p2 a_p2_cellNames a_p2_secretNames a_p2_pageNames a_p2_speed a_p2_letters a_p2_room a_p2_now a_p2_rounds v_p2_cells v_p2_secrets v_p2_pages v_p2_blind v_p2_rubs v_p2_pageNames v_p2_room)) [3, 5, 6] rfl rfl
    refine mp_callv (isC := [3, 5, 6]) (wc := (k_X1_addPage T a_p2 a_p2_cellNames a_p2_secretNames a_p2_pageNames a_p2_speed a_p2_letters a_p2_room a_p2_now a_p2_rounds v_p2_cells v_p2_secrets v_p2_pages v_p2_blind v_p2_rubs v_p2_pageNames v_p2_room)) (w1 := (k_X1_addPage T a_p2 a_p2_cellNames a_p2_secretNames a_p2_pageNames a_p2_speed a_p2_letters a_p2_room a_p2_now a_p2_rounds v_p2_cells v_p2_secrets u2 v_p2_blind v_p2_rubs u3 u4)) hP (mp_D_of hD rfl) hS hA rfl rfl (mp_runV (As := [.long z2, .int w0]) (rest := []) X me_X1_addPage lk_X2_111 (c_X1_addPage l D T a_p2 a_p2_cellNames a_p2_secretNames a_p2_pageNames a_p2_speed a_p2_letters a_p2_room a_p2_now a_p2_rounds z2 w0 v_p2_cells v_p2_secrets v_p2_blind v_p2_rubs v_p2_pages v_p2_pageNames v_p2_room u2 u3 u4 c5) rfl rfl ⟨(Nat.le_of_ble_eq_true rfl), (Nat.le_of_ble_eq_true rfl)⟩ hK hPc hDc rfl rfl rfl rfl hl.1 rfl (Nat.le_of_ble_eq_true rfl) dX2_takePage_61 ⟨Nat.zero_le _, Nat.zero_le _⟩) (fun H locs hP _ hS => ?_)
    replace hP : va_P D mp_cl (k_X2_takePage T a_p1 a_p1_tape a_p1_keys a_p2 a_p2_cellNames a_p2_secretNames a_p2_pageNames a_p2_speed a_p2_letters a_p2_room a_p2_now a_p2_rounds v_p1_filled v_p1_end v_p1_at v_p1_kind v_p1_place v_p1_word v_p1_key v_p1_number v_p1_faultKind v_p1_faultPlace v_p1_keys v_p1_tape v_p2_cells v_p2_secrets u2 v_p2_blind v_p2_rubs v_p2_cellNames u3 u4 v_p2_secretNames) H := hP
    refine lv_iconst (v := (nI 1)) hx hb dX2_takePage_64 (by decide) ?_
    cases hf
    exact mp_retz X hP hS rfl (Or.inr rfl) dX2_takePage_65
  · replace hf := if_t hf h1
    refine lv_iconst (v := (nI 0)) hx hb dX2_takePage_55 (by decide) ?_
    cases hf
    exact mp_retz X hP hS rfl (Or.inl rfl) dX2_takePage_56

set_option maxHeartbeats 4000000 in
set_option maxRecDepth 100000 in
theorem c_X2_takePage (l : Launch) (D : va_G) (T : Nat → ClassId) (fu : Nat) (a_p1 a_p1_tape a_p1_keys a_p2 a_p2_cellNames a_p2_secretNames a_p2_pageNames a_p2_speed a_p2_letters a_p2_room a_p2_now a_p2_rounds : Nat) (v_p1_filled : Int32) (v_p2_blind : Int32) (v_p2_rubs : Int32) (v_p1_end : Int32) (v_p1_at : Int32) (v_p1_kind : Int32) (v_p1_place : Int32) (v_p1_word : Int64) (v_p1_key : Int32) (v_p1_number : Int32) (v_p1_faultKind : Int32) (v_p1_faultPlace : Int32) (v_p1_keys : (Nat → Int64)) (v_p1_tape : (Nat → Int32)) (v_p2_cells : Int32) (v_p2_secrets : Int32) (v_p2_pages : Int32) (v_p2_cellNames : (Nat → Int64)) (v_p2_pageNames : (Nat → Int64)) (v_p2_room : (Nat → Int32)) (v_p2_secretNames : (Nat → Int64)) (r_ : Int32) (o_p1_at : Int32) (o_p1_kind : Int32) (o_p1_place : Int32) (o_p1_word : Int64) (o_p1_key : Int32) (o_p1_number : Int32) (o_p1_faultKind : Int32) (o_p1_faultPlace : Int32) (o_p2_pages : Int32) (o_p2_pageNames : (Nat → Int64)) (o_p2_room : (Nat → Int32)) (hf : f_X2_takePage fu v_p1_end v_p1_at v_p1_kind v_p1_place v_p1_word v_p1_key v_p1_number v_p1_faultKind v_p1_faultPlace v_p1_keys v_p1_tape v_p2_cells v_p2_secrets v_p2_pages v_p2_cellNames v_p2_pageNames v_p2_room v_p2_secretNames = some (r_, o_p1_at, o_p1_kind, o_p1_place, o_p1_word, o_p1_key, o_p1_number, o_p1_faultKind, o_p1_faultPlace, o_p2_pages, o_p2_pageNames, o_p2_room)) :
    mp_M l D T yX2_takePage cX2_takePage 5 (some .boolean) ({ frames := 5, cells := 0, slots := 0, locals := 112 }) 0 0 [.ref a_p1, .ref a_p2] (k_X2_takePage T a_p1 a_p1_tape a_p1_keys a_p2 a_p2_cellNames a_p2_secretNames a_p2_pageNames a_p2_speed a_p2_letters a_p2_room a_p2_now a_p2_rounds v_p1_filled v_p1_end v_p1_at v_p1_kind v_p1_place v_p1_word v_p1_key v_p1_number v_p1_faultKind v_p1_faultPlace v_p1_keys v_p1_tape v_p2_cells v_p2_secrets v_p2_pages v_p2_blind v_p2_rubs v_p2_cellNames v_p2_pageNames v_p2_room v_p2_secretNames) (mp_Qi D r_ (k_X2_takePage T a_p1 a_p1_tape a_p1_keys a_p2 a_p2_cellNames a_p2_secretNames a_p2_pageNames a_p2_speed a_p2_letters a_p2_room a_p2_now a_p2_rounds v_p1_filled v_p1_end o_p1_at o_p1_kind o_p1_place o_p1_word o_p1_key o_p1_number o_p1_faultKind o_p1_faultPlace v_p1_keys v_p1_tape v_p2_cells v_p2_secrets o_p2_pages v_p2_blind v_p2_rubs v_p2_cellNames o_p2_pageNames o_p2_room v_p2_secretNames)) := by
  refine mp_of (by decide) (Nat.le_of_ble_eq_true rfl) rfl ?_
  intro p e s m args below meth c A ls X hK hP hD hS hA hl
  replace X : mp_X p s m meth c args RX2 "takePage" cX2_takePage 5 (some .boolean) := X
  have hx := X.1
  have hb := X.2.1
  have hml := X.2.2.1
  have hown := X.2.2.2.2.1
  have hts := X.2.2.2.2.2.1
  replace hl : lv_has ls 5 [(0, .ref a_p1), (1, .ref a_p2)] := hl
  replace hf : (if v_p2_pages < (nI 6) then bd_ (f_X8_forward fu v_p1_end v_p1_at v_p1_kind v_p1_place v_p1_word v_p1_key v_p1_number v_p1_keys v_p1_tape) (fun (z : Int32 × Int32 × Int32 × Int64 × Int32 × Int32) => match z with | (u2, u3, u4, u5, u6, u7) => bd_ (f_X2_newName fu v_p1_end u2 u3 u4 u5 u6 u7 v_p1_faultKind v_p1_faultPlace v_p1_keys v_p1_tape v_p2_cells v_p2_secrets v_p2_pages v_p2_cellNames v_p2_pageNames v_p2_secretNames) (fun (z : Int64 × Int32 × Int32 × Int32 × Int64 × Int32 × Int32 × Int32 × Int32) => match z with | (r9, u10, u11, u12, u13, u14, u15, u16, u17) => (if (lg_cmp r9 (-1 : Int64)) = 0 then f_X2_takePage_47 fu v_p1_end v_p1_keys v_p1_tape v_p2_cells v_p2_secrets v_p2_cellNames v_p2_secretNames  r9 (-1 : Int32) u10 u11 u12 u13 u14 u15 u16 u17 v_p2_pages v_p2_pageNames v_p2_room else bd_ (f_X2_lastNumber fu (nI 7) (nI 0) (nI 60) v_p1_end u10 u11 u12 u13 u14 u15 u16 u17 v_p1_keys v_p1_tape) (fun (z : Int32 × Int32 × Int32 × Int32 × Int64 × Int32 × Int32 × Int32 × Int32) => match z with | (r20, u21, u22, u23, u24, u25, u26, u27, u28) => f_X2_takePage_47 fu v_p1_end v_p1_keys v_p1_tape v_p2_cells v_p2_secrets v_p2_cellNames v_p2_secretNames  r9 r20 u21 u22 u23 u24 u25 u26 u27 u28 v_p2_pages v_p2_pageNames v_p2_room)))) else bd_ (f_X8_fail (nI 6) v_p1_kind v_p1_place v_p1_faultKind v_p1_faultPlace) (fun (z : Int32 × Int32 × Int32) => match z with | (r30, u31, u32) => gd_ (r30 = 0 ∨ r30 = 1) (some (r30, v_p1_at, v_p1_kind, v_p1_place, v_p1_word, v_p1_key, v_p1_number, u31, u32, v_p2_pages, v_p2_pageNames, v_p2_room)))) = some (r_, o_p1_at, o_p1_kind, o_p1_place, o_p1_word, o_p1_key, o_p1_number, o_p1_faultKind, o_p1_faultPlace, o_p2_pages, o_p2_pageNames, o_p2_room) := hf
  refine lv_aload_n hx hb dX2_takePage_0 rfl (lv_at hl 1 rfl) ?_
  refine mp_get X fl_X2_108 hK hP 3 rfl rfl dX2_takePage_1 ?_
  refine lv_bipush (v := (nI 6)) hx hb dX2_takePage_4 (by decide) ?_
  refine lv_icmp_lt (tgt := 16) hx hb dX2_takePage_6 (by decide) (fun h1 => ?_) (fun h1 => ?_)
  · replace hf := if_t hf h1
    refine lv_aload_n hx hb dX2_takePage_16 rfl (lv_at hl 0 rfl) ?_
    obtain ⟨⟨u2, u3, u4, u5, u6, u7⟩, c8, hf⟩ := bd_of hf
    dsimp only at hf
    have hPc := hP.sub (ws' := (k_X8_forward T a_p1 a_p1_tape a_p1_keys v_p1_filled v_p1_end v_p1_at v_p1_kind v_p1_place v_p1_word v_p1_key v_p1_number v_p1_faultKind v_p1_faultPlace v_p1_keys v_p1_tape)) [0, 1, 2] rfl
    have hDc := (mp_D_of (w1 := (k_X2_takePage T a_p1 a_p1_tape a_p1_keys a_p2 a_p2_cellNames a_p2_secretNames a_p2_pageNames a_p2_speed a_p2_letters a_p2_room a_p2_now a_p2_rounds v_p1_filled v_p1_end v_p1_at v_p1_kind v_p1_place v_p1_word v_p1_key v_p1_number v_p1_faultKind v_p1_faultPlace v_p1_keys v_p1_tape v_p2_cells v_p2_secrets v_p2_pages v_p2_blind v_p2_rubs v_p2_cellNames v_p2_pageNames v_p2_room v_p2_secretNames)) hD rfl).sub (ws' := (k_X8_forward T a_p1 a_p1_tape a_p1_keys v_p1_filled v_p1_end v_p1_at v_p1_kind v_p1_place v_p1_word v_p1_key v_p1_number v_p1_faultKind v_p1_faultPlace v_p1_keys v_p1_tape)) [0, 1, 2] rfl rfl
    refine mp_callv (isC := [0, 1, 2]) (wc := (k_X8_forward T a_p1 a_p1_tape a_p1_keys v_p1_filled v_p1_end v_p1_at v_p1_kind v_p1_place v_p1_word v_p1_key v_p1_number v_p1_faultKind v_p1_faultPlace v_p1_keys v_p1_tape)) (w1 := (k_X8_forward T a_p1 a_p1_tape a_p1_keys v_p1_filled v_p1_end u2 u3 u4 u5 u6 u7 v_p1_faultKind v_p1_faultPlace v_p1_keys v_p1_tape)) hP (mp_D_of hD rfl) hS hA rfl rfl (mp_runV (As := []) (rest := []) X me_X8_forward lk_X2_75 (c_X8_forward l D T fu a_p1 a_p1_tape a_p1_keys v_p1_filled v_p1_faultKind v_p1_faultPlace v_p1_end v_p1_at v_p1_kind v_p1_place v_p1_word v_p1_key v_p1_number v_p1_keys v_p1_tape u2 u3 u4 u5 u6 u7 c8) rfl rfl ⟨(Nat.le_of_ble_eq_true rfl), (Nat.le_of_ble_eq_true rfl)⟩ hK hPc hDc rfl rfl rfl rfl hl.1 rfl (Nat.le_of_ble_eq_true rfl) dX2_takePage_17 ⟨Nat.zero_le _, Nat.zero_le _⟩) (fun H locs hP _ hS => ?_)
    replace hP : va_P D mp_cl (k_X2_takePage T a_p1 a_p1_tape a_p1_keys a_p2 a_p2_cellNames a_p2_secretNames a_p2_pageNames a_p2_speed a_p2_letters a_p2_room a_p2_now a_p2_rounds v_p1_filled v_p1_end u2 u3 u4 u5 u6 u7 v_p1_faultKind v_p1_faultPlace v_p1_keys v_p1_tape v_p2_cells v_p2_secrets v_p2_pages v_p2_blind v_p2_rubs v_p2_cellNames v_p2_pageNames v_p2_room v_p2_secretNames) H := hP
    refine lv_aload_n hx hb dX2_takePage_20 rfl (lv_at hl 0 rfl) ?_
    refine lv_aload_n hx hb dX2_takePage_21 rfl (lv_at hl 1 rfl) ?_
    obtain ⟨⟨r9, u10, u11, u12, u13, u14, u15, u16, u17⟩, c18, hf⟩ := bd_of hf
    dsimp only at hf
    have hPc := hP.sub (ws' := (k_X2_newName T a_p1 a_p1_tape a_p1_keys a_p2 a_p2_cellNames a_p2_secretNames a_p2_pageNames a_p2_speed a_p2_letters a_p2_room a_p2_now a_p2_rounds v_p1_filled v_p1_end u2 u3 u4 u5 u6 u7 v_p1_faultKind v_p1_faultPlace v_p1_keys v_p1_tape v_p2_cells v_p2_secrets v_p2_pages v_p2_blind v_p2_rubs v_p2_cellNames v_p2_pageNames v_p2_secretNames)) [0, 1, 2, 3, 4, 5, 7] rfl
    have hDc := (mp_D_of (w1 := (k_X2_takePage T a_p1 a_p1_tape a_p1_keys a_p2 a_p2_cellNames a_p2_secretNames a_p2_pageNames a_p2_speed a_p2_letters a_p2_room a_p2_now a_p2_rounds v_p1_filled v_p1_end u2 u3 u4 u5 u6 u7 v_p1_faultKind v_p1_faultPlace v_p1_keys v_p1_tape v_p2_cells v_p2_secrets v_p2_pages v_p2_blind v_p2_rubs v_p2_cellNames v_p2_pageNames v_p2_room v_p2_secretNames)) hD rfl).sub (ws' := (k_X2_newName T a_p1 a_p1_tape a_p1_keys a_p2 a_p2_cellNames a_p2_secretNames a_p2_pageNames a_p2_speed a_p2_letters a_p2_room a_p2_now a_p2_rounds v_p1_filled v_p1_end u2 u3 u4 u5 u6 u7 v_p1_faultKind v_p1_faultPlace v_p1_keys v_p1_tape v_p2_cells v_p2_secrets v_p2_pages v_p2_blind v_p2_rubs v_p2_cellNames v_p2_pageNames v_p2_secretNames)) [0, 1, 2, 3, 4, 5, 7] rfl rfl
    refine mp_calll (isC := [0, 1, 2, 3, 4, 5, 7]) (wc := (k_X2_newName T a_p1 a_p1_tape a_p1_keys a_p2 a_p2_cellNames a_p2_secretNames a_p2_pageNames a_p2_speed a_p2_letters a_p2_room a_p2_now a_p2_rounds v_p1_filled v_p1_end u2 u3 u4 u5 u6 u7 v_p1_faultKind v_p1_faultPlace v_p1_keys v_p1_tape v_p2_cells v_p2_secrets v_p2_pages v_p2_blind v_p2_rubs v_p2_cellNames v_p2_pageNames v_p2_secretNames)) (w1 := (k_X2_newName T a_p1 a_p1_tape a_p1_keys a_p2 a_p2_cellNames a_p2_secretNames a_p2_pageNames a_p2_speed a_p2_letters a_p2_room a_p2_now a_p2_rounds v_p1_filled v_p1_end u10 u11 u12 u13 u14 u15 u16 u17 v_p1_keys v_p1_tape v_p2_cells v_p2_secrets v_p2_pages v_p2_blind v_p2_rubs v_p2_cellNames v_p2_pageNames v_p2_secretNames)) hP (mp_D_of hD rfl) hS hA rfl rfl (mp_runS (As := [.ref a_p1, .ref a_p2]) (rest := []) X me_X2_newName lk_X2_78 (c_X2_newName l D T fu a_p1 a_p1_tape a_p1_keys a_p2 a_p2_cellNames a_p2_secretNames a_p2_pageNames a_p2_speed a_p2_letters a_p2_room a_p2_now a_p2_rounds v_p1_filled v_p2_blind v_p2_rubs v_p1_end u2 u3 u4 u5 u6 u7 v_p1_faultKind v_p1_faultPlace v_p1_keys v_p1_tape v_p2_cells v_p2_secrets v_p2_pages v_p2_cellNames v_p2_pageNames v_p2_secretNames r9 u10 u11 u12 u13 u14 u15 u16 u17 c18) rfl rfl ⟨(Nat.le_of_ble_eq_true rfl), (Nat.le_of_ble_eq_true rfl)⟩ hK hPc hDc rfl hl.1 rfl (Nat.le_of_ble_eq_true rfl) dX2_takePage_22 ⟨Nat.zero_le _, Nat.zero_le _⟩) (fun H locs hP _ hS => ?_)
    replace hP : va_P D mp_cl (k_X2_takePage T a_p1 a_p1_tape a_p1_keys a_p2 a_p2_cellNames a_p2_secretNames a_p2_pageNames a_p2_speed a_p2_letters a_p2_room a_p2_now a_p2_rounds v_p1_filled v_p1_end u10 u11 u12 u13 u14 u15 u16 u17 v_p1_keys v_p1_tape v_p2_cells v_p2_secrets v_p2_pages v_p2_blind v_p2_rubs v_p2_cellNames v_p2_pageNames v_p2_room v_p2_secretNames) H := hP
    refine lv_lstore_n (lv' := [(2, .long r9), (0, .ref a_p1), (1, .ref a_p2)]) hx hb dX2_takePage_25 rfl hl (by decide) rfl (fun ls hl => ?_)
    refine lv_lload_n hx hb dX2_takePage_26 rfl (lv_at hl 0 rfl) ?_
    refine lv_ldc2 (v := (-1 : Int64)) hx hb hown (hts _ (cw_X2_69)) dX2_takePage_27 ?_
    refine W.lcmp hx hb dX2_takePage_30 ?_
    refine lv_if_ne (tgt := 38) hx hb dX2_takePage_31 (by decide) (fun h19 => ?_) (fun h19 => ?_)
    · replace hf := if_f hf h19
      refine lv_aload_n hx hb dX2_takePage_38 rfl (lv_at hl 1 rfl) ?_
      refine lv_bipush (v := (nI 7)) hx hb dX2_takePage_39 (by decide) ?_
      refine lv_iconst (v := (nI 0)) hx hb dX2_takePage_41 (by decide) ?_
      refine lv_bipush (v := (nI 60)) hx hb dX2_takePage_42 (by decide) ?_
      obtain ⟨⟨r20, u21, u22, u23, u24, u25, u26, u27, u28⟩, c29, hf⟩ := bd_of hf
      dsimp only at hf
      have hPc := hP.sub (ws' := (k_X2_lastNumber T a_p1 a_p1_tape a_p1_keys v_p1_filled v_p1_end u10 u11 u12 u13 u14 u15 u16 u17 v_p1_keys v_p1_tape)) [0, 1, 2] rfl
      have hDc := (mp_D_of (w1 := (k_X2_takePage T a_p1 a_p1_tape a_p1_keys a_p2 a_p2_cellNames a_p2_secretNames a_p2_pageNames a_p2_speed a_p2_letters a_p2_room a_p2_now a_p2_rounds v_p1_filled v_p1_end u10 u11 u12 u13 u14 u15 u16 u17 v_p1_keys v_p1_tape v_p2_cells v_p2_secrets v_p2_pages v_p2_blind v_p2_rubs v_p2_cellNames v_p2_pageNames v_p2_room v_p2_secretNames)) hD rfl).sub (ws' := (k_X2_lastNumber T a_p1 a_p1_tape a_p1_keys v_p1_filled v_p1_end u10 u11 u12 u13 u14 u15 u16 u17 v_p1_keys v_p1_tape)) [0, 1, 2] rfl rfl
      refine mp_calli (isC := [0, 1, 2]) (wc := (k_X2_lastNumber T a_p1 a_p1_tape a_p1_keys v_p1_filled v_p1_end u10 u11 u12 u13 u14 u15 u16 u17 v_p1_keys v_p1_tape)) (w1 := (k_X2_lastNumber T a_p1 a_p1_tape a_p1_keys v_p1_filled v_p1_end u21 u22 u23 u24 u25 u26 u27 u28 v_p1_keys v_p1_tape)) hP (mp_D_of hD rfl) hS hA rfl rfl (mp_runS (As := [.ref a_p1, .int (nI 7), .int (nI 0), .int (nI 60)]) (rest := []) X me_X2_lastNumber lk_X2_100 (c_X2_lastNumber l D T fu a_p1 a_p1_tape a_p1_keys (nI 7) (nI 0) (nI 60) v_p1_filled v_p1_end u10 u11 u12 u13 u14 u15 u16 u17 v_p1_keys v_p1_tape r20 u21 u22 u23 u24 u25 u26 u27 u28 c29) rfl rfl ⟨(Nat.le_of_ble_eq_true rfl), (Nat.le_of_ble_eq_true rfl)⟩ hK hPc hDc rfl hl.1 rfl (Nat.le_of_ble_eq_true rfl) dX2_takePage_44 ⟨Nat.zero_le _, Nat.zero_le _⟩) (fun H locs hP _ hS => ?_)
      replace hP : va_P D mp_cl (k_X2_takePage T a_p1 a_p1_tape a_p1_keys a_p2 a_p2_cellNames a_p2_secretNames a_p2_pageNames a_p2_speed a_p2_letters a_p2_room a_p2_now a_p2_rounds v_p1_filled v_p1_end u21 u22 u23 u24 u25 u26 u27 u28 v_p1_keys v_p1_tape v_p2_cells v_p2_secrets v_p2_pages v_p2_blind v_p2_rubs v_p2_cellNames v_p2_pageNames v_p2_room v_p2_secretNames) H := hP
      exact w_X2_takePage_47 X hK hA  fu a_p1 a_p1_tape a_p1_keys a_p2 a_p2_cellNames a_p2_secretNames a_p2_pageNames a_p2_speed a_p2_letters a_p2_room a_p2_now a_p2_rounds v_p1_filled v_p2_blind v_p2_rubs v_p1_end v_p1_keys v_p1_tape v_p2_cells v_p2_secrets v_p2_cellNames v_p2_secretNames r_ o_p1_at o_p1_kind o_p1_place o_p1_word o_p1_key o_p1_number o_p1_faultKind o_p1_faultPlace o_p2_pages o_p2_pageNames o_p2_room   r9 r20 u21 u22 u23 u24 u25 u26 u27 u28 v_p2_pages v_p2_pageNames v_p2_room hf _ _ _ hP (mp_D_of hD rfl) hS (lv_sub hl [2, 0] rfl)
    · replace hf := if_t hf h19
      refine lv_iconst (v := (-1 : Int32)) hx hb dX2_takePage_34 (by decide) ?_
      refine lv_goto (tgt := 47) hx hb dX2_takePage_35 (by decide) ?_
      exact w_X2_takePage_47 X hK hA  fu a_p1 a_p1_tape a_p1_keys a_p2 a_p2_cellNames a_p2_secretNames a_p2_pageNames a_p2_speed a_p2_letters a_p2_room a_p2_now a_p2_rounds v_p1_filled v_p2_blind v_p2_rubs v_p1_end v_p1_keys v_p1_tape v_p2_cells v_p2_secrets v_p2_cellNames v_p2_secretNames r_ o_p1_at o_p1_kind o_p1_place o_p1_word o_p1_key o_p1_number o_p1_faultKind o_p1_faultPlace o_p2_pages o_p2_pageNames o_p2_room   r9 (-1 : Int32) u10 u11 u12 u13 u14 u15 u16 u17 v_p2_pages v_p2_pageNames v_p2_room hf _ _ _ hP (mp_D_of hD rfl) hS (lv_sub hl [2, 0] rfl)
  · replace hf := if_f hf h1
    refine lv_aload_n hx hb dX2_takePage_9 rfl (lv_at hl 0 rfl) ?_
    refine lv_bipush (v := (nI 6)) hx hb dX2_takePage_10 (by decide) ?_
    obtain ⟨⟨r30, u31, u32⟩, c33, hf⟩ := bd_of hf
    dsimp only at hf
    have hPc := hP.sub (ws' := (k_X8_fail T a_p1 a_p1_tape a_p1_keys v_p1_filled v_p1_end v_p1_at v_p1_kind v_p1_place v_p1_word v_p1_key v_p1_number v_p1_faultKind v_p1_faultPlace)) [0] rfl
    have hDc := (mp_D_of (w1 := (k_X2_takePage T a_p1 a_p1_tape a_p1_keys a_p2 a_p2_cellNames a_p2_secretNames a_p2_pageNames a_p2_speed a_p2_letters a_p2_room a_p2_now a_p2_rounds v_p1_filled v_p1_end v_p1_at v_p1_kind v_p1_place v_p1_word v_p1_key v_p1_number v_p1_faultKind v_p1_faultPlace v_p1_keys v_p1_tape v_p2_cells v_p2_secrets v_p2_pages v_p2_blind v_p2_rubs v_p2_cellNames v_p2_pageNames v_p2_room v_p2_secretNames)) hD rfl).sub (ws' := (k_X8_fail T a_p1 a_p1_tape a_p1_keys v_p1_filled v_p1_end v_p1_at v_p1_kind v_p1_place v_p1_word v_p1_key v_p1_number v_p1_faultKind v_p1_faultPlace)) [0] rfl rfl
    refine mp_calli (isC := [0]) (wc := (k_X8_fail T a_p1 a_p1_tape a_p1_keys v_p1_filled v_p1_end v_p1_at v_p1_kind v_p1_place v_p1_word v_p1_key v_p1_number v_p1_faultKind v_p1_faultPlace)) (w1 := (k_X8_fail T a_p1 a_p1_tape a_p1_keys v_p1_filled v_p1_end v_p1_at v_p1_kind v_p1_place v_p1_word v_p1_key v_p1_number u31 u32)) hP (mp_D_of hD rfl) hS hA rfl rfl (mp_runV (As := [.int (nI 6)]) (rest := []) X me_X8_fail lk_X2_48 (c_X8_fail l D T a_p1 a_p1_tape a_p1_keys (nI 6) v_p1_filled v_p1_end v_p1_at v_p1_word v_p1_key v_p1_number v_p1_kind v_p1_place v_p1_faultKind v_p1_faultPlace r30 u31 u32 c33) rfl rfl ⟨(Nat.le_of_ble_eq_true rfl), (Nat.le_of_ble_eq_true rfl)⟩ hK hPc hDc rfl rfl rfl rfl hl.1 rfl (Nat.le_of_ble_eq_true rfl) dX2_takePage_12 ⟨Nat.zero_le _, Nat.zero_le _⟩) (fun H locs hP _ hS => ?_)
    replace hP : va_P D mp_cl (k_X2_takePage T a_p1 a_p1_tape a_p1_keys a_p2 a_p2_cellNames a_p2_secretNames a_p2_pageNames a_p2_speed a_p2_letters a_p2_room a_p2_now a_p2_rounds v_p1_filled v_p1_end v_p1_at v_p1_kind v_p1_place v_p1_word v_p1_key v_p1_number u31 u32 v_p1_keys v_p1_tape v_p2_cells v_p2_secrets v_p2_pages v_p2_blind v_p2_rubs v_p2_cellNames v_p2_pageNames v_p2_room v_p2_secretNames) H := hP
    obtain ⟨h34, hf⟩ := gd_of hf
    cases hf
    exact mp_retz X hP hS rfl h34 dX2_takePage_15


def k_X8_oneOf (T : Nat → ClassId) (a_ a_tape a_keys a_p1 : Nat) (n1 : Nat) (v_filled : Int32) (v_end : Int32) (v_at : Int32) (v_kind : Int32) (v_place : Int32) (v_word : Int64) (v_key : Int32) (v_number : Int32) (v_faultKind : Int32) (v_faultPlace : Int32) (v_keys : (Nat → Int64)) (v_tape : (Nat → Int32)) (v_p1 : (Nat → Int64)) : va_W := [(a_, oX8 a_tape v_filled v_end v_at v_kind v_place v_word v_key v_number v_faultKind v_faultPlace a_keys), (a_keys, mp_aJ T 24 v_keys), (a_tape, mp_aB T 900 v_tape), (a_p1, mp_aJ T n1 v_p1)]
set_option maxHeartbeats 4000000 in
set_option maxRecDepth 100000 in
theorem c_X8_oneOf (l : Launch) (D : va_G) (T : Nat → ClassId) (fu : Nat) (a_ a_tape a_keys a_p1 : Nat) (n1 : Nat) (x2 : Int32) (v_filled : Int32) (v_end : Int32) (v_at : Int32) (v_kind : Int32) (v_place : Int32) (v_word : Int64) (v_key : Int32) (v_number : Int32) (v_faultKind : Int32) (v_faultPlace : Int32) (v_keys : (Nat → Int64)) (v_tape : (Nat → Int32)) (v_p1 : (Nat → Int64)) (r_ : Int32) (o_at : Int32) (o_kind : Int32) (o_place : Int32) (o_word : Int64) (o_key : Int32) (o_number : Int32) (o_faultKind : Int32) (o_faultPlace : Int32) (hf : f_X8_oneOf fu n1 x2 v_end v_at v_kind v_place v_word v_key v_number v_faultKind v_faultPlace v_keys v_tape v_p1 = some (r_, o_at, o_kind, o_place, o_word, o_key, o_number, o_faultKind, o_faultPlace)) :
    mp_M l D T yX8_oneOf cX8_oneOf 6 (some .int) ({ frames := 3, cells := 0, slots := 0, locals := 65 }) 0 0 [.ref a_, .ref a_p1, .int x2] (k_X8_oneOf T a_ a_tape a_keys a_p1 n1 v_filled v_end v_at v_kind v_place v_word v_key v_number v_faultKind v_faultPlace v_keys v_tape v_p1) (mp_Qi D r_ (k_X8_oneOf T a_ a_tape a_keys a_p1 n1 v_filled v_end o_at o_kind o_place o_word o_key o_number o_faultKind o_faultPlace v_keys v_tape v_p1)) := by
  refine mp_of (by decide) (Nat.le_of_ble_eq_true rfl) rfl ?_
  intro p e s m args below meth c A ls X hK hP hD hS hA hl
  replace X : mp_X p s m meth c args RX8 "oneOf" cX8_oneOf 6 (some .int) := X
  have hx := X.1
  have hb := X.2.1
  have hml := X.2.2.1
  have hown := X.2.2.2.2.1
  have hts := X.2.2.2.2.2.1
  replace hl : lv_has ls 6 [(0, .ref a_), (1, .ref a_p1), (2, .int x2)] := hl
  replace hf : bd_ (f_X8_nameHere v_kind v_place v_word v_key v_faultKind v_faultPlace) (fun (z : Int64 × Int32 × Int32) => match z with | (r1, u2, u3) => (if (lg_cmp r1 (-1 : Int64)) = 0 then some ((-1 : Int32), v_at, v_kind, v_place, v_word, v_key, v_number, u2, u3) else bd_ (f_X1_indexOf fu n1 x2 r1 v_p1) (fun (r6 : Int32) => (if r6 = (-1 : Int32) then bd_ (f_X8_fail (nI 3) v_kind v_place u2 u3) (fun (z : Int32 × Int32 × Int32) => match z with | (r16, u17, u18) => some ((-1 : Int32), v_at, v_kind, v_place, v_word, v_key, v_number, u17, u18)) else bd_ (f_X8_forward fu v_end v_at v_kind v_place v_word v_key v_number v_keys v_tape) (fun (z : Int32 × Int32 × Int32 × Int64 × Int32 × Int32) => match z with | (u9, u10, u11, u12, u13, u14) => some (r6, u9, u10, u11, u12, u13, u14, u2, u3)))))) = some (r_, o_at, o_kind, o_place, o_word, o_key, o_number, o_faultKind, o_faultPlace) := hf
  refine lv_aload_n hx hb dX8_oneOf_0 rfl (lv_at hl 0 rfl) ?_
  obtain ⟨⟨r1, u2, u3⟩, c4, hf⟩ := bd_of hf
  dsimp only at hf
  have hPc := hP.sub (ws' := (k_X8_nameHere T a_ a_tape a_keys v_filled v_end v_at v_kind v_place v_word v_key v_number v_faultKind v_faultPlace)) [0] rfl
  have hDc := (mp_D_of (w1 := (k_X8_oneOf T a_ a_tape a_keys a_p1 n1 v_filled v_end v_at v_kind v_place v_word v_key v_number v_faultKind v_faultPlace v_keys v_tape v_p1)) hD rfl).sub (ws' := (k_X8_nameHere T a_ a_tape a_keys v_filled v_end v_at v_kind v_place v_word v_key v_number v_faultKind v_faultPlace)) [0] rfl rfl
  refine mp_calll (isC := [0]) (wc := (k_X8_nameHere T a_ a_tape a_keys v_filled v_end v_at v_kind v_place v_word v_key v_number v_faultKind v_faultPlace)) (w1 := (k_X8_nameHere T a_ a_tape a_keys v_filled v_end v_at v_kind v_place v_word v_key v_number u2 u3)) hP (mp_D_of hD rfl) hS hA rfl rfl (mp_runV (As := []) (rest := []) X me_X8_nameHere lk_X8_101 (c_X8_nameHere l D T a_ a_tape a_keys v_filled v_end v_at v_number v_kind v_place v_word v_key v_faultKind v_faultPlace r1 u2 u3 c4) rfl rfl ⟨(Nat.le_of_ble_eq_true rfl), (Nat.le_of_ble_eq_true rfl)⟩ hK hPc hDc rfl rfl rfl rfl hl.1 rfl (Nat.le_of_ble_eq_true rfl) dX8_oneOf_1 ⟨Nat.zero_le _, Nat.zero_le _⟩) (fun H locs hP _ hS => ?_)
  replace hP : va_P D mp_cl (k_X8_oneOf T a_ a_tape a_keys a_p1 n1 v_filled v_end v_at v_kind v_place v_word v_key v_number u2 u3 v_keys v_tape v_p1) H := hP
  refine lv_lstore_n (lv' := [(3, .long r1), (0, .ref a_), (1, .ref a_p1), (2, .int x2)]) hx hb dX8_oneOf_4 rfl hl (by decide) rfl (fun ls hl => ?_)
  refine lv_lload_n hx hb dX8_oneOf_5 rfl (lv_at hl 0 rfl) ?_
  refine lv_ldc2 (v := (-1 : Int64)) hx hb hown (hts _ (cw_X8_31)) dX8_oneOf_6 ?_
  refine W.lcmp hx hb dX8_oneOf_9 ?_
  refine lv_if_ne (tgt := 15) hx hb dX8_oneOf_10 (by decide) (fun h5 => ?_) (fun h5 => ?_)
  · replace hf := if_f hf h5
    refine lv_aload_n hx hb dX8_oneOf_15 rfl (lv_at hl 2 rfl) ?_
    refine lv_iload_n hx hb dX8_oneOf_16 rfl (lv_at hl 3 rfl) ?_
    refine lv_lload_n hx hb dX8_oneOf_17 rfl (lv_at hl 0 rfl) ?_
    obtain ⟨r6, c7, hf⟩ := bd_of hf
    have hPc := hP.sub (ws' := (k_X1_indexOf T a_p1 n1 v_p1)) [3] rfl
    have hDc := (mp_D_of (w1 := (k_X8_oneOf T a_ a_tape a_keys a_p1 n1 v_filled v_end v_at v_kind v_place v_word v_key v_number u2 u3 v_keys v_tape v_p1)) hD rfl).sub (ws' := (k_X1_indexOf T a_p1 n1 v_p1)) [3] rfl rfl
    refine mp_calli (isC := [3]) (wc := (k_X1_indexOf T a_p1 n1 v_p1)) (w1 := (k_X1_indexOf T a_p1 n1 v_p1)) hP (mp_D_of hD rfl) hS hA rfl rfl (mp_runS (As := [.ref a_p1, .int x2, .long r1]) (rest := []) X me_X1_indexOf lk_X8_105 (c_X1_indexOf l D T fu a_p1 n1 x2 r1 v_p1 r6 c7) rfl rfl ⟨(Nat.le_of_ble_eq_true rfl), (Nat.le_of_ble_eq_true rfl)⟩ hK hPc hDc rfl hl.1 rfl (Nat.le_of_ble_eq_true rfl) dX8_oneOf_18 ⟨Nat.zero_le _, Nat.zero_le _⟩) (fun H locs hP _ hS => ?_)
    replace hP : va_P D mp_cl (k_X8_oneOf T a_ a_tape a_keys a_p1 n1 v_filled v_end v_at v_kind v_place v_word v_key v_number u2 u3 v_keys v_tape v_p1) H := hP
    refine lv_istore (lv' := [(5, .int r6), (3, .long r1), (0, .ref a_), (1, .ref a_p1), (2, .int x2)]) hx hb dX8_oneOf_21 hl (by decide) rfl (fun ls hl => ?_)
    refine lv_iload hx hb dX8_oneOf_23 (lv_at hl 0 rfl) ?_
    refine lv_iconst (v := (-1 : Int32)) hx hb dX8_oneOf_25 (by decide) ?_
    refine lv_icmp_ne (tgt := 37) hx hb dX8_oneOf_26 (by decide) (fun h8 => ?_) (fun h8 => ?_)
    · replace hf := if_f hf h8
      refine lv_aload_n hx hb dX8_oneOf_37 rfl (lv_at hl 2 rfl) ?_
      obtain ⟨⟨u9, u10, u11, u12, u13, u14⟩, c15, hf⟩ := bd_of hf
      dsimp only at hf
      have hPc := hP.sub (ws' := (k_X8_forward T a_ a_tape a_keys v_filled v_end v_at v_kind v_place v_word v_key v_number u2 u3 v_keys v_tape)) [0, 1, 2] rfl
      have hDc := (mp_D_of (w1 := (k_X8_oneOf T a_ a_tape a_keys a_p1 n1 v_filled v_end v_at v_kind v_place v_word v_key v_number u2 u3 v_keys v_tape v_p1)) hD rfl).sub (ws' := (k_X8_forward T a_ a_tape a_keys v_filled v_end v_at v_kind v_place v_word v_key v_number u2 u3 v_keys v_tape)) [0, 1, 2] rfl rfl
      refine mp_callv (isC := [0, 1, 2]) (wc := (k_X8_forward T a_ a_tape a_keys v_filled v_end v_at v_kind v_place v_word v_key v_number u2 u3 v_keys v_tape)) (w1 := (k_X8_forward T a_ a_tape a_keys v_filled v_end u9 u10 u11 u12 u13 u14 u2 u3 v_keys v_tape)) hP (mp_D_of hD rfl) hS hA rfl rfl (mp_runV (As := []) (rest := []) X me_X8_forward lk_X8_71 (c_X8_forward l D T fu a_ a_tape a_keys v_filled u2 u3 v_end v_at v_kind v_place v_word v_key v_number v_keys v_tape u9 u10 u11 u12 u13 u14 c15) rfl rfl ⟨(Nat.le_of_ble_eq_true rfl), (Nat.le_of_ble_eq_true rfl)⟩ hK hPc hDc rfl rfl rfl rfl hl.1 rfl (Nat.le_of_ble_eq_true rfl) dX8_oneOf_38 ⟨Nat.zero_le _, Nat.zero_le _⟩) (fun H locs hP _ hS => ?_)
      replace hP : va_P D mp_cl (k_X8_oneOf T a_ a_tape a_keys a_p1 n1 v_filled v_end u9 u10 u11 u12 u13 u14 u2 u3 v_keys v_tape v_p1) H := hP
      refine lv_iload hx hb dX8_oneOf_41 (lv_at hl 0 rfl) ?_
      cases hf
      exact mp_reti X hP hS rfl dX8_oneOf_43
    · replace hf := if_t hf h8
      refine lv_aload_n hx hb dX8_oneOf_29 rfl (lv_at hl 2 rfl) ?_
      refine lv_iconst (v := (nI 3)) hx hb dX8_oneOf_30 (by decide) ?_
      obtain ⟨⟨r16, u17, u18⟩, c19, hf⟩ := bd_of hf
      dsimp only at hf
      have hPc := hP.sub (ws' := (k_X8_fail T a_ a_tape a_keys v_filled v_end v_at v_kind v_place v_word v_key v_number u2 u3)) [0] rfl
      have hDc := (mp_D_of (w1 := (k_X8_oneOf T a_ a_tape a_keys a_p1 n1 v_filled v_end v_at v_kind v_place v_word v_key v_number u2 u3 v_keys v_tape v_p1)) hD rfl).sub (ws' := (k_X8_fail T a_ a_tape a_keys v_filled v_end v_at v_kind v_place v_word v_key v_number u2 u3)) [0] rfl rfl
      refine mp_calli (isC := [0]) (wc := (k_X8_fail T a_ a_tape a_keys v_filled v_end v_at v_kind v_place v_word v_key v_number u2 u3)) (w1 := (k_X8_fail T a_ a_tape a_keys v_filled v_end v_at v_kind v_place v_word v_key v_number u17 u18)) hP (mp_D_of hD rfl) hS hA rfl rfl (mp_runV (As := [.int (nI 3)]) (rest := []) X me_X8_fail lk_X8_98 (c_X8_fail l D T a_ a_tape a_keys (nI 3) v_filled v_end v_at v_word v_key v_number v_kind v_place u2 u3 r16 u17 u18 c19) rfl rfl ⟨(Nat.le_of_ble_eq_true rfl), (Nat.le_of_ble_eq_true rfl)⟩ hK hPc hDc rfl rfl rfl rfl hl.1 rfl (Nat.le_of_ble_eq_true rfl) dX8_oneOf_31 ⟨Nat.zero_le _, Nat.zero_le _⟩) (fun H locs hP _ hS => ?_)
      replace hP : va_P D mp_cl (k_X8_oneOf T a_ a_tape a_keys a_p1 n1 v_filled v_end v_at v_kind v_place v_word v_key v_number u17 u18 v_keys v_tape v_p1) H := hP
      refine lv_pop hx hb dX8_oneOf_34 rfl ?_
      refine lv_iconst (v := (-1 : Int32)) hx hb dX8_oneOf_35 (by decide) ?_
      cases hf
      exact mp_reti X hP hS rfl dX8_oneOf_36
  · replace hf := if_t hf h5
    refine lv_iconst (v := (-1 : Int32)) hx hb dX8_oneOf_13 (by decide) ?_
    cases hf
    exact mp_reti X hP hS rfl dX8_oneOf_14


def k_X2_takeKnows (T : Nat → ClassId) (a_p1 a_p1_tape a_p1_keys a_p2 a_p2_cellNames a_p2_secretNames a_p2_pageNames a_p2_speed a_p2_letters a_p2_room a_p2_now a_p2_rounds a_p2_now_order a_p2_now_knows a_p2_now_made a_p2_now_sixteenths a_p2_now_dots a_p2_now_used a_p2_now_stands : Nat) (v_p1_filled : Int32) (v_p1_end : Int32) (v_p1_at : Int32) (v_p1_kind : Int32) (v_p1_place : Int32) (v_p1_word : Int64) (v_p1_key : Int32) (v_p1_number : Int32) (v_p1_faultKind : Int32) (v_p1_faultPlace : Int32) (v_p1_keys : (Nat → Int64)) (v_p1_tape : (Nat → Int32)) (v_p2_cells : Int32) (v_p2_secrets : Int32) (v_p2_pages : Int32) (v_p2_blind : Int32) (v_p2_rubs : Int32) (v_p2_cellNames : (Nat → Int64)) (v_p2_now_inOrder : Int32) (v_p2_now_place : Int32) (v_p2_now_ill : Int32) (v_p2_now_shut : Int32) (v_p2_now_turns : Int32) (v_p2_now_madeInAll : Int32) (v_p2_now_knows : (Nat → Int32)) (v_p2_secretNames : (Nat → Int64)) : va_W := [(a_p1, oX8 a_p1_tape v_p1_filled v_p1_end v_p1_at v_p1_kind v_p1_place v_p1_word v_p1_key v_p1_number v_p1_faultKind v_p1_faultPlace a_p1_keys), (a_p1_keys, mp_aJ T 24 v_p1_keys), (a_p1_tape, mp_aB T 900 v_p1_tape), (a_p2, oX1 v_p2_cells v_p2_secrets v_p2_pages a_p2_cellNames a_p2_secretNames a_p2_pageNames a_p2_speed v_p2_blind v_p2_rubs a_p2_letters a_p2_room a_p2_now a_p2_rounds), (a_p2_cellNames, mp_aJ T 8 v_p2_cellNames), (a_p2_now, oX7 a_p2_now_order v_p2_now_inOrder v_p2_now_place a_p2_now_knows a_p2_now_made a_p2_now_sixteenths a_p2_now_dots a_p2_now_used a_p2_now_stands v_p2_now_ill v_p2_now_shut v_p2_now_turns v_p2_now_madeInAll), (a_p2_now_knows, mp_aI T 8 v_p2_now_knows), (a_p2_secretNames, mp_aJ T 6 v_p2_secretNames)]
set_option maxHeartbeats 4000000 in
set_option maxRecDepth 100000 in
theorem w_X2_takeKnows_38 {p : Program} {l : Launch} {e : Env} {s : State} {m : MethodId} {args : Array Value} {below : List Frame} {meth : Method} {c : Code} {D : va_G} {T : Nat → ClassId} {A : Nat → Prop} (X : mp_X p s m meth c args RX2 "takeKnows" cX2_takeKnows 4 (some .boolean)) (hK : va_K D mp_cl (mp_ty T) s) (hA : ∀ q, s.heap.size ≤ q → A q) (fu : Nat) (a_p1 a_p1_tape a_p1_keys a_p2 a_p2_cellNames a_p2_secretNames a_p2_pageNames a_p2_speed a_p2_letters a_p2_room a_p2_now a_p2_rounds a_p2_now_order a_p2_now_knows a_p2_now_made a_p2_now_sixteenths a_p2_now_dots a_p2_now_used a_p2_now_stands : Nat) (v_p1_filled : Int32) (v_p2_pages : Int32) (v_p2_blind : Int32) (v_p2_rubs : Int32) (v_p2_now_inOrder : Int32) (v_p2_now_place : Int32) (v_p2_now_ill : Int32) (v_p2_now_shut : Int32) (v_p2_now_turns : Int32) (v_p2_now_madeInAll : Int32) (v_p1_end : Int32) (v_p1_keys : (Nat → Int64)) (v_p1_tape : (Nat → Int32)) (v_p2_cells : Int32) (v_p2_secrets : Int32) (v_p2_cellNames : (Nat → Int64)) (v_p2_secretNames : (Nat → Int64)) (r_ : Int32) (o_p1_at : Int32) (o_p1_kind : Int32) (o_p1_place : Int32) (o_p1_word : Int64) (o_p1_key : Int32) (o_p1_number : Int32) (o_p1_faultKind : Int32) (o_p1_faultPlace : Int32) (o_p2_now_knows : (Nat → Int32)) :
    ∀  (z2 : Int32) (w0 : Int32) (v_p1_at : Int32) (v_p1_kind : Int32) (v_p1_place : Int32) (v_p1_word : Int64) (v_p1_key : Int32) (v_p1_number : Int32) (v_p1_faultKind : Int32) (v_p1_faultPlace : Int32) (v_p2_now_knows : (Nat → Int32)), f_X2_takeKnows_38 fu v_p1_end v_p1_keys v_p1_tape v_p2_cells v_p2_secrets v_p2_cellNames v_p2_secretNames  z2 w0 v_p1_at v_p1_kind v_p1_place v_p1_word v_p1_key v_p1_number v_p1_faultKind v_p1_faultPlace v_p2_now_knows = some (r_, o_p1_at, o_p1_kind, o_p1_place, o_p1_word, o_p1_key, o_p1_number, o_p1_faultKind, o_p1_faultPlace, o_p2_now_knows) → ∀ (H : Heap) (locs : List Loc) (ls : Array Slot), va_P D mp_cl (k_X2_takeKnows T a_p1 a_p1_tape a_p1_keys a_p2 a_p2_cellNames a_p2_secretNames a_p2_pageNames a_p2_speed a_p2_letters a_p2_room a_p2_now a_p2_rounds a_p2_now_order a_p2_now_knows a_p2_now_made a_p2_now_sixteenths a_p2_now_dots a_p2_now_used a_p2_now_stands v_p1_filled v_p1_end v_p1_at v_p1_kind v_p1_place v_p1_word v_p1_key v_p1_number v_p1_faultKind v_p1_faultPlace v_p1_keys v_p1_tape v_p2_cells v_p2_secrets v_p2_pages v_p2_blind v_p2_rubs v_p2_cellNames v_p2_now_inOrder v_p2_now_place v_p2_now_ill v_p2_now_shut v_p2_now_turns v_p2_now_madeInAll v_p2_now_knows v_p2_secretNames) H → va_D A (k_X2_takeKnows T a_p1 a_p1_tape a_p1_keys a_p2 a_p2_cellNames a_p2_secretNames a_p2_pageNames a_p2_speed a_p2_letters a_p2_room a_p2_now a_p2_rounds a_p2_now_order a_p2_now_knows a_p2_now_made a_p2_now_sixteenths a_p2_now_dots a_p2_now_used a_p2_now_stands v_p1_filled v_p1_end v_p1_at v_p1_kind v_p1_place v_p1_word v_p1_key v_p1_number v_p1_faultKind v_p1_faultPlace v_p1_keys v_p1_tape v_p2_cells v_p2_secrets v_p2_pages v_p2_blind v_p2_rubs v_p2_cellNames v_p2_now_inOrder v_p2_now_place v_p2_now_ill v_p2_now_shut v_p2_now_turns v_p2_now_madeInAll v_p2_now_knows v_p2_secretNames) → va_S A s.heap H locs → lv_has ls 4 [(0, .ref a_p1), (1, .ref a_p2), (2, .int z2)] → W p l e ({ frames := 4, cells := 0, slots := 0, locals := 90 }) s m args below meth c H locs 0 0 (MQ below ((mp_Qi D r_ (k_X2_takeKnows T a_p1 a_p1_tape a_p1_keys a_p2 a_p2_cellNames a_p2_secretNames a_p2_pageNames a_p2_speed a_p2_letters a_p2_room a_p2_now a_p2_rounds a_p2_now_order a_p2_now_knows a_p2_now_made a_p2_now_sixteenths a_p2_now_dots a_p2_now_used a_p2_now_stands v_p1_filled v_p1_end o_p1_at o_p1_kind o_p1_place o_p1_word o_p1_key o_p1_number o_p1_faultKind o_p1_faultPlace v_p1_keys v_p1_tape v_p2_cells v_p2_secrets v_p2_pages v_p2_blind v_p2_rubs v_p2_cellNames v_p2_now_inOrder v_p2_now_place v_p2_now_ill v_p2_now_shut v_p2_now_turns v_p2_now_madeInAll o_p2_now_knows v_p2_secretNames)) A) args s 0 0 A) (F0 m 38 ls [.int w0]) := by
  have hx := X.1
  have hb := X.2.1
  have hml := X.2.2.1
  have hown := X.2.2.2.2.1
  have hts := X.2.2.2.2.2.1
  intro z2 w0 v_p1_at v_p1_kind v_p1_place v_p1_word v_p1_key v_p1_number v_p1_faultKind v_p1_faultPlace v_p2_now_knows hf H locs ls hP hD hS hl
  replace hf : (if w0 = (-1 : Int32) then some ((nI 0), v_p1_at, v_p1_kind, v_p1_place, v_p1_word, v_p1_key, v_p1_number, v_p1_faultKind, v_p1_faultPlace, v_p2_now_knows) else bd_ (f_X8_closes fu v_p1_end v_p1_at v_p1_kind v_p1_place v_p1_word v_p1_key v_p1_number v_p1_faultKind v_p1_faultPlace v_p1_keys v_p1_tape) (fun (z : Int32 × Int32 × Int32 × Int32 × Int64 × Int32 × Int32 × Int32 × Int32) => match z with | (r2, u3, u4, u5, u6, u7, u8, u9, u10) => (if r2 = 0 then some ((nI 0), u3, u4, u5, u6, u7, u8, u9, u10, v_p2_now_knows) else gi_ z2 8 (lt_ ((v_p2_now_knows (z2).toNatClampNeg) ||| ((nI 1) <<< (w0 &&& (31 : Int32)))) (fun (y14 : Int32) => gi_ z2 8 (some ((nI 1), u3, u4, u5, u6, u7, u8, u9, u10, upd v_p2_now_knows (z2).toNatClampNeg y14))))))) = some (r_, o_p1_at, o_p1_kind, o_p1_place, o_p1_word, o_p1_key, o_p1_number, o_p1_faultKind, o_p1_faultPlace, o_p2_now_knows) := hf
  refine lv_istore_n (lv' := [(3, .int w0), (0, .ref a_p1), (1, .ref a_p2), (2, .int z2)]) hx hb dX2_takeKnows_38 rfl hl (by decide) rfl (fun ls hl => ?_)
  refine lv_iload_n hx hb dX2_takeKnows_39 rfl (lv_at hl 0 rfl) ?_
  refine lv_iconst (v := (-1 : Int32)) hx hb dX2_takeKnows_40 (by decide) ?_
  refine lv_icmp_eq (tgt := 51) hx hb dX2_takeKnows_41 (by decide) (fun h1 => ?_) (fun h1 => ?_)
  · replace hf := if_t hf h1
    refine lv_iconst (v := (nI 0)) hx hb dX2_takeKnows_51 (by decide) ?_
    cases hf
    exact mp_retz X hP hS rfl (Or.inl rfl) dX2_takeKnows_52
  · replace hf := if_f hf h1
    refine lv_aload_n hx hb dX2_takeKnows_44 rfl (lv_at hl 1 rfl) ?_
    obtain ⟨⟨r2, u3, u4, u5, u6, u7, u8, u9, u10⟩, c11, hf⟩ := bd_of hf
    dsimp only at hf
    have hPc := hP.sub (ws' := (k_X8_closes T a_p1 a_p1_tape a_p1_keys v_p1_filled v_p1_end v_p1_at v_p1_kind v_p1_place v_p1_word v_p1_key v_p1_number v_p1_faultKind v_p1_faultPlace v_p1_keys v_p1_tape)) [0, 1, 2] rfl
    have hDc := (mp_D_of (w1 := (k_X2_takeKnows T a_p1 a_p1_tape a_p1_keys a_p2 a_p2_cellNames a_p2_secretNames a_p2_pageNames a_p2_speed a_p2_letters a_p2_room a_p2_now a_p2_rounds a_p2_now_order a_p2_now_knows a_p2_now_made a_p2_now_sixteenths a_p2_now_dots a_p2_now_used a_p2_now_stands v_p1_filled v_p1_end v_p1_at v_p1_kind v_p1_place v_p1_word v_p1_key v_p1_number v_p1_faultKind v_p1_faultPlace v_p1_keys v_p1_tape v_p2_cells v_p2_secrets v_p2_pages v_p2_blind v_p2_rubs v_p2_cellNames v_p2_now_inOrder v_p2_now_place v_p2_now_ill v_p2_now_shut v_p2_now_turns v_p2_now_madeInAll v_p2_now_knows v_p2_secretNames)) hD rfl).sub (ws' := (k_X8_closes T a_p1 a_p1_tape a_p1_keys v_p1_filled v_p1_end v_p1_at v_p1_kind v_p1_place v_p1_word v_p1_key v_p1_number v_p1_faultKind v_p1_faultPlace v_p1_keys v_p1_tape)) [0, 1, 2] rfl rfl
    refine mp_calli (isC := [0, 1, 2]) (wc := (k_X8_closes T a_p1 a_p1_tape a_p1_keys v_p1_filled v_p1_end v_p1_at v_p1_kind v_p1_place v_p1_word v_p1_key v_p1_number v_p1_faultKind v_p1_faultPlace v_p1_keys v_p1_tape)) (w1 := (k_X8_closes T a_p1 a_p1_tape a_p1_keys v_p1_filled v_p1_end u3 u4 u5 u6 u7 u8 u9 u10 v_p1_keys v_p1_tape)) hP (mp_D_of hD rfl) hS hA rfl rfl (mp_runV (As := []) (rest := []) X me_X8_closes lk_X2_89 (c_X8_closes l D T fu a_p1 a_p1_tape a_p1_keys v_p1_filled v_p1_end v_p1_at v_p1_kind v_p1_place v_p1_word v_p1_key v_p1_number v_p1_faultKind v_p1_faultPlace v_p1_keys v_p1_tape r2 u3 u4 u5 u6 u7 u8 u9 u10 c11) rfl rfl ⟨(Nat.le_of_ble_eq_true rfl), (Nat.le_of_ble_eq_true rfl)⟩ hK hPc hDc rfl rfl rfl rfl hl.1 rfl (Nat.le_of_ble_eq_true rfl) dX2_takeKnows_45 ⟨Nat.zero_le _, Nat.zero_le _⟩) (fun H locs hP _ hS => ?_)
    replace hP : va_P D mp_cl (k_X2_takeKnows T a_p1 a_p1_tape a_p1_keys a_p2 a_p2_cellNames a_p2_secretNames a_p2_pageNames a_p2_speed a_p2_letters a_p2_room a_p2_now a_p2_rounds a_p2_now_order a_p2_now_knows a_p2_now_made a_p2_now_sixteenths a_p2_now_dots a_p2_now_used a_p2_now_stands v_p1_filled v_p1_end u3 u4 u5 u6 u7 u8 u9 u10 v_p1_keys v_p1_tape v_p2_cells v_p2_secrets v_p2_pages v_p2_blind v_p2_rubs v_p2_cellNames v_p2_now_inOrder v_p2_now_place v_p2_now_ill v_p2_now_shut v_p2_now_turns v_p2_now_madeInAll v_p2_now_knows v_p2_secretNames) H := hP
    refine lv_if_ne (tgt := 53) hx hb dX2_takeKnows_48 (by decide) (fun h12 => ?_) (fun h12 => ?_)
    · replace hf := if_f hf h12
      refine lv_aload_n hx hb dX2_takeKnows_53 rfl (lv_at hl 2 rfl) ?_
      refine mp_get X fl_X2_52 hK hP 3 rfl rfl dX2_takeKnows_54 ?_
      refine mp_get X fl_X2_125 hK hP 5 rfl rfl dX2_takeKnows_57 ?_
      refine lv_iload_n hx hb dX2_takeKnows_60 rfl (lv_at hl 3 rfl) ?_
      refine lv_dup2_11 hx hb dX2_takeKnows_61 rfl rfl ?_
      obtain ⟨h13, hf⟩ := gi_of hf
      refine va_iald hx hb hK hP 6 0 rfl rfl h13 dX2_takeKnows_62 ?_
      refine lv_iconst (v := (nI 1)) hx hb dX2_takeKnows_63 (by decide) ?_
      refine lv_iload_n hx hb dX2_takeKnows_64 rfl (lv_at hl 0 rfl) ?_
      refine lv_ishl hx hb dX2_takeKnows_65 ?_
      refine lv_ior hx hb dX2_takeKnows_66 ?_
      refine lv_topi (fun y14 e14 => ?_)
      replace hf := lt_of e14 hf
      obtain ⟨h15, hf⟩ := gi_of hf
      refine va_iast hx hb hK hP (mp_D_of hD rfl) hS 6 0 rfl rfl h15 dX2_takeKnows_67 (fun H locs hP _ hS => ?_)
      replace hP : va_P D mp_cl (k_X2_takeKnows T a_p1 a_p1_tape a_p1_keys a_p2 a_p2_cellNames a_p2_secretNames a_p2_pageNames a_p2_speed a_p2_letters a_p2_room a_p2_now a_p2_rounds a_p2_now_order a_p2_now_knows a_p2_now_made a_p2_now_sixteenths a_p2_now_dots a_p2_now_used a_p2_now_stands v_p1_filled v_p1_end u3 u4 u5 u6 u7 u8 u9 u10 v_p1_keys v_p1_tape v_p2_cells v_p2_secrets v_p2_pages v_p2_blind v_p2_rubs v_p2_cellNames v_p2_now_inOrder v_p2_now_place v_p2_now_ill v_p2_now_shut v_p2_now_turns v_p2_now_madeInAll (upd v_p2_now_knows (z2).toNatClampNeg y14) v_p2_secretNames) H := hP
      refine lv_iconst (v := (nI 1)) hx hb dX2_takeKnows_68 (by decide) ?_
      cases hf
      exact mp_retz X hP hS rfl (Or.inr rfl) dX2_takeKnows_69
    · replace hf := if_t hf h12
      refine lv_iconst (v := (nI 0)) hx hb dX2_takeKnows_51 (by decide) ?_
      cases hf
      exact mp_retz X hP hS rfl (Or.inl rfl) dX2_takeKnows_52

set_option maxHeartbeats 4000000 in
set_option maxRecDepth 100000 in
theorem c_X2_takeKnows (l : Launch) (D : va_G) (T : Nat → ClassId) (fu : Nat) (a_p1 a_p1_tape a_p1_keys a_p2 a_p2_cellNames a_p2_secretNames a_p2_pageNames a_p2_speed a_p2_letters a_p2_room a_p2_now a_p2_rounds a_p2_now_order a_p2_now_knows a_p2_now_made a_p2_now_sixteenths a_p2_now_dots a_p2_now_used a_p2_now_stands : Nat) (v_p1_filled : Int32) (v_p2_pages : Int32) (v_p2_blind : Int32) (v_p2_rubs : Int32) (v_p2_now_inOrder : Int32) (v_p2_now_place : Int32) (v_p2_now_ill : Int32) (v_p2_now_shut : Int32) (v_p2_now_turns : Int32) (v_p2_now_madeInAll : Int32) (v_p1_end : Int32) (v_p1_at : Int32) (v_p1_kind : Int32) (v_p1_place : Int32) (v_p1_word : Int64) (v_p1_key : Int32) (v_p1_number : Int32) (v_p1_faultKind : Int32) (v_p1_faultPlace : Int32) (v_p1_keys : (Nat → Int64)) (v_p1_tape : (Nat → Int32)) (v_p2_cells : Int32) (v_p2_secrets : Int32) (v_p2_cellNames : (Nat → Int64)) (v_p2_now_knows : (Nat → Int32)) (v_p2_secretNames : (Nat → Int64)) (r_ : Int32) (o_p1_at : Int32) (o_p1_kind : Int32) (o_p1_place : Int32) (o_p1_word : Int64) (o_p1_key : Int32) (o_p1_number : Int32) (o_p1_faultKind : Int32) (o_p1_faultPlace : Int32) (o_p2_now_knows : (Nat → Int32)) (hf : f_X2_takeKnows fu v_p1_end v_p1_at v_p1_kind v_p1_place v_p1_word v_p1_key v_p1_number v_p1_faultKind v_p1_faultPlace v_p1_keys v_p1_tape v_p2_cells v_p2_secrets v_p2_cellNames v_p2_now_knows v_p2_secretNames = some (r_, o_p1_at, o_p1_kind, o_p1_place, o_p1_word, o_p1_key, o_p1_number, o_p1_faultKind, o_p1_faultPlace, o_p2_now_knows)) :
    mp_M l D T yX2_takeKnows cX2_takeKnows 4 (some .boolean) ({ frames := 4, cells := 0, slots := 0, locals := 90 }) 0 0 [.ref a_p1, .ref a_p2] (k_X2_takeKnows T a_p1 a_p1_tape a_p1_keys a_p2 a_p2_cellNames a_p2_secretNames a_p2_pageNames a_p2_speed a_p2_letters a_p2_room a_p2_now a_p2_rounds a_p2_now_order a_p2_now_knows a_p2_now_made a_p2_now_sixteenths a_p2_now_dots a_p2_now_used a_p2_now_stands v_p1_filled v_p1_end v_p1_at v_p1_kind v_p1_place v_p1_word v_p1_key v_p1_number v_p1_faultKind v_p1_faultPlace v_p1_keys v_p1_tape v_p2_cells v_p2_secrets v_p2_pages v_p2_blind v_p2_rubs v_p2_cellNames v_p2_now_inOrder v_p2_now_place v_p2_now_ill v_p2_now_shut v_p2_now_turns v_p2_now_madeInAll v_p2_now_knows v_p2_secretNames) (mp_Qi D r_ (k_X2_takeKnows T a_p1 a_p1_tape a_p1_keys a_p2 a_p2_cellNames a_p2_secretNames a_p2_pageNames a_p2_speed a_p2_letters a_p2_room a_p2_now a_p2_rounds a_p2_now_order a_p2_now_knows a_p2_now_made a_p2_now_sixteenths a_p2_now_dots a_p2_now_used a_p2_now_stands v_p1_filled v_p1_end o_p1_at o_p1_kind o_p1_place o_p1_word o_p1_key o_p1_number o_p1_faultKind o_p1_faultPlace v_p1_keys v_p1_tape v_p2_cells v_p2_secrets v_p2_pages v_p2_blind v_p2_rubs v_p2_cellNames v_p2_now_inOrder v_p2_now_place v_p2_now_ill v_p2_now_shut v_p2_now_turns v_p2_now_madeInAll o_p2_now_knows v_p2_secretNames)) := by
  refine mp_of (by decide) (Nat.le_of_ble_eq_true rfl) rfl ?_
  intro p e s m args below meth c A ls X hK hP hD hS hA hl
  replace X : mp_X p s m meth c args RX2 "takeKnows" cX2_takeKnows 4 (some .boolean) := X
  have hx := X.1
  have hb := X.2.1
  have hml := X.2.2.1
  have hown := X.2.2.2.2.1
  have hts := X.2.2.2.2.2.1
  replace hl : lv_has ls 4 [(0, .ref a_p1), (1, .ref a_p2)] := hl
  replace hf : bd_ (f_X8_forward fu v_p1_end v_p1_at v_p1_kind v_p1_place v_p1_word v_p1_key v_p1_number v_p1_keys v_p1_tape) (fun (z : Int32 × Int32 × Int32 × Int64 × Int32 × Int32) => match z with | (u1, u2, u3, u4, u5, u6) => bd_ (f_X8_oneOf fu 8 v_p2_cells v_p1_end u1 u2 u3 u4 u5 u6 v_p1_faultKind v_p1_faultPlace v_p1_keys v_p1_tape v_p2_cellNames) (fun (z : Int32 × Int32 × Int32 × Int32 × Int64 × Int32 × Int32 × Int32 × Int32) => match z with | (r8, u9, u10, u11, u12, u13, u14, u15, u16) => (if r8 = (-1 : Int32) then f_X2_takeKnows_38 fu v_p1_end v_p1_keys v_p1_tape v_p2_cells v_p2_secrets v_p2_cellNames v_p2_secretNames  r8 (-1 : Int32) u9 u10 u11 u12 u13 u14 u15 u16 v_p2_now_knows else bd_ (f_X8_oneOf fu 6 v_p2_secrets v_p1_end u9 u10 u11 u12 u13 u14 u15 u16 v_p1_keys v_p1_tape v_p2_secretNames) (fun (z : Int32 × Int32 × Int32 × Int32 × Int64 × Int32 × Int32 × Int32 × Int32) => match z with | (r19, u20, u21, u22, u23, u24, u25, u26, u27) => f_X2_takeKnows_38 fu v_p1_end v_p1_keys v_p1_tape v_p2_cells v_p2_secrets v_p2_cellNames v_p2_secretNames  r8 r19 u20 u21 u22 u23 u24 u25 u26 u27 v_p2_now_knows)))) = some (r_, o_p1_at, o_p1_kind, o_p1_place, o_p1_word, o_p1_key, o_p1_number, o_p1_faultKind, o_p1_faultPlace, o_p2_now_knows) := hf
  refine lv_aload_n hx hb dX2_takeKnows_0 rfl (lv_at hl 0 rfl) ?_
  obtain ⟨⟨u1, u2, u3, u4, u5, u6⟩, c7, hf⟩ := bd_of hf
  dsimp only at hf
  have hPc := hP.sub (ws' := (k_X8_forward T a_p1 a_p1_tape a_p1_keys v_p1_filled v_p1_end v_p1_at v_p1_kind v_p1_place v_p1_word v_p1_key v_p1_number v_p1_faultKind v_p1_faultPlace v_p1_keys v_p1_tape)) [0, 1, 2] rfl
  have hDc := (mp_D_of (w1 := (k_X2_takeKnows T a_p1 a_p1_tape a_p1_keys a_p2 a_p2_cellNames a_p2_secretNames a_p2_pageNames a_p2_speed a_p2_letters a_p2_room a_p2_now a_p2_rounds a_p2_now_order a_p2_now_knows a_p2_now_made a_p2_now_sixteenths a_p2_now_dots a_p2_now_used a_p2_now_stands v_p1_filled v_p1_end v_p1_at v_p1_kind v_p1_place v_p1_word v_p1_key v_p1_number v_p1_faultKind v_p1_faultPlace v_p1_keys v_p1_tape v_p2_cells v_p2_secrets v_p2_pages v_p2_blind v_p2_rubs v_p2_cellNames v_p2_now_inOrder v_p2_now_place v_p2_now_ill v_p2_now_shut v_p2_now_turns v_p2_now_madeInAll v_p2_now_knows v_p2_secretNames)) hD rfl).sub (ws' := (k_X8_forward T a_p1 a_p1_tape a_p1_keys v_p1_filled v_p1_end v_p1_at v_p1_kind v_p1_place v_p1_word v_p1_key v_p1_number v_p1_faultKind v_p1_faultPlace v_p1_keys v_p1_tape)) [0, 1, 2] rfl rfl
  refine mp_callv (isC := [0, 1, 2]) (wc := (k_X8_forward T a_p1 a_p1_tape a_p1_keys v_p1_filled v_p1_end v_p1_at v_p1_kind v_p1_place v_p1_word v_p1_key v_p1_number v_p1_faultKind v_p1_faultPlace v_p1_keys v_p1_tape)) (w1 := (k_X8_forward T a_p1 a_p1_tape a_p1_keys v_p1_filled v_p1_end u1 u2 u3 u4 u5 u6 v_p1_faultKind v_p1_faultPlace v_p1_keys v_p1_tape)) hP (mp_D_of hD rfl) hS hA rfl rfl (mp_runV (As := []) (rest := []) X me_X8_forward lk_X2_75 (c_X8_forward l D T fu a_p1 a_p1_tape a_p1_keys v_p1_filled v_p1_faultKind v_p1_faultPlace v_p1_end v_p1_at v_p1_kind v_p1_place v_p1_word v_p1_key v_p1_number v_p1_keys v_p1_tape u1 u2 u3 u4 u5 u6 c7) rfl rfl ⟨(Nat.le_of_ble_eq_true rfl), (Nat.le_of_ble_eq_true rfl)⟩ hK hPc hDc rfl rfl rfl rfl hl.1 rfl (Nat.le_of_ble_eq_true rfl) dX2_takeKnows_1 ⟨Nat.zero_le _, Nat.zero_le _⟩) (fun H locs hP _ hS => ?_)
  replace hP : va_P D mp_cl (k_X2_takeKnows T a_p1 a_p1_tape a_p1_keys a_p2 a_p2_cellNames a_p2_secretNames a_p2_pageNames a_p2_speed a_p2_letters a_p2_room a_p2_now a_p2_rounds a_p2_now_order a_p2_now_knows a_p2_now_made a_p2_now_sixteenths a_p2_now_dots a_p2_now_used a_p2_now_stands v_p1_filled v_p1_end u1 u2 u3 u4 u5 u6 v_p1_faultKind v_p1_faultPlace v_p1_keys v_p1_tape v_p2_cells v_p2_secrets v_p2_pages v_p2_blind v_p2_rubs v_p2_cellNames v_p2_now_inOrder v_p2_now_place v_p2_now_ill v_p2_now_shut v_p2_now_turns v_p2_now_madeInAll v_p2_now_knows v_p2_secretNames) H := hP
  refine lv_aload_n hx hb dX2_takeKnows_4 rfl (lv_at hl 0 rfl) ?_
  refine lv_aload_n hx hb dX2_takeKnows_5 rfl (lv_at hl 1 rfl) ?_
  refine mp_get X fl_X2_114 hK hP 3 rfl rfl dX2_takeKnows_6 ?_
  refine lv_aload_n hx hb dX2_takeKnows_9 rfl (lv_at hl 1 rfl) ?_
  refine mp_get X fl_X2_56 hK hP 3 rfl rfl dX2_takeKnows_10 ?_
  obtain ⟨⟨r8, u9, u10, u11, u12, u13, u14, u15, u16⟩, c17, hf⟩ := bd_of hf
  dsimp only at hf
  have hPc := hP.sub (ws' := (k_X8_oneOf T a_p1 a_p1_tape a_p1_keys a_p2_cellNames 8 v_p1_filled v_p1_end u1 u2 u3 u4 u5 u6 v_p1_faultKind v_p1_faultPlace v_p1_keys v_p1_tape v_p2_cellNames)) [0, 1, 2, 4] rfl
  have hDc := (mp_D_of (w1 := (k_X2_takeKnows T a_p1 a_p1_tape a_p1_keys a_p2 a_p2_cellNames a_p2_secretNames a_p2_pageNames a_p2_speed a_p2_letters a_p2_room a_p2_now a_p2_rounds a_p2_now_order a_p2_now_knows a_p2_now_made a_p2_now_sixteenths a_p2_now_dots a_p2_now_used a_p2_now_stands v_p1_filled v_p1_end u1 u2 u3 u4 u5 u6 v_p1_faultKind v_p1_faultPlace v_p1_keys v_p1_tape v_p2_cells v_p2_secrets v_p2_pages v_p2_blind v_p2_rubs v_p2_cellNames v_p2_now_inOrder v_p2_now_place v_p2_now_ill v_p2_now_shut v_p2_now_turns v_p2_now_madeInAll v_p2_now_knows v_p2_secretNames)) hD rfl).sub (ws' := (k_X8_oneOf T a_p1 a_p1_tape a_p1_keys a_p2_cellNames 8 v_p1_filled v_p1_end u1 u2 u3 u4 u5 u6 v_p1_faultKind v_p1_faultPlace v_p1_keys v_p1_tape v_p2_cellNames)) [0, 1, 2, 4] rfl rfl
  refine mp_calli (isC := [0, 1, 2, 4]) (wc := (k_X8_oneOf T a_p1 a_p1_tape a_p1_keys a_p2_cellNames 8 v_p1_filled v_p1_end u1 u2 u3 u4 u5 u6 v_p1_faultKind v_p1_faultPlace v_p1_keys v_p1_tape v_p2_cellNames)) (w1 := (k_X8_oneOf T a_p1 a_p1_tape a_p1_keys a_p2_cellNames 8 v_p1_filled v_p1_end u9 u10 u11 u12 u13 u14 u15 u16 v_p1_keys v_p1_tape v_p2_cellNames)) hP (mp_D_of hD rfl) hS hA rfl rfl (mp_runV (As := [.ref a_p2_cellNames, .int v_p2_cells]) (rest := []) X me_X8_oneOf lk_X2_118 (c_X8_oneOf l D T fu a_p1 a_p1_tape a_p1_keys a_p2_cellNames 8 v_p2_cells v_p1_filled v_p1_end u1 u2 u3 u4 u5 u6 v_p1_faultKind v_p1_faultPlace v_p1_keys v_p1_tape v_p2_cellNames r8 u9 u10 u11 u12 u13 u14 u15 u16 c17) rfl rfl ⟨(Nat.le_of_ble_eq_true rfl), (Nat.le_of_ble_eq_true rfl)⟩ hK hPc hDc rfl rfl rfl rfl hl.1 rfl (Nat.le_of_ble_eq_true rfl) dX2_takeKnows_13 ⟨Nat.zero_le _, Nat.zero_le _⟩) (fun H locs hP _ hS => ?_)
  replace hP : va_P D mp_cl (k_X2_takeKnows T a_p1 a_p1_tape a_p1_keys a_p2 a_p2_cellNames a_p2_secretNames a_p2_pageNames a_p2_speed a_p2_letters a_p2_room a_p2_now a_p2_rounds a_p2_now_order a_p2_now_knows a_p2_now_made a_p2_now_sixteenths a_p2_now_dots a_p2_now_used a_p2_now_stands v_p1_filled v_p1_end u9 u10 u11 u12 u13 u14 u15 u16 v_p1_keys v_p1_tape v_p2_cells v_p2_secrets v_p2_pages v_p2_blind v_p2_rubs v_p2_cellNames v_p2_now_inOrder v_p2_now_place v_p2_now_ill v_p2_now_shut v_p2_now_turns v_p2_now_madeInAll v_p2_now_knows v_p2_secretNames) H := hP
  refine lv_istore_n (lv' := [(2, .int r8), (0, .ref a_p1), (1, .ref a_p2)]) hx hb dX2_takeKnows_16 rfl hl (by decide) rfl (fun ls hl => ?_)
  refine lv_iload_n hx hb dX2_takeKnows_17 rfl (lv_at hl 0 rfl) ?_
  refine lv_iconst (v := (-1 : Int32)) hx hb dX2_takeKnows_18 (by decide) ?_
  refine lv_icmp_ne (tgt := 26) hx hb dX2_takeKnows_19 (by decide) (fun h18 => ?_) (fun h18 => ?_)
  · replace hf := if_f hf h18
    refine lv_aload_n hx hb dX2_takeKnows_26 rfl (lv_at hl 1 rfl) ?_
    refine lv_aload_n hx hb dX2_takeKnows_27 rfl (lv_at hl 2 rfl) ?_
    refine mp_get X fl_X2_122 hK hP 3 rfl rfl dX2_takeKnows_28 ?_
    refine lv_aload_n hx hb dX2_takeKnows_31 rfl (lv_at hl 2 rfl) ?_
    refine mp_get X fl_X2_97 hK hP 3 rfl rfl dX2_takeKnows_32 ?_
    obtain ⟨⟨r19, u20, u21, u22, u23, u24, u25, u26, u27⟩, c28, hf⟩ := bd_of hf
    dsimp only at hf
    have hPc := hP.sub (ws' := (k_X8_oneOf T a_p1 a_p1_tape a_p1_keys a_p2_secretNames 6 v_p1_filled v_p1_end u9 u10 u11 u12 u13 u14 u15 u16 v_p1_keys v_p1_tape v_p2_secretNames)) [0, 1, 2, 7] rfl
    have hDc := (mp_D_of (w1 := (k_X2_takeKnows T a_p1 a_p1_tape a_p1_keys a_p2 a_p2_cellNames a_p2_secretNames a_p2_pageNames a_p2_speed a_p2_letters a_p2_room a_p2_now a_p2_rounds a_p2_now_order a_p2_now_knows a_p2_now_made a_p2_now_sixteenths a_p2_now_dots a_p2_now_used a_p2_now_stands v_p1_filled v_p1_end u9 u10 u11 u12 u13 u14 u15 u16 v_p1_keys v_p1_tape v_p2_cells v_p2_secrets v_p2_pages v_p2_blind v_p2_rubs v_p2_cellNames v_p2_now_inOrder v_p2_now_place v_p2_now_ill v_p2_now_shut v_p2_now_turns v_p2_now_madeInAll v_p2_now_knows v_p2_secretNames)) hD rfl).sub (ws' := (k_X8_oneOf T a_p1 a_p1_tape a_p1_keys a_p2_secretNames 6 v_p1_filled v_p1_end u9 u10 u11 u12 u13 u14 u15 u16 v_p1_keys v_p1_tape v_p2_secretNames)) [0, 1, 2, 7] rfl rfl
    refine mp_calli (isC := [0, 1, 2, 7]) (wc := (k_X8_oneOf T a_p1 a_p1_tape a_p1_keys a_p2_secretNames 6 v_p1_filled v_p1_end u9 u10 u11 u12 u13 u14 u15 u16 v_p1_keys v_p1_tape v_p2_secretNames)) (w1 := (k_X8_oneOf T a_p1 a_p1_tape a_p1_keys a_p2_secretNames 6 v_p1_filled v_p1_end u20 u21 u22 u23 u24 u25 u26 u27 v_p1_keys v_p1_tape v_p2_secretNames)) hP (mp_D_of hD rfl) hS hA rfl rfl (mp_runV (As := [.ref a_p2_secretNames, .int v_p2_secrets]) (rest := []) X me_X8_oneOf lk_X2_118 (c_X8_oneOf l D T fu a_p1 a_p1_tape a_p1_keys a_p2_secretNames 6 v_p2_secrets v_p1_filled v_p1_end u9 u10 u11 u12 u13 u14 u15 u16 v_p1_keys v_p1_tape v_p2_secretNames r19 u20 u21 u22 u23 u24 u25 u26 u27 c28) rfl rfl ⟨(Nat.le_of_ble_eq_true rfl), (Nat.le_of_ble_eq_true rfl)⟩ hK hPc hDc rfl rfl rfl rfl hl.1 rfl (Nat.le_of_ble_eq_true rfl) dX2_takeKnows_35 ⟨Nat.zero_le _, Nat.zero_le _⟩) (fun H locs hP _ hS => ?_)
    replace hP : va_P D mp_cl (k_X2_takeKnows T a_p1 a_p1_tape a_p1_keys a_p2 a_p2_cellNames a_p2_secretNames a_p2_pageNames a_p2_speed a_p2_letters a_p2_room a_p2_now a_p2_rounds a_p2_now_order a_p2_now_knows a_p2_now_made a_p2_now_sixteenths a_p2_now_dots a_p2_now_used a_p2_now_stands v_p1_filled v_p1_end u20 u21 u22 u23 u24 u25 u26 u27 v_p1_keys v_p1_tape v_p2_cells v_p2_secrets v_p2_pages v_p2_blind v_p2_rubs v_p2_cellNames v_p2_now_inOrder v_p2_now_place v_p2_now_ill v_p2_now_shut v_p2_now_turns v_p2_now_madeInAll v_p2_now_knows v_p2_secretNames) H := hP
    exact w_X2_takeKnows_38 X hK hA  fu a_p1 a_p1_tape a_p1_keys a_p2 a_p2_cellNames a_p2_secretNames a_p2_pageNames a_p2_speed a_p2_letters a_p2_room a_p2_now a_p2_rounds a_p2_now_order a_p2_now_knows a_p2_now_made a_p2_now_sixteenths a_p2_now_dots a_p2_now_used a_p2_now_stands v_p1_filled v_p2_pages v_p2_blind v_p2_rubs v_p2_now_inOrder v_p2_now_place v_p2_now_ill v_p2_now_shut v_p2_now_turns v_p2_now_madeInAll v_p1_end v_p1_keys v_p1_tape v_p2_cells v_p2_secrets v_p2_cellNames v_p2_secretNames r_ o_p1_at o_p1_kind o_p1_place o_p1_word o_p1_key o_p1_number o_p1_faultKind o_p1_faultPlace o_p2_now_knows   r8 r19 u20 u21 u22 u23 u24 u25 u26 u27 v_p2_now_knows hf _ _ _ hP (mp_D_of hD rfl) hS (lv_sub hl [1, 2, 0] rfl)
  · replace hf := if_t hf h18
    refine lv_iconst (v := (-1 : Int32)) hx hb dX2_takeKnows_22 (by decide) ?_
    refine lv_goto (tgt := 38) hx hb dX2_takeKnows_23 (by decide) ?_
    exact w_X2_takeKnows_38 X hK hA  fu a_p1 a_p1_tape a_p1_keys a_p2 a_p2_cellNames a_p2_secretNames a_p2_pageNames a_p2_speed a_p2_letters a_p2_room a_p2_now a_p2_rounds a_p2_now_order a_p2_now_knows a_p2_now_made a_p2_now_sixteenths a_p2_now_dots a_p2_now_used a_p2_now_stands v_p1_filled v_p2_pages v_p2_blind v_p2_rubs v_p2_now_inOrder v_p2_now_place v_p2_now_ill v_p2_now_shut v_p2_now_turns v_p2_now_madeInAll v_p1_end v_p1_keys v_p1_tape v_p2_cells v_p2_secrets v_p2_cellNames v_p2_secretNames r_ o_p1_at o_p1_kind o_p1_place o_p1_word o_p1_key o_p1_number o_p1_faultKind o_p1_faultPlace o_p2_now_knows   r8 (-1 : Int32) u9 u10 u11 u12 u13 u14 u15 u16 v_p2_now_knows hf _ _ _ hP (mp_D_of hD rfl) hS (lv_sub hl [1, 2, 0] rfl)


def k_X2_takeOrder (T : Nat → ClassId) (a_ a_p1 a_p1_tape a_p1_keys a_p2 a_p2_cellNames a_p2_secretNames a_p2_pageNames a_p2_speed a_p2_letters a_p2_room a_p2_now a_p2_rounds a_p2_now_order a_p2_now_knows a_p2_now_made a_p2_now_sixteenths a_p2_now_dots a_p2_now_used a_p2_now_stands : Nat) (v_ordered : Int32) (v_p1_filled : Int32) (v_p1_end : Int32) (v_p1_at : Int32) (v_p1_kind : Int32) (v_p1_place : Int32) (v_p1_word : Int64) (v_p1_key : Int32) (v_p1_number : Int32) (v_p1_faultKind : Int32) (v_p1_faultPlace : Int32) (v_p1_keys : (Nat → Int64)) (v_p1_tape : (Nat → Int32)) (v_p2_cells : Int32) (v_p2_secrets : Int32) (v_p2_pages : Int32) (v_p2_blind : Int32) (v_p2_rubs : Int32) (v_p2_cellNames : (Nat → Int64)) (v_p2_now_inOrder : Int32) (v_p2_now_place : Int32) (v_p2_now_ill : Int32) (v_p2_now_shut : Int32) (v_p2_now_turns : Int32) (v_p2_now_madeInAll : Int32) (v_p2_now_order : (Nat → Int32)) : va_W := [(a_, oX2 v_ordered), (a_p1, oX8 a_p1_tape v_p1_filled v_p1_end v_p1_at v_p1_kind v_p1_place v_p1_word v_p1_key v_p1_number v_p1_faultKind v_p1_faultPlace a_p1_keys), (a_p1_keys, mp_aJ T 24 v_p1_keys), (a_p1_tape, mp_aB T 900 v_p1_tape), (a_p2, oX1 v_p2_cells v_p2_secrets v_p2_pages a_p2_cellNames a_p2_secretNames a_p2_pageNames a_p2_speed v_p2_blind v_p2_rubs a_p2_letters a_p2_room a_p2_now a_p2_rounds), (a_p2_cellNames, mp_aJ T 8 v_p2_cellNames), (a_p2_now, oX7 a_p2_now_order v_p2_now_inOrder v_p2_now_place a_p2_now_knows a_p2_now_made a_p2_now_sixteenths a_p2_now_dots a_p2_now_used a_p2_now_stands v_p2_now_ill v_p2_now_shut v_p2_now_turns v_p2_now_madeInAll), (a_p2_now_order, mp_aI T 8 v_p2_now_order)]
set_option maxHeartbeats 4000000 in
set_option maxRecDepth 100000 in
theorem w_X2_takeOrder_25 {p : Program} {l : Launch} {e : Env} {s : State} {m : MethodId} {args : Array Value} {below : List Frame} {meth : Method} {c : Code} {D : va_G} {T : Nat → ClassId} {A : Nat → Prop} (X : mp_X p s m meth c args RX2 "takeOrder" cX2_takeOrder 8 (some .boolean)) (hK : va_K D mp_cl (mp_ty T) s) (hA : ∀ q, s.heap.size ≤ q → A q) (fu : Nat) (a_ a_p1 a_p1_tape a_p1_keys a_p2 a_p2_cellNames a_p2_secretNames a_p2_pageNames a_p2_speed a_p2_letters a_p2_room a_p2_now a_p2_rounds a_p2_now_order a_p2_now_knows a_p2_now_made a_p2_now_sixteenths a_p2_now_dots a_p2_now_used a_p2_now_stands : Nat) (v_p1_filled : Int32) (v_p2_secrets : Int32) (v_p2_pages : Int32) (v_p2_blind : Int32) (v_p2_rubs : Int32) (v_p2_now_place : Int32) (v_p2_now_ill : Int32) (v_p2_now_shut : Int32) (v_p2_now_turns : Int32) (v_p2_now_madeInAll : Int32) (v_p1_end : Int32) (v_p1_keys : (Nat → Int64)) (v_p1_tape : (Nat → Int32)) (v_p2_cells : Int32) (v_p2_cellNames : (Nat → Int64)) (r_ : Int32) (o_ordered : Int32) (o_p1_at : Int32) (o_p1_kind : Int32) (o_p1_place : Int32) (o_p1_word : Int64) (o_p1_key : Int32) (o_p1_number : Int32) (o_p1_faultKind : Int32) (o_p1_faultPlace : Int32) (o_p2_now_inOrder : Int32) (o_p2_now_order : (Nat → Int32)) :
    ∀ (n : Nat) (z4 : Int32) (z5 : Int32) (v_ordered : Int32) (v_p1_at : Int32) (v_p1_kind : Int32) (v_p1_place : Int32) (v_p1_word : Int64) (v_p1_key : Int32) (v_p1_number : Int32) (v_p1_faultKind : Int32) (v_p1_faultPlace : Int32) (v_p2_now_inOrder : Int32) (v_p2_now_order : (Nat → Int32)), f_X2_takeOrder_25 fu v_p1_end v_p1_keys v_p1_tape v_p2_cells v_p2_cellNames  n z4 z5 v_ordered v_p1_at v_p1_kind v_p1_place v_p1_word v_p1_key v_p1_number v_p1_faultKind v_p1_faultPlace v_p2_now_inOrder v_p2_now_order = some (r_, o_ordered, o_p1_at, o_p1_kind, o_p1_place, o_p1_word, o_p1_key, o_p1_number, o_p1_faultKind, o_p1_faultPlace, o_p2_now_inOrder, o_p2_now_order) → ∀ (H : Heap) (locs : List Loc) (ls : Array Slot), va_P D mp_cl (k_X2_takeOrder T a_ a_p1 a_p1_tape a_p1_keys a_p2 a_p2_cellNames a_p2_secretNames a_p2_pageNames a_p2_speed a_p2_letters a_p2_room a_p2_now a_p2_rounds a_p2_now_order a_p2_now_knows a_p2_now_made a_p2_now_sixteenths a_p2_now_dots a_p2_now_used a_p2_now_stands v_ordered v_p1_filled v_p1_end v_p1_at v_p1_kind v_p1_place v_p1_word v_p1_key v_p1_number v_p1_faultKind v_p1_faultPlace v_p1_keys v_p1_tape v_p2_cells v_p2_secrets v_p2_pages v_p2_blind v_p2_rubs v_p2_cellNames v_p2_now_inOrder v_p2_now_place v_p2_now_ill v_p2_now_shut v_p2_now_turns v_p2_now_madeInAll v_p2_now_order) H → va_D A (k_X2_takeOrder T a_ a_p1 a_p1_tape a_p1_keys a_p2 a_p2_cellNames a_p2_secretNames a_p2_pageNames a_p2_speed a_p2_letters a_p2_room a_p2_now a_p2_rounds a_p2_now_order a_p2_now_knows a_p2_now_made a_p2_now_sixteenths a_p2_now_dots a_p2_now_used a_p2_now_stands v_ordered v_p1_filled v_p1_end v_p1_at v_p1_kind v_p1_place v_p1_word v_p1_key v_p1_number v_p1_faultKind v_p1_faultPlace v_p1_keys v_p1_tape v_p2_cells v_p2_secrets v_p2_pages v_p2_blind v_p2_rubs v_p2_cellNames v_p2_now_inOrder v_p2_now_place v_p2_now_ill v_p2_now_shut v_p2_now_turns v_p2_now_madeInAll v_p2_now_order) → va_S A s.heap H locs → lv_has ls 8 [(1, .ref a_p1), (2, .ref a_p2), (3, .ref a_p2_now), (4, .int z4), (5, .int z5)] → W p l e ({ frames := 4, cells := 0, slots := 0, locals := 90 }) s m args below meth c H locs 0 0 (MQ below ((mp_Qi D r_ (k_X2_takeOrder T a_ a_p1 a_p1_tape a_p1_keys a_p2 a_p2_cellNames a_p2_secretNames a_p2_pageNames a_p2_speed a_p2_letters a_p2_room a_p2_now a_p2_rounds a_p2_now_order a_p2_now_knows a_p2_now_made a_p2_now_sixteenths a_p2_now_dots a_p2_now_used a_p2_now_stands o_ordered v_p1_filled v_p1_end o_p1_at o_p1_kind o_p1_place o_p1_word o_p1_key o_p1_number o_p1_faultKind o_p1_faultPlace v_p1_keys v_p1_tape v_p2_cells v_p2_secrets v_p2_pages v_p2_blind v_p2_rubs v_p2_cellNames o_p2_now_inOrder v_p2_now_place v_p2_now_ill v_p2_now_shut v_p2_now_turns v_p2_now_madeInAll o_p2_now_order)) A) args s 0 0 A) (F0 m 25 ls []) := by
  have hx := X.1
  have hb := X.2.1
  have hml := X.2.2.1
  have hown := X.2.2.2.2.1
  have hts := X.2.2.2.2.2.1
  intro n
  induction n with
  | zero => intro z4 z5 v_ordered v_p1_at v_p1_kind v_p1_place v_p1_word v_p1_key v_p1_number v_p1_faultKind v_p1_faultPlace v_p2_now_inOrder v_p2_now_order hf; exact absurd hf (by intro h; cases h)
  | succ n ih =>
    intro z4 z5 v_ordered v_p1_at v_p1_kind v_p1_place v_p1_word v_p1_key v_p1_number v_p1_faultKind v_p1_faultPlace v_p2_now_inOrder v_p2_now_order hf H locs ls hP hD hS hl
    replace hf : (if (nI 8) < z5 then bd_ (f_X8_closes fu v_p1_end v_p1_at v_p1_kind v_p1_place v_p1_word v_p1_key v_p1_number v_p1_faultKind v_p1_faultPlace v_p1_keys v_p1_tape) (fun (z : Int32 × Int32 × Int32 × Int32 × Int64 × Int32 × Int32 × Int32 × Int32) => match z with | (r2, u3, u4, u5, u6, u7, u8, u9, u10) => gd_ (r2 = 0 ∨ r2 = 1) (some (r2, v_ordered, u3, u4, u5, u6, u7, u8, u9, u10, v_p2_now_inOrder, v_p2_now_order))) else (if z4 = 0 then bd_ (f_X8_closes fu v_p1_end v_p1_at v_p1_kind v_p1_place v_p1_word v_p1_key v_p1_number v_p1_faultKind v_p1_faultPlace v_p1_keys v_p1_tape) (fun (z : Int32 × Int32 × Int32 × Int32 × Int64 × Int32 × Int32 × Int32 × Int32) => match z with | (r14, u15, u16, u17, u18, u19, u20, u21, u22) => gd_ (r14 = 0 ∨ r14 = 1) (some (r14, v_ordered, u15, u16, u17, u18, u19, u20, u21, u22, v_p2_now_inOrder, v_p2_now_order))) else bd_ (f_X8_oneOf fu 8 v_p2_cells v_p1_end v_p1_at v_p1_kind v_p1_place v_p1_word v_p1_key v_p1_number v_p1_faultKind v_p1_faultPlace v_p1_keys v_p1_tape v_p2_cellNames) (fun (z : Int32 × Int32 × Int32 × Int32 × Int64 × Int32 × Int32 × Int32 × Int32) => match z with | (r25, u26, u27, u28, u29, u30, u31, u32, u33) => (if r25 = (-1 : Int32) then some ((nI 0), v_ordered, u26, u27, u28, u29, u30, u31, u32, u33, v_p2_now_inOrder, v_p2_now_order) else bd_ (f_X7_placeOf fu r25 v_p2_now_inOrder v_p2_now_order) (fun (r36 : Int32) => (if r36 = (-1 : Int32) then (if v_p2_now_inOrder < (nI 8) then gi_ v_p2_now_inOrder 8 (lt_ (v_p2_now_inOrder + (nI 1)) (fun (y46 : Int32) => bd_ (f_X8_atSemicolon u27 u28 v_p1_tape) (fun (r47 : Int32) => (if r47 = 0 then lt_ (z5 + (nI 1)) (fun (y51 : Int32) => f_X2_takeOrder_25 fu v_p1_end v_p1_keys v_p1_tape v_p2_cells v_p2_cellNames  n (nI 1) y51 v_ordered u26 u27 u28 u29 u30 u31 u32 u33 y46 (upd v_p2_now_order (v_p2_now_inOrder).toNatClampNeg r25)) else lt_ (z5 + (nI 1)) (fun (y50 : Int32) => f_X2_takeOrder_25 fu v_p1_end v_p1_keys v_p1_tape v_p2_cells v_p2_cellNames  n (nI 0) y50 v_ordered u26 u27 u28 u29 u30 u31 u32 u33 y46 (upd v_p2_now_order (v_p2_now_inOrder).toNatClampNeg r25)))))) else bd_ (f_X8_failAt (nI 5) v_p1_place u32 u33) (fun (z : Int32 × Int32 × Int32) => match z with | (r52, u53, u54) => gd_ (r52 = 0 ∨ r52 = 1) (some (r52, v_ordered, u26, u27, u28, u29, u30, u31, u53, u54, v_p2_now_inOrder, v_p2_now_order)))) else bd_ (f_X8_failAt (nI 5) v_p1_place u32 u33) (fun (z : Int32 × Int32 × Int32) => match z with | (r39, u40, u41) => gd_ (r39 = 0 ∨ r39 = 1) (some (r39, v_ordered, u26, u27, u28, u29, u30, u31, u40, u41, v_p2_now_inOrder, v_p2_now_order))))))))) = some (r_, o_ordered, o_p1_at, o_p1_kind, o_p1_place, o_p1_word, o_p1_key, o_p1_number, o_p1_faultKind, o_p1_faultPlace, o_p2_now_inOrder, o_p2_now_order) := hf
    refine lv_iload hx hb dX2_takeOrder_25 (lv_at hl 4 rfl) ?_
    refine lv_bipush (v := (nI 8)) hx hb dX2_takeOrder_27 (by decide) ?_
    refine lv_icmp_gt (tgt := 133) hx hb dX2_takeOrder_29 (by decide) (fun h1 => ?_) (fun h1 => ?_)
    · replace hf := if_t hf h1
      refine lv_aload_n hx hb dX2_takeOrder_133 rfl (lv_at hl 0 rfl) ?_
      obtain ⟨⟨r2, u3, u4, u5, u6, u7, u8, u9, u10⟩, c11, hf⟩ := bd_of hf
      dsimp only at hf
      have hPc := hP.sub (ws' := (k_X8_closes T a_p1 a_p1_tape a_p1_keys v_p1_filled v_p1_end v_p1_at v_p1_kind v_p1_place v_p1_word v_p1_key v_p1_number v_p1_faultKind v_p1_faultPlace v_p1_keys v_p1_tape)) [1, 2, 3] rfl
      have hDc := (mp_D_of (w1 := (k_X2_takeOrder T a_ a_p1 a_p1_tape a_p1_keys a_p2 a_p2_cellNames a_p2_secretNames a_p2_pageNames a_p2_speed a_p2_letters a_p2_room a_p2_now a_p2_rounds a_p2_now_order a_p2_now_knows a_p2_now_made a_p2_now_sixteenths a_p2_now_dots a_p2_now_used a_p2_now_stands v_ordered v_p1_filled v_p1_end v_p1_at v_p1_kind v_p1_place v_p1_word v_p1_key v_p1_number v_p1_faultKind v_p1_faultPlace v_p1_keys v_p1_tape v_p2_cells v_p2_secrets v_p2_pages v_p2_blind v_p2_rubs v_p2_cellNames v_p2_now_inOrder v_p2_now_place v_p2_now_ill v_p2_now_shut v_p2_now_turns v_p2_now_madeInAll v_p2_now_order)) hD rfl).sub (ws' := (k_X8_closes T a_p1 a_p1_tape a_p1_keys v_p1_filled v_p1_end v_p1_at v_p1_kind v_p1_place v_p1_word v_p1_key v_p1_number v_p1_faultKind v_p1_faultPlace v_p1_keys v_p1_tape)) [1, 2, 3] rfl rfl
      refine mp_calli (isC := [1, 2, 3]) (wc := (k_X8_closes T a_p1 a_p1_tape a_p1_keys v_p1_filled v_p1_end v_p1_at v_p1_kind v_p1_place v_p1_word v_p1_key v_p1_number v_p1_faultKind v_p1_faultPlace v_p1_keys v_p1_tape)) (w1 := (k_X8_closes T a_p1 a_p1_tape a_p1_keys v_p1_filled v_p1_end u3 u4 u5 u6 u7 u8 u9 u10 v_p1_keys v_p1_tape)) hP (mp_D_of hD rfl) hS hA rfl rfl (mp_runV (As := []) (rest := []) X me_X8_closes lk_X2_89 (c_X8_closes l D T fu a_p1 a_p1_tape a_p1_keys v_p1_filled v_p1_end v_p1_at v_p1_kind v_p1_place v_p1_word v_p1_key v_p1_number v_p1_faultKind v_p1_faultPlace v_p1_keys v_p1_tape r2 u3 u4 u5 u6 u7 u8 u9 u10 c11) rfl rfl ⟨(Nat.le_of_ble_eq_true rfl), (Nat.le_of_ble_eq_true rfl)⟩ hK hPc hDc rfl rfl rfl rfl hl.1 rfl (Nat.le_of_ble_eq_true rfl) dX2_takeOrder_134 ⟨Nat.zero_le _, Nat.zero_le _⟩) (fun H locs hP _ hS => ?_)
      replace hP : va_P D mp_cl (k_X2_takeOrder T a_ a_p1 a_p1_tape a_p1_keys a_p2 a_p2_cellNames a_p2_secretNames a_p2_pageNames a_p2_speed a_p2_letters a_p2_room a_p2_now a_p2_rounds a_p2_now_order a_p2_now_knows a_p2_now_made a_p2_now_sixteenths a_p2_now_dots a_p2_now_used a_p2_now_stands v_ordered v_p1_filled v_p1_end u3 u4 u5 u6 u7 u8 u9 u10 v_p1_keys v_p1_tape v_p2_cells v_p2_secrets v_p2_pages v_p2_blind v_p2_rubs v_p2_cellNames v_p2_now_inOrder v_p2_now_place v_p2_now_ill v_p2_now_shut v_p2_now_turns v_p2_now_madeInAll v_p2_now_order) H := hP
      obtain ⟨h12, hf⟩ := gd_of hf
      cases hf
      exact mp_retz X hP hS rfl h12 dX2_takeOrder_137
    · replace hf := if_f hf h1
      refine lv_iload hx hb dX2_takeOrder_32 (lv_at hl 3 rfl) ?_
      refine lv_if_eq (tgt := 133) hx hb dX2_takeOrder_34 (by decide) (fun h13 => ?_) (fun h13 => ?_)
      · replace hf := if_t hf h13
        refine lv_aload_n hx hb dX2_takeOrder_133 rfl (lv_at hl 0 rfl) ?_
        obtain ⟨⟨r14, u15, u16, u17, u18, u19, u20, u21, u22⟩, c23, hf⟩ := bd_of hf
        dsimp only at hf
        have hPc := hP.sub (ws' := (k_X8_closes T a_p1 a_p1_tape a_p1_keys v_p1_filled v_p1_end v_p1_at v_p1_kind v_p1_place v_p1_word v_p1_key v_p1_number v_p1_faultKind v_p1_faultPlace v_p1_keys v_p1_tape)) [1, 2, 3] rfl
        have hDc := (mp_D_of (w1 := (k_X2_takeOrder T a_ a_p1 a_p1_tape a_p1_keys a_p2 a_p2_cellNames a_p2_secretNames a_p2_pageNames a_p2_speed a_p2_letters a_p2_room a_p2_now a_p2_rounds a_p2_now_order a_p2_now_knows a_p2_now_made a_p2_now_sixteenths a_p2_now_dots a_p2_now_used a_p2_now_stands v_ordered v_p1_filled v_p1_end v_p1_at v_p1_kind v_p1_place v_p1_word v_p1_key v_p1_number v_p1_faultKind v_p1_faultPlace v_p1_keys v_p1_tape v_p2_cells v_p2_secrets v_p2_pages v_p2_blind v_p2_rubs v_p2_cellNames v_p2_now_inOrder v_p2_now_place v_p2_now_ill v_p2_now_shut v_p2_now_turns v_p2_now_madeInAll v_p2_now_order)) hD rfl).sub (ws' := (k_X8_closes T a_p1 a_p1_tape a_p1_keys v_p1_filled v_p1_end v_p1_at v_p1_kind v_p1_place v_p1_word v_p1_key v_p1_number v_p1_faultKind v_p1_faultPlace v_p1_keys v_p1_tape)) [1, 2, 3] rfl rfl
        refine mp_calli (isC := [1, 2, 3]) (wc := (k_X8_closes T a_p1 a_p1_tape a_p1_keys v_p1_filled v_p1_end v_p1_at v_p1_kind v_p1_place v_p1_word v_p1_key v_p1_number v_p1_faultKind v_p1_faultPlace v_p1_keys v_p1_tape)) (w1 := (k_X8_closes T a_p1 a_p1_tape a_p1_keys v_p1_filled v_p1_end u15 u16 u17 u18 u19 u20 u21 u22 v_p1_keys v_p1_tape)) hP (mp_D_of hD rfl) hS hA rfl rfl (mp_runV (As := []) (rest := []) X me_X8_closes lk_X2_89 (c_X8_closes l D T fu a_p1 a_p1_tape a_p1_keys v_p1_filled v_p1_end v_p1_at v_p1_kind v_p1_place v_p1_word v_p1_key v_p1_number v_p1_faultKind v_p1_faultPlace v_p1_keys v_p1_tape r14 u15 u16 u17 u18 u19 u20 u21 u22 c23) rfl rfl ⟨(Nat.le_of_ble_eq_true rfl), (Nat.le_of_ble_eq_true rfl)⟩ hK hPc hDc rfl rfl rfl rfl hl.1 rfl (Nat.le_of_ble_eq_true rfl) dX2_takeOrder_134 ⟨Nat.zero_le _, Nat.zero_le _⟩) (fun H locs hP _ hS => ?_)
        replace hP : va_P D mp_cl (k_X2_takeOrder T a_ a_p1 a_p1_tape a_p1_keys a_p2 a_p2_cellNames a_p2_secretNames a_p2_pageNames a_p2_speed a_p2_letters a_p2_room a_p2_now a_p2_rounds a_p2_now_order a_p2_now_knows a_p2_now_made a_p2_now_sixteenths a_p2_now_dots a_p2_now_used a_p2_now_stands v_ordered v_p1_filled v_p1_end u15 u16 u17 u18 u19 u20 u21 u22 v_p1_keys v_p1_tape v_p2_cells v_p2_secrets v_p2_pages v_p2_blind v_p2_rubs v_p2_cellNames v_p2_now_inOrder v_p2_now_place v_p2_now_ill v_p2_now_shut v_p2_now_turns v_p2_now_madeInAll v_p2_now_order) H := hP
        obtain ⟨h24, hf⟩ := gd_of hf
        cases hf
        exact mp_retz X hP hS rfl h24 dX2_takeOrder_137
      · replace hf := if_f hf h13
        refine lv_aload_n hx hb dX2_takeOrder_37 rfl (lv_at hl 0 rfl) ?_
        refine mp_get X fl_X2_132 hK hP 1 rfl rfl dX2_takeOrder_38 ?_
        refine lv_istore (lv' := [(6, .int v_p1_place), (1, .ref a_p1), (2, .ref a_p2), (3, .ref a_p2_now), (4, .int z4), (5, .int z5)]) hx hb dX2_takeOrder_41 hl (by decide) rfl (fun ls hl => ?_)
        refine lv_aload_n hx hb dX2_takeOrder_43 rfl (lv_at hl 1 rfl) ?_
        refine lv_aload_n hx hb dX2_takeOrder_44 rfl (lv_at hl 2 rfl) ?_
        refine mp_get X fl_X2_114 hK hP 4 rfl rfl dX2_takeOrder_45 ?_
        refine lv_aload_n hx hb dX2_takeOrder_48 rfl (lv_at hl 2 rfl) ?_
        refine mp_get X fl_X2_56 hK hP 4 rfl rfl dX2_takeOrder_49 ?_
        obtain ⟨⟨r25, u26, u27, u28, u29, u30, u31, u32, u33⟩, c34, hf⟩ := bd_of hf
        dsimp only at hf
        have hPc := hP.sub (ws' := (k_X8_oneOf T a_p1 a_p1_tape a_p1_keys a_p2_cellNames 8 v_p1_filled v_p1_end v_p1_at v_p1_kind v_p1_place v_p1_word v_p1_key v_p1_number v_p1_faultKind v_p1_faultPlace v_p1_keys v_p1_tape v_p2_cellNames)) [1, 2, 3, 5] rfl
        have hDc := (mp_D_of (w1 := (k_X2_takeOrder T a_ a_p1 a_p1_tape a_p1_keys a_p2 a_p2_cellNames a_p2_secretNames a_p2_pageNames a_p2_speed a_p2_letters a_p2_room a_p2_now a_p2_rounds a_p2_now_order a_p2_now_knows a_p2_now_made a_p2_now_sixteenths a_p2_now_dots a_p2_now_used a_p2_now_stands v_ordered v_p1_filled v_p1_end v_p1_at v_p1_kind v_p1_place v_p1_word v_p1_key v_p1_number v_p1_faultKind v_p1_faultPlace v_p1_keys v_p1_tape v_p2_cells v_p2_secrets v_p2_pages v_p2_blind v_p2_rubs v_p2_cellNames v_p2_now_inOrder v_p2_now_place v_p2_now_ill v_p2_now_shut v_p2_now_turns v_p2_now_madeInAll v_p2_now_order)) hD rfl).sub (ws' := (k_X8_oneOf T a_p1 a_p1_tape a_p1_keys a_p2_cellNames 8 v_p1_filled v_p1_end v_p1_at v_p1_kind v_p1_place v_p1_word v_p1_key v_p1_number v_p1_faultKind v_p1_faultPlace v_p1_keys v_p1_tape v_p2_cellNames)) [1, 2, 3, 5] rfl rfl
        refine mp_calli (isC := [1, 2, 3, 5]) (wc := (k_X8_oneOf T a_p1 a_p1_tape a_p1_keys a_p2_cellNames 8 v_p1_filled v_p1_end v_p1_at v_p1_kind v_p1_place v_p1_word v_p1_key v_p1_number v_p1_faultKind v_p1_faultPlace v_p1_keys v_p1_tape v_p2_cellNames)) (w1 := (k_X8_oneOf T a_p1 a_p1_tape a_p1_keys a_p2_cellNames 8 v_p1_filled v_p1_end u26 u27 u28 u29 u30 u31 u32 u33 v_p1_keys v_p1_tape v_p2_cellNames)) hP (mp_D_of hD rfl) hS hA rfl rfl (mp_runV (As := [.ref a_p2_cellNames, .int v_p2_cells]) (rest := []) X me_X8_oneOf lk_X2_118 (c_X8_oneOf l D T fu a_p1 a_p1_tape a_p1_keys a_p2_cellNames 8 v_p2_cells v_p1_filled v_p1_end v_p1_at v_p1_kind v_p1_place v_p1_word v_p1_key v_p1_number v_p1_faultKind v_p1_faultPlace v_p1_keys v_p1_tape v_p2_cellNames r25 u26 u27 u28 u29 u30 u31 u32 u33 c34) rfl rfl ⟨(Nat.le_of_ble_eq_true rfl), (Nat.le_of_ble_eq_true rfl)⟩ hK hPc hDc rfl rfl rfl rfl hl.1 rfl (Nat.le_of_ble_eq_true rfl) dX2_takeOrder_52 ⟨Nat.zero_le _, Nat.zero_le _⟩) (fun H locs hP _ hS => ?_)
        replace hP : va_P D mp_cl (k_X2_takeOrder T a_ a_p1 a_p1_tape a_p1_keys a_p2 a_p2_cellNames a_p2_secretNames a_p2_pageNames a_p2_speed a_p2_letters a_p2_room a_p2_now a_p2_rounds a_p2_now_order a_p2_now_knows a_p2_now_made a_p2_now_sixteenths a_p2_now_dots a_p2_now_used a_p2_now_stands v_ordered v_p1_filled v_p1_end u26 u27 u28 u29 u30 u31 u32 u33 v_p1_keys v_p1_tape v_p2_cells v_p2_secrets v_p2_pages v_p2_blind v_p2_rubs v_p2_cellNames v_p2_now_inOrder v_p2_now_place v_p2_now_ill v_p2_now_shut v_p2_now_turns v_p2_now_madeInAll v_p2_now_order) H := hP
        refine lv_istore (lv' := [(7, .int r25), (6, .int v_p1_place), (1, .ref a_p1), (2, .ref a_p2), (3, .ref a_p2_now), (4, .int z4), (5, .int z5)]) hx hb dX2_takeOrder_55 hl (by decide) rfl (fun ls hl => ?_)
        refine lv_iload hx hb dX2_takeOrder_57 (lv_at hl 0 rfl) ?_
        refine lv_iconst (v := (-1 : Int32)) hx hb dX2_takeOrder_59 (by decide) ?_
        refine lv_icmp_ne (tgt := 65) hx hb dX2_takeOrder_60 (by decide) (fun h35 => ?_) (fun h35 => ?_)
        · replace hf := if_f hf h35
          refine lv_aload_n hx hb dX2_takeOrder_65 rfl (lv_at hl 4 rfl) ?_
          refine lv_iload hx hb dX2_takeOrder_66 (lv_at hl 0 rfl) ?_
          obtain ⟨r36, c37, hf⟩ := bd_of hf
          have hPc := hP.sub (ws' := (k_X7_placeOf T a_p2_now a_p2_now_order a_p2_now_knows a_p2_now_made a_p2_now_sixteenths a_p2_now_dots a_p2_now_used a_p2_now_stands v_p2_now_inOrder v_p2_now_place v_p2_now_ill v_p2_now_shut v_p2_now_turns v_p2_now_madeInAll v_p2_now_order)) [6, 7] rfl
          have hDc := (mp_D_of (w1 := (k_X2_takeOrder T a_ a_p1 a_p1_tape a_p1_keys a_p2 a_p2_cellNames a_p2_secretNames a_p2_pageNames a_p2_speed a_p2_letters a_p2_room a_p2_now a_p2_rounds a_p2_now_order a_p2_now_knows a_p2_now_made a_p2_now_sixteenths a_p2_now_dots a_p2_now_used a_p2_now_stands v_ordered v_p1_filled v_p1_end u26 u27 u28 u29 u30 u31 u32 u33 v_p1_keys v_p1_tape v_p2_cells v_p2_secrets v_p2_pages v_p2_blind v_p2_rubs v_p2_cellNames v_p2_now_inOrder v_p2_now_place v_p2_now_ill v_p2_now_shut v_p2_now_turns v_p2_now_madeInAll v_p2_now_order)) hD rfl).sub (ws' := (k_X7_placeOf T a_p2_now a_p2_now_order a_p2_now_knows a_p2_now_made a_p2_now_sixteenths a_p2_now_dots a_p2_now_used a_p2_now_stands v_p2_now_inOrder v_p2_now_place v_p2_now_ill v_p2_now_shut v_p2_now_turns v_p2_now_madeInAll v_p2_now_order)) [6, 7] rfl rfl
          refine mp_calli (isC := [6, 7]) (wc := (k_X7_placeOf T a_p2_now a_p2_now_order a_p2_now_knows a_p2_now_made a_p2_now_sixteenths a_p2_now_dots a_p2_now_used a_p2_now_stands v_p2_now_inOrder v_p2_now_place v_p2_now_ill v_p2_now_shut v_p2_now_turns v_p2_now_madeInAll v_p2_now_order)) (w1 := (k_X7_placeOf T a_p2_now a_p2_now_order a_p2_now_knows a_p2_now_made a_p2_now_sixteenths a_p2_now_dots a_p2_now_used a_p2_now_stands v_p2_now_inOrder v_p2_now_place v_p2_now_ill v_p2_now_shut v_p2_now_turns v_p2_now_madeInAll v_p2_now_order)) hP (mp_D_of hD rfl) hS hA rfl rfl (mp_runV (As := [.int r25]) (rest := []) X me_X7_placeOf lk_X2_135 (c_X7_placeOf l D T fu a_p2_now a_p2_now_order a_p2_now_knows a_p2_now_made a_p2_now_sixteenths a_p2_now_dots a_p2_now_used a_p2_now_stands r25 v_p2_now_place v_p2_now_ill v_p2_now_shut v_p2_now_turns v_p2_now_madeInAll v_p2_now_inOrder v_p2_now_order r36 c37) rfl rfl ⟨(Nat.le_of_ble_eq_true rfl), (Nat.le_of_ble_eq_true rfl)⟩ hK hPc hDc rfl rfl rfl rfl hl.1 rfl (Nat.le_of_ble_eq_true rfl) dX2_takeOrder_68 ⟨Nat.zero_le _, Nat.zero_le _⟩) (fun H locs hP _ hS => ?_)
          replace hP : va_P D mp_cl (k_X2_takeOrder T a_ a_p1 a_p1_tape a_p1_keys a_p2 a_p2_cellNames a_p2_secretNames a_p2_pageNames a_p2_speed a_p2_letters a_p2_room a_p2_now a_p2_rounds a_p2_now_order a_p2_now_knows a_p2_now_made a_p2_now_sixteenths a_p2_now_dots a_p2_now_used a_p2_now_stands v_ordered v_p1_filled v_p1_end u26 u27 u28 u29 u30 u31 u32 u33 v_p1_keys v_p1_tape v_p2_cells v_p2_secrets v_p2_pages v_p2_blind v_p2_rubs v_p2_cellNames v_p2_now_inOrder v_p2_now_place v_p2_now_ill v_p2_now_shut v_p2_now_turns v_p2_now_madeInAll v_p2_now_order) H := hP
          refine lv_iconst (v := (-1 : Int32)) hx hb dX2_takeOrder_71 (by decide) ?_
          refine lv_icmp_ne (tgt := 84) hx hb dX2_takeOrder_72 (by decide) (fun h38 => ?_) (fun h38 => ?_)
          · replace hf := if_f hf h38
            refine lv_aload_n hx hb dX2_takeOrder_84 rfl (lv_at hl 2 rfl) ?_
            refine lv_iconst (v := (nI 5)) hx hb dX2_takeOrder_85 (by decide) ?_
            refine lv_iload hx hb dX2_takeOrder_86 (lv_at hl 1 rfl) ?_
            obtain ⟨⟨r39, u40, u41⟩, c42, hf⟩ := bd_of hf
            dsimp only at hf
            have hPc := hP.sub (ws' := (k_X8_failAt T a_p1 a_p1_tape a_p1_keys v_p1_filled v_p1_end u26 u27 u28 u29 u30 u31 u32 u33)) [1] rfl
            have hDc := (mp_D_of (w1 := (k_X2_takeOrder T a_ a_p1 a_p1_tape a_p1_keys a_p2 a_p2_cellNames a_p2_secretNames a_p2_pageNames a_p2_speed a_p2_letters a_p2_room a_p2_now a_p2_rounds a_p2_now_order a_p2_now_knows a_p2_now_made a_p2_now_sixteenths a_p2_now_dots a_p2_now_used a_p2_now_stands v_ordered v_p1_filled v_p1_end u26 u27 u28 u29 u30 u31 u32 u33 v_p1_keys v_p1_tape v_p2_cells v_p2_secrets v_p2_pages v_p2_blind v_p2_rubs v_p2_cellNames v_p2_now_inOrder v_p2_now_place v_p2_now_ill v_p2_now_shut v_p2_now_turns v_p2_now_madeInAll v_p2_now_order)) hD rfl).sub (ws' := (k_X8_failAt T a_p1 a_p1_tape a_p1_keys v_p1_filled v_p1_end u26 u27 u28 u29 u30 u31 u32 u33)) [1] rfl rfl
            refine mp_calli (isC := [1]) (wc := (k_X8_failAt T a_p1 a_p1_tape a_p1_keys v_p1_filled v_p1_end u26 u27 u28 u29 u30 u31 u32 u33)) (w1 := (k_X8_failAt T a_p1 a_p1_tape a_p1_keys v_p1_filled v_p1_end u26 u27 u28 u29 u30 u31 u40 u41)) hP (mp_D_of hD rfl) hS hA rfl rfl (mp_runV (As := [.int (nI 5), .int v_p1_place]) (rest := []) X me_X8_failAt lk_X2_139 (c_X8_failAt l D T a_p1 a_p1_tape a_p1_keys (nI 5) v_p1_place v_p1_filled v_p1_end u26 u27 u28 u29 u30 u31 u32 u33 r39 u40 u41 c42) rfl rfl ⟨(Nat.le_of_ble_eq_true rfl), (Nat.le_of_ble_eq_true rfl)⟩ hK hPc hDc rfl rfl rfl rfl hl.1 rfl (Nat.le_of_ble_eq_true rfl) dX2_takeOrder_88 ⟨Nat.zero_le _, Nat.zero_le _⟩) (fun H locs hP _ hS => ?_)
            replace hP : va_P D mp_cl (k_X2_takeOrder T a_ a_p1 a_p1_tape a_p1_keys a_p2 a_p2_cellNames a_p2_secretNames a_p2_pageNames a_p2_speed a_p2_letters a_p2_room a_p2_now a_p2_rounds a_p2_now_order a_p2_now_knows a_p2_now_made a_p2_now_sixteenths a_p2_now_dots a_p2_now_used a_p2_now_stands v_ordered v_p1_filled v_p1_end u26 u27 u28 u29 u30 u31 u40 u41 v_p1_keys v_p1_tape v_p2_cells v_p2_secrets v_p2_pages v_p2_blind v_p2_rubs v_p2_cellNames v_p2_now_inOrder v_p2_now_place v_p2_now_ill v_p2_now_shut v_p2_now_turns v_p2_now_madeInAll v_p2_now_order) H := hP
            obtain ⟨h43, hf⟩ := gd_of hf
            cases hf
            exact mp_retz X hP hS rfl h43 dX2_takeOrder_91
          · replace hf := if_t hf h38
            refine lv_aload_n hx hb dX2_takeOrder_75 rfl (lv_at hl 4 rfl) ?_
            refine mp_get X fl_X2_129 hK hP 6 rfl rfl dX2_takeOrder_76 ?_
            refine lv_bipush (v := (nI 8)) hx hb dX2_takeOrder_79 (by decide) ?_
            refine lv_icmp_lt (tgt := 92) hx hb dX2_takeOrder_81 (by decide) (fun h44 => ?_) (fun h44 => ?_)
            · replace hf := if_t hf h44
              refine lv_aload_n hx hb dX2_takeOrder_92 rfl (lv_at hl 4 rfl) ?_
              refine mp_get X fl_X2_143 hK hP 6 rfl rfl dX2_takeOrder_93 ?_
              refine lv_aload_n hx hb dX2_takeOrder_96 rfl (lv_at hl 4 rfl) ?_
              refine mp_get X fl_X2_129 hK hP 6 rfl rfl dX2_takeOrder_97 ?_
              refine lv_iload hx hb dX2_takeOrder_100 (lv_at hl 0 rfl) ?_
              obtain ⟨h45, hf⟩ := gi_of hf
              refine va_iast hx hb hK hP (mp_D_of hD rfl) hS 7 0 rfl rfl h45 dX2_takeOrder_102 (fun H locs hP _ hS => ?_)
              replace hP : va_P D mp_cl (k_X2_takeOrder T a_ a_p1 a_p1_tape a_p1_keys a_p2 a_p2_cellNames a_p2_secretNames a_p2_pageNames a_p2_speed a_p2_letters a_p2_room a_p2_now a_p2_rounds a_p2_now_order a_p2_now_knows a_p2_now_made a_p2_now_sixteenths a_p2_now_dots a_p2_now_used a_p2_now_stands v_ordered v_p1_filled v_p1_end u26 u27 u28 u29 u30 u31 u32 u33 v_p1_keys v_p1_tape v_p2_cells v_p2_secrets v_p2_pages v_p2_blind v_p2_rubs v_p2_cellNames v_p2_now_inOrder v_p2_now_place v_p2_now_ill v_p2_now_shut v_p2_now_turns v_p2_now_madeInAll (upd v_p2_now_order (v_p2_now_inOrder).toNatClampNeg r25)) H := hP
              refine lv_aload_n hx hb dX2_takeOrder_103 rfl (lv_at hl 4 rfl) ?_
              refine lv_dup hx hb dX2_takeOrder_104 rfl ?_
              refine mp_get X fl_X2_129 hK hP 6 rfl rfl dX2_takeOrder_105 ?_
              refine lv_iconst (v := (nI 1)) hx hb dX2_takeOrder_108 (by decide) ?_
              refine lv_iadd hx hb dX2_takeOrder_109 ?_
              refine lv_topi (fun y46 e46 => ?_)
              replace hf := lt_of e46 hf
              refine mp_putf X fl_X2_129 fp_X7 rfl hK hP (mp_D_of hD rfl) hS 6 rfl rfl rfl (Nat.le_of_ble_eq_true rfl) dX2_takeOrder_110 (fun H locs hP _ hS => ?_)
              replace hP : va_P D mp_cl (k_X2_takeOrder T a_ a_p1 a_p1_tape a_p1_keys a_p2 a_p2_cellNames a_p2_secretNames a_p2_pageNames a_p2_speed a_p2_letters a_p2_room a_p2_now a_p2_rounds a_p2_now_order a_p2_now_knows a_p2_now_made a_p2_now_sixteenths a_p2_now_dots a_p2_now_used a_p2_now_stands v_ordered v_p1_filled v_p1_end u26 u27 u28 u29 u30 u31 u32 u33 v_p1_keys v_p1_tape v_p2_cells v_p2_secrets v_p2_pages v_p2_blind v_p2_rubs v_p2_cellNames y46 v_p2_now_place v_p2_now_ill v_p2_now_shut v_p2_now_turns v_p2_now_madeInAll (upd v_p2_now_order (v_p2_now_inOrder).toNatClampNeg r25)) H := hP
              refine lv_aload_n hx hb dX2_takeOrder_113 rfl (lv_at hl 2 rfl) ?_
              obtain ⟨r47, c48, hf⟩ := bd_of hf
              have hPc := hP.sub (ws' := (k_X8_atSemicolon T a_p1 a_p1_tape a_p1_keys v_p1_filled v_p1_end u26 u27 u28 u29 u30 u31 u32 u33 v_p1_tape)) [1, 3] rfl
              have hDc := (mp_D_of (w1 := (k_X2_takeOrder T a_ a_p1 a_p1_tape a_p1_keys a_p2 a_p2_cellNames a_p2_secretNames a_p2_pageNames a_p2_speed a_p2_letters a_p2_room a_p2_now a_p2_rounds a_p2_now_order a_p2_now_knows a_p2_now_made a_p2_now_sixteenths a_p2_now_dots a_p2_now_used a_p2_now_stands v_ordered v_p1_filled v_p1_end u26 u27 u28 u29 u30 u31 u32 u33 v_p1_keys v_p1_tape v_p2_cells v_p2_secrets v_p2_pages v_p2_blind v_p2_rubs v_p2_cellNames y46 v_p2_now_place v_p2_now_ill v_p2_now_shut v_p2_now_turns v_p2_now_madeInAll (upd v_p2_now_order (v_p2_now_inOrder).toNatClampNeg r25))) hD rfl).sub (ws' := (k_X8_atSemicolon T a_p1 a_p1_tape a_p1_keys v_p1_filled v_p1_end u26 u27 u28 u29 u30 u31 u32 u33 v_p1_tape)) [1, 3] rfl rfl
              refine mp_calli (isC := [1, 3]) (wc := (k_X8_atSemicolon T a_p1 a_p1_tape a_p1_keys v_p1_filled v_p1_end u26 u27 u28 u29 u30 u31 u32 u33 v_p1_tape)) (w1 := (k_X8_atSemicolon T a_p1 a_p1_tape a_p1_keys v_p1_filled v_p1_end u26 u27 u28 u29 u30 u31 u32 u33 v_p1_tape)) hP (mp_D_of hD rfl) hS hA rfl rfl (mp_runV (As := []) (rest := []) X me_X8_atSemicolon lk_X2_146 (c_X8_atSemicolon l D T a_p1 a_p1_tape a_p1_keys v_p1_filled v_p1_end u26 u29 u30 u31 u32 u33 u27 u28 v_p1_tape r47 c48) rfl rfl ⟨(Nat.le_of_ble_eq_true rfl), (Nat.le_of_ble_eq_true rfl)⟩ hK hPc hDc rfl rfl rfl rfl hl.1 rfl (Nat.le_of_ble_eq_true rfl) dX2_takeOrder_114 ⟨Nat.zero_le _, Nat.zero_le _⟩) (fun H locs hP _ hS => ?_)
              replace hP : va_P D mp_cl (k_X2_takeOrder T a_ a_p1 a_p1_tape a_p1_keys a_p2 a_p2_cellNames a_p2_secretNames a_p2_pageNames a_p2_speed a_p2_letters a_p2_room a_p2_now a_p2_rounds a_p2_now_order a_p2_now_knows a_p2_now_made a_p2_now_sixteenths a_p2_now_dots a_p2_now_used a_p2_now_stands v_ordered v_p1_filled v_p1_end u26 u27 u28 u29 u30 u31 u32 u33 v_p1_keys v_p1_tape v_p2_cells v_p2_secrets v_p2_pages v_p2_blind v_p2_rubs v_p2_cellNames y46 v_p2_now_place v_p2_now_ill v_p2_now_shut v_p2_now_turns v_p2_now_madeInAll (upd v_p2_now_order (v_p2_now_inOrder).toNatClampNeg r25)) H := hP
              refine lv_if_ne (tgt := 124) hx hb dX2_takeOrder_117 (by decide) (fun h49 => ?_) (fun h49 => ?_)
              · replace hf := if_f hf h49
                refine lv_iconst (v := (nI 0)) hx hb dX2_takeOrder_124 (by decide) ?_
                refine lv_istore (lv' := [(4, .int (nI 0)), (7, .int r25), (6, .int v_p1_place), (1, .ref a_p1), (2, .ref a_p2), (3, .ref a_p2_now), (5, .int z5)]) hx hb dX2_takeOrder_125 hl (by decide) rfl (fun ls hl => ?_)
                obtain ⟨y50, e50⟩ : ∃ y : Int32, y = z5 + (nI 1) := ⟨_, rfl⟩
                replace hf := lt_of e50 hf
                refine lv_iinc (v := y50) (lv' := [(5, .int y50), (4, .int (nI 0)), (7, .int r25), (6, .int v_p1_place), (1, .ref a_p1), (2, .ref a_p2), (3, .ref a_p2_now)]) hx hb dX2_takeOrder_127 hl (k := 6) rfl (by rw [e50]; rfl) (by decide) rfl (fun ls hl => ?_)
                refine lv_goto (tgt := 25) hx hb dX2_takeOrder_130 (by decide) ?_
                exact ih (nI 0) y50 v_ordered u26 u27 u28 u29 u30 u31 u32 u33 y46 (upd v_p2_now_order (v_p2_now_inOrder).toNatClampNeg r25) hf _ _ _ hP (mp_D_of hD rfl) hS (lv_sub hl [4, 5, 6, 1, 0] rfl)
              · replace hf := if_t hf h49
                refine lv_iconst (v := (nI 1)) hx hb dX2_takeOrder_120 (by decide) ?_
                refine lv_goto (tgt := 125) hx hb dX2_takeOrder_121 (by decide) ?_
                refine lv_istore (lv' := [(4, .int (nI 1)), (7, .int r25), (6, .int v_p1_place), (1, .ref a_p1), (2, .ref a_p2), (3, .ref a_p2_now), (5, .int z5)]) hx hb dX2_takeOrder_125 hl (by decide) rfl (fun ls hl => ?_)
                obtain ⟨y51, e51⟩ : ∃ y : Int32, y = z5 + (nI 1) := ⟨_, rfl⟩
                replace hf := lt_of e51 hf
                refine lv_iinc (v := y51) (lv' := [(5, .int y51), (4, .int (nI 1)), (7, .int r25), (6, .int v_p1_place), (1, .ref a_p1), (2, .ref a_p2), (3, .ref a_p2_now)]) hx hb dX2_takeOrder_127 hl (k := 6) rfl (by rw [e51]; rfl) (by decide) rfl (fun ls hl => ?_)
                refine lv_goto (tgt := 25) hx hb dX2_takeOrder_130 (by decide) ?_
                exact ih (nI 1) y51 v_ordered u26 u27 u28 u29 u30 u31 u32 u33 y46 (upd v_p2_now_order (v_p2_now_inOrder).toNatClampNeg r25) hf _ _ _ hP (mp_D_of hD rfl) hS (lv_sub hl [4, 5, 6, 1, 0] rfl)
            · replace hf := if_f hf h44
              refine lv_aload_n hx hb dX2_takeOrder_84 rfl (lv_at hl 2 rfl) ?_
              refine lv_iconst (v := (nI 5)) hx hb dX2_takeOrder_85 (by decide) ?_
              refine lv_iload hx hb dX2_takeOrder_86 (lv_at hl 1 rfl) ?_
              obtain ⟨⟨r52, u53, u54⟩, c55, hf⟩ := bd_of hf
              dsimp only at hf
              have hPc := hP.sub (ws' := (k_X8_failAt T a_p1 a_p1_tape a_p1_keys v_p1_filled v_p1_end u26 u27 u28 u29 u30 u31 u32 u33)) [1] rfl
              have hDc := (mp_D_of (w1 := (k_X2_takeOrder T a_ a_p1 a_p1_tape a_p1_keys a_p2 a_p2_cellNames a_p2_secretNames a_p2_pageNames a_p2_speed a_p2_letters a_p2_room a_p2_now a_p2_rounds a_p2_now_order a_p2_now_knows a_p2_now_made a_p2_now_sixteenths a_p2_now_dots a_p2_now_used a_p2_now_stands v_ordered v_p1_filled v_p1_end u26 u27 u28 u29 u30 u31 u32 u33 v_p1_keys v_p1_tape v_p2_cells v_p2_secrets v_p2_pages v_p2_blind v_p2_rubs v_p2_cellNames v_p2_now_inOrder v_p2_now_place v_p2_now_ill v_p2_now_shut v_p2_now_turns v_p2_now_madeInAll v_p2_now_order)) hD rfl).sub (ws' := (k_X8_failAt T a_p1 a_p1_tape a_p1_keys v_p1_filled v_p1_end u26 u27 u28 u29 u30 u31 u32 u33)) [1] rfl rfl
              refine mp_calli (isC := [1]) (wc := (k_X8_failAt T a_p1 a_p1_tape a_p1_keys v_p1_filled v_p1_end u26 u27 u28 u29 u30 u31 u32 u33)) (w1 := (k_X8_failAt T a_p1 a_p1_tape a_p1_keys v_p1_filled v_p1_end u26 u27 u28 u29 u30 u31 u53 u54)) hP (mp_D_of hD rfl) hS hA rfl rfl (mp_runV (As := [.int (nI 5), .int v_p1_place]) (rest := []) X me_X8_failAt lk_X2_139 (c_X8_failAt l D T a_p1 a_p1_tape a_p1_keys (nI 5) v_p1_place v_p1_filled v_p1_end u26 u27 u28 u29 u30 u31 u32 u33 r52 u53 u54 c55) rfl rfl ⟨(Nat.le_of_ble_eq_true rfl), (Nat.le_of_ble_eq_true rfl)⟩ hK hPc hDc rfl rfl rfl rfl hl.1 rfl (Nat.le_of_ble_eq_true rfl) dX2_takeOrder_88 ⟨Nat.zero_le _, Nat.zero_le _⟩) (fun H locs hP _ hS => ?_)
              replace hP : va_P D mp_cl (k_X2_takeOrder T a_ a_p1 a_p1_tape a_p1_keys a_p2 a_p2_cellNames a_p2_secretNames a_p2_pageNames a_p2_speed a_p2_letters a_p2_room a_p2_now a_p2_rounds a_p2_now_order a_p2_now_knows a_p2_now_made a_p2_now_sixteenths a_p2_now_dots a_p2_now_used a_p2_now_stands v_ordered v_p1_filled v_p1_end u26 u27 u28 u29 u30 u31 u53 u54 v_p1_keys v_p1_tape v_p2_cells v_p2_secrets v_p2_pages v_p2_blind v_p2_rubs v_p2_cellNames v_p2_now_inOrder v_p2_now_place v_p2_now_ill v_p2_now_shut v_p2_now_turns v_p2_now_madeInAll v_p2_now_order) H := hP
              obtain ⟨h56, hf⟩ := gd_of hf
              cases hf
              exact mp_retz X hP hS rfl h56 dX2_takeOrder_91
        · replace hf := if_t hf h35
          refine lv_iconst (v := (nI 0)) hx hb dX2_takeOrder_63 (by decide) ?_
          cases hf
          exact mp_retz X hP hS rfl (Or.inl rfl) dX2_takeOrder_64

set_option maxHeartbeats 4000000 in
set_option maxRecDepth 100000 in
theorem c_X2_takeOrder (l : Launch) (D : va_G) (T : Nat → ClassId) (fu : Nat) (a_ a_p1 a_p1_tape a_p1_keys a_p2 a_p2_cellNames a_p2_secretNames a_p2_pageNames a_p2_speed a_p2_letters a_p2_room a_p2_now a_p2_rounds a_p2_now_order a_p2_now_knows a_p2_now_made a_p2_now_sixteenths a_p2_now_dots a_p2_now_used a_p2_now_stands : Nat) (v_p1_filled : Int32) (v_p2_secrets : Int32) (v_p2_pages : Int32) (v_p2_blind : Int32) (v_p2_rubs : Int32) (v_p2_now_place : Int32) (v_p2_now_ill : Int32) (v_p2_now_shut : Int32) (v_p2_now_turns : Int32) (v_p2_now_madeInAll : Int32) (v_ordered : Int32) (v_p1_end : Int32) (v_p1_at : Int32) (v_p1_kind : Int32) (v_p1_place : Int32) (v_p1_word : Int64) (v_p1_key : Int32) (v_p1_number : Int32) (v_p1_faultKind : Int32) (v_p1_faultPlace : Int32) (v_p1_keys : (Nat → Int64)) (v_p1_tape : (Nat → Int32)) (v_p2_cells : Int32) (v_p2_cellNames : (Nat → Int64)) (v_p2_now_inOrder : Int32) (v_p2_now_order : (Nat → Int32)) (r_ : Int32) (o_ordered : Int32) (o_p1_at : Int32) (o_p1_kind : Int32) (o_p1_place : Int32) (o_p1_word : Int64) (o_p1_key : Int32) (o_p1_number : Int32) (o_p1_faultKind : Int32) (o_p1_faultPlace : Int32) (o_p2_now_inOrder : Int32) (o_p2_now_order : (Nat → Int32)) (hf : f_X2_takeOrder fu v_ordered v_p1_end v_p1_at v_p1_kind v_p1_place v_p1_word v_p1_key v_p1_number v_p1_faultKind v_p1_faultPlace v_p1_keys v_p1_tape v_p2_cells v_p2_cellNames v_p2_now_inOrder v_p2_now_order = some (r_, o_ordered, o_p1_at, o_p1_kind, o_p1_place, o_p1_word, o_p1_key, o_p1_number, o_p1_faultKind, o_p1_faultPlace, o_p2_now_inOrder, o_p2_now_order)) :
    mp_M l D T yX2_takeOrder cX2_takeOrder 8 (some .boolean) ({ frames := 4, cells := 0, slots := 0, locals := 90 }) 0 0 [.ref a_, .ref a_p1, .ref a_p2] (k_X2_takeOrder T a_ a_p1 a_p1_tape a_p1_keys a_p2 a_p2_cellNames a_p2_secretNames a_p2_pageNames a_p2_speed a_p2_letters a_p2_room a_p2_now a_p2_rounds a_p2_now_order a_p2_now_knows a_p2_now_made a_p2_now_sixteenths a_p2_now_dots a_p2_now_used a_p2_now_stands v_ordered v_p1_filled v_p1_end v_p1_at v_p1_kind v_p1_place v_p1_word v_p1_key v_p1_number v_p1_faultKind v_p1_faultPlace v_p1_keys v_p1_tape v_p2_cells v_p2_secrets v_p2_pages v_p2_blind v_p2_rubs v_p2_cellNames v_p2_now_inOrder v_p2_now_place v_p2_now_ill v_p2_now_shut v_p2_now_turns v_p2_now_madeInAll v_p2_now_order) (mp_Qi D r_ (k_X2_takeOrder T a_ a_p1 a_p1_tape a_p1_keys a_p2 a_p2_cellNames a_p2_secretNames a_p2_pageNames a_p2_speed a_p2_letters a_p2_room a_p2_now a_p2_rounds a_p2_now_order a_p2_now_knows a_p2_now_made a_p2_now_sixteenths a_p2_now_dots a_p2_now_used a_p2_now_stands o_ordered v_p1_filled v_p1_end o_p1_at o_p1_kind o_p1_place o_p1_word o_p1_key o_p1_number o_p1_faultKind o_p1_faultPlace v_p1_keys v_p1_tape v_p2_cells v_p2_secrets v_p2_pages v_p2_blind v_p2_rubs v_p2_cellNames o_p2_now_inOrder v_p2_now_place v_p2_now_ill v_p2_now_shut v_p2_now_turns v_p2_now_madeInAll o_p2_now_order)) := by
  refine mp_of (by decide) (Nat.le_of_ble_eq_true rfl) rfl ?_
  intro p e s m args below meth c A ls X hK hP hD hS hA hl
  replace X : mp_X p s m meth c args RX2 "takeOrder" cX2_takeOrder 8 (some .boolean) := X
  have hx := X.1
  have hb := X.2.1
  have hml := X.2.2.1
  have hown := X.2.2.2.2.1
  have hts := X.2.2.2.2.2.1
  replace hl : lv_has ls 8 [(0, .ref a_), (1, .ref a_p1), (2, .ref a_p2)] := hl
  replace hf : bd_ (f_X8_forward fu v_p1_end v_p1_at v_p1_kind v_p1_place v_p1_word v_p1_key v_p1_number v_p1_keys v_p1_tape) (fun (z : Int32 × Int32 × Int32 × Int64 × Int32 × Int32) => match z with | (u1, u2, u3, u4, u5, u6) => f_X2_takeOrder_25 fu v_p1_end v_p1_keys v_p1_tape v_p2_cells v_p2_cellNames  fu (nI 1) (nI 0) (nI 1) u1 u2 u3 u4 u5 u6 v_p1_faultKind v_p1_faultPlace (nI 0) v_p2_now_order) = some (r_, o_ordered, o_p1_at, o_p1_kind, o_p1_place, o_p1_word, o_p1_key, o_p1_number, o_p1_faultKind, o_p1_faultPlace, o_p2_now_inOrder, o_p2_now_order) := hf
  refine lv_aload_n hx hb dX2_takeOrder_0 rfl (lv_at hl 1 rfl) ?_
  obtain ⟨⟨u1, u2, u3, u4, u5, u6⟩, c7, hf⟩ := bd_of hf
  dsimp only at hf
  have hPc := hP.sub (ws' := (k_X8_forward T a_p1 a_p1_tape a_p1_keys v_p1_filled v_p1_end v_p1_at v_p1_kind v_p1_place v_p1_word v_p1_key v_p1_number v_p1_faultKind v_p1_faultPlace v_p1_keys v_p1_tape)) [1, 2, 3] rfl
  have hDc := (mp_D_of (w1 := (k_X2_takeOrder T a_ a_p1 a_p1_tape a_p1_keys a_p2 a_p2_cellNames a_p2_secretNames a_p2_pageNames a_p2_speed a_p2_letters a_p2_room a_p2_now a_p2_rounds a_p2_now_order a_p2_now_knows a_p2_now_made a_p2_now_sixteenths a_p2_now_dots a_p2_now_used a_p2_now_stands v_ordered v_p1_filled v_p1_end v_p1_at v_p1_kind v_p1_place v_p1_word v_p1_key v_p1_number v_p1_faultKind v_p1_faultPlace v_p1_keys v_p1_tape v_p2_cells v_p2_secrets v_p2_pages v_p2_blind v_p2_rubs v_p2_cellNames v_p2_now_inOrder v_p2_now_place v_p2_now_ill v_p2_now_shut v_p2_now_turns v_p2_now_madeInAll v_p2_now_order)) hD rfl).sub (ws' := (k_X8_forward T a_p1 a_p1_tape a_p1_keys v_p1_filled v_p1_end v_p1_at v_p1_kind v_p1_place v_p1_word v_p1_key v_p1_number v_p1_faultKind v_p1_faultPlace v_p1_keys v_p1_tape)) [1, 2, 3] rfl rfl
  refine mp_callv (isC := [1, 2, 3]) (wc := (k_X8_forward T a_p1 a_p1_tape a_p1_keys v_p1_filled v_p1_end v_p1_at v_p1_kind v_p1_place v_p1_word v_p1_key v_p1_number v_p1_faultKind v_p1_faultPlace v_p1_keys v_p1_tape)) (w1 := (k_X8_forward T a_p1 a_p1_tape a_p1_keys v_p1_filled v_p1_end u1 u2 u3 u4 u5 u6 v_p1_faultKind v_p1_faultPlace v_p1_keys v_p1_tape)) hP (mp_D_of hD rfl) hS hA rfl rfl (mp_runV (As := []) (rest := []) X me_X8_forward lk_X2_75 (c_X8_forward l D T fu a_p1 a_p1_tape a_p1_keys v_p1_filled v_p1_faultKind v_p1_faultPlace v_p1_end v_p1_at v_p1_kind v_p1_place v_p1_word v_p1_key v_p1_number v_p1_keys v_p1_tape u1 u2 u3 u4 u5 u6 c7) rfl rfl ⟨(Nat.le_of_ble_eq_true rfl), (Nat.le_of_ble_eq_true rfl)⟩ hK hPc hDc rfl rfl rfl rfl hl.1 rfl (Nat.le_of_ble_eq_true rfl) dX2_takeOrder_1 ⟨Nat.zero_le _, Nat.zero_le _⟩) (fun H locs hP _ hS => ?_)
  replace hP : va_P D mp_cl (k_X2_takeOrder T a_ a_p1 a_p1_tape a_p1_keys a_p2 a_p2_cellNames a_p2_secretNames a_p2_pageNames a_p2_speed a_p2_letters a_p2_room a_p2_now a_p2_rounds a_p2_now_order a_p2_now_knows a_p2_now_made a_p2_now_sixteenths a_p2_now_dots a_p2_now_used a_p2_now_stands v_ordered v_p1_filled v_p1_end u1 u2 u3 u4 u5 u6 v_p1_faultKind v_p1_faultPlace v_p1_keys v_p1_tape v_p2_cells v_p2_secrets v_p2_pages v_p2_blind v_p2_rubs v_p2_cellNames v_p2_now_inOrder v_p2_now_place v_p2_now_ill v_p2_now_shut v_p2_now_turns v_p2_now_madeInAll v_p2_now_order) H := hP
  refine lv_aload_n hx hb dX2_takeOrder_4 rfl (lv_at hl 2 rfl) ?_
  refine mp_get X fl_X2_52 hK hP 4 rfl rfl dX2_takeOrder_5 ?_
  refine lv_astore_n (lv' := [(3, .ref a_p2_now), (0, .ref a_), (1, .ref a_p1), (2, .ref a_p2)]) hx hb dX2_takeOrder_8 rfl hl (by decide) rfl (fun ls hl => ?_)
  refine lv_aload_n hx hb dX2_takeOrder_9 rfl (lv_at hl 0 rfl) ?_
  refine lv_iconst (v := (nI 0)) hx hb dX2_takeOrder_10 (by decide) ?_
  refine mp_putf X fl_X2_129 fp_X7 rfl hK hP (mp_D_of hD rfl) hS 6 rfl rfl rfl (Nat.le_of_ble_eq_true rfl) dX2_takeOrder_11 (fun H locs hP _ hS => ?_)
  replace hP : va_P D mp_cl (k_X2_takeOrder T a_ a_p1 a_p1_tape a_p1_keys a_p2 a_p2_cellNames a_p2_secretNames a_p2_pageNames a_p2_speed a_p2_letters a_p2_room a_p2_now a_p2_rounds a_p2_now_order a_p2_now_knows a_p2_now_made a_p2_now_sixteenths a_p2_now_dots a_p2_now_used a_p2_now_stands v_ordered v_p1_filled v_p1_end u1 u2 u3 u4 u5 u6 v_p1_faultKind v_p1_faultPlace v_p1_keys v_p1_tape v_p2_cells v_p2_secrets v_p2_pages v_p2_blind v_p2_rubs v_p2_cellNames (nI 0) v_p2_now_place v_p2_now_ill v_p2_now_shut v_p2_now_turns v_p2_now_madeInAll v_p2_now_order) H := hP
  refine lv_aload_n hx hb dX2_takeOrder_14 rfl (lv_at hl 1 rfl) ?_
  refine lv_iconst (v := (nI 1)) hx hb dX2_takeOrder_15 (by decide) ?_
  refine mp_putf X fl_X2_9 fp_X2 rfl hK hP (mp_D_of hD rfl) hS 0 rfl rfl rfl (Nat.le_of_ble_eq_true rfl) dX2_takeOrder_16 (fun H locs hP _ hS => ?_)
  replace hP : va_P D mp_cl (k_X2_takeOrder T a_ a_p1 a_p1_tape a_p1_keys a_p2 a_p2_cellNames a_p2_secretNames a_p2_pageNames a_p2_speed a_p2_letters a_p2_room a_p2_now a_p2_rounds a_p2_now_order a_p2_now_knows a_p2_now_made a_p2_now_sixteenths a_p2_now_dots a_p2_now_used a_p2_now_stands (nI 1) v_p1_filled v_p1_end u1 u2 u3 u4 u5 u6 v_p1_faultKind v_p1_faultPlace v_p1_keys v_p1_tape v_p2_cells v_p2_secrets v_p2_pages v_p2_blind v_p2_rubs v_p2_cellNames (nI 0) v_p2_now_place v_p2_now_ill v_p2_now_shut v_p2_now_turns v_p2_now_madeInAll v_p2_now_order) H := hP
  refine lv_iconst (v := (nI 1)) hx hb dX2_takeOrder_19 (by decide) ?_
  refine lv_istore (lv' := [(4, .int (nI 1)), (3, .ref a_p2_now), (0, .ref a_), (1, .ref a_p1), (2, .ref a_p2)]) hx hb dX2_takeOrder_20 hl (by decide) rfl (fun ls hl => ?_)
  refine lv_iconst (v := (nI 0)) hx hb dX2_takeOrder_22 (by decide) ?_
  refine lv_istore (lv' := [(5, .int (nI 0)), (4, .int (nI 1)), (3, .ref a_p2_now), (0, .ref a_), (1, .ref a_p1), (2, .ref a_p2)]) hx hb dX2_takeOrder_23 hl (by decide) rfl (fun ls hl => ?_)
  exact w_X2_takeOrder_25 X hK hA  fu a_ a_p1 a_p1_tape a_p1_keys a_p2 a_p2_cellNames a_p2_secretNames a_p2_pageNames a_p2_speed a_p2_letters a_p2_room a_p2_now a_p2_rounds a_p2_now_order a_p2_now_knows a_p2_now_made a_p2_now_sixteenths a_p2_now_dots a_p2_now_used a_p2_now_stands v_p1_filled v_p2_secrets v_p2_pages v_p2_blind v_p2_rubs v_p2_now_place v_p2_now_ill v_p2_now_shut v_p2_now_turns v_p2_now_madeInAll v_p1_end v_p1_keys v_p1_tape v_p2_cells v_p2_cellNames r_ o_ordered o_p1_at o_p1_kind o_p1_place o_p1_word o_p1_key o_p1_number o_p1_faultKind o_p1_faultPlace o_p2_now_inOrder o_p2_now_order   fu (nI 1) (nI 0) (nI 1) u1 u2 u3 u4 u5 u6 v_p1_faultKind v_p1_faultPlace (nI 0) v_p2_now_order hf _ _ _ hP (mp_D_of hD rfl) hS (lv_sub hl [4, 5, 2, 1, 0] rfl)


def k_X2_takeRead (T : Nat → ClassId) (a_p1 a_p1_tape a_p1_keys a_p2 a_p2_cellNames a_p2_secretNames a_p2_pageNames a_p2_speed a_p2_letters a_p2_room a_p2_now a_p2_rounds a_p2_now_order a_p2_now_knows a_p2_now_made a_p2_now_sixteenths a_p2_now_dots a_p2_now_used a_p2_now_stands : Nat) (v_p1_filled : Int32) (v_p1_end : Int32) (v_p1_at : Int32) (v_p1_kind : Int32) (v_p1_place : Int32) (v_p1_word : Int64) (v_p1_key : Int32) (v_p1_number : Int32) (v_p1_faultKind : Int32) (v_p1_faultPlace : Int32) (v_p1_keys : (Nat → Int64)) (v_p1_tape : (Nat → Int32)) (v_p2_cells : Int32) (v_p2_secrets : Int32) (v_p2_pages : Int32) (v_p2_blind : Int32) (v_p2_rubs : Int32) (v_p2_now_inOrder : Int32) (v_p2_now_place : Int32) (v_p2_now_ill : Int32) (v_p2_now_shut : Int32) (v_p2_now_turns : Int32) (v_p2_now_madeInAll : Int32) (v_p2_now_sixteenths : (Nat → Int32)) (v_p2_pageNames : (Nat → Int64)) : va_W := [(a_p1, oX8 a_p1_tape v_p1_filled v_p1_end v_p1_at v_p1_kind v_p1_place v_p1_word v_p1_key v_p1_number v_p1_faultKind v_p1_faultPlace a_p1_keys), (a_p1_keys, mp_aJ T 24 v_p1_keys), (a_p1_tape, mp_aB T 900 v_p1_tape), (a_p2, oX1 v_p2_cells v_p2_secrets v_p2_pages a_p2_cellNames a_p2_secretNames a_p2_pageNames a_p2_speed v_p2_blind v_p2_rubs a_p2_letters a_p2_room a_p2_now a_p2_rounds), (a_p2_now, oX7 a_p2_now_order v_p2_now_inOrder v_p2_now_place a_p2_now_knows a_p2_now_made a_p2_now_sixteenths a_p2_now_dots a_p2_now_used a_p2_now_stands v_p2_now_ill v_p2_now_shut v_p2_now_turns v_p2_now_madeInAll), (a_p2_now_sixteenths, mp_aI T 6 v_p2_now_sixteenths), (a_p2_pageNames, mp_aJ T 6 v_p2_pageNames)]
set_option maxHeartbeats 4000000 in
set_option maxRecDepth 100000 in
theorem w_X2_takeRead_35 {p : Program} {l : Launch} {e : Env} {s : State} {m : MethodId} {args : Array Value} {below : List Frame} {meth : Method} {c : Code} {D : va_G} {T : Nat → ClassId} {A : Nat → Prop} (X : mp_X p s m meth c args RX2 "takeRead" cX2_takeRead 4 (some .boolean)) (hK : va_K D mp_cl (mp_ty T) s) (hA : ∀ q, s.heap.size ≤ q → A q) (fu : Nat) (a_p1 a_p1_tape a_p1_keys a_p2 a_p2_cellNames a_p2_secretNames a_p2_pageNames a_p2_speed a_p2_letters a_p2_room a_p2_now a_p2_rounds a_p2_now_order a_p2_now_knows a_p2_now_made a_p2_now_sixteenths a_p2_now_dots a_p2_now_used a_p2_now_stands : Nat) (v_p1_filled : Int32) (v_p2_cells : Int32) (v_p2_secrets : Int32) (v_p2_blind : Int32) (v_p2_rubs : Int32) (v_p2_now_inOrder : Int32) (v_p2_now_place : Int32) (v_p2_now_ill : Int32) (v_p2_now_shut : Int32) (v_p2_now_turns : Int32) (v_p2_now_madeInAll : Int32) (v_p1_end : Int32) (v_p1_keys : (Nat → Int64)) (v_p1_tape : (Nat → Int32)) (v_p2_pages : Int32) (v_p2_pageNames : (Nat → Int64)) (r_ : Int32) (o_p1_at : Int32) (o_p1_kind : Int32) (o_p1_place : Int32) (o_p1_word : Int64) (o_p1_key : Int32) (o_p1_number : Int32) (o_p1_faultKind : Int32) (o_p1_faultPlace : Int32) (o_p2_now_sixteenths : (Nat → Int32)) :
    ∀  (z2 : Int32) (w0 : Int32) (v_p1_at : Int32) (v_p1_kind : Int32) (v_p1_place : Int32) (v_p1_word : Int64) (v_p1_key : Int32) (v_p1_number : Int32) (v_p1_faultKind : Int32) (v_p1_faultPlace : Int32) (v_p2_now_sixteenths : (Nat → Int32)), f_X2_takeRead_35 fu v_p1_end v_p1_keys v_p1_tape v_p2_pages v_p2_pageNames  z2 w0 v_p1_at v_p1_kind v_p1_place v_p1_word v_p1_key v_p1_number v_p1_faultKind v_p1_faultPlace v_p2_now_sixteenths = some (r_, o_p1_at, o_p1_kind, o_p1_place, o_p1_word, o_p1_key, o_p1_number, o_p1_faultKind, o_p1_faultPlace, o_p2_now_sixteenths) → ∀ (H : Heap) (locs : List Loc) (ls : Array Slot), va_P D mp_cl (k_X2_takeRead T a_p1 a_p1_tape a_p1_keys a_p2 a_p2_cellNames a_p2_secretNames a_p2_pageNames a_p2_speed a_p2_letters a_p2_room a_p2_now a_p2_rounds a_p2_now_order a_p2_now_knows a_p2_now_made a_p2_now_sixteenths a_p2_now_dots a_p2_now_used a_p2_now_stands v_p1_filled v_p1_end v_p1_at v_p1_kind v_p1_place v_p1_word v_p1_key v_p1_number v_p1_faultKind v_p1_faultPlace v_p1_keys v_p1_tape v_p2_cells v_p2_secrets v_p2_pages v_p2_blind v_p2_rubs v_p2_now_inOrder v_p2_now_place v_p2_now_ill v_p2_now_shut v_p2_now_turns v_p2_now_madeInAll v_p2_now_sixteenths v_p2_pageNames) H → va_D A (k_X2_takeRead T a_p1 a_p1_tape a_p1_keys a_p2 a_p2_cellNames a_p2_secretNames a_p2_pageNames a_p2_speed a_p2_letters a_p2_room a_p2_now a_p2_rounds a_p2_now_order a_p2_now_knows a_p2_now_made a_p2_now_sixteenths a_p2_now_dots a_p2_now_used a_p2_now_stands v_p1_filled v_p1_end v_p1_at v_p1_kind v_p1_place v_p1_word v_p1_key v_p1_number v_p1_faultKind v_p1_faultPlace v_p1_keys v_p1_tape v_p2_cells v_p2_secrets v_p2_pages v_p2_blind v_p2_rubs v_p2_now_inOrder v_p2_now_place v_p2_now_ill v_p2_now_shut v_p2_now_turns v_p2_now_madeInAll v_p2_now_sixteenths v_p2_pageNames) → va_S A s.heap H locs → lv_has ls 4 [(1, .ref a_p2), (2, .int z2)] → W p l e ({ frames := 5, cells := 0, slots := 0, locals := 112 }) s m args below meth c H locs 0 0 (MQ below ((mp_Qi D r_ (k_X2_takeRead T a_p1 a_p1_tape a_p1_keys a_p2 a_p2_cellNames a_p2_secretNames a_p2_pageNames a_p2_speed a_p2_letters a_p2_room a_p2_now a_p2_rounds a_p2_now_order a_p2_now_knows a_p2_now_made a_p2_now_sixteenths a_p2_now_dots a_p2_now_used a_p2_now_stands v_p1_filled v_p1_end o_p1_at o_p1_kind o_p1_place o_p1_word o_p1_key o_p1_number o_p1_faultKind o_p1_faultPlace v_p1_keys v_p1_tape v_p2_cells v_p2_secrets v_p2_pages v_p2_blind v_p2_rubs v_p2_now_inOrder v_p2_now_place v_p2_now_ill v_p2_now_shut v_p2_now_turns v_p2_now_madeInAll o_p2_now_sixteenths v_p2_pageNames)) A) args s 0 0 A) (F0 m 35 ls [.int w0]) := by
  have hx := X.1
  have hb := X.2.1
  have hml := X.2.2.1
  have hown := X.2.2.2.2.1
  have hts := X.2.2.2.2.2.1
  intro z2 w0 v_p1_at v_p1_kind v_p1_place v_p1_word v_p1_key v_p1_number v_p1_faultKind v_p1_faultPlace v_p2_now_sixteenths hf H locs ls hP hD hS hl
  replace hf : (if w0 = (-1 : Int32) then some ((nI 0), v_p1_at, v_p1_kind, v_p1_place, v_p1_word, v_p1_key, v_p1_number, v_p1_faultKind, v_p1_faultPlace, v_p2_now_sixteenths) else gi_ z2 6 (some ((nI 1), v_p1_at, v_p1_kind, v_p1_place, v_p1_word, v_p1_key, v_p1_number, v_p1_faultKind, v_p1_faultPlace, upd v_p2_now_sixteenths (z2).toNatClampNeg w0))) = some (r_, o_p1_at, o_p1_kind, o_p1_place, o_p1_word, o_p1_key, o_p1_number, o_p1_faultKind, o_p1_faultPlace, o_p2_now_sixteenths) := hf
  refine lv_istore_n (lv' := [(3, .int w0), (1, .ref a_p2), (2, .int z2)]) hx hb dX2_takeRead_35 rfl hl (by decide) rfl (fun ls hl => ?_)
  refine lv_iload_n hx hb dX2_takeRead_36 rfl (lv_at hl 0 rfl) ?_
  refine lv_iconst (v := (-1 : Int32)) hx hb dX2_takeRead_37 (by decide) ?_
  refine lv_icmp_ne (tgt := 43) hx hb dX2_takeRead_38 (by decide) (fun h1 => ?_) (fun h1 => ?_)
  · replace hf := if_f hf h1
    refine lv_aload_n hx hb dX2_takeRead_43 rfl (lv_at hl 1 rfl) ?_
    refine mp_get X fl_X2_52 hK hP 3 rfl rfl dX2_takeRead_44 ?_
    refine mp_get X fl_X2_152 hK hP 4 rfl rfl dX2_takeRead_47 ?_
    refine lv_iload_n hx hb dX2_takeRead_50 rfl (lv_at hl 2 rfl) ?_
    refine lv_iload_n hx hb dX2_takeRead_51 rfl (lv_at hl 0 rfl) ?_
    obtain ⟨h2, hf⟩ := gi_of hf
    refine va_iast hx hb hK hP (mp_D_of hD rfl) hS 5 0 rfl rfl h2 dX2_takeRead_52 (fun H locs hP _ hS => ?_)
    replace hP : va_P D mp_cl (k_X2_takeRead T a_p1 a_p1_tape a_p1_keys a_p2 a_p2_cellNames a_p2_secretNames a_p2_pageNames a_p2_speed a_p2_letters a_p2_room a_p2_now a_p2_rounds a_p2_now_order a_p2_now_knows a_p2_now_made a_p2_now_sixteenths a_p2_now_dots a_p2_now_used a_p2_now_stands v_p1_filled v_p1_end v_p1_at v_p1_kind v_p1_place v_p1_word v_p1_key v_p1_number v_p1_faultKind v_p1_faultPlace v_p1_keys v_p1_tape v_p2_cells v_p2_secrets v_p2_pages v_p2_blind v_p2_rubs v_p2_now_inOrder v_p2_now_place v_p2_now_ill v_p2_now_shut v_p2_now_turns v_p2_now_madeInAll (upd v_p2_now_sixteenths (z2).toNatClampNeg w0) v_p2_pageNames) H := hP
    refine lv_iconst (v := (nI 1)) hx hb dX2_takeRead_53 (by decide) ?_
    cases hf
    exact mp_retz X hP hS rfl (Or.inr rfl) dX2_takeRead_54
  · replace hf := if_t hf h1
    refine lv_iconst (v := (nI 0)) hx hb dX2_takeRead_41 (by decide) ?_
    cases hf
    exact mp_retz X hP hS rfl (Or.inl rfl) dX2_takeRead_42

set_option maxHeartbeats 4000000 in
set_option maxRecDepth 100000 in
theorem c_X2_takeRead (l : Launch) (D : va_G) (T : Nat → ClassId) (fu : Nat) (a_p1 a_p1_tape a_p1_keys a_p2 a_p2_cellNames a_p2_secretNames a_p2_pageNames a_p2_speed a_p2_letters a_p2_room a_p2_now a_p2_rounds a_p2_now_order a_p2_now_knows a_p2_now_made a_p2_now_sixteenths a_p2_now_dots a_p2_now_used a_p2_now_stands : Nat) (v_p1_filled : Int32) (v_p2_cells : Int32) (v_p2_secrets : Int32) (v_p2_blind : Int32) (v_p2_rubs : Int32) (v_p2_now_inOrder : Int32) (v_p2_now_place : Int32) (v_p2_now_ill : Int32) (v_p2_now_shut : Int32) (v_p2_now_turns : Int32) (v_p2_now_madeInAll : Int32) (v_p1_end : Int32) (v_p1_at : Int32) (v_p1_kind : Int32) (v_p1_place : Int32) (v_p1_word : Int64) (v_p1_key : Int32) (v_p1_number : Int32) (v_p1_faultKind : Int32) (v_p1_faultPlace : Int32) (v_p1_keys : (Nat → Int64)) (v_p1_tape : (Nat → Int32)) (v_p2_pages : Int32) (v_p2_now_sixteenths : (Nat → Int32)) (v_p2_pageNames : (Nat → Int64)) (r_ : Int32) (o_p1_at : Int32) (o_p1_kind : Int32) (o_p1_place : Int32) (o_p1_word : Int64) (o_p1_key : Int32) (o_p1_number : Int32) (o_p1_faultKind : Int32) (o_p1_faultPlace : Int32) (o_p2_now_sixteenths : (Nat → Int32)) (hf : f_X2_takeRead fu v_p1_end v_p1_at v_p1_kind v_p1_place v_p1_word v_p1_key v_p1_number v_p1_faultKind v_p1_faultPlace v_p1_keys v_p1_tape v_p2_pages v_p2_now_sixteenths v_p2_pageNames = some (r_, o_p1_at, o_p1_kind, o_p1_place, o_p1_word, o_p1_key, o_p1_number, o_p1_faultKind, o_p1_faultPlace, o_p2_now_sixteenths)) :
    mp_M l D T yX2_takeRead cX2_takeRead 4 (some .boolean) ({ frames := 5, cells := 0, slots := 0, locals := 112 }) 0 0 [.ref a_p1, .ref a_p2] (k_X2_takeRead T a_p1 a_p1_tape a_p1_keys a_p2 a_p2_cellNames a_p2_secretNames a_p2_pageNames a_p2_speed a_p2_letters a_p2_room a_p2_now a_p2_rounds a_p2_now_order a_p2_now_knows a_p2_now_made a_p2_now_sixteenths a_p2_now_dots a_p2_now_used a_p2_now_stands v_p1_filled v_p1_end v_p1_at v_p1_kind v_p1_place v_p1_word v_p1_key v_p1_number v_p1_faultKind v_p1_faultPlace v_p1_keys v_p1_tape v_p2_cells v_p2_secrets v_p2_pages v_p2_blind v_p2_rubs v_p2_now_inOrder v_p2_now_place v_p2_now_ill v_p2_now_shut v_p2_now_turns v_p2_now_madeInAll v_p2_now_sixteenths v_p2_pageNames) (mp_Qi D r_ (k_X2_takeRead T a_p1 a_p1_tape a_p1_keys a_p2 a_p2_cellNames a_p2_secretNames a_p2_pageNames a_p2_speed a_p2_letters a_p2_room a_p2_now a_p2_rounds a_p2_now_order a_p2_now_knows a_p2_now_made a_p2_now_sixteenths a_p2_now_dots a_p2_now_used a_p2_now_stands v_p1_filled v_p1_end o_p1_at o_p1_kind o_p1_place o_p1_word o_p1_key o_p1_number o_p1_faultKind o_p1_faultPlace v_p1_keys v_p1_tape v_p2_cells v_p2_secrets v_p2_pages v_p2_blind v_p2_rubs v_p2_now_inOrder v_p2_now_place v_p2_now_ill v_p2_now_shut v_p2_now_turns v_p2_now_madeInAll o_p2_now_sixteenths v_p2_pageNames)) := by
  refine mp_of (by decide) (Nat.le_of_ble_eq_true rfl) rfl ?_
  intro p e s m args below meth c A ls X hK hP hD hS hA hl
  replace X : mp_X p s m meth c args RX2 "takeRead" cX2_takeRead 4 (some .boolean) := X
  have hx := X.1
  have hb := X.2.1
  have hml := X.2.2.1
  have hown := X.2.2.2.2.1
  have hts := X.2.2.2.2.2.1
  replace hl : lv_has ls 4 [(0, .ref a_p1), (1, .ref a_p2)] := hl
  replace hf : bd_ (f_X8_forward fu v_p1_end v_p1_at v_p1_kind v_p1_place v_p1_word v_p1_key v_p1_number v_p1_keys v_p1_tape) (fun (z : Int32 × Int32 × Int32 × Int64 × Int32 × Int32) => match z with | (u1, u2, u3, u4, u5, u6) => bd_ (f_X8_oneOf fu 6 v_p2_pages v_p1_end u1 u2 u3 u4 u5 u6 v_p1_faultKind v_p1_faultPlace v_p1_keys v_p1_tape v_p2_pageNames) (fun (z : Int32 × Int32 × Int32 × Int32 × Int64 × Int32 × Int32 × Int32 × Int32) => match z with | (r8, u9, u10, u11, u12, u13, u14, u15, u16) => (if r8 = (-1 : Int32) then f_X2_takeRead_35 fu v_p1_end v_p1_keys v_p1_tape v_p2_pages v_p2_pageNames  r8 (-1 : Int32) u9 u10 u11 u12 u13 u14 u15 u16 v_p2_now_sixteenths else bd_ (f_X2_lastNumber fu (nI 11) (nI 0) (nI 16) v_p1_end u9 u10 u11 u12 u13 u14 u15 u16 v_p1_keys v_p1_tape) (fun (z : Int32 × Int32 × Int32 × Int32 × Int64 × Int32 × Int32 × Int32 × Int32) => match z with | (r19, u20, u21, u22, u23, u24, u25, u26, u27) => f_X2_takeRead_35 fu v_p1_end v_p1_keys v_p1_tape v_p2_pages v_p2_pageNames  r8 r19 u20 u21 u22 u23 u24 u25 u26 u27 v_p2_now_sixteenths)))) = some (r_, o_p1_at, o_p1_kind, o_p1_place, o_p1_word, o_p1_key, o_p1_number, o_p1_faultKind, o_p1_faultPlace, o_p2_now_sixteenths) := hf
  refine lv_aload_n hx hb dX2_takeRead_0 rfl (lv_at hl 0 rfl) ?_
  obtain ⟨⟨u1, u2, u3, u4, u5, u6⟩, c7, hf⟩ := bd_of hf
  dsimp only at hf
  have hPc := hP.sub (ws' := (k_X8_forward T a_p1 a_p1_tape a_p1_keys v_p1_filled v_p1_end v_p1_at v_p1_kind v_p1_place v_p1_word v_p1_key v_p1_number v_p1_faultKind v_p1_faultPlace v_p1_keys v_p1_tape)) [0, 1, 2] rfl
  have hDc := (mp_D_of (w1 := (k_X2_takeRead T a_p1 a_p1_tape a_p1_keys a_p2 a_p2_cellNames a_p2_secretNames a_p2_pageNames a_p2_speed a_p2_letters a_p2_room a_p2_now a_p2_rounds a_p2_now_order a_p2_now_knows a_p2_now_made a_p2_now_sixteenths a_p2_now_dots a_p2_now_used a_p2_now_stands v_p1_filled v_p1_end v_p1_at v_p1_kind v_p1_place v_p1_word v_p1_key v_p1_number v_p1_faultKind v_p1_faultPlace v_p1_keys v_p1_tape v_p2_cells v_p2_secrets v_p2_pages v_p2_blind v_p2_rubs v_p2_now_inOrder v_p2_now_place v_p2_now_ill v_p2_now_shut v_p2_now_turns v_p2_now_madeInAll v_p2_now_sixteenths v_p2_pageNames)) hD rfl).sub (ws' := (k_X8_forward T a_p1 a_p1_tape a_p1_keys v_p1_filled v_p1_end v_p1_at v_p1_kind v_p1_place v_p1_word v_p1_key v_p1_number v_p1_faultKind v_p1_faultPlace v_p1_keys v_p1_tape)) [0, 1, 2] rfl rfl
  refine mp_callv (isC := [0, 1, 2]) (wc := (k_X8_forward T a_p1 a_p1_tape a_p1_keys v_p1_filled v_p1_end v_p1_at v_p1_kind v_p1_place v_p1_word v_p1_key v_p1_number v_p1_faultKind v_p1_faultPlace v_p1_keys v_p1_tape)) (w1 := (k_X8_forward T a_p1 a_p1_tape a_p1_keys v_p1_filled v_p1_end u1 u2 u3 u4 u5 u6 v_p1_faultKind v_p1_faultPlace v_p1_keys v_p1_tape)) hP (mp_D_of hD rfl) hS hA rfl rfl (mp_runV (As := []) (rest := []) X me_X8_forward lk_X2_75 (c_X8_forward l D T fu a_p1 a_p1_tape a_p1_keys v_p1_filled v_p1_faultKind v_p1_faultPlace v_p1_end v_p1_at v_p1_kind v_p1_place v_p1_word v_p1_key v_p1_number v_p1_keys v_p1_tape u1 u2 u3 u4 u5 u6 c7) rfl rfl ⟨(Nat.le_of_ble_eq_true rfl), (Nat.le_of_ble_eq_true rfl)⟩ hK hPc hDc rfl rfl rfl rfl hl.1 rfl (Nat.le_of_ble_eq_true rfl) dX2_takeRead_1 ⟨Nat.zero_le _, Nat.zero_le _⟩) (fun H locs hP _ hS => ?_)
  replace hP : va_P D mp_cl (k_X2_takeRead T a_p1 a_p1_tape a_p1_keys a_p2 a_p2_cellNames a_p2_secretNames a_p2_pageNames a_p2_speed a_p2_letters a_p2_room a_p2_now a_p2_rounds a_p2_now_order a_p2_now_knows a_p2_now_made a_p2_now_sixteenths a_p2_now_dots a_p2_now_used a_p2_now_stands v_p1_filled v_p1_end u1 u2 u3 u4 u5 u6 v_p1_faultKind v_p1_faultPlace v_p1_keys v_p1_tape v_p2_cells v_p2_secrets v_p2_pages v_p2_blind v_p2_rubs v_p2_now_inOrder v_p2_now_place v_p2_now_ill v_p2_now_shut v_p2_now_turns v_p2_now_madeInAll v_p2_now_sixteenths v_p2_pageNames) H := hP
  refine lv_aload_n hx hb dX2_takeRead_4 rfl (lv_at hl 0 rfl) ?_
  refine lv_aload_n hx hb dX2_takeRead_5 rfl (lv_at hl 1 rfl) ?_
  refine mp_get X fl_X2_149 hK hP 3 rfl rfl dX2_takeRead_6 ?_
  refine lv_aload_n hx hb dX2_takeRead_9 rfl (lv_at hl 1 rfl) ?_
  refine mp_get X fl_X2_108 hK hP 3 rfl rfl dX2_takeRead_10 ?_
  obtain ⟨⟨r8, u9, u10, u11, u12, u13, u14, u15, u16⟩, c17, hf⟩ := bd_of hf
  dsimp only at hf
  have hPc := hP.sub (ws' := (k_X8_oneOf T a_p1 a_p1_tape a_p1_keys a_p2_pageNames 6 v_p1_filled v_p1_end u1 u2 u3 u4 u5 u6 v_p1_faultKind v_p1_faultPlace v_p1_keys v_p1_tape v_p2_pageNames)) [0, 1, 2, 6] rfl
  have hDc := (mp_D_of (w1 := (k_X2_takeRead T a_p1 a_p1_tape a_p1_keys a_p2 a_p2_cellNames a_p2_secretNames a_p2_pageNames a_p2_speed a_p2_letters a_p2_room a_p2_now a_p2_rounds a_p2_now_order a_p2_now_knows a_p2_now_made a_p2_now_sixteenths a_p2_now_dots a_p2_now_used a_p2_now_stands v_p1_filled v_p1_end u1 u2 u3 u4 u5 u6 v_p1_faultKind v_p1_faultPlace v_p1_keys v_p1_tape v_p2_cells v_p2_secrets v_p2_pages v_p2_blind v_p2_rubs v_p2_now_inOrder v_p2_now_place v_p2_now_ill v_p2_now_shut v_p2_now_turns v_p2_now_madeInAll v_p2_now_sixteenths v_p2_pageNames)) hD rfl).sub (ws' := (k_X8_oneOf T a_p1 a_p1_tape a_p1_keys a_p2_pageNames 6 v_p1_filled v_p1_end u1 u2 u3 u4 u5 u6 v_p1_faultKind v_p1_faultPlace v_p1_keys v_p1_tape v_p2_pageNames)) [0, 1, 2, 6] rfl rfl
  refine mp_calli (isC := [0, 1, 2, 6]) (wc := (k_X8_oneOf T a_p1 a_p1_tape a_p1_keys a_p2_pageNames 6 v_p1_filled v_p1_end u1 u2 u3 u4 u5 u6 v_p1_faultKind v_p1_faultPlace v_p1_keys v_p1_tape v_p2_pageNames)) (w1 := (k_X8_oneOf T a_p1 a_p1_tape a_p1_keys a_p2_pageNames 6 v_p1_filled v_p1_end u9 u10 u11 u12 u13 u14 u15 u16 v_p1_keys v_p1_tape v_p2_pageNames)) hP (mp_D_of hD rfl) hS hA rfl rfl (mp_runV (As := [.ref a_p2_pageNames, .int v_p2_pages]) (rest := []) X me_X8_oneOf lk_X2_118 (c_X8_oneOf l D T fu a_p1 a_p1_tape a_p1_keys a_p2_pageNames 6 v_p2_pages v_p1_filled v_p1_end u1 u2 u3 u4 u5 u6 v_p1_faultKind v_p1_faultPlace v_p1_keys v_p1_tape v_p2_pageNames r8 u9 u10 u11 u12 u13 u14 u15 u16 c17) rfl rfl ⟨(Nat.le_of_ble_eq_true rfl), (Nat.le_of_ble_eq_true rfl)⟩ hK hPc hDc rfl rfl rfl rfl hl.1 rfl (Nat.le_of_ble_eq_true rfl) dX2_takeRead_13 ⟨Nat.zero_le _, Nat.zero_le _⟩) (fun H locs hP _ hS => ?_)
  replace hP : va_P D mp_cl (k_X2_takeRead T a_p1 a_p1_tape a_p1_keys a_p2 a_p2_cellNames a_p2_secretNames a_p2_pageNames a_p2_speed a_p2_letters a_p2_room a_p2_now a_p2_rounds a_p2_now_order a_p2_now_knows a_p2_now_made a_p2_now_sixteenths a_p2_now_dots a_p2_now_used a_p2_now_stands v_p1_filled v_p1_end u9 u10 u11 u12 u13 u14 u15 u16 v_p1_keys v_p1_tape v_p2_cells v_p2_secrets v_p2_pages v_p2_blind v_p2_rubs v_p2_now_inOrder v_p2_now_place v_p2_now_ill v_p2_now_shut v_p2_now_turns v_p2_now_madeInAll v_p2_now_sixteenths v_p2_pageNames) H := hP
  refine lv_istore_n (lv' := [(2, .int r8), (0, .ref a_p1), (1, .ref a_p2)]) hx hb dX2_takeRead_16 rfl hl (by decide) rfl (fun ls hl => ?_)
  refine lv_iload_n hx hb dX2_takeRead_17 rfl (lv_at hl 0 rfl) ?_
  refine lv_iconst (v := (-1 : Int32)) hx hb dX2_takeRead_18 (by decide) ?_
  refine lv_icmp_ne (tgt := 26) hx hb dX2_takeRead_19 (by decide) (fun h18 => ?_) (fun h18 => ?_)
  · replace hf := if_f hf h18
    refine lv_aload_n hx hb dX2_takeRead_26 rfl (lv_at hl 1 rfl) ?_
    refine lv_bipush (v := (nI 11)) hx hb dX2_takeRead_27 (by decide) ?_
    refine lv_iconst (v := (nI 0)) hx hb dX2_takeRead_29 (by decide) ?_
    refine lv_bipush (v := (nI 16)) hx hb dX2_takeRead_30 (by decide) ?_
    obtain ⟨⟨r19, u20, u21, u22, u23, u24, u25, u26, u27⟩, c28, hf⟩ := bd_of hf
    dsimp only at hf
    have hPc := hP.sub (ws' := (k_X2_lastNumber T a_p1 a_p1_tape a_p1_keys v_p1_filled v_p1_end u9 u10 u11 u12 u13 u14 u15 u16 v_p1_keys v_p1_tape)) [0, 1, 2] rfl
    have hDc := (mp_D_of (w1 := (k_X2_takeRead T a_p1 a_p1_tape a_p1_keys a_p2 a_p2_cellNames a_p2_secretNames a_p2_pageNames a_p2_speed a_p2_letters a_p2_room a_p2_now a_p2_rounds a_p2_now_order a_p2_now_knows a_p2_now_made a_p2_now_sixteenths a_p2_now_dots a_p2_now_used a_p2_now_stands v_p1_filled v_p1_end u9 u10 u11 u12 u13 u14 u15 u16 v_p1_keys v_p1_tape v_p2_cells v_p2_secrets v_p2_pages v_p2_blind v_p2_rubs v_p2_now_inOrder v_p2_now_place v_p2_now_ill v_p2_now_shut v_p2_now_turns v_p2_now_madeInAll v_p2_now_sixteenths v_p2_pageNames)) hD rfl).sub (ws' := (k_X2_lastNumber T a_p1 a_p1_tape a_p1_keys v_p1_filled v_p1_end u9 u10 u11 u12 u13 u14 u15 u16 v_p1_keys v_p1_tape)) [0, 1, 2] rfl rfl
    refine mp_calli (isC := [0, 1, 2]) (wc := (k_X2_lastNumber T a_p1 a_p1_tape a_p1_keys v_p1_filled v_p1_end u9 u10 u11 u12 u13 u14 u15 u16 v_p1_keys v_p1_tape)) (w1 := (k_X2_lastNumber T a_p1 a_p1_tape a_p1_keys v_p1_filled v_p1_end u20 u21 u22 u23 u24 u25 u26 u27 v_p1_keys v_p1_tape)) hP (mp_D_of hD rfl) hS hA rfl rfl (mp_runS (As := [.ref a_p1, .int (nI 11), .int (nI 0), .int (nI 16)]) (rest := []) X me_X2_lastNumber lk_X2_100 (c_X2_lastNumber l D T fu a_p1 a_p1_tape a_p1_keys (nI 11) (nI 0) (nI 16) v_p1_filled v_p1_end u9 u10 u11 u12 u13 u14 u15 u16 v_p1_keys v_p1_tape r19 u20 u21 u22 u23 u24 u25 u26 u27 c28) rfl rfl ⟨(Nat.le_of_ble_eq_true rfl), (Nat.le_of_ble_eq_true rfl)⟩ hK hPc hDc rfl hl.1 rfl (Nat.le_of_ble_eq_true rfl) dX2_takeRead_32 ⟨Nat.zero_le _, Nat.zero_le _⟩) (fun H locs hP _ hS => ?_)
    replace hP : va_P D mp_cl (k_X2_takeRead T a_p1 a_p1_tape a_p1_keys a_p2 a_p2_cellNames a_p2_secretNames a_p2_pageNames a_p2_speed a_p2_letters a_p2_room a_p2_now a_p2_rounds a_p2_now_order a_p2_now_knows a_p2_now_made a_p2_now_sixteenths a_p2_now_dots a_p2_now_used a_p2_now_stands v_p1_filled v_p1_end u20 u21 u22 u23 u24 u25 u26 u27 v_p1_keys v_p1_tape v_p2_cells v_p2_secrets v_p2_pages v_p2_blind v_p2_rubs v_p2_now_inOrder v_p2_now_place v_p2_now_ill v_p2_now_shut v_p2_now_turns v_p2_now_madeInAll v_p2_now_sixteenths v_p2_pageNames) H := hP
    exact w_X2_takeRead_35 X hK hA  fu a_p1 a_p1_tape a_p1_keys a_p2 a_p2_cellNames a_p2_secretNames a_p2_pageNames a_p2_speed a_p2_letters a_p2_room a_p2_now a_p2_rounds a_p2_now_order a_p2_now_knows a_p2_now_made a_p2_now_sixteenths a_p2_now_dots a_p2_now_used a_p2_now_stands v_p1_filled v_p2_cells v_p2_secrets v_p2_blind v_p2_rubs v_p2_now_inOrder v_p2_now_place v_p2_now_ill v_p2_now_shut v_p2_now_turns v_p2_now_madeInAll v_p1_end v_p1_keys v_p1_tape v_p2_pages v_p2_pageNames r_ o_p1_at o_p1_kind o_p1_place o_p1_word o_p1_key o_p1_number o_p1_faultKind o_p1_faultPlace o_p2_now_sixteenths   r8 r19 u20 u21 u22 u23 u24 u25 u26 u27 v_p2_now_sixteenths hf _ _ _ hP (mp_D_of hD rfl) hS (lv_sub hl [2, 0] rfl)
  · replace hf := if_t hf h18
    refine lv_iconst (v := (-1 : Int32)) hx hb dX2_takeRead_22 (by decide) ?_
    refine lv_goto (tgt := 35) hx hb dX2_takeRead_23 (by decide) ?_
    exact w_X2_takeRead_35 X hK hA  fu a_p1 a_p1_tape a_p1_keys a_p2 a_p2_cellNames a_p2_secretNames a_p2_pageNames a_p2_speed a_p2_letters a_p2_room a_p2_now a_p2_rounds a_p2_now_order a_p2_now_knows a_p2_now_made a_p2_now_sixteenths a_p2_now_dots a_p2_now_used a_p2_now_stands v_p1_filled v_p2_cells v_p2_secrets v_p2_blind v_p2_rubs v_p2_now_inOrder v_p2_now_place v_p2_now_ill v_p2_now_shut v_p2_now_turns v_p2_now_madeInAll v_p1_end v_p1_keys v_p1_tape v_p2_pages v_p2_pageNames r_ o_p1_at o_p1_kind o_p1_place o_p1_word o_p1_key o_p1_number o_p1_faultKind o_p1_faultPlace o_p2_now_sixteenths   r8 (-1 : Int32) u9 u10 u11 u12 u13 u14 u15 u16 v_p2_now_sixteenths hf _ _ _ hP (mp_D_of hD rfl) hS (lv_sub hl [2, 0] rfl)


def k_X2_take (T : Nat → ClassId) (a_ a_p1 a_p1_tape a_p1_keys a_p2 a_p2_cellNames a_p2_secretNames a_p2_pageNames a_p2_speed a_p2_letters a_p2_room a_p2_now a_p2_rounds a_p2_now_order a_p2_now_knows a_p2_now_made a_p2_now_sixteenths a_p2_now_dots a_p2_now_used a_p2_now_stands a_p2_rounds_code a_p2_rounds_one a_p2_rounds_other a_p2_rounds_mate : Nat) (v_ordered : Int32) (v_p1_filled : Int32) (v_p1_end : Int32) (v_p1_at : Int32) (v_p1_kind : Int32) (v_p1_place : Int32) (v_p1_word : Int64) (v_p1_key : Int32) (v_p1_number : Int32) (v_p1_faultKind : Int32) (v_p1_faultPlace : Int32) (v_p1_keys : (Nat → Int64)) (v_p1_tape : (Nat → Int32)) (v_p2_cells : Int32) (v_p2_secrets : Int32) (v_p2_pages : Int32) (v_p2_blind : Int32) (v_p2_rubs : Int32) (v_p2_cellNames : (Nat → Int64)) (v_p2_letters : (Nat → Int32)) (v_p2_now_inOrder : Int32) (v_p2_now_place : Int32) (v_p2_now_ill : Int32) (v_p2_now_shut : Int32) (v_p2_now_turns : Int32) (v_p2_now_madeInAll : Int32) (v_p2_now_dots : (Nat → Int32)) (v_p2_now_knows : (Nat → Int32)) (v_p2_now_made : (Nat → Int32)) (v_p2_now_order : (Nat → Int32)) (v_p2_now_sixteenths : (Nat → Int32)) (v_p2_now_stands : (Nat → Int32)) (v_p2_now_used : (Nat → Int32)) (v_p2_pageNames : (Nat → Int64)) (v_p2_room : (Nat → Int32)) (v_p2_rounds_present : Int32) (v_p2_rounds_steps : Int32) (v_p2_rounds_size : Int32) (v_p2_secretNames : (Nat → Int64)) (v_p2_speed : (Nat → Int32)) : va_W := [(a_, oX2 v_ordered), (a_p1, oX8 a_p1_tape v_p1_filled v_p1_end v_p1_at v_p1_kind v_p1_place v_p1_word v_p1_key v_p1_number v_p1_faultKind v_p1_faultPlace a_p1_keys), (a_p1_keys, mp_aJ T 24 v_p1_keys), (a_p1_tape, mp_aB T 900 v_p1_tape), (a_p2, oX1 v_p2_cells v_p2_secrets v_p2_pages a_p2_cellNames a_p2_secretNames a_p2_pageNames a_p2_speed v_p2_blind v_p2_rubs a_p2_letters a_p2_room a_p2_now a_p2_rounds), (a_p2_cellNames, mp_aJ T 8 v_p2_cellNames), (a_p2_letters, mp_aI T 6 v_p2_letters), (a_p2_now, oX7 a_p2_now_order v_p2_now_inOrder v_p2_now_place a_p2_now_knows a_p2_now_made a_p2_now_sixteenths a_p2_now_dots a_p2_now_used a_p2_now_stands v_p2_now_ill v_p2_now_shut v_p2_now_turns v_p2_now_madeInAll), (a_p2_now_dots, mp_aI T 36 v_p2_now_dots), (a_p2_now_knows, mp_aI T 8 v_p2_now_knows), (a_p2_now_made, mp_aI T 8 v_p2_now_made), (a_p2_now_order, mp_aI T 8 v_p2_now_order), (a_p2_now_sixteenths, mp_aI T 6 v_p2_now_sixteenths), (a_p2_now_stands, mp_aI T 6 v_p2_now_stands), (a_p2_now_used, mp_aI T 6 v_p2_now_used), (a_p2_pageNames, mp_aJ T 6 v_p2_pageNames), (a_p2_room, mp_aI T 6 v_p2_room), (a_p2_rounds, oX5 v_p2_rounds_present v_p2_rounds_steps v_p2_rounds_size a_p2_rounds_code a_p2_rounds_one a_p2_rounds_other a_p2_rounds_mate), (a_p2_secretNames, mp_aJ T 6 v_p2_secretNames), (a_p2_speed, mp_aI T 8 v_p2_speed)]
set_option maxHeartbeats 4000000 in
set_option maxRecDepth 100000 in
theorem w_X2_take_163 {p : Program} {l : Launch} {e : Env} {s : State} {m : MethodId} {args : Array Value} {below : List Frame} {meth : Method} {c : Code} {D : va_G} {T : Nat → ClassId} {A : Nat → Prop} (X : mp_X p s m meth c args RX2 "take" cX2_take 5 (some .boolean)) (hK : va_K D mp_cl (mp_ty T) s) (hA : ∀ q, s.heap.size ≤ q → A q) (fu : Nat) (a_ a_p1 a_p1_tape a_p1_keys a_p2 a_p2_cellNames a_p2_secretNames a_p2_pageNames a_p2_speed a_p2_letters a_p2_room a_p2_now a_p2_rounds a_p2_now_order a_p2_now_knows a_p2_now_made a_p2_now_sixteenths a_p2_now_dots a_p2_now_used a_p2_now_stands a_p2_rounds_code a_p2_rounds_one a_p2_rounds_other a_p2_rounds_mate : Nat) (v_p1_filled : Int32) (v_p1_end : Int32) (v_p1_keys : (Nat → Int64)) (v_p1_tape : (Nat → Int32)) (r_ : Int32) (o_ordered : Int32) (o_p1_at : Int32) (o_p1_kind : Int32) (o_p1_place : Int32) (o_p1_word : Int64) (o_p1_key : Int32) (o_p1_number : Int32) (o_p1_faultKind : Int32) (o_p1_faultPlace : Int32) (o_p2_cells : Int32) (o_p2_secrets : Int32) (o_p2_pages : Int32) (o_p2_blind : Int32) (o_p2_rubs : Int32) (o_p2_cellNames : (Nat → Int64)) (o_p2_letters : (Nat → Int32)) (o_p2_now_inOrder : Int32) (o_p2_now_place : Int32) (o_p2_now_ill : Int32) (o_p2_now_shut : Int32) (o_p2_now_turns : Int32) (o_p2_now_madeInAll : Int32) (o_p2_now_dots : (Nat → Int32)) (o_p2_now_knows : (Nat → Int32)) (o_p2_now_made : (Nat → Int32)) (o_p2_now_order : (Nat → Int32)) (o_p2_now_sixteenths : (Nat → Int32)) (o_p2_now_stands : (Nat → Int32)) (o_p2_now_used : (Nat → Int32)) (o_p2_pageNames : (Nat → Int64)) (o_p2_room : (Nat → Int32)) (o_p2_rounds_present : Int32) (o_p2_rounds_steps : Int32) (o_p2_rounds_size : Int32) (o_p2_secretNames : (Nat → Int64)) (o_p2_speed : (Nat → Int32)) :
    ∀  (z3 : Int32) (v_ordered : Int32) (v_p1_at : Int32) (v_p1_kind : Int32) (v_p1_place : Int32) (v_p1_word : Int64) (v_p1_key : Int32) (v_p1_number : Int32) (v_p1_faultKind : Int32) (v_p1_faultPlace : Int32) (v_p2_cells : Int32) (v_p2_secrets : Int32) (v_p2_pages : Int32) (v_p2_blind : Int32) (v_p2_rubs : Int32) (v_p2_cellNames : (Nat → Int64)) (v_p2_letters : (Nat → Int32)) (v_p2_now_inOrder : Int32) (v_p2_now_place : Int32) (v_p2_now_ill : Int32) (v_p2_now_shut : Int32) (v_p2_now_turns : Int32) (v_p2_now_madeInAll : Int32) (v_p2_now_dots : (Nat → Int32)) (v_p2_now_knows : (Nat → Int32)) (v_p2_now_made : (Nat → Int32)) (v_p2_now_order : (Nat → Int32)) (v_p2_now_sixteenths : (Nat → Int32)) (v_p2_now_stands : (Nat → Int32)) (v_p2_now_used : (Nat → Int32)) (v_p2_pageNames : (Nat → Int64)) (v_p2_room : (Nat → Int32)) (v_p2_rounds_present : Int32) (v_p2_rounds_steps : Int32) (v_p2_rounds_size : Int32) (v_p2_secretNames : (Nat → Int64)) (v_p2_speed : (Nat → Int32)), f_X2_take_163 fu v_p1_end v_p1_keys v_p1_tape  z3 v_ordered v_p1_at v_p1_kind v_p1_place v_p1_word v_p1_key v_p1_number v_p1_faultKind v_p1_faultPlace v_p2_cells v_p2_secrets v_p2_pages v_p2_blind v_p2_rubs v_p2_cellNames v_p2_letters v_p2_now_inOrder v_p2_now_place v_p2_now_ill v_p2_now_shut v_p2_now_turns v_p2_now_madeInAll v_p2_now_dots v_p2_now_knows v_p2_now_made v_p2_now_order v_p2_now_sixteenths v_p2_now_stands v_p2_now_used v_p2_pageNames v_p2_room v_p2_rounds_present v_p2_rounds_steps v_p2_rounds_size v_p2_secretNames v_p2_speed = some (r_, o_ordered, o_p1_at, o_p1_kind, o_p1_place, o_p1_word, o_p1_key, o_p1_number, o_p1_faultKind, o_p1_faultPlace, o_p2_cells, o_p2_secrets, o_p2_pages, o_p2_blind, o_p2_rubs, o_p2_cellNames, o_p2_letters, o_p2_now_inOrder, o_p2_now_place, o_p2_now_ill, o_p2_now_shut, o_p2_now_turns, o_p2_now_madeInAll, o_p2_now_dots, o_p2_now_knows, o_p2_now_made, o_p2_now_order, o_p2_now_sixteenths, o_p2_now_stands, o_p2_now_used, o_p2_pageNames, o_p2_room, o_p2_rounds_present, o_p2_rounds_steps, o_p2_rounds_size, o_p2_secretNames, o_p2_speed) → ∀ (H : Heap) (locs : List Loc) (ls : Array Slot), va_P D mp_cl (k_X2_take T a_ a_p1 a_p1_tape a_p1_keys a_p2 a_p2_cellNames a_p2_secretNames a_p2_pageNames a_p2_speed a_p2_letters a_p2_room a_p2_now a_p2_rounds a_p2_now_order a_p2_now_knows a_p2_now_made a_p2_now_sixteenths a_p2_now_dots a_p2_now_used a_p2_now_stands a_p2_rounds_code a_p2_rounds_one a_p2_rounds_other a_p2_rounds_mate v_ordered v_p1_filled v_p1_end v_p1_at v_p1_kind v_p1_place v_p1_word v_p1_key v_p1_number v_p1_faultKind v_p1_faultPlace v_p1_keys v_p1_tape v_p2_cells v_p2_secrets v_p2_pages v_p2_blind v_p2_rubs v_p2_cellNames v_p2_letters v_p2_now_inOrder v_p2_now_place v_p2_now_ill v_p2_now_shut v_p2_now_turns v_p2_now_madeInAll v_p2_now_dots v_p2_now_knows v_p2_now_made v_p2_now_order v_p2_now_sixteenths v_p2_now_stands v_p2_now_used v_p2_pageNames v_p2_room v_p2_rounds_present v_p2_rounds_steps v_p2_rounds_size v_p2_secretNames v_p2_speed) H → va_D A (k_X2_take T a_ a_p1 a_p1_tape a_p1_keys a_p2 a_p2_cellNames a_p2_secretNames a_p2_pageNames a_p2_speed a_p2_letters a_p2_room a_p2_now a_p2_rounds a_p2_now_order a_p2_now_knows a_p2_now_made a_p2_now_sixteenths a_p2_now_dots a_p2_now_used a_p2_now_stands a_p2_rounds_code a_p2_rounds_one a_p2_rounds_other a_p2_rounds_mate v_ordered v_p1_filled v_p1_end v_p1_at v_p1_kind v_p1_place v_p1_word v_p1_key v_p1_number v_p1_faultKind v_p1_faultPlace v_p1_keys v_p1_tape v_p2_cells v_p2_secrets v_p2_pages v_p2_blind v_p2_rubs v_p2_cellNames v_p2_letters v_p2_now_inOrder v_p2_now_place v_p2_now_ill v_p2_now_shut v_p2_now_turns v_p2_now_madeInAll v_p2_now_dots v_p2_now_knows v_p2_now_made v_p2_now_order v_p2_now_sixteenths v_p2_now_stands v_p2_now_used v_p2_pageNames v_p2_room v_p2_rounds_present v_p2_rounds_steps v_p2_rounds_size v_p2_secretNames v_p2_speed) → va_S A s.heap H locs → lv_has ls 5 [(0, .ref a_), (2, .ref a_p2), (3, .int z3)] → W p l e ({ frames := 6, cells := 0, slots := 0, locals := 136 }) s m args below meth c H locs 0 0 (MQ below ((mp_Qi D r_ (k_X2_take T a_ a_p1 a_p1_tape a_p1_keys a_p2 a_p2_cellNames a_p2_secretNames a_p2_pageNames a_p2_speed a_p2_letters a_p2_room a_p2_now a_p2_rounds a_p2_now_order a_p2_now_knows a_p2_now_made a_p2_now_sixteenths a_p2_now_dots a_p2_now_used a_p2_now_stands a_p2_rounds_code a_p2_rounds_one a_p2_rounds_other a_p2_rounds_mate o_ordered v_p1_filled v_p1_end o_p1_at o_p1_kind o_p1_place o_p1_word o_p1_key o_p1_number o_p1_faultKind o_p1_faultPlace v_p1_keys v_p1_tape o_p2_cells o_p2_secrets o_p2_pages o_p2_blind o_p2_rubs o_p2_cellNames o_p2_letters o_p2_now_inOrder o_p2_now_place o_p2_now_ill o_p2_now_shut o_p2_now_turns o_p2_now_madeInAll o_p2_now_dots o_p2_now_knows o_p2_now_made o_p2_now_order o_p2_now_sixteenths o_p2_now_stands o_p2_now_used o_p2_pageNames o_p2_room o_p2_rounds_present o_p2_rounds_steps o_p2_rounds_size o_p2_secretNames o_p2_speed)) A) args s 0 0 A) (F0 m 163 ls []) := by
  have hx := X.1
  have hb := X.2.1
  have hml := X.2.2.1
  have hown := X.2.2.2.2.1
  have hts := X.2.2.2.2.2.1
  intro z3 v_ordered v_p1_at v_p1_kind v_p1_place v_p1_word v_p1_key v_p1_number v_p1_faultKind v_p1_faultPlace v_p2_cells v_p2_secrets v_p2_pages v_p2_blind v_p2_rubs v_p2_cellNames v_p2_letters v_p2_now_inOrder v_p2_now_place v_p2_now_ill v_p2_now_shut v_p2_now_turns v_p2_now_madeInAll v_p2_now_dots v_p2_now_knows v_p2_now_made v_p2_now_order v_p2_now_sixteenths v_p2_now_stands v_p2_now_used v_p2_pageNames v_p2_room v_p2_rounds_present v_p2_rounds_steps v_p2_rounds_size v_p2_secretNames v_p2_speed hf H locs ls hP hD hS hl
  replace hf : (if z3 = 0 then gd_ (z3 = 0 ∨ z3 = 1) (some (z3, v_ordered, v_p1_at, v_p1_kind, v_p1_place, v_p1_word, v_p1_key, v_p1_number, v_p1_faultKind, v_p1_faultPlace, v_p2_cells, v_p2_secrets, v_p2_pages, v_p2_blind, v_p2_rubs, v_p2_cellNames, v_p2_letters, v_p2_now_inOrder, v_p2_now_place, v_p2_now_ill, v_p2_now_shut, v_p2_now_turns, v_p2_now_madeInAll, v_p2_now_dots, v_p2_now_knows, v_p2_now_made, v_p2_now_order, v_p2_now_sixteenths, v_p2_now_stands, v_p2_now_used, v_p2_pageNames, v_p2_room, v_p2_rounds_present, v_p2_rounds_steps, v_p2_rounds_size, v_p2_secretNames, v_p2_speed)) else (if v_ordered = 0 then bd_ (f_X7_orderAll fu v_p2_cells v_p2_now_inOrder v_p2_now_order) (fun (z : Int32 × (Nat → Int32)) => match z with | (u5, u6) => gd_ (z3 = 0 ∨ z3 = 1) (some (z3, v_ordered, v_p1_at, v_p1_kind, v_p1_place, v_p1_word, v_p1_key, v_p1_number, v_p1_faultKind, v_p1_faultPlace, v_p2_cells, v_p2_secrets, v_p2_pages, v_p2_blind, v_p2_rubs, v_p2_cellNames, v_p2_letters, u5, v_p2_now_place, v_p2_now_ill, v_p2_now_shut, v_p2_now_turns, v_p2_now_madeInAll, v_p2_now_dots, v_p2_now_knows, v_p2_now_made, u6, v_p2_now_sixteenths, v_p2_now_stands, v_p2_now_used, v_p2_pageNames, v_p2_room, v_p2_rounds_present, v_p2_rounds_steps, v_p2_rounds_size, v_p2_secretNames, v_p2_speed))) else gd_ (z3 = 0 ∨ z3 = 1) (some (z3, v_ordered, v_p1_at, v_p1_kind, v_p1_place, v_p1_word, v_p1_key, v_p1_number, v_p1_faultKind, v_p1_faultPlace, v_p2_cells, v_p2_secrets, v_p2_pages, v_p2_blind, v_p2_rubs, v_p2_cellNames, v_p2_letters, v_p2_now_inOrder, v_p2_now_place, v_p2_now_ill, v_p2_now_shut, v_p2_now_turns, v_p2_now_madeInAll, v_p2_now_dots, v_p2_now_knows, v_p2_now_made, v_p2_now_order, v_p2_now_sixteenths, v_p2_now_stands, v_p2_now_used, v_p2_pageNames, v_p2_room, v_p2_rounds_present, v_p2_rounds_steps, v_p2_rounds_size, v_p2_secretNames, v_p2_speed)))) = some (r_, o_ordered, o_p1_at, o_p1_kind, o_p1_place, o_p1_word, o_p1_key, o_p1_number, o_p1_faultKind, o_p1_faultPlace, o_p2_cells, o_p2_secrets, o_p2_pages, o_p2_blind, o_p2_rubs, o_p2_cellNames, o_p2_letters, o_p2_now_inOrder, o_p2_now_place, o_p2_now_ill, o_p2_now_shut, o_p2_now_turns, o_p2_now_madeInAll, o_p2_now_dots, o_p2_now_knows, o_p2_now_made, o_p2_now_order, o_p2_now_sixteenths, o_p2_now_stands, o_p2_now_used, o_p2_pageNames, o_p2_room, o_p2_rounds_present, o_p2_rounds_steps, o_p2_rounds_size, o_p2_secretNames, o_p2_speed) := hf
  refine lv_iload_n hx hb dX2_take_163 rfl (lv_at hl 2 rfl) ?_
  refine lv_if_eq (tgt := 185) hx hb dX2_take_164 (by decide) (fun h1 => ?_) (fun h1 => ?_)
  · replace hf := if_t hf h1
    refine lv_iload_n hx hb dX2_take_185 rfl (lv_at hl 2 rfl) ?_
    obtain ⟨h2, hf⟩ := gd_of hf
    cases hf
    exact mp_retz X hP hS rfl h2 dX2_take_186
  · replace hf := if_f hf h1
    refine lv_aload_n hx hb dX2_take_167 rfl (lv_at hl 0 rfl) ?_
    refine mp_get X fl_X2_9 hK hP 0 rfl rfl dX2_take_168 ?_
    refine lv_if_ne (tgt := 185) hx hb dX2_take_171 (by decide) (fun h3 => ?_) (fun h3 => ?_)
    · replace hf := if_f hf h3
      refine lv_iload_n hx hb dX2_take_185 rfl (lv_at hl 2 rfl) ?_
      obtain ⟨h4, hf⟩ := gd_of hf
      cases hf
      exact mp_retz X hP hS rfl h4 dX2_take_186
    · replace hf := if_t hf h3
      refine lv_aload_n hx hb dX2_take_174 rfl (lv_at hl 1 rfl) ?_
      refine mp_get X fl_X2_52 hK hP 4 rfl rfl dX2_take_175 ?_
      refine lv_aload_n hx hb dX2_take_178 rfl (lv_at hl 1 rfl) ?_
      refine mp_get X fl_X2_56 hK hP 4 rfl rfl dX2_take_179 ?_
      obtain ⟨⟨u5, u6⟩, c7, hf⟩ := bd_of hf
      dsimp only at hf
      have hPc := hP.sub (ws' := (k_X7_orderAll T a_p2_now a_p2_now_order a_p2_now_knows a_p2_now_made a_p2_now_sixteenths a_p2_now_dots a_p2_now_used a_p2_now_stands v_p2_now_inOrder v_p2_now_place v_p2_now_ill v_p2_now_shut v_p2_now_turns v_p2_now_madeInAll v_p2_now_order)) [7, 11] rfl
      have hDc := (mp_D_of (w1 := (k_X2_take T a_ a_p1 a_p1_tape a_p1_keys a_p2 a_p2_cellNames a_p2_secretNames a_p2_pageNames a_p2_speed a_p2_letters a_p2_room a_p2_now a_p2_rounds a_p2_now_order a_p2_now_knows a_p2_now_made a_p2_now_sixteenths a_p2_now_dots a_p2_now_used a_p2_now_stands a_p2_rounds_code a_p2_rounds_one a_p2_rounds_other a_p2_rounds_mate v_ordered v_p1_filled v_p1_end v_p1_at v_p1_kind v_p1_place v_p1_word v_p1_key v_p1_number v_p1_faultKind v_p1_faultPlace v_p1_keys v_p1_tape v_p2_cells v_p2_secrets v_p2_pages v_p2_blind v_p2_rubs v_p2_cellNames v_p2_letters v_p2_now_inOrder v_p2_now_place v_p2_now_ill v_p2_now_shut v_p2_now_turns v_p2_now_madeInAll v_p2_now_dots v_p2_now_knows v_p2_now_made v_p2_now_order v_p2_now_sixteenths v_p2_now_stands v_p2_now_used v_p2_pageNames v_p2_room v_p2_rounds_present v_p2_rounds_steps v_p2_rounds_size v_p2_secretNames v_p2_speed)) hD rfl).sub (ws' := (k_X7_orderAll T a_p2_now a_p2_now_order a_p2_now_knows a_p2_now_made a_p2_now_sixteenths a_p2_now_dots a_p2_now_used a_p2_now_stands v_p2_now_inOrder v_p2_now_place v_p2_now_ill v_p2_now_shut v_p2_now_turns v_p2_now_madeInAll v_p2_now_order)) [7, 11] rfl rfl
      refine mp_callv (isC := [7, 11]) (wc := (k_X7_orderAll T a_p2_now a_p2_now_order a_p2_now_knows a_p2_now_made a_p2_now_sixteenths a_p2_now_dots a_p2_now_used a_p2_now_stands v_p2_now_inOrder v_p2_now_place v_p2_now_ill v_p2_now_shut v_p2_now_turns v_p2_now_madeInAll v_p2_now_order)) (w1 := (k_X7_orderAll T a_p2_now a_p2_now_order a_p2_now_knows a_p2_now_made a_p2_now_sixteenths a_p2_now_dots a_p2_now_used a_p2_now_stands u5 v_p2_now_place v_p2_now_ill v_p2_now_shut v_p2_now_turns v_p2_now_madeInAll u6)) hP (mp_D_of hD rfl) hS hA rfl rfl (mp_runV (As := [.int v_p2_cells]) (rest := []) X me_X7_orderAll lk_X2_59 (c_X7_orderAll l D T fu a_p2_now a_p2_now_order a_p2_now_knows a_p2_now_made a_p2_now_sixteenths a_p2_now_dots a_p2_now_used a_p2_now_stands v_p2_cells v_p2_now_place v_p2_now_ill v_p2_now_shut v_p2_now_turns v_p2_now_madeInAll v_p2_now_inOrder v_p2_now_order u5 u6 c7) rfl rfl ⟨(Nat.le_of_ble_eq_true rfl), (Nat.le_of_ble_eq_true rfl)⟩ hK hPc hDc rfl rfl rfl rfl hl.1 rfl (Nat.le_of_ble_eq_true rfl) dX2_take_182 ⟨Nat.zero_le _, Nat.zero_le _⟩) (fun H locs hP _ hS => ?_)
      replace hP : va_P D mp_cl (k_X2_take T a_ a_p1 a_p1_tape a_p1_keys a_p2 a_p2_cellNames a_p2_secretNames a_p2_pageNames a_p2_speed a_p2_letters a_p2_room a_p2_now a_p2_rounds a_p2_now_order a_p2_now_knows a_p2_now_made a_p2_now_sixteenths a_p2_now_dots a_p2_now_used a_p2_now_stands a_p2_rounds_code a_p2_rounds_one a_p2_rounds_other a_p2_rounds_mate v_ordered v_p1_filled v_p1_end v_p1_at v_p1_kind v_p1_place v_p1_word v_p1_key v_p1_number v_p1_faultKind v_p1_faultPlace v_p1_keys v_p1_tape v_p2_cells v_p2_secrets v_p2_pages v_p2_blind v_p2_rubs v_p2_cellNames v_p2_letters u5 v_p2_now_place v_p2_now_ill v_p2_now_shut v_p2_now_turns v_p2_now_madeInAll v_p2_now_dots v_p2_now_knows v_p2_now_made u6 v_p2_now_sixteenths v_p2_now_stands v_p2_now_used v_p2_pageNames v_p2_room v_p2_rounds_present v_p2_rounds_steps v_p2_rounds_size v_p2_secretNames v_p2_speed) H := hP
      refine lv_iload_n hx hb dX2_take_185 rfl (lv_at hl 2 rfl) ?_
      obtain ⟨h8, hf⟩ := gd_of hf
      cases hf
      exact mp_retz X hP hS rfl h8 dX2_take_186

set_option maxHeartbeats 4000000 in
set_option maxRecDepth 100000 in
theorem w_X2_take_14 {p : Program} {l : Launch} {e : Env} {s : State} {m : MethodId} {args : Array Value} {below : List Frame} {meth : Method} {c : Code} {D : va_G} {T : Nat → ClassId} {A : Nat → Prop} (X : mp_X p s m meth c args RX2 "take" cX2_take 5 (some .boolean)) (hK : va_K D mp_cl (mp_ty T) s) (hA : ∀ q, s.heap.size ≤ q → A q) (fu : Nat) (a_ a_p1 a_p1_tape a_p1_keys a_p2 a_p2_cellNames a_p2_secretNames a_p2_pageNames a_p2_speed a_p2_letters a_p2_room a_p2_now a_p2_rounds a_p2_now_order a_p2_now_knows a_p2_now_made a_p2_now_sixteenths a_p2_now_dots a_p2_now_used a_p2_now_stands a_p2_rounds_code a_p2_rounds_one a_p2_rounds_other a_p2_rounds_mate : Nat) (v_p1_filled : Int32) (v_p1_end : Int32) (v_p1_keys : (Nat → Int64)) (v_p1_tape : (Nat → Int32)) (r_ : Int32) (o_ordered : Int32) (o_p1_at : Int32) (o_p1_kind : Int32) (o_p1_place : Int32) (o_p1_word : Int64) (o_p1_key : Int32) (o_p1_number : Int32) (o_p1_faultKind : Int32) (o_p1_faultPlace : Int32) (o_p2_cells : Int32) (o_p2_secrets : Int32) (o_p2_pages : Int32) (o_p2_blind : Int32) (o_p2_rubs : Int32) (o_p2_cellNames : (Nat → Int64)) (o_p2_letters : (Nat → Int32)) (o_p2_now_inOrder : Int32) (o_p2_now_place : Int32) (o_p2_now_ill : Int32) (o_p2_now_shut : Int32) (o_p2_now_turns : Int32) (o_p2_now_madeInAll : Int32) (o_p2_now_dots : (Nat → Int32)) (o_p2_now_knows : (Nat → Int32)) (o_p2_now_made : (Nat → Int32)) (o_p2_now_order : (Nat → Int32)) (o_p2_now_sixteenths : (Nat → Int32)) (o_p2_now_stands : (Nat → Int32)) (o_p2_now_used : (Nat → Int32)) (o_p2_pageNames : (Nat → Int64)) (o_p2_room : (Nat → Int32)) (o_p2_rounds_present : Int32) (o_p2_rounds_steps : Int32) (o_p2_rounds_size : Int32) (o_p2_secretNames : (Nat → Int64)) (o_p2_speed : (Nat → Int32)) :
    ∀ (n : Nat) (z3 : Int32) (z4 : Int32) (v_ordered : Int32) (v_p1_at : Int32) (v_p1_kind : Int32) (v_p1_place : Int32) (v_p1_word : Int64) (v_p1_key : Int32) (v_p1_number : Int32) (v_p1_faultKind : Int32) (v_p1_faultPlace : Int32) (v_p2_cells : Int32) (v_p2_secrets : Int32) (v_p2_pages : Int32) (v_p2_blind : Int32) (v_p2_rubs : Int32) (v_p2_cellNames : (Nat → Int64)) (v_p2_letters : (Nat → Int32)) (v_p2_now_inOrder : Int32) (v_p2_now_place : Int32) (v_p2_now_ill : Int32) (v_p2_now_shut : Int32) (v_p2_now_turns : Int32) (v_p2_now_madeInAll : Int32) (v_p2_now_dots : (Nat → Int32)) (v_p2_now_knows : (Nat → Int32)) (v_p2_now_made : (Nat → Int32)) (v_p2_now_order : (Nat → Int32)) (v_p2_now_sixteenths : (Nat → Int32)) (v_p2_now_stands : (Nat → Int32)) (v_p2_now_used : (Nat → Int32)) (v_p2_pageNames : (Nat → Int64)) (v_p2_room : (Nat → Int32)) (v_p2_rounds_present : Int32) (v_p2_rounds_steps : Int32) (v_p2_rounds_size : Int32) (v_p2_secretNames : (Nat → Int64)) (v_p2_speed : (Nat → Int32)), f_X2_take_14 fu v_p1_end v_p1_keys v_p1_tape  n z3 z4 v_ordered v_p1_at v_p1_kind v_p1_place v_p1_word v_p1_key v_p1_number v_p1_faultKind v_p1_faultPlace v_p2_cells v_p2_secrets v_p2_pages v_p2_blind v_p2_rubs v_p2_cellNames v_p2_letters v_p2_now_inOrder v_p2_now_place v_p2_now_ill v_p2_now_shut v_p2_now_turns v_p2_now_madeInAll v_p2_now_dots v_p2_now_knows v_p2_now_made v_p2_now_order v_p2_now_sixteenths v_p2_now_stands v_p2_now_used v_p2_pageNames v_p2_room v_p2_rounds_present v_p2_rounds_steps v_p2_rounds_size v_p2_secretNames v_p2_speed = some (r_, o_ordered, o_p1_at, o_p1_kind, o_p1_place, o_p1_word, o_p1_key, o_p1_number, o_p1_faultKind, o_p1_faultPlace, o_p2_cells, o_p2_secrets, o_p2_pages, o_p2_blind, o_p2_rubs, o_p2_cellNames, o_p2_letters, o_p2_now_inOrder, o_p2_now_place, o_p2_now_ill, o_p2_now_shut, o_p2_now_turns, o_p2_now_madeInAll, o_p2_now_dots, o_p2_now_knows, o_p2_now_made, o_p2_now_order, o_p2_now_sixteenths, o_p2_now_stands, o_p2_now_used, o_p2_pageNames, o_p2_room, o_p2_rounds_present, o_p2_rounds_steps, o_p2_rounds_size, o_p2_secretNames, o_p2_speed) → ∀ (H : Heap) (locs : List Loc) (ls : Array Slot), va_P D mp_cl (k_X2_take T a_ a_p1 a_p1_tape a_p1_keys a_p2 a_p2_cellNames a_p2_secretNames a_p2_pageNames a_p2_speed a_p2_letters a_p2_room a_p2_now a_p2_rounds a_p2_now_order a_p2_now_knows a_p2_now_made a_p2_now_sixteenths a_p2_now_dots a_p2_now_used a_p2_now_stands a_p2_rounds_code a_p2_rounds_one a_p2_rounds_other a_p2_rounds_mate v_ordered v_p1_filled v_p1_end v_p1_at v_p1_kind v_p1_place v_p1_word v_p1_key v_p1_number v_p1_faultKind v_p1_faultPlace v_p1_keys v_p1_tape v_p2_cells v_p2_secrets v_p2_pages v_p2_blind v_p2_rubs v_p2_cellNames v_p2_letters v_p2_now_inOrder v_p2_now_place v_p2_now_ill v_p2_now_shut v_p2_now_turns v_p2_now_madeInAll v_p2_now_dots v_p2_now_knows v_p2_now_made v_p2_now_order v_p2_now_sixteenths v_p2_now_stands v_p2_now_used v_p2_pageNames v_p2_room v_p2_rounds_present v_p2_rounds_steps v_p2_rounds_size v_p2_secretNames v_p2_speed) H → va_D A (k_X2_take T a_ a_p1 a_p1_tape a_p1_keys a_p2 a_p2_cellNames a_p2_secretNames a_p2_pageNames a_p2_speed a_p2_letters a_p2_room a_p2_now a_p2_rounds a_p2_now_order a_p2_now_knows a_p2_now_made a_p2_now_sixteenths a_p2_now_dots a_p2_now_used a_p2_now_stands a_p2_rounds_code a_p2_rounds_one a_p2_rounds_other a_p2_rounds_mate v_ordered v_p1_filled v_p1_end v_p1_at v_p1_kind v_p1_place v_p1_word v_p1_key v_p1_number v_p1_faultKind v_p1_faultPlace v_p1_keys v_p1_tape v_p2_cells v_p2_secrets v_p2_pages v_p2_blind v_p2_rubs v_p2_cellNames v_p2_letters v_p2_now_inOrder v_p2_now_place v_p2_now_ill v_p2_now_shut v_p2_now_turns v_p2_now_madeInAll v_p2_now_dots v_p2_now_knows v_p2_now_made v_p2_now_order v_p2_now_sixteenths v_p2_now_stands v_p2_now_used v_p2_pageNames v_p2_room v_p2_rounds_present v_p2_rounds_steps v_p2_rounds_size v_p2_secretNames v_p2_speed) → va_S A s.heap H locs → lv_has ls 5 [(0, .ref a_), (1, .ref a_p1), (2, .ref a_p2), (3, .int z3), (4, .int z4)] → W p l e ({ frames := 6, cells := 0, slots := 0, locals := 136 }) s m args below meth c H locs 0 0 (MQ below ((mp_Qi D r_ (k_X2_take T a_ a_p1 a_p1_tape a_p1_keys a_p2 a_p2_cellNames a_p2_secretNames a_p2_pageNames a_p2_speed a_p2_letters a_p2_room a_p2_now a_p2_rounds a_p2_now_order a_p2_now_knows a_p2_now_made a_p2_now_sixteenths a_p2_now_dots a_p2_now_used a_p2_now_stands a_p2_rounds_code a_p2_rounds_one a_p2_rounds_other a_p2_rounds_mate o_ordered v_p1_filled v_p1_end o_p1_at o_p1_kind o_p1_place o_p1_word o_p1_key o_p1_number o_p1_faultKind o_p1_faultPlace v_p1_keys v_p1_tape o_p2_cells o_p2_secrets o_p2_pages o_p2_blind o_p2_rubs o_p2_cellNames o_p2_letters o_p2_now_inOrder o_p2_now_place o_p2_now_ill o_p2_now_shut o_p2_now_turns o_p2_now_madeInAll o_p2_now_dots o_p2_now_knows o_p2_now_made o_p2_now_order o_p2_now_sixteenths o_p2_now_stands o_p2_now_used o_p2_pageNames o_p2_room o_p2_rounds_present o_p2_rounds_steps o_p2_rounds_size o_p2_secretNames o_p2_speed)) A) args s 0 0 A) (F0 m 14 ls []) := by
  have hx := X.1
  have hb := X.2.1
  have hml := X.2.2.1
  have hown := X.2.2.2.2.1
  have hts := X.2.2.2.2.2.1
  intro n
  induction n with
  | zero => intro z3 z4 v_ordered v_p1_at v_p1_kind v_p1_place v_p1_word v_p1_key v_p1_number v_p1_faultKind v_p1_faultPlace v_p2_cells v_p2_secrets v_p2_pages v_p2_blind v_p2_rubs v_p2_cellNames v_p2_letters v_p2_now_inOrder v_p2_now_place v_p2_now_ill v_p2_now_shut v_p2_now_turns v_p2_now_madeInAll v_p2_now_dots v_p2_now_knows v_p2_now_made v_p2_now_order v_p2_now_sixteenths v_p2_now_stands v_p2_now_used v_p2_pageNames v_p2_room v_p2_rounds_present v_p2_rounds_steps v_p2_rounds_size v_p2_secretNames v_p2_speed hf; exact absurd hf (by intro h; cases h)
  | succ n ih =>
    intro z3 z4 v_ordered v_p1_at v_p1_kind v_p1_place v_p1_word v_p1_key v_p1_number v_p1_faultKind v_p1_faultPlace v_p2_cells v_p2_secrets v_p2_pages v_p2_blind v_p2_rubs v_p2_cellNames v_p2_letters v_p2_now_inOrder v_p2_now_place v_p2_now_ill v_p2_now_shut v_p2_now_turns v_p2_now_madeInAll v_p2_now_dots v_p2_now_knows v_p2_now_made v_p2_now_order v_p2_now_sixteenths v_p2_now_stands v_p2_now_used v_p2_pageNames v_p2_room v_p2_rounds_present v_p2_rounds_steps v_p2_rounds_size v_p2_secretNames v_p2_speed hf H locs ls hP hD hS hl
    replace hf : (if (nI 900) ≤ z4 then f_X2_take_163 fu v_p1_end v_p1_keys v_p1_tape  z3 v_ordered v_p1_at v_p1_kind v_p1_place v_p1_word v_p1_key v_p1_number v_p1_faultKind v_p1_faultPlace v_p2_cells v_p2_secrets v_p2_pages v_p2_blind v_p2_rubs v_p2_cellNames v_p2_letters v_p2_now_inOrder v_p2_now_place v_p2_now_ill v_p2_now_shut v_p2_now_turns v_p2_now_madeInAll v_p2_now_dots v_p2_now_knows v_p2_now_made v_p2_now_order v_p2_now_sixteenths v_p2_now_stands v_p2_now_used v_p2_pageNames v_p2_room v_p2_rounds_present v_p2_rounds_steps v_p2_rounds_size v_p2_secretNames v_p2_speed else (if z3 = 0 then f_X2_take_163 fu v_p1_end v_p1_keys v_p1_tape  z3 v_ordered v_p1_at v_p1_kind v_p1_place v_p1_word v_p1_key v_p1_number v_p1_faultKind v_p1_faultPlace v_p2_cells v_p2_secrets v_p2_pages v_p2_blind v_p2_rubs v_p2_cellNames v_p2_letters v_p2_now_inOrder v_p2_now_place v_p2_now_ill v_p2_now_shut v_p2_now_turns v_p2_now_madeInAll v_p2_now_dots v_p2_now_knows v_p2_now_made v_p2_now_order v_p2_now_sixteenths v_p2_now_stands v_p2_now_used v_p2_pageNames v_p2_room v_p2_rounds_present v_p2_rounds_steps v_p2_rounds_size v_p2_secretNames v_p2_speed else (if v_p1_kind = 0 then f_X2_take_163 fu v_p1_end v_p1_keys v_p1_tape  z3 v_ordered v_p1_at v_p1_kind v_p1_place v_p1_word v_p1_key v_p1_number v_p1_faultKind v_p1_faultPlace v_p2_cells v_p2_secrets v_p2_pages v_p2_blind v_p2_rubs v_p2_cellNames v_p2_letters v_p2_now_inOrder v_p2_now_place v_p2_now_ill v_p2_now_shut v_p2_now_turns v_p2_now_madeInAll v_p2_now_dots v_p2_now_knows v_p2_now_made v_p2_now_order v_p2_now_sixteenths v_p2_now_stands v_p2_now_used v_p2_pageNames v_p2_room v_p2_rounds_present v_p2_rounds_steps v_p2_rounds_size v_p2_secretNames v_p2_speed else (if v_p1_key = (nI 0) then bd_ (f_X2_takeCell fu v_p1_end v_p1_at v_p1_kind v_p1_place v_p1_word v_p1_key v_p1_number v_p1_faultKind v_p1_faultPlace v_p1_keys v_p1_tape v_p2_cells v_p2_secrets v_p2_pages v_p2_blind v_p2_rubs v_p2_cellNames v_p2_pageNames v_p2_secretNames v_p2_speed) (fun (z : Int32 × Int32 × Int32 × Int32 × Int64 × Int32 × Int32 × Int32 × Int32 × Int32 × Int32 × Int32 × (Nat → Int64) × (Nat → Int32)) => match z with | (r5, u6, u7, u8, u9, u10, u11, u12, u13, u14, u15, u16, u17, u18) => lt_ (z4 + (nI 1)) (fun (y20 : Int32) => f_X2_take_14 fu v_p1_end v_p1_keys v_p1_tape  n r5 y20 v_ordered u6 u7 u8 u9 u10 u11 u12 u13 u14 v_p2_secrets v_p2_pages u15 u16 u17 v_p2_letters v_p2_now_inOrder v_p2_now_place v_p2_now_ill v_p2_now_shut v_p2_now_turns v_p2_now_madeInAll v_p2_now_dots v_p2_now_knows v_p2_now_made v_p2_now_order v_p2_now_sixteenths v_p2_now_stands v_p2_now_used v_p2_pageNames v_p2_room v_p2_rounds_present v_p2_rounds_steps v_p2_rounds_size v_p2_secretNames u18)) else (if v_p1_key = (nI 1) then bd_ (f_X8_fail (nI 2) v_p1_kind v_p1_place v_p1_faultKind v_p1_faultPlace) (fun (z : Int32 × Int32 × Int32) => match z with | (r22, u23, u24) => lt_ (z4 + (nI 1)) (fun (y26 : Int32) => f_X2_take_14 fu v_p1_end v_p1_keys v_p1_tape  n r22 y26 v_ordered v_p1_at v_p1_kind v_p1_place v_p1_word v_p1_key v_p1_number u23 u24 v_p2_cells v_p2_secrets v_p2_pages v_p2_blind v_p2_rubs v_p2_cellNames v_p2_letters v_p2_now_inOrder v_p2_now_place v_p2_now_ill v_p2_now_shut v_p2_now_turns v_p2_now_madeInAll v_p2_now_dots v_p2_now_knows v_p2_now_made v_p2_now_order v_p2_now_sixteenths v_p2_now_stands v_p2_now_used v_p2_pageNames v_p2_room v_p2_rounds_present v_p2_rounds_steps v_p2_rounds_size v_p2_secretNames v_p2_speed)) else (if v_p1_key = (nI 2) then bd_ (f_X8_fail (nI 2) v_p1_kind v_p1_place v_p1_faultKind v_p1_faultPlace) (fun (z : Int32 × Int32 × Int32) => match z with | (r28, u29, u30) => lt_ (z4 + (nI 1)) (fun (y32 : Int32) => f_X2_take_14 fu v_p1_end v_p1_keys v_p1_tape  n r28 y32 v_ordered v_p1_at v_p1_kind v_p1_place v_p1_word v_p1_key v_p1_number u29 u30 v_p2_cells v_p2_secrets v_p2_pages v_p2_blind v_p2_rubs v_p2_cellNames v_p2_letters v_p2_now_inOrder v_p2_now_place v_p2_now_ill v_p2_now_shut v_p2_now_turns v_p2_now_madeInAll v_p2_now_dots v_p2_now_knows v_p2_now_made v_p2_now_order v_p2_now_sixteenths v_p2_now_stands v_p2_now_used v_p2_pageNames v_p2_room v_p2_rounds_present v_p2_rounds_steps v_p2_rounds_size v_p2_secretNames v_p2_speed)) else (if v_p1_key = (nI 3) then bd_ (f_X8_fail (nI 2) v_p1_kind v_p1_place v_p1_faultKind v_p1_faultPlace) (fun (z : Int32 × Int32 × Int32) => match z with | (r34, u35, u36) => lt_ (z4 + (nI 1)) (fun (y38 : Int32) => f_X2_take_14 fu v_p1_end v_p1_keys v_p1_tape  n r34 y38 v_ordered v_p1_at v_p1_kind v_p1_place v_p1_word v_p1_key v_p1_number u35 u36 v_p2_cells v_p2_secrets v_p2_pages v_p2_blind v_p2_rubs v_p2_cellNames v_p2_letters v_p2_now_inOrder v_p2_now_place v_p2_now_ill v_p2_now_shut v_p2_now_turns v_p2_now_madeInAll v_p2_now_dots v_p2_now_knows v_p2_now_made v_p2_now_order v_p2_now_sixteenths v_p2_now_stands v_p2_now_used v_p2_pageNames v_p2_room v_p2_rounds_present v_p2_rounds_steps v_p2_rounds_size v_p2_secretNames v_p2_speed)) else (if v_p1_key = (nI 4) then bd_ (f_X2_takeSecret fu v_p1_end v_p1_at v_p1_kind v_p1_place v_p1_word v_p1_key v_p1_number v_p1_faultKind v_p1_faultPlace v_p1_keys v_p1_tape v_p2_cells v_p2_secrets v_p2_pages v_p2_cellNames v_p2_letters v_p2_pageNames v_p2_secretNames) (fun (z : Int32 × Int32 × Int32 × Int32 × Int64 × Int32 × Int32 × Int32 × Int32 × Int32 × (Nat → Int32) × (Nat → Int64)) => match z with | (r40, u41, u42, u43, u44, u45, u46, u47, u48, u49, u50, u51) => lt_ (z4 + (nI 1)) (fun (y53 : Int32) => f_X2_take_14 fu v_p1_end v_p1_keys v_p1_tape  n r40 y53 v_ordered u41 u42 u43 u44 u45 u46 u47 u48 v_p2_cells u49 v_p2_pages v_p2_blind v_p2_rubs v_p2_cellNames u50 v_p2_now_inOrder v_p2_now_place v_p2_now_ill v_p2_now_shut v_p2_now_turns v_p2_now_madeInAll v_p2_now_dots v_p2_now_knows v_p2_now_made v_p2_now_order v_p2_now_sixteenths v_p2_now_stands v_p2_now_used v_p2_pageNames v_p2_room v_p2_rounds_present v_p2_rounds_steps v_p2_rounds_size u51 v_p2_speed)) else (if v_p1_key = (nI 5) then bd_ (f_X8_fail (nI 2) v_p1_kind v_p1_place v_p1_faultKind v_p1_faultPlace) (fun (z : Int32 × Int32 × Int32) => match z with | (r55, u56, u57) => lt_ (z4 + (nI 1)) (fun (y59 : Int32) => f_X2_take_14 fu v_p1_end v_p1_keys v_p1_tape  n r55 y59 v_ordered v_p1_at v_p1_kind v_p1_place v_p1_word v_p1_key v_p1_number u56 u57 v_p2_cells v_p2_secrets v_p2_pages v_p2_blind v_p2_rubs v_p2_cellNames v_p2_letters v_p2_now_inOrder v_p2_now_place v_p2_now_ill v_p2_now_shut v_p2_now_turns v_p2_now_madeInAll v_p2_now_dots v_p2_now_knows v_p2_now_made v_p2_now_order v_p2_now_sixteenths v_p2_now_stands v_p2_now_used v_p2_pageNames v_p2_room v_p2_rounds_present v_p2_rounds_steps v_p2_rounds_size v_p2_secretNames v_p2_speed)) else (if v_p1_key = (nI 6) then bd_ (f_X2_takePage fu v_p1_end v_p1_at v_p1_kind v_p1_place v_p1_word v_p1_key v_p1_number v_p1_faultKind v_p1_faultPlace v_p1_keys v_p1_tape v_p2_cells v_p2_secrets v_p2_pages v_p2_cellNames v_p2_pageNames v_p2_room v_p2_secretNames) (fun (z : Int32 × Int32 × Int32 × Int32 × Int64 × Int32 × Int32 × Int32 × Int32 × Int32 × (Nat → Int64) × (Nat → Int32)) => match z with | (r61, u62, u63, u64, u65, u66, u67, u68, u69, u70, u71, u72) => lt_ (z4 + (nI 1)) (fun (y74 : Int32) => f_X2_take_14 fu v_p1_end v_p1_keys v_p1_tape  n r61 y74 v_ordered u62 u63 u64 u65 u66 u67 u68 u69 v_p2_cells v_p2_secrets u70 v_p2_blind v_p2_rubs v_p2_cellNames v_p2_letters v_p2_now_inOrder v_p2_now_place v_p2_now_ill v_p2_now_shut v_p2_now_turns v_p2_now_madeInAll v_p2_now_dots v_p2_now_knows v_p2_now_made v_p2_now_order v_p2_now_sixteenths v_p2_now_stands v_p2_now_used u71 u72 v_p2_rounds_present v_p2_rounds_steps v_p2_rounds_size v_p2_secretNames v_p2_speed)) else (if v_p1_key = (nI 7) then bd_ (f_X8_fail (nI 2) v_p1_kind v_p1_place v_p1_faultKind v_p1_faultPlace) (fun (z : Int32 × Int32 × Int32) => match z with | (r76, u77, u78) => lt_ (z4 + (nI 1)) (fun (y80 : Int32) => f_X2_take_14 fu v_p1_end v_p1_keys v_p1_tape  n r76 y80 v_ordered v_p1_at v_p1_kind v_p1_place v_p1_word v_p1_key v_p1_number u77 u78 v_p2_cells v_p2_secrets v_p2_pages v_p2_blind v_p2_rubs v_p2_cellNames v_p2_letters v_p2_now_inOrder v_p2_now_place v_p2_now_ill v_p2_now_shut v_p2_now_turns v_p2_now_madeInAll v_p2_now_dots v_p2_now_knows v_p2_now_made v_p2_now_order v_p2_now_sixteenths v_p2_now_stands v_p2_now_used v_p2_pageNames v_p2_room v_p2_rounds_present v_p2_rounds_steps v_p2_rounds_size v_p2_secretNames v_p2_speed)) else (if v_p1_key = (nI 8) then bd_ (f_X2_takeKnows fu v_p1_end v_p1_at v_p1_kind v_p1_place v_p1_word v_p1_key v_p1_number v_p1_faultKind v_p1_faultPlace v_p1_keys v_p1_tape v_p2_cells v_p2_secrets v_p2_cellNames v_p2_now_knows v_p2_secretNames) (fun (z : Int32 × Int32 × Int32 × Int32 × Int64 × Int32 × Int32 × Int32 × Int32 × (Nat → Int32)) => match z with | (r82, u83, u84, u85, u86, u87, u88, u89, u90, u91) => lt_ (z4 + (nI 1)) (fun (y93 : Int32) => f_X2_take_14 fu v_p1_end v_p1_keys v_p1_tape  n r82 y93 v_ordered u83 u84 u85 u86 u87 u88 u89 u90 v_p2_cells v_p2_secrets v_p2_pages v_p2_blind v_p2_rubs v_p2_cellNames v_p2_letters v_p2_now_inOrder v_p2_now_place v_p2_now_ill v_p2_now_shut v_p2_now_turns v_p2_now_madeInAll v_p2_now_dots u91 v_p2_now_made v_p2_now_order v_p2_now_sixteenths v_p2_now_stands v_p2_now_used v_p2_pageNames v_p2_room v_p2_rounds_present v_p2_rounds_steps v_p2_rounds_size v_p2_secretNames v_p2_speed)) else (if v_p1_key = (nI 9) then bd_ (f_X2_takeOrder fu v_ordered v_p1_end v_p1_at v_p1_kind v_p1_place v_p1_word v_p1_key v_p1_number v_p1_faultKind v_p1_faultPlace v_p1_keys v_p1_tape v_p2_cells v_p2_cellNames v_p2_now_inOrder v_p2_now_order) (fun (z : Int32 × Int32 × Int32 × Int32 × Int32 × Int64 × Int32 × Int32 × Int32 × Int32 × Int32 × (Nat → Int32)) => match z with | (r95, u96, u97, u98, u99, u100, u101, u102, u103, u104, u105, u106) => lt_ (z4 + (nI 1)) (fun (y108 : Int32) => f_X2_take_14 fu v_p1_end v_p1_keys v_p1_tape  n r95 y108 u96 u97 u98 u99 u100 u101 u102 u103 u104 v_p2_cells v_p2_secrets v_p2_pages v_p2_blind v_p2_rubs v_p2_cellNames v_p2_letters u105 v_p2_now_place v_p2_now_ill v_p2_now_shut v_p2_now_turns v_p2_now_madeInAll v_p2_now_dots v_p2_now_knows v_p2_now_made u106 v_p2_now_sixteenths v_p2_now_stands v_p2_now_used v_p2_pageNames v_p2_room v_p2_rounds_present v_p2_rounds_steps v_p2_rounds_size v_p2_secretNames v_p2_speed)) else (if v_p1_key = (nI 10) then bd_ (f_X2_takeRead fu v_p1_end v_p1_at v_p1_kind v_p1_place v_p1_word v_p1_key v_p1_number v_p1_faultKind v_p1_faultPlace v_p1_keys v_p1_tape v_p2_pages v_p2_now_sixteenths v_p2_pageNames) (fun (z : Int32 × Int32 × Int32 × Int32 × Int64 × Int32 × Int32 × Int32 × Int32 × (Nat → Int32)) => match z with | (r110, u111, u112, u113, u114, u115, u116, u117, u118, u119) => lt_ (z4 + (nI 1)) (fun (y121 : Int32) => f_X2_take_14 fu v_p1_end v_p1_keys v_p1_tape  n r110 y121 v_ordered u111 u112 u113 u114 u115 u116 u117 u118 v_p2_cells v_p2_secrets v_p2_pages v_p2_blind v_p2_rubs v_p2_cellNames v_p2_letters v_p2_now_inOrder v_p2_now_place v_p2_now_ill v_p2_now_shut v_p2_now_turns v_p2_now_madeInAll v_p2_now_dots v_p2_now_knows v_p2_now_made v_p2_now_order u119 v_p2_now_stands v_p2_now_used v_p2_pageNames v_p2_room v_p2_rounds_present v_p2_rounds_steps v_p2_rounds_size v_p2_secretNames v_p2_speed)) else bd_ (f_X8_fail (nI 2) v_p1_kind v_p1_place v_p1_faultKind v_p1_faultPlace) (fun (z : Int32 × Int32 × Int32) => match z with | (r122, u123, u124) => lt_ (z4 + (nI 1)) (fun (y126 : Int32) => f_X2_take_14 fu v_p1_end v_p1_keys v_p1_tape  n r122 y126 v_ordered v_p1_at v_p1_kind v_p1_place v_p1_word v_p1_key v_p1_number u123 u124 v_p2_cells v_p2_secrets v_p2_pages v_p2_blind v_p2_rubs v_p2_cellNames v_p2_letters v_p2_now_inOrder v_p2_now_place v_p2_now_ill v_p2_now_shut v_p2_now_turns v_p2_now_madeInAll v_p2_now_dots v_p2_now_knows v_p2_now_made v_p2_now_order v_p2_now_sixteenths v_p2_now_stands v_p2_now_used v_p2_pageNames v_p2_room v_p2_rounds_present v_p2_rounds_steps v_p2_rounds_size v_p2_secretNames v_p2_speed)))))))))))))))) = some (r_, o_ordered, o_p1_at, o_p1_kind, o_p1_place, o_p1_word, o_p1_key, o_p1_number, o_p1_faultKind, o_p1_faultPlace, o_p2_cells, o_p2_secrets, o_p2_pages, o_p2_blind, o_p2_rubs, o_p2_cellNames, o_p2_letters, o_p2_now_inOrder, o_p2_now_place, o_p2_now_ill, o_p2_now_shut, o_p2_now_turns, o_p2_now_madeInAll, o_p2_now_dots, o_p2_now_knows, o_p2_now_made, o_p2_now_order, o_p2_now_sixteenths, o_p2_now_stands, o_p2_now_used, o_p2_pageNames, o_p2_room, o_p2_rounds_present, o_p2_rounds_steps, o_p2_rounds_size, o_p2_secretNames, o_p2_speed) := hf
    refine lv_iload hx hb dX2_take_14 (lv_at hl 4 rfl) ?_
    refine lv_sipush (v := (nI 900)) hx hb dX2_take_16 (by decide) ?_
    refine lv_icmp_ge (tgt := 163) hx hb dX2_take_19 (by decide) (fun h1 => ?_) (fun h1 => ?_)
    · replace hf := if_t hf h1
      exact w_X2_take_163 X hK hA  fu a_ a_p1 a_p1_tape a_p1_keys a_p2 a_p2_cellNames a_p2_secretNames a_p2_pageNames a_p2_speed a_p2_letters a_p2_room a_p2_now a_p2_rounds a_p2_now_order a_p2_now_knows a_p2_now_made a_p2_now_sixteenths a_p2_now_dots a_p2_now_used a_p2_now_stands a_p2_rounds_code a_p2_rounds_one a_p2_rounds_other a_p2_rounds_mate v_p1_filled v_p1_end v_p1_keys v_p1_tape r_ o_ordered o_p1_at o_p1_kind o_p1_place o_p1_word o_p1_key o_p1_number o_p1_faultKind o_p1_faultPlace o_p2_cells o_p2_secrets o_p2_pages o_p2_blind o_p2_rubs o_p2_cellNames o_p2_letters o_p2_now_inOrder o_p2_now_place o_p2_now_ill o_p2_now_shut o_p2_now_turns o_p2_now_madeInAll o_p2_now_dots o_p2_now_knows o_p2_now_made o_p2_now_order o_p2_now_sixteenths o_p2_now_stands o_p2_now_used o_p2_pageNames o_p2_room o_p2_rounds_present o_p2_rounds_steps o_p2_rounds_size o_p2_secretNames o_p2_speed   z3 v_ordered v_p1_at v_p1_kind v_p1_place v_p1_word v_p1_key v_p1_number v_p1_faultKind v_p1_faultPlace v_p2_cells v_p2_secrets v_p2_pages v_p2_blind v_p2_rubs v_p2_cellNames v_p2_letters v_p2_now_inOrder v_p2_now_place v_p2_now_ill v_p2_now_shut v_p2_now_turns v_p2_now_madeInAll v_p2_now_dots v_p2_now_knows v_p2_now_made v_p2_now_order v_p2_now_sixteenths v_p2_now_stands v_p2_now_used v_p2_pageNames v_p2_room v_p2_rounds_present v_p2_rounds_steps v_p2_rounds_size v_p2_secretNames v_p2_speed hf _ _ _ hP (mp_D_of hD rfl) hS (lv_sub hl [0, 2, 3] rfl)
    · replace hf := if_f hf h1
      refine lv_iload_n hx hb dX2_take_22 rfl (lv_at hl 3 rfl) ?_
      refine lv_if_eq (tgt := 163) hx hb dX2_take_23 (by decide) (fun h2 => ?_) (fun h2 => ?_)
      · replace hf := if_t hf h2
        exact w_X2_take_163 X hK hA  fu a_ a_p1 a_p1_tape a_p1_keys a_p2 a_p2_cellNames a_p2_secretNames a_p2_pageNames a_p2_speed a_p2_letters a_p2_room a_p2_now a_p2_rounds a_p2_now_order a_p2_now_knows a_p2_now_made a_p2_now_sixteenths a_p2_now_dots a_p2_now_used a_p2_now_stands a_p2_rounds_code a_p2_rounds_one a_p2_rounds_other a_p2_rounds_mate v_p1_filled v_p1_end v_p1_keys v_p1_tape r_ o_ordered o_p1_at o_p1_kind o_p1_place o_p1_word o_p1_key o_p1_number o_p1_faultKind o_p1_faultPlace o_p2_cells o_p2_secrets o_p2_pages o_p2_blind o_p2_rubs o_p2_cellNames o_p2_letters o_p2_now_inOrder o_p2_now_place o_p2_now_ill o_p2_now_shut o_p2_now_turns o_p2_now_madeInAll o_p2_now_dots o_p2_now_knows o_p2_now_made o_p2_now_order o_p2_now_sixteenths o_p2_now_stands o_p2_now_used o_p2_pageNames o_p2_room o_p2_rounds_present o_p2_rounds_steps o_p2_rounds_size o_p2_secretNames o_p2_speed   z3 v_ordered v_p1_at v_p1_kind v_p1_place v_p1_word v_p1_key v_p1_number v_p1_faultKind v_p1_faultPlace v_p2_cells v_p2_secrets v_p2_pages v_p2_blind v_p2_rubs v_p2_cellNames v_p2_letters v_p2_now_inOrder v_p2_now_place v_p2_now_ill v_p2_now_shut v_p2_now_turns v_p2_now_madeInAll v_p2_now_dots v_p2_now_knows v_p2_now_made v_p2_now_order v_p2_now_sixteenths v_p2_now_stands v_p2_now_used v_p2_pageNames v_p2_room v_p2_rounds_present v_p2_rounds_steps v_p2_rounds_size v_p2_secretNames v_p2_speed hf _ _ _ hP (mp_D_of hD rfl) hS (lv_sub hl [0, 2, 3] rfl)
      · replace hf := if_f hf h2
        refine lv_aload_n hx hb dX2_take_26 rfl (lv_at hl 1 rfl) ?_
        refine mp_get X fl_X2_20 hK hP 1 rfl rfl dX2_take_27 ?_
        refine lv_if_eq (tgt := 163) hx hb dX2_take_30 (by decide) (fun h3 => ?_) (fun h3 => ?_)
        · replace hf := if_t hf h3
          exact w_X2_take_163 X hK hA  fu a_ a_p1 a_p1_tape a_p1_keys a_p2 a_p2_cellNames a_p2_secretNames a_p2_pageNames a_p2_speed a_p2_letters a_p2_room a_p2_now a_p2_rounds a_p2_now_order a_p2_now_knows a_p2_now_made a_p2_now_sixteenths a_p2_now_dots a_p2_now_used a_p2_now_stands a_p2_rounds_code a_p2_rounds_one a_p2_rounds_other a_p2_rounds_mate v_p1_filled v_p1_end v_p1_keys v_p1_tape r_ o_ordered o_p1_at o_p1_kind o_p1_place o_p1_word o_p1_key o_p1_number o_p1_faultKind o_p1_faultPlace o_p2_cells o_p2_secrets o_p2_pages o_p2_blind o_p2_rubs o_p2_cellNames o_p2_letters o_p2_now_inOrder o_p2_now_place o_p2_now_ill o_p2_now_shut o_p2_now_turns o_p2_now_madeInAll o_p2_now_dots o_p2_now_knows o_p2_now_made o_p2_now_order o_p2_now_sixteenths o_p2_now_stands o_p2_now_used o_p2_pageNames o_p2_room o_p2_rounds_present o_p2_rounds_steps o_p2_rounds_size o_p2_secretNames o_p2_speed   z3 v_ordered v_p1_at v_p1_kind v_p1_place v_p1_word v_p1_key v_p1_number v_p1_faultKind v_p1_faultPlace v_p2_cells v_p2_secrets v_p2_pages v_p2_blind v_p2_rubs v_p2_cellNames v_p2_letters v_p2_now_inOrder v_p2_now_place v_p2_now_ill v_p2_now_shut v_p2_now_turns v_p2_now_madeInAll v_p2_now_dots v_p2_now_knows v_p2_now_made v_p2_now_order v_p2_now_sixteenths v_p2_now_stands v_p2_now_used v_p2_pageNames v_p2_room v_p2_rounds_present v_p2_rounds_steps v_p2_rounds_size v_p2_secretNames v_p2_speed hf _ _ _ hP (mp_D_of hD rfl) hS (lv_sub hl [0, 2, 3] rfl)
        · replace hf := if_f hf h3
          refine lv_aload_n hx hb dX2_take_33 rfl (lv_at hl 1 rfl) ?_
          refine mp_get X fl_X2_26 hK hP 1 rfl rfl dX2_take_34 ?_
          by_cases h4 : v_p1_key = (nI 0)
          · replace hf := if_t hf h4
            refine lv_tableIn (off := 59) (tgt := 96) hx hb dX2_take_37 (by rw [h4]; decide) (by rw [h4]; decide) (by rw [h4]; decide) (by decide) ?_
            refine lv_aload_n hx hb dX2_take_96 rfl (lv_at hl 1 rfl) ?_
            refine lv_aload_n hx hb dX2_take_97 rfl (lv_at hl 2 rfl) ?_
            obtain ⟨⟨r5, u6, u7, u8, u9, u10, u11, u12, u13, u14, u15, u16, u17, u18⟩, c19, hf⟩ := bd_of hf
            dsimp only at hf
            have hPc := hP.sub (ws' := (k_X2_takeCell T a_p1 a_p1_tape a_p1_keys a_p2 a_p2_cellNames a_p2_secretNames a_p2_pageNames a_p2_speed a_p2_letters a_p2_room a_p2_now a_p2_rounds v_p1_filled v_p1_end v_p1_at v_p1_kind v_p1_place v_p1_word v_p1_key v_p1_number v_p1_faultKind v_p1_faultPlace v_p1_keys v_p1_tape v_p2_cells v_p2_secrets v_p2_pages v_p2_blind v_p2_rubs v_p2_cellNames v_p2_pageNames v_p2_secretNames v_p2_speed)) [1, 2, 3, 4, 5, 15, 18, 19] rfl
            have hDc := (mp_D_of (w1 := (k_X2_take T a_ a_p1 a_p1_tape a_p1_keys a_p2 a_p2_cellNames a_p2_secretNames a_p2_pageNames a_p2_speed a_p2_letters a_p2_room a_p2_now a_p2_rounds a_p2_now_order a_p2_now_knows a_p2_now_made a_p2_now_sixteenths a_p2_now_dots a_p2_now_used a_p2_now_stands a_p2_rounds_code a_p2_rounds_one a_p2_rounds_other a_p2_rounds_mate v_ordered v_p1_filled v_p1_end v_p1_at v_p1_kind v_p1_place v_p1_word v_p1_key v_p1_number v_p1_faultKind v_p1_faultPlace v_p1_keys v_p1_tape v_p2_cells v_p2_secrets v_p2_pages v_p2_blind v_p2_rubs v_p2_cellNames v_p2_letters v_p2_now_inOrder v_p2_now_place v_p2_now_ill v_p2_now_shut v_p2_now_turns v_p2_now_madeInAll v_p2_now_dots v_p2_now_knows v_p2_now_made v_p2_now_order v_p2_now_sixteenths v_p2_now_stands v_p2_now_used v_p2_pageNames v_p2_room v_p2_rounds_present v_p2_rounds_steps v_p2_rounds_size v_p2_secretNames v_p2_speed)) hD rfl).sub (ws' := (k_X2_takeCell T a_p1 a_p1_tape a_p1_keys a_p2 a_p2_cellNames a_p2_secretNames a_p2_pageNames a_p2_speed a_p2_letters a_p2_room a_p2_now a_p2_rounds v_p1_filled v_p1_end v_p1_at v_p1_kind v_p1_place v_p1_word v_p1_key v_p1_number v_p1_faultKind v_p1_faultPlace v_p1_keys v_p1_tape v_p2_cells v_p2_secrets v_p2_pages v_p2_blind v_p2_rubs v_p2_cellNames v_p2_pageNames v_p2_secretNames v_p2_speed)) [1, 2, 3, 4, 5, 15, 18, 19] rfl rfl
            refine mp_calli (isC := [1, 2, 3, 4, 5, 15, 18, 19]) (wc := (k_X2_takeCell T a_p1 a_p1_tape a_p1_keys a_p2 a_p2_cellNames a_p2_secretNames a_p2_pageNames a_p2_speed a_p2_letters a_p2_room a_p2_now a_p2_rounds v_p1_filled v_p1_end v_p1_at v_p1_kind v_p1_place v_p1_word v_p1_key v_p1_number v_p1_faultKind v_p1_faultPlace v_p1_keys v_p1_tape v_p2_cells v_p2_secrets v_p2_pages v_p2_blind v_p2_rubs v_p2_cellNames v_p2_pageNames v_p2_secretNames v_p2_speed)) (w1 := (k_X2_takeCell T a_p1 a_p1_tape a_p1_keys a_p2 a_p2_cellNames a_p2_secretNames a_p2_pageNames a_p2_speed a_p2_letters a_p2_room a_p2_now a_p2_rounds v_p1_filled v_p1_end u6 u7 u8 u9 u10 u11 u12 u13 v_p1_keys v_p1_tape u14 v_p2_secrets v_p2_pages u15 u16 u17 v_p2_pageNames v_p2_secretNames u18)) hP (mp_D_of hD rfl) hS hA rfl rfl (mp_runS (As := [.ref a_p1, .ref a_p2]) (rest := []) X me_X2_takeCell lk_X2_29 (c_X2_takeCell l D T fu a_p1 a_p1_tape a_p1_keys a_p2 a_p2_cellNames a_p2_secretNames a_p2_pageNames a_p2_speed a_p2_letters a_p2_room a_p2_now a_p2_rounds v_p1_filled v_p1_end v_p1_at v_p1_kind v_p1_place v_p1_word v_p1_key v_p1_number v_p1_faultKind v_p1_faultPlace v_p1_keys v_p1_tape v_p2_cells v_p2_secrets v_p2_pages v_p2_blind v_p2_rubs v_p2_cellNames v_p2_pageNames v_p2_secretNames v_p2_speed r5 u6 u7 u8 u9 u10 u11 u12 u13 u14 u15 u16 u17 u18 c19) rfl rfl ⟨(Nat.le_of_ble_eq_true rfl), (Nat.le_of_ble_eq_true rfl)⟩ hK hPc hDc rfl hl.1 rfl (Nat.le_of_ble_eq_true rfl) dX2_take_98 ⟨Nat.zero_le _, Nat.zero_le _⟩) (fun H locs hP _ hS => ?_)
            replace hP : va_P D mp_cl (k_X2_take T a_ a_p1 a_p1_tape a_p1_keys a_p2 a_p2_cellNames a_p2_secretNames a_p2_pageNames a_p2_speed a_p2_letters a_p2_room a_p2_now a_p2_rounds a_p2_now_order a_p2_now_knows a_p2_now_made a_p2_now_sixteenths a_p2_now_dots a_p2_now_used a_p2_now_stands a_p2_rounds_code a_p2_rounds_one a_p2_rounds_other a_p2_rounds_mate v_ordered v_p1_filled v_p1_end u6 u7 u8 u9 u10 u11 u12 u13 v_p1_keys v_p1_tape u14 v_p2_secrets v_p2_pages u15 u16 u17 v_p2_letters v_p2_now_inOrder v_p2_now_place v_p2_now_ill v_p2_now_shut v_p2_now_turns v_p2_now_madeInAll v_p2_now_dots v_p2_now_knows v_p2_now_made v_p2_now_order v_p2_now_sixteenths v_p2_now_stands v_p2_now_used v_p2_pageNames v_p2_room v_p2_rounds_present v_p2_rounds_steps v_p2_rounds_size v_p2_secretNames u18) H := hP
            refine lv_istore_n (lv' := [(3, .int r5), (0, .ref a_), (1, .ref a_p1), (2, .ref a_p2), (4, .int z4)]) hx hb dX2_take_101 rfl hl (by decide) rfl (fun ls hl => ?_)
            refine lv_goto (tgt := 157) hx hb dX2_take_102 (by decide) ?_
            obtain ⟨y20, e20⟩ : ∃ y : Int32, y = z4 + (nI 1) := ⟨_, rfl⟩
            replace hf := lt_of e20 hf
            refine lv_iinc (v := y20) (lv' := [(4, .int y20), (3, .int r5), (0, .ref a_), (1, .ref a_p1), (2, .ref a_p2)]) hx hb dX2_take_157 hl (k := 4) rfl (by rw [e20]; rfl) (by decide) rfl (fun ls hl => ?_)
            refine lv_goto (tgt := 14) hx hb dX2_take_160 (by decide) ?_
            exact ih r5 y20 v_ordered u6 u7 u8 u9 u10 u11 u12 u13 u14 v_p2_secrets v_p2_pages u15 u16 u17 v_p2_letters v_p2_now_inOrder v_p2_now_place v_p2_now_ill v_p2_now_shut v_p2_now_turns v_p2_now_madeInAll v_p2_now_dots v_p2_now_knows v_p2_now_made v_p2_now_order v_p2_now_sixteenths v_p2_now_stands v_p2_now_used v_p2_pageNames v_p2_room v_p2_rounds_present v_p2_rounds_steps v_p2_rounds_size v_p2_secretNames u18 hf _ _ _ hP (mp_D_of hD rfl) hS (lv_sub hl [2, 3, 4, 1, 0] rfl)
          replace hf := if_f hf h4
          by_cases h21 : v_p1_key = (nI 1)
          · replace hf := if_t hf h21
            refine lv_tableIn (off := 114) (tgt := 151) hx hb dX2_take_37 (by rw [h21]; decide) (by rw [h21]; decide) (by rw [h21]; decide) (by decide) ?_
            refine lv_aload_n hx hb dX2_take_151 rfl (lv_at hl 1 rfl) ?_
            refine lv_iconst (v := (nI 2)) hx hb dX2_take_152 (by decide) ?_
            obtain ⟨⟨r22, u23, u24⟩, c25, hf⟩ := bd_of hf
            dsimp only at hf
            have hPc := hP.sub (ws' := (k_X8_fail T a_p1 a_p1_tape a_p1_keys v_p1_filled v_p1_end v_p1_at v_p1_kind v_p1_place v_p1_word v_p1_key v_p1_number v_p1_faultKind v_p1_faultPlace)) [1] rfl
            have hDc := (mp_D_of (w1 := (k_X2_take T a_ a_p1 a_p1_tape a_p1_keys a_p2 a_p2_cellNames a_p2_secretNames a_p2_pageNames a_p2_speed a_p2_letters a_p2_room a_p2_now a_p2_rounds a_p2_now_order a_p2_now_knows a_p2_now_made a_p2_now_sixteenths a_p2_now_dots a_p2_now_used a_p2_now_stands a_p2_rounds_code a_p2_rounds_one a_p2_rounds_other a_p2_rounds_mate v_ordered v_p1_filled v_p1_end v_p1_at v_p1_kind v_p1_place v_p1_word v_p1_key v_p1_number v_p1_faultKind v_p1_faultPlace v_p1_keys v_p1_tape v_p2_cells v_p2_secrets v_p2_pages v_p2_blind v_p2_rubs v_p2_cellNames v_p2_letters v_p2_now_inOrder v_p2_now_place v_p2_now_ill v_p2_now_shut v_p2_now_turns v_p2_now_madeInAll v_p2_now_dots v_p2_now_knows v_p2_now_made v_p2_now_order v_p2_now_sixteenths v_p2_now_stands v_p2_now_used v_p2_pageNames v_p2_room v_p2_rounds_present v_p2_rounds_steps v_p2_rounds_size v_p2_secretNames v_p2_speed)) hD rfl).sub (ws' := (k_X8_fail T a_p1 a_p1_tape a_p1_keys v_p1_filled v_p1_end v_p1_at v_p1_kind v_p1_place v_p1_word v_p1_key v_p1_number v_p1_faultKind v_p1_faultPlace)) [1] rfl rfl
            refine mp_calli (isC := [1]) (wc := (k_X8_fail T a_p1 a_p1_tape a_p1_keys v_p1_filled v_p1_end v_p1_at v_p1_kind v_p1_place v_p1_word v_p1_key v_p1_number v_p1_faultKind v_p1_faultPlace)) (w1 := (k_X8_fail T a_p1 a_p1_tape a_p1_keys v_p1_filled v_p1_end v_p1_at v_p1_kind v_p1_place v_p1_word v_p1_key v_p1_number u23 u24)) hP (mp_D_of hD rfl) hS hA rfl rfl (mp_runV (As := [.int (nI 2)]) (rest := []) X me_X8_fail lk_X2_48 (c_X8_fail l D T a_p1 a_p1_tape a_p1_keys (nI 2) v_p1_filled v_p1_end v_p1_at v_p1_word v_p1_key v_p1_number v_p1_kind v_p1_place v_p1_faultKind v_p1_faultPlace r22 u23 u24 c25) rfl rfl ⟨(Nat.le_of_ble_eq_true rfl), (Nat.le_of_ble_eq_true rfl)⟩ hK hPc hDc rfl rfl rfl rfl hl.1 rfl (Nat.le_of_ble_eq_true rfl) dX2_take_153 ⟨Nat.zero_le _, Nat.zero_le _⟩) (fun H locs hP _ hS => ?_)
            replace hP : va_P D mp_cl (k_X2_take T a_ a_p1 a_p1_tape a_p1_keys a_p2 a_p2_cellNames a_p2_secretNames a_p2_pageNames a_p2_speed a_p2_letters a_p2_room a_p2_now a_p2_rounds a_p2_now_order a_p2_now_knows a_p2_now_made a_p2_now_sixteenths a_p2_now_dots a_p2_now_used a_p2_now_stands a_p2_rounds_code a_p2_rounds_one a_p2_rounds_other a_p2_rounds_mate v_ordered v_p1_filled v_p1_end v_p1_at v_p1_kind v_p1_place v_p1_word v_p1_key v_p1_number u23 u24 v_p1_keys v_p1_tape v_p2_cells v_p2_secrets v_p2_pages v_p2_blind v_p2_rubs v_p2_cellNames v_p2_letters v_p2_now_inOrder v_p2_now_place v_p2_now_ill v_p2_now_shut v_p2_now_turns v_p2_now_madeInAll v_p2_now_dots v_p2_now_knows v_p2_now_made v_p2_now_order v_p2_now_sixteenths v_p2_now_stands v_p2_now_used v_p2_pageNames v_p2_room v_p2_rounds_present v_p2_rounds_steps v_p2_rounds_size v_p2_secretNames v_p2_speed) H := hP
            refine lv_istore_n (lv' := [(3, .int r22), (0, .ref a_), (1, .ref a_p1), (2, .ref a_p2), (4, .int z4)]) hx hb dX2_take_156 rfl hl (by decide) rfl (fun ls hl => ?_)
            obtain ⟨y26, e26⟩ : ∃ y : Int32, y = z4 + (nI 1) := ⟨_, rfl⟩
            replace hf := lt_of e26 hf
            refine lv_iinc (v := y26) (lv' := [(4, .int y26), (3, .int r22), (0, .ref a_), (1, .ref a_p1), (2, .ref a_p2)]) hx hb dX2_take_157 hl (k := 4) rfl (by rw [e26]; rfl) (by decide) rfl (fun ls hl => ?_)
            refine lv_goto (tgt := 14) hx hb dX2_take_160 (by decide) ?_
            exact ih r22 y26 v_ordered v_p1_at v_p1_kind v_p1_place v_p1_word v_p1_key v_p1_number u23 u24 v_p2_cells v_p2_secrets v_p2_pages v_p2_blind v_p2_rubs v_p2_cellNames v_p2_letters v_p2_now_inOrder v_p2_now_place v_p2_now_ill v_p2_now_shut v_p2_now_turns v_p2_now_madeInAll v_p2_now_dots v_p2_now_knows v_p2_now_made v_p2_now_order v_p2_now_sixteenths v_p2_now_stands v_p2_now_used v_p2_pageNames v_p2_room v_p2_rounds_present v_p2_rounds_steps v_p2_rounds_size v_p2_secretNames v_p2_speed hf _ _ _ hP (mp_D_of hD rfl) hS (lv_sub hl [2, 3, 4, 1, 0] rfl)
          replace hf := if_f hf h21
          by_cases h27 : v_p1_key = (nI 2)
          · replace hf := if_t hf h27
            refine lv_tableIn (off := 114) (tgt := 151) hx hb dX2_take_37 (by rw [h27]; decide) (by rw [h27]; decide) (by rw [h27]; decide) (by decide) ?_
            refine lv_aload_n hx hb dX2_take_151 rfl (lv_at hl 1 rfl) ?_
            refine lv_iconst (v := (nI 2)) hx hb dX2_take_152 (by decide) ?_
            obtain ⟨⟨r28, u29, u30⟩, c31, hf⟩ := bd_of hf
            dsimp only at hf
            have hPc := hP.sub (ws' := (k_X8_fail T a_p1 a_p1_tape a_p1_keys v_p1_filled v_p1_end v_p1_at v_p1_kind v_p1_place v_p1_word v_p1_key v_p1_number v_p1_faultKind v_p1_faultPlace)) [1] rfl
            have hDc := (mp_D_of (w1 := (k_X2_take T a_ a_p1 a_p1_tape a_p1_keys a_p2 a_p2_cellNames a_p2_secretNames a_p2_pageNames a_p2_speed a_p2_letters a_p2_room a_p2_now a_p2_rounds a_p2_now_order a_p2_now_knows a_p2_now_made a_p2_now_sixteenths a_p2_now_dots a_p2_now_used a_p2_now_stands a_p2_rounds_code a_p2_rounds_one a_p2_rounds_other a_p2_rounds_mate v_ordered v_p1_filled v_p1_end v_p1_at v_p1_kind v_p1_place v_p1_word v_p1_key v_p1_number v_p1_faultKind v_p1_faultPlace v_p1_keys v_p1_tape v_p2_cells v_p2_secrets v_p2_pages v_p2_blind v_p2_rubs v_p2_cellNames v_p2_letters v_p2_now_inOrder v_p2_now_place v_p2_now_ill v_p2_now_shut v_p2_now_turns v_p2_now_madeInAll v_p2_now_dots v_p2_now_knows v_p2_now_made v_p2_now_order v_p2_now_sixteenths v_p2_now_stands v_p2_now_used v_p2_pageNames v_p2_room v_p2_rounds_present v_p2_rounds_steps v_p2_rounds_size v_p2_secretNames v_p2_speed)) hD rfl).sub (ws' := (k_X8_fail T a_p1 a_p1_tape a_p1_keys v_p1_filled v_p1_end v_p1_at v_p1_kind v_p1_place v_p1_word v_p1_key v_p1_number v_p1_faultKind v_p1_faultPlace)) [1] rfl rfl
            refine mp_calli (isC := [1]) (wc := (k_X8_fail T a_p1 a_p1_tape a_p1_keys v_p1_filled v_p1_end v_p1_at v_p1_kind v_p1_place v_p1_word v_p1_key v_p1_number v_p1_faultKind v_p1_faultPlace)) (w1 := (k_X8_fail T a_p1 a_p1_tape a_p1_keys v_p1_filled v_p1_end v_p1_at v_p1_kind v_p1_place v_p1_word v_p1_key v_p1_number u29 u30)) hP (mp_D_of hD rfl) hS hA rfl rfl (mp_runV (As := [.int (nI 2)]) (rest := []) X me_X8_fail lk_X2_48 (c_X8_fail l D T a_p1 a_p1_tape a_p1_keys (nI 2) v_p1_filled v_p1_end v_p1_at v_p1_word v_p1_key v_p1_number v_p1_kind v_p1_place v_p1_faultKind v_p1_faultPlace r28 u29 u30 c31) rfl rfl ⟨(Nat.le_of_ble_eq_true rfl), (Nat.le_of_ble_eq_true rfl)⟩ hK hPc hDc rfl rfl rfl rfl hl.1 rfl (Nat.le_of_ble_eq_true rfl) dX2_take_153 ⟨Nat.zero_le _, Nat.zero_le _⟩) (fun H locs hP _ hS => ?_)
            replace hP : va_P D mp_cl (k_X2_take T a_ a_p1 a_p1_tape a_p1_keys a_p2 a_p2_cellNames a_p2_secretNames a_p2_pageNames a_p2_speed a_p2_letters a_p2_room a_p2_now a_p2_rounds a_p2_now_order a_p2_now_knows a_p2_now_made a_p2_now_sixteenths a_p2_now_dots a_p2_now_used a_p2_now_stands a_p2_rounds_code a_p2_rounds_one a_p2_rounds_other a_p2_rounds_mate v_ordered v_p1_filled v_p1_end v_p1_at v_p1_kind v_p1_place v_p1_word v_p1_key v_p1_number u29 u30 v_p1_keys v_p1_tape v_p2_cells v_p2_secrets v_p2_pages v_p2_blind v_p2_rubs v_p2_cellNames v_p2_letters v_p2_now_inOrder v_p2_now_place v_p2_now_ill v_p2_now_shut v_p2_now_turns v_p2_now_madeInAll v_p2_now_dots v_p2_now_knows v_p2_now_made v_p2_now_order v_p2_now_sixteenths v_p2_now_stands v_p2_now_used v_p2_pageNames v_p2_room v_p2_rounds_present v_p2_rounds_steps v_p2_rounds_size v_p2_secretNames v_p2_speed) H := hP
            refine lv_istore_n (lv' := [(3, .int r28), (0, .ref a_), (1, .ref a_p1), (2, .ref a_p2), (4, .int z4)]) hx hb dX2_take_156 rfl hl (by decide) rfl (fun ls hl => ?_)
            obtain ⟨y32, e32⟩ : ∃ y : Int32, y = z4 + (nI 1) := ⟨_, rfl⟩
            replace hf := lt_of e32 hf
            refine lv_iinc (v := y32) (lv' := [(4, .int y32), (3, .int r28), (0, .ref a_), (1, .ref a_p1), (2, .ref a_p2)]) hx hb dX2_take_157 hl (k := 4) rfl (by rw [e32]; rfl) (by decide) rfl (fun ls hl => ?_)
            refine lv_goto (tgt := 14) hx hb dX2_take_160 (by decide) ?_
            exact ih r28 y32 v_ordered v_p1_at v_p1_kind v_p1_place v_p1_word v_p1_key v_p1_number u29 u30 v_p2_cells v_p2_secrets v_p2_pages v_p2_blind v_p2_rubs v_p2_cellNames v_p2_letters v_p2_now_inOrder v_p2_now_place v_p2_now_ill v_p2_now_shut v_p2_now_turns v_p2_now_madeInAll v_p2_now_dots v_p2_now_knows v_p2_now_made v_p2_now_order v_p2_now_sixteenths v_p2_now_stands v_p2_now_used v_p2_pageNames v_p2_room v_p2_rounds_present v_p2_rounds_steps v_p2_rounds_size v_p2_secretNames v_p2_speed hf _ _ _ hP (mp_D_of hD rfl) hS (lv_sub hl [2, 3, 4, 1, 0] rfl)
          replace hf := if_f hf h27
          by_cases h33 : v_p1_key = (nI 3)
          · replace hf := if_t hf h33
            refine lv_tableIn (off := 114) (tgt := 151) hx hb dX2_take_37 (by rw [h33]; decide) (by rw [h33]; decide) (by rw [h33]; decide) (by decide) ?_
            refine lv_aload_n hx hb dX2_take_151 rfl (lv_at hl 1 rfl) ?_
            refine lv_iconst (v := (nI 2)) hx hb dX2_take_152 (by decide) ?_
            obtain ⟨⟨r34, u35, u36⟩, c37, hf⟩ := bd_of hf
            dsimp only at hf
            have hPc := hP.sub (ws' := (k_X8_fail T a_p1 a_p1_tape a_p1_keys v_p1_filled v_p1_end v_p1_at v_p1_kind v_p1_place v_p1_word v_p1_key v_p1_number v_p1_faultKind v_p1_faultPlace)) [1] rfl
            have hDc := (mp_D_of (w1 := (k_X2_take T a_ a_p1 a_p1_tape a_p1_keys a_p2 a_p2_cellNames a_p2_secretNames a_p2_pageNames a_p2_speed a_p2_letters a_p2_room a_p2_now a_p2_rounds a_p2_now_order a_p2_now_knows a_p2_now_made a_p2_now_sixteenths a_p2_now_dots a_p2_now_used a_p2_now_stands a_p2_rounds_code a_p2_rounds_one a_p2_rounds_other a_p2_rounds_mate v_ordered v_p1_filled v_p1_end v_p1_at v_p1_kind v_p1_place v_p1_word v_p1_key v_p1_number v_p1_faultKind v_p1_faultPlace v_p1_keys v_p1_tape v_p2_cells v_p2_secrets v_p2_pages v_p2_blind v_p2_rubs v_p2_cellNames v_p2_letters v_p2_now_inOrder v_p2_now_place v_p2_now_ill v_p2_now_shut v_p2_now_turns v_p2_now_madeInAll v_p2_now_dots v_p2_now_knows v_p2_now_made v_p2_now_order v_p2_now_sixteenths v_p2_now_stands v_p2_now_used v_p2_pageNames v_p2_room v_p2_rounds_present v_p2_rounds_steps v_p2_rounds_size v_p2_secretNames v_p2_speed)) hD rfl).sub (ws' := (k_X8_fail T a_p1 a_p1_tape a_p1_keys v_p1_filled v_p1_end v_p1_at v_p1_kind v_p1_place v_p1_word v_p1_key v_p1_number v_p1_faultKind v_p1_faultPlace)) [1] rfl rfl
            refine mp_calli (isC := [1]) (wc := (k_X8_fail T a_p1 a_p1_tape a_p1_keys v_p1_filled v_p1_end v_p1_at v_p1_kind v_p1_place v_p1_word v_p1_key v_p1_number v_p1_faultKind v_p1_faultPlace)) (w1 := (k_X8_fail T a_p1 a_p1_tape a_p1_keys v_p1_filled v_p1_end v_p1_at v_p1_kind v_p1_place v_p1_word v_p1_key v_p1_number u35 u36)) hP (mp_D_of hD rfl) hS hA rfl rfl (mp_runV (As := [.int (nI 2)]) (rest := []) X me_X8_fail lk_X2_48 (c_X8_fail l D T a_p1 a_p1_tape a_p1_keys (nI 2) v_p1_filled v_p1_end v_p1_at v_p1_word v_p1_key v_p1_number v_p1_kind v_p1_place v_p1_faultKind v_p1_faultPlace r34 u35 u36 c37) rfl rfl ⟨(Nat.le_of_ble_eq_true rfl), (Nat.le_of_ble_eq_true rfl)⟩ hK hPc hDc rfl rfl rfl rfl hl.1 rfl (Nat.le_of_ble_eq_true rfl) dX2_take_153 ⟨Nat.zero_le _, Nat.zero_le _⟩) (fun H locs hP _ hS => ?_)
            replace hP : va_P D mp_cl (k_X2_take T a_ a_p1 a_p1_tape a_p1_keys a_p2 a_p2_cellNames a_p2_secretNames a_p2_pageNames a_p2_speed a_p2_letters a_p2_room a_p2_now a_p2_rounds a_p2_now_order a_p2_now_knows a_p2_now_made a_p2_now_sixteenths a_p2_now_dots a_p2_now_used a_p2_now_stands a_p2_rounds_code a_p2_rounds_one a_p2_rounds_other a_p2_rounds_mate v_ordered v_p1_filled v_p1_end v_p1_at v_p1_kind v_p1_place v_p1_word v_p1_key v_p1_number u35 u36 v_p1_keys v_p1_tape v_p2_cells v_p2_secrets v_p2_pages v_p2_blind v_p2_rubs v_p2_cellNames v_p2_letters v_p2_now_inOrder v_p2_now_place v_p2_now_ill v_p2_now_shut v_p2_now_turns v_p2_now_madeInAll v_p2_now_dots v_p2_now_knows v_p2_now_made v_p2_now_order v_p2_now_sixteenths v_p2_now_stands v_p2_now_used v_p2_pageNames v_p2_room v_p2_rounds_present v_p2_rounds_steps v_p2_rounds_size v_p2_secretNames v_p2_speed) H := hP
            refine lv_istore_n (lv' := [(3, .int r34), (0, .ref a_), (1, .ref a_p1), (2, .ref a_p2), (4, .int z4)]) hx hb dX2_take_156 rfl hl (by decide) rfl (fun ls hl => ?_)
            obtain ⟨y38, e38⟩ : ∃ y : Int32, y = z4 + (nI 1) := ⟨_, rfl⟩
            replace hf := lt_of e38 hf
            refine lv_iinc (v := y38) (lv' := [(4, .int y38), (3, .int r34), (0, .ref a_), (1, .ref a_p1), (2, .ref a_p2)]) hx hb dX2_take_157 hl (k := 4) rfl (by rw [e38]; rfl) (by decide) rfl (fun ls hl => ?_)
            refine lv_goto (tgt := 14) hx hb dX2_take_160 (by decide) ?_
            exact ih r34 y38 v_ordered v_p1_at v_p1_kind v_p1_place v_p1_word v_p1_key v_p1_number u35 u36 v_p2_cells v_p2_secrets v_p2_pages v_p2_blind v_p2_rubs v_p2_cellNames v_p2_letters v_p2_now_inOrder v_p2_now_place v_p2_now_ill v_p2_now_shut v_p2_now_turns v_p2_now_madeInAll v_p2_now_dots v_p2_now_knows v_p2_now_made v_p2_now_order v_p2_now_sixteenths v_p2_now_stands v_p2_now_used v_p2_pageNames v_p2_room v_p2_rounds_present v_p2_rounds_steps v_p2_rounds_size v_p2_secretNames v_p2_speed hf _ _ _ hP (mp_D_of hD rfl) hS (lv_sub hl [2, 3, 4, 1, 0] rfl)
          replace hf := if_f hf h33
          by_cases h39 : v_p1_key = (nI 4)
          · replace hf := if_t hf h39
            refine lv_tableIn (off := 68) (tgt := 105) hx hb dX2_take_37 (by rw [h39]; decide) (by rw [h39]; decide) (by rw [h39]; decide) (by decide) ?_
            refine lv_aload_n hx hb dX2_take_105 rfl (lv_at hl 1 rfl) ?_
            refine lv_aload_n hx hb dX2_take_106 rfl (lv_at hl 2 rfl) ?_
            obtain ⟨⟨r40, u41, u42, u43, u44, u45, u46, u47, u48, u49, u50, u51⟩, c52, hf⟩ := bd_of hf
            dsimp only at hf
            have hPc := hP.sub (ws' := (k_X2_takeSecret T a_p1 a_p1_tape a_p1_keys a_p2 a_p2_cellNames a_p2_secretNames a_p2_pageNames a_p2_speed a_p2_letters a_p2_room a_p2_now a_p2_rounds v_p1_filled v_p1_end v_p1_at v_p1_kind v_p1_place v_p1_word v_p1_key v_p1_number v_p1_faultKind v_p1_faultPlace v_p1_keys v_p1_tape v_p2_cells v_p2_secrets v_p2_pages v_p2_blind v_p2_rubs v_p2_cellNames v_p2_letters v_p2_pageNames v_p2_secretNames)) [1, 2, 3, 4, 5, 6, 15, 18] rfl
            have hDc := (mp_D_of (w1 := (k_X2_take T a_ a_p1 a_p1_tape a_p1_keys a_p2 a_p2_cellNames a_p2_secretNames a_p2_pageNames a_p2_speed a_p2_letters a_p2_room a_p2_now a_p2_rounds a_p2_now_order a_p2_now_knows a_p2_now_made a_p2_now_sixteenths a_p2_now_dots a_p2_now_used a_p2_now_stands a_p2_rounds_code a_p2_rounds_one a_p2_rounds_other a_p2_rounds_mate v_ordered v_p1_filled v_p1_end v_p1_at v_p1_kind v_p1_place v_p1_word v_p1_key v_p1_number v_p1_faultKind v_p1_faultPlace v_p1_keys v_p1_tape v_p2_cells v_p2_secrets v_p2_pages v_p2_blind v_p2_rubs v_p2_cellNames v_p2_letters v_p2_now_inOrder v_p2_now_place v_p2_now_ill v_p2_now_shut v_p2_now_turns v_p2_now_madeInAll v_p2_now_dots v_p2_now_knows v_p2_now_made v_p2_now_order v_p2_now_sixteenths v_p2_now_stands v_p2_now_used v_p2_pageNames v_p2_room v_p2_rounds_present v_p2_rounds_steps v_p2_rounds_size v_p2_secretNames v_p2_speed)) hD rfl).sub (ws' := (k_X2_takeSecret T a_p1 a_p1_tape a_p1_keys a_p2 a_p2_cellNames a_p2_secretNames a_p2_pageNames a_p2_speed a_p2_letters a_p2_room a_p2_now a_p2_rounds v_p1_filled v_p1_end v_p1_at v_p1_kind v_p1_place v_p1_word v_p1_key v_p1_number v_p1_faultKind v_p1_faultPlace v_p1_keys v_p1_tape v_p2_cells v_p2_secrets v_p2_pages v_p2_blind v_p2_rubs v_p2_cellNames v_p2_letters v_p2_pageNames v_p2_secretNames)) [1, 2, 3, 4, 5, 6, 15, 18] rfl rfl
            refine mp_calli (isC := [1, 2, 3, 4, 5, 6, 15, 18]) (wc := (k_X2_takeSecret T a_p1 a_p1_tape a_p1_keys a_p2 a_p2_cellNames a_p2_secretNames a_p2_pageNames a_p2_speed a_p2_letters a_p2_room a_p2_now a_p2_rounds v_p1_filled v_p1_end v_p1_at v_p1_kind v_p1_place v_p1_word v_p1_key v_p1_number v_p1_faultKind v_p1_faultPlace v_p1_keys v_p1_tape v_p2_cells v_p2_secrets v_p2_pages v_p2_blind v_p2_rubs v_p2_cellNames v_p2_letters v_p2_pageNames v_p2_secretNames)) (w1 := (k_X2_takeSecret T a_p1 a_p1_tape a_p1_keys a_p2 a_p2_cellNames a_p2_secretNames a_p2_pageNames a_p2_speed a_p2_letters a_p2_room a_p2_now a_p2_rounds v_p1_filled v_p1_end u41 u42 u43 u44 u45 u46 u47 u48 v_p1_keys v_p1_tape v_p2_cells u49 v_p2_pages v_p2_blind v_p2_rubs v_p2_cellNames u50 v_p2_pageNames u51)) hP (mp_D_of hD rfl) hS hA rfl rfl (mp_runS (As := [.ref a_p1, .ref a_p2]) (rest := []) X me_X2_takeSecret lk_X2_33 (c_X2_takeSecret l D T fu a_p1 a_p1_tape a_p1_keys a_p2 a_p2_cellNames a_p2_secretNames a_p2_pageNames a_p2_speed a_p2_letters a_p2_room a_p2_now a_p2_rounds v_p1_filled v_p2_blind v_p2_rubs v_p1_end v_p1_at v_p1_kind v_p1_place v_p1_word v_p1_key v_p1_number v_p1_faultKind v_p1_faultPlace v_p1_keys v_p1_tape v_p2_cells v_p2_secrets v_p2_pages v_p2_cellNames v_p2_letters v_p2_pageNames v_p2_secretNames r40 u41 u42 u43 u44 u45 u46 u47 u48 u49 u50 u51 c52) rfl rfl ⟨(Nat.le_of_ble_eq_true rfl), (Nat.le_of_ble_eq_true rfl)⟩ hK hPc hDc rfl hl.1 rfl (Nat.le_of_ble_eq_true rfl) dX2_take_107 ⟨Nat.zero_le _, Nat.zero_le _⟩) (fun H locs hP _ hS => ?_)
            replace hP : va_P D mp_cl (k_X2_take T a_ a_p1 a_p1_tape a_p1_keys a_p2 a_p2_cellNames a_p2_secretNames a_p2_pageNames a_p2_speed a_p2_letters a_p2_room a_p2_now a_p2_rounds a_p2_now_order a_p2_now_knows a_p2_now_made a_p2_now_sixteenths a_p2_now_dots a_p2_now_used a_p2_now_stands a_p2_rounds_code a_p2_rounds_one a_p2_rounds_other a_p2_rounds_mate v_ordered v_p1_filled v_p1_end u41 u42 u43 u44 u45 u46 u47 u48 v_p1_keys v_p1_tape v_p2_cells u49 v_p2_pages v_p2_blind v_p2_rubs v_p2_cellNames u50 v_p2_now_inOrder v_p2_now_place v_p2_now_ill v_p2_now_shut v_p2_now_turns v_p2_now_madeInAll v_p2_now_dots v_p2_now_knows v_p2_now_made v_p2_now_order v_p2_now_sixteenths v_p2_now_stands v_p2_now_used v_p2_pageNames v_p2_room v_p2_rounds_present v_p2_rounds_steps v_p2_rounds_size u51 v_p2_speed) H := hP
            refine lv_istore_n (lv' := [(3, .int r40), (0, .ref a_), (1, .ref a_p1), (2, .ref a_p2), (4, .int z4)]) hx hb dX2_take_110 rfl hl (by decide) rfl (fun ls hl => ?_)
            refine lv_goto (tgt := 157) hx hb dX2_take_111 (by decide) ?_
            obtain ⟨y53, e53⟩ : ∃ y : Int32, y = z4 + (nI 1) := ⟨_, rfl⟩
            replace hf := lt_of e53 hf
            refine lv_iinc (v := y53) (lv' := [(4, .int y53), (3, .int r40), (0, .ref a_), (1, .ref a_p1), (2, .ref a_p2)]) hx hb dX2_take_157 hl (k := 4) rfl (by rw [e53]; rfl) (by decide) rfl (fun ls hl => ?_)
            refine lv_goto (tgt := 14) hx hb dX2_take_160 (by decide) ?_
            exact ih r40 y53 v_ordered u41 u42 u43 u44 u45 u46 u47 u48 v_p2_cells u49 v_p2_pages v_p2_blind v_p2_rubs v_p2_cellNames u50 v_p2_now_inOrder v_p2_now_place v_p2_now_ill v_p2_now_shut v_p2_now_turns v_p2_now_madeInAll v_p2_now_dots v_p2_now_knows v_p2_now_made v_p2_now_order v_p2_now_sixteenths v_p2_now_stands v_p2_now_used v_p2_pageNames v_p2_room v_p2_rounds_present v_p2_rounds_steps v_p2_rounds_size u51 v_p2_speed hf _ _ _ hP (mp_D_of hD rfl) hS (lv_sub hl [2, 3, 4, 1, 0] rfl)
          replace hf := if_f hf h39
          by_cases h54 : v_p1_key = (nI 5)
          · replace hf := if_t hf h54
            refine lv_tableIn (off := 114) (tgt := 151) hx hb dX2_take_37 (by rw [h54]; decide) (by rw [h54]; decide) (by rw [h54]; decide) (by decide) ?_
            refine lv_aload_n hx hb dX2_take_151 rfl (lv_at hl 1 rfl) ?_
            refine lv_iconst (v := (nI 2)) hx hb dX2_take_152 (by decide) ?_
            obtain ⟨⟨r55, u56, u57⟩, c58, hf⟩ := bd_of hf
            dsimp only at hf
            have hPc := hP.sub (ws' := (k_X8_fail T a_p1 a_p1_tape a_p1_keys v_p1_filled v_p1_end v_p1_at v_p1_kind v_p1_place v_p1_word v_p1_key v_p1_number v_p1_faultKind v_p1_faultPlace)) [1] rfl
            have hDc := (mp_D_of (w1 := (k_X2_take T a_ a_p1 a_p1_tape a_p1_keys a_p2 a_p2_cellNames a_p2_secretNames a_p2_pageNames a_p2_speed a_p2_letters a_p2_room a_p2_now a_p2_rounds a_p2_now_order a_p2_now_knows a_p2_now_made a_p2_now_sixteenths a_p2_now_dots a_p2_now_used a_p2_now_stands a_p2_rounds_code a_p2_rounds_one a_p2_rounds_other a_p2_rounds_mate v_ordered v_p1_filled v_p1_end v_p1_at v_p1_kind v_p1_place v_p1_word v_p1_key v_p1_number v_p1_faultKind v_p1_faultPlace v_p1_keys v_p1_tape v_p2_cells v_p2_secrets v_p2_pages v_p2_blind v_p2_rubs v_p2_cellNames v_p2_letters v_p2_now_inOrder v_p2_now_place v_p2_now_ill v_p2_now_shut v_p2_now_turns v_p2_now_madeInAll v_p2_now_dots v_p2_now_knows v_p2_now_made v_p2_now_order v_p2_now_sixteenths v_p2_now_stands v_p2_now_used v_p2_pageNames v_p2_room v_p2_rounds_present v_p2_rounds_steps v_p2_rounds_size v_p2_secretNames v_p2_speed)) hD rfl).sub (ws' := (k_X8_fail T a_p1 a_p1_tape a_p1_keys v_p1_filled v_p1_end v_p1_at v_p1_kind v_p1_place v_p1_word v_p1_key v_p1_number v_p1_faultKind v_p1_faultPlace)) [1] rfl rfl
            refine mp_calli (isC := [1]) (wc := (k_X8_fail T a_p1 a_p1_tape a_p1_keys v_p1_filled v_p1_end v_p1_at v_p1_kind v_p1_place v_p1_word v_p1_key v_p1_number v_p1_faultKind v_p1_faultPlace)) (w1 := (k_X8_fail T a_p1 a_p1_tape a_p1_keys v_p1_filled v_p1_end v_p1_at v_p1_kind v_p1_place v_p1_word v_p1_key v_p1_number u56 u57)) hP (mp_D_of hD rfl) hS hA rfl rfl (mp_runV (As := [.int (nI 2)]) (rest := []) X me_X8_fail lk_X2_48 (c_X8_fail l D T a_p1 a_p1_tape a_p1_keys (nI 2) v_p1_filled v_p1_end v_p1_at v_p1_word v_p1_key v_p1_number v_p1_kind v_p1_place v_p1_faultKind v_p1_faultPlace r55 u56 u57 c58) rfl rfl ⟨(Nat.le_of_ble_eq_true rfl), (Nat.le_of_ble_eq_true rfl)⟩ hK hPc hDc rfl rfl rfl rfl hl.1 rfl (Nat.le_of_ble_eq_true rfl) dX2_take_153 ⟨Nat.zero_le _, Nat.zero_le _⟩) (fun H locs hP _ hS => ?_)
            replace hP : va_P D mp_cl (k_X2_take T a_ a_p1 a_p1_tape a_p1_keys a_p2 a_p2_cellNames a_p2_secretNames a_p2_pageNames a_p2_speed a_p2_letters a_p2_room a_p2_now a_p2_rounds a_p2_now_order a_p2_now_knows a_p2_now_made a_p2_now_sixteenths a_p2_now_dots a_p2_now_used a_p2_now_stands a_p2_rounds_code a_p2_rounds_one a_p2_rounds_other a_p2_rounds_mate v_ordered v_p1_filled v_p1_end v_p1_at v_p1_kind v_p1_place v_p1_word v_p1_key v_p1_number u56 u57 v_p1_keys v_p1_tape v_p2_cells v_p2_secrets v_p2_pages v_p2_blind v_p2_rubs v_p2_cellNames v_p2_letters v_p2_now_inOrder v_p2_now_place v_p2_now_ill v_p2_now_shut v_p2_now_turns v_p2_now_madeInAll v_p2_now_dots v_p2_now_knows v_p2_now_made v_p2_now_order v_p2_now_sixteenths v_p2_now_stands v_p2_now_used v_p2_pageNames v_p2_room v_p2_rounds_present v_p2_rounds_steps v_p2_rounds_size v_p2_secretNames v_p2_speed) H := hP
            refine lv_istore_n (lv' := [(3, .int r55), (0, .ref a_), (1, .ref a_p1), (2, .ref a_p2), (4, .int z4)]) hx hb dX2_take_156 rfl hl (by decide) rfl (fun ls hl => ?_)
            obtain ⟨y59, e59⟩ : ∃ y : Int32, y = z4 + (nI 1) := ⟨_, rfl⟩
            replace hf := lt_of e59 hf
            refine lv_iinc (v := y59) (lv' := [(4, .int y59), (3, .int r55), (0, .ref a_), (1, .ref a_p1), (2, .ref a_p2)]) hx hb dX2_take_157 hl (k := 4) rfl (by rw [e59]; rfl) (by decide) rfl (fun ls hl => ?_)
            refine lv_goto (tgt := 14) hx hb dX2_take_160 (by decide) ?_
            exact ih r55 y59 v_ordered v_p1_at v_p1_kind v_p1_place v_p1_word v_p1_key v_p1_number u56 u57 v_p2_cells v_p2_secrets v_p2_pages v_p2_blind v_p2_rubs v_p2_cellNames v_p2_letters v_p2_now_inOrder v_p2_now_place v_p2_now_ill v_p2_now_shut v_p2_now_turns v_p2_now_madeInAll v_p2_now_dots v_p2_now_knows v_p2_now_made v_p2_now_order v_p2_now_sixteenths v_p2_now_stands v_p2_now_used v_p2_pageNames v_p2_room v_p2_rounds_present v_p2_rounds_steps v_p2_rounds_size v_p2_secretNames v_p2_speed hf _ _ _ hP (mp_D_of hD rfl) hS (lv_sub hl [2, 3, 4, 1, 0] rfl)
          replace hf := if_f hf h54
          by_cases h60 : v_p1_key = (nI 6)
          · replace hf := if_t hf h60
            refine lv_tableIn (off := 77) (tgt := 114) hx hb dX2_take_37 (by rw [h60]; decide) (by rw [h60]; decide) (by rw [h60]; decide) (by decide) ?_
            refine lv_aload_n hx hb dX2_take_114 rfl (lv_at hl 1 rfl) ?_
            refine lv_aload_n hx hb dX2_take_115 rfl (lv_at hl 2 rfl) ?_
            obtain ⟨⟨r61, u62, u63, u64, u65, u66, u67, u68, u69, u70, u71, u72⟩, c73, hf⟩ := bd_of hf
            dsimp only at hf
            have hPc := hP.sub (ws' := (k_X2_takePage T a_p1 a_p1_tape a_p1_keys a_p2 a_p2_cellNames a_p2_secretNames a_p2_pageNames a_p2_speed a_p2_letters a_p2_room a_p2_now a_p2_rounds v_p1_filled v_p1_end v_p1_at v_p1_kind v_p1_place v_p1_word v_p1_key v_p1_number v_p1_faultKind v_p1_faultPlace v_p1_keys v_p1_tape v_p2_cells v_p2_secrets v_p2_pages v_p2_blind v_p2_rubs v_p2_cellNames v_p2_pageNames v_p2_room v_p2_secretNames)) [1, 2, 3, 4, 5, 15, 16, 18] rfl
            have hDc := (mp_D_of (w1 := (k_X2_take T a_ a_p1 a_p1_tape a_p1_keys a_p2 a_p2_cellNames a_p2_secretNames a_p2_pageNames a_p2_speed a_p2_letters a_p2_room a_p2_now a_p2_rounds a_p2_now_order a_p2_now_knows a_p2_now_made a_p2_now_sixteenths a_p2_now_dots a_p2_now_used a_p2_now_stands a_p2_rounds_code a_p2_rounds_one a_p2_rounds_other a_p2_rounds_mate v_ordered v_p1_filled v_p1_end v_p1_at v_p1_kind v_p1_place v_p1_word v_p1_key v_p1_number v_p1_faultKind v_p1_faultPlace v_p1_keys v_p1_tape v_p2_cells v_p2_secrets v_p2_pages v_p2_blind v_p2_rubs v_p2_cellNames v_p2_letters v_p2_now_inOrder v_p2_now_place v_p2_now_ill v_p2_now_shut v_p2_now_turns v_p2_now_madeInAll v_p2_now_dots v_p2_now_knows v_p2_now_made v_p2_now_order v_p2_now_sixteenths v_p2_now_stands v_p2_now_used v_p2_pageNames v_p2_room v_p2_rounds_present v_p2_rounds_steps v_p2_rounds_size v_p2_secretNames v_p2_speed)) hD rfl).sub (ws' := (k_X2_takePage T a_p1 a_p1_tape a_p1_keys a_p2 a_p2_cellNames a_p2_secretNames a_p2_pageNames a_p2_speed a_p2_letters a_p2_room a_p2_now a_p2_rounds v_p1_filled v_p1_end v_p1_at v_p1_kind v_p1_place v_p1_word v_p1_key v_p1_number v_p1_faultKind v_p1_faultPlace v_p1_keys v_p1_tape v_p2_cells v_p2_secrets v_p2_pages v_p2_blind v_p2_rubs v_p2_cellNames v_p2_pageNames v_p2_room v_p2_secretNames)) [1, 2, 3, 4, 5, 15, 16, 18] rfl rfl
            refine mp_calli (isC := [1, 2, 3, 4, 5, 15, 16, 18]) (wc := (k_X2_takePage T a_p1 a_p1_tape a_p1_keys a_p2 a_p2_cellNames a_p2_secretNames a_p2_pageNames a_p2_speed a_p2_letters a_p2_room a_p2_now a_p2_rounds v_p1_filled v_p1_end v_p1_at v_p1_kind v_p1_place v_p1_word v_p1_key v_p1_number v_p1_faultKind v_p1_faultPlace v_p1_keys v_p1_tape v_p2_cells v_p2_secrets v_p2_pages v_p2_blind v_p2_rubs v_p2_cellNames v_p2_pageNames v_p2_room v_p2_secretNames)) (w1 := (k_X2_takePage T a_p1 a_p1_tape a_p1_keys a_p2 a_p2_cellNames a_p2_secretNames a_p2_pageNames a_p2_speed a_p2_letters a_p2_room a_p2_now a_p2_rounds v_p1_filled v_p1_end u62 u63 u64 u65 u66 u67 u68 u69 v_p1_keys v_p1_tape v_p2_cells v_p2_secrets u70 v_p2_blind v_p2_rubs v_p2_cellNames u71 u72 v_p2_secretNames)) hP (mp_D_of hD rfl) hS hA rfl rfl (mp_runS (As := [.ref a_p1, .ref a_p2]) (rest := []) X me_X2_takePage lk_X2_36 (c_X2_takePage l D T fu a_p1 a_p1_tape a_p1_keys a_p2 a_p2_cellNames a_p2_secretNames a_p2_pageNames a_p2_speed a_p2_letters a_p2_room a_p2_now a_p2_rounds v_p1_filled v_p2_blind v_p2_rubs v_p1_end v_p1_at v_p1_kind v_p1_place v_p1_word v_p1_key v_p1_number v_p1_faultKind v_p1_faultPlace v_p1_keys v_p1_tape v_p2_cells v_p2_secrets v_p2_pages v_p2_cellNames v_p2_pageNames v_p2_room v_p2_secretNames r61 u62 u63 u64 u65 u66 u67 u68 u69 u70 u71 u72 c73) rfl rfl ⟨(Nat.le_of_ble_eq_true rfl), (Nat.le_of_ble_eq_true rfl)⟩ hK hPc hDc rfl hl.1 rfl (Nat.le_of_ble_eq_true rfl) dX2_take_116 ⟨Nat.zero_le _, Nat.zero_le _⟩) (fun H locs hP _ hS => ?_)
            replace hP : va_P D mp_cl (k_X2_take T a_ a_p1 a_p1_tape a_p1_keys a_p2 a_p2_cellNames a_p2_secretNames a_p2_pageNames a_p2_speed a_p2_letters a_p2_room a_p2_now a_p2_rounds a_p2_now_order a_p2_now_knows a_p2_now_made a_p2_now_sixteenths a_p2_now_dots a_p2_now_used a_p2_now_stands a_p2_rounds_code a_p2_rounds_one a_p2_rounds_other a_p2_rounds_mate v_ordered v_p1_filled v_p1_end u62 u63 u64 u65 u66 u67 u68 u69 v_p1_keys v_p1_tape v_p2_cells v_p2_secrets u70 v_p2_blind v_p2_rubs v_p2_cellNames v_p2_letters v_p2_now_inOrder v_p2_now_place v_p2_now_ill v_p2_now_shut v_p2_now_turns v_p2_now_madeInAll v_p2_now_dots v_p2_now_knows v_p2_now_made v_p2_now_order v_p2_now_sixteenths v_p2_now_stands v_p2_now_used u71 u72 v_p2_rounds_present v_p2_rounds_steps v_p2_rounds_size v_p2_secretNames v_p2_speed) H := hP
            refine lv_istore_n (lv' := [(3, .int r61), (0, .ref a_), (1, .ref a_p1), (2, .ref a_p2), (4, .int z4)]) hx hb dX2_take_119 rfl hl (by decide) rfl (fun ls hl => ?_)
            refine lv_goto (tgt := 157) hx hb dX2_take_120 (by decide) ?_
            obtain ⟨y74, e74⟩ : ∃ y : Int32, y = z4 + (nI 1) := ⟨_, rfl⟩
            replace hf := lt_of e74 hf
            refine lv_iinc (v := y74) (lv' := [(4, .int y74), (3, .int r61), (0, .ref a_), (1, .ref a_p1), (2, .ref a_p2)]) hx hb dX2_take_157 hl (k := 4) rfl (by rw [e74]; rfl) (by decide) rfl (fun ls hl => ?_)
            refine lv_goto (tgt := 14) hx hb dX2_take_160 (by decide) ?_
            exact ih r61 y74 v_ordered u62 u63 u64 u65 u66 u67 u68 u69 v_p2_cells v_p2_secrets u70 v_p2_blind v_p2_rubs v_p2_cellNames v_p2_letters v_p2_now_inOrder v_p2_now_place v_p2_now_ill v_p2_now_shut v_p2_now_turns v_p2_now_madeInAll v_p2_now_dots v_p2_now_knows v_p2_now_made v_p2_now_order v_p2_now_sixteenths v_p2_now_stands v_p2_now_used u71 u72 v_p2_rounds_present v_p2_rounds_steps v_p2_rounds_size v_p2_secretNames v_p2_speed hf _ _ _ hP (mp_D_of hD rfl) hS (lv_sub hl [2, 3, 4, 1, 0] rfl)
          replace hf := if_f hf h60
          by_cases h75 : v_p1_key = (nI 7)
          · replace hf := if_t hf h75
            refine lv_tableIn (off := 114) (tgt := 151) hx hb dX2_take_37 (by rw [h75]; decide) (by rw [h75]; decide) (by rw [h75]; decide) (by decide) ?_
            refine lv_aload_n hx hb dX2_take_151 rfl (lv_at hl 1 rfl) ?_
            refine lv_iconst (v := (nI 2)) hx hb dX2_take_152 (by decide) ?_
            obtain ⟨⟨r76, u77, u78⟩, c79, hf⟩ := bd_of hf
            dsimp only at hf
            have hPc := hP.sub (ws' := (k_X8_fail T a_p1 a_p1_tape a_p1_keys v_p1_filled v_p1_end v_p1_at v_p1_kind v_p1_place v_p1_word v_p1_key v_p1_number v_p1_faultKind v_p1_faultPlace)) [1] rfl
            have hDc := (mp_D_of (w1 := (k_X2_take T a_ a_p1 a_p1_tape a_p1_keys a_p2 a_p2_cellNames a_p2_secretNames a_p2_pageNames a_p2_speed a_p2_letters a_p2_room a_p2_now a_p2_rounds a_p2_now_order a_p2_now_knows a_p2_now_made a_p2_now_sixteenths a_p2_now_dots a_p2_now_used a_p2_now_stands a_p2_rounds_code a_p2_rounds_one a_p2_rounds_other a_p2_rounds_mate v_ordered v_p1_filled v_p1_end v_p1_at v_p1_kind v_p1_place v_p1_word v_p1_key v_p1_number v_p1_faultKind v_p1_faultPlace v_p1_keys v_p1_tape v_p2_cells v_p2_secrets v_p2_pages v_p2_blind v_p2_rubs v_p2_cellNames v_p2_letters v_p2_now_inOrder v_p2_now_place v_p2_now_ill v_p2_now_shut v_p2_now_turns v_p2_now_madeInAll v_p2_now_dots v_p2_now_knows v_p2_now_made v_p2_now_order v_p2_now_sixteenths v_p2_now_stands v_p2_now_used v_p2_pageNames v_p2_room v_p2_rounds_present v_p2_rounds_steps v_p2_rounds_size v_p2_secretNames v_p2_speed)) hD rfl).sub (ws' := (k_X8_fail T a_p1 a_p1_tape a_p1_keys v_p1_filled v_p1_end v_p1_at v_p1_kind v_p1_place v_p1_word v_p1_key v_p1_number v_p1_faultKind v_p1_faultPlace)) [1] rfl rfl
            refine mp_calli (isC := [1]) (wc := (k_X8_fail T a_p1 a_p1_tape a_p1_keys v_p1_filled v_p1_end v_p1_at v_p1_kind v_p1_place v_p1_word v_p1_key v_p1_number v_p1_faultKind v_p1_faultPlace)) (w1 := (k_X8_fail T a_p1 a_p1_tape a_p1_keys v_p1_filled v_p1_end v_p1_at v_p1_kind v_p1_place v_p1_word v_p1_key v_p1_number u77 u78)) hP (mp_D_of hD rfl) hS hA rfl rfl (mp_runV (As := [.int (nI 2)]) (rest := []) X me_X8_fail lk_X2_48 (c_X8_fail l D T a_p1 a_p1_tape a_p1_keys (nI 2) v_p1_filled v_p1_end v_p1_at v_p1_word v_p1_key v_p1_number v_p1_kind v_p1_place v_p1_faultKind v_p1_faultPlace r76 u77 u78 c79) rfl rfl ⟨(Nat.le_of_ble_eq_true rfl), (Nat.le_of_ble_eq_true rfl)⟩ hK hPc hDc rfl rfl rfl rfl hl.1 rfl (Nat.le_of_ble_eq_true rfl) dX2_take_153 ⟨Nat.zero_le _, Nat.zero_le _⟩) (fun H locs hP _ hS => ?_)
            replace hP : va_P D mp_cl (k_X2_take T a_ a_p1 a_p1_tape a_p1_keys a_p2 a_p2_cellNames a_p2_secretNames a_p2_pageNames a_p2_speed a_p2_letters a_p2_room a_p2_now a_p2_rounds a_p2_now_order a_p2_now_knows a_p2_now_made a_p2_now_sixteenths a_p2_now_dots a_p2_now_used a_p2_now_stands a_p2_rounds_code a_p2_rounds_one a_p2_rounds_other a_p2_rounds_mate v_ordered v_p1_filled v_p1_end v_p1_at v_p1_kind v_p1_place v_p1_word v_p1_key v_p1_number u77 u78 v_p1_keys v_p1_tape v_p2_cells v_p2_secrets v_p2_pages v_p2_blind v_p2_rubs v_p2_cellNames v_p2_letters v_p2_now_inOrder v_p2_now_place v_p2_now_ill v_p2_now_shut v_p2_now_turns v_p2_now_madeInAll v_p2_now_dots v_p2_now_knows v_p2_now_made v_p2_now_order v_p2_now_sixteenths v_p2_now_stands v_p2_now_used v_p2_pageNames v_p2_room v_p2_rounds_present v_p2_rounds_steps v_p2_rounds_size v_p2_secretNames v_p2_speed) H := hP
            refine lv_istore_n (lv' := [(3, .int r76), (0, .ref a_), (1, .ref a_p1), (2, .ref a_p2), (4, .int z4)]) hx hb dX2_take_156 rfl hl (by decide) rfl (fun ls hl => ?_)
            obtain ⟨y80, e80⟩ : ∃ y : Int32, y = z4 + (nI 1) := ⟨_, rfl⟩
            replace hf := lt_of e80 hf
            refine lv_iinc (v := y80) (lv' := [(4, .int y80), (3, .int r76), (0, .ref a_), (1, .ref a_p1), (2, .ref a_p2)]) hx hb dX2_take_157 hl (k := 4) rfl (by rw [e80]; rfl) (by decide) rfl (fun ls hl => ?_)
            refine lv_goto (tgt := 14) hx hb dX2_take_160 (by decide) ?_
            exact ih r76 y80 v_ordered v_p1_at v_p1_kind v_p1_place v_p1_word v_p1_key v_p1_number u77 u78 v_p2_cells v_p2_secrets v_p2_pages v_p2_blind v_p2_rubs v_p2_cellNames v_p2_letters v_p2_now_inOrder v_p2_now_place v_p2_now_ill v_p2_now_shut v_p2_now_turns v_p2_now_madeInAll v_p2_now_dots v_p2_now_knows v_p2_now_made v_p2_now_order v_p2_now_sixteenths v_p2_now_stands v_p2_now_used v_p2_pageNames v_p2_room v_p2_rounds_present v_p2_rounds_steps v_p2_rounds_size v_p2_secretNames v_p2_speed hf _ _ _ hP (mp_D_of hD rfl) hS (lv_sub hl [2, 3, 4, 1, 0] rfl)
          replace hf := if_f hf h75
          by_cases h81 : v_p1_key = (nI 8)
          · replace hf := if_t hf h81
            refine lv_tableIn (off := 86) (tgt := 123) hx hb dX2_take_37 (by rw [h81]; decide) (by rw [h81]; decide) (by rw [h81]; decide) (by decide) ?_
            refine lv_aload_n hx hb dX2_take_123 rfl (lv_at hl 1 rfl) ?_
            refine lv_aload_n hx hb dX2_take_124 rfl (lv_at hl 2 rfl) ?_
            obtain ⟨⟨r82, u83, u84, u85, u86, u87, u88, u89, u90, u91⟩, c92, hf⟩ := bd_of hf
            dsimp only at hf
            have hPc := hP.sub (ws' := (k_X2_takeKnows T a_p1 a_p1_tape a_p1_keys a_p2 a_p2_cellNames a_p2_secretNames a_p2_pageNames a_p2_speed a_p2_letters a_p2_room a_p2_now a_p2_rounds a_p2_now_order a_p2_now_knows a_p2_now_made a_p2_now_sixteenths a_p2_now_dots a_p2_now_used a_p2_now_stands v_p1_filled v_p1_end v_p1_at v_p1_kind v_p1_place v_p1_word v_p1_key v_p1_number v_p1_faultKind v_p1_faultPlace v_p1_keys v_p1_tape v_p2_cells v_p2_secrets v_p2_pages v_p2_blind v_p2_rubs v_p2_cellNames v_p2_now_inOrder v_p2_now_place v_p2_now_ill v_p2_now_shut v_p2_now_turns v_p2_now_madeInAll v_p2_now_knows v_p2_secretNames)) [1, 2, 3, 4, 5, 7, 9, 18] rfl
            have hDc := (mp_D_of (w1 := (k_X2_take T a_ a_p1 a_p1_tape a_p1_keys a_p2 a_p2_cellNames a_p2_secretNames a_p2_pageNames a_p2_speed a_p2_letters a_p2_room a_p2_now a_p2_rounds a_p2_now_order a_p2_now_knows a_p2_now_made a_p2_now_sixteenths a_p2_now_dots a_p2_now_used a_p2_now_stands a_p2_rounds_code a_p2_rounds_one a_p2_rounds_other a_p2_rounds_mate v_ordered v_p1_filled v_p1_end v_p1_at v_p1_kind v_p1_place v_p1_word v_p1_key v_p1_number v_p1_faultKind v_p1_faultPlace v_p1_keys v_p1_tape v_p2_cells v_p2_secrets v_p2_pages v_p2_blind v_p2_rubs v_p2_cellNames v_p2_letters v_p2_now_inOrder v_p2_now_place v_p2_now_ill v_p2_now_shut v_p2_now_turns v_p2_now_madeInAll v_p2_now_dots v_p2_now_knows v_p2_now_made v_p2_now_order v_p2_now_sixteenths v_p2_now_stands v_p2_now_used v_p2_pageNames v_p2_room v_p2_rounds_present v_p2_rounds_steps v_p2_rounds_size v_p2_secretNames v_p2_speed)) hD rfl).sub (ws' := (k_X2_takeKnows T a_p1 a_p1_tape a_p1_keys a_p2 a_p2_cellNames a_p2_secretNames a_p2_pageNames a_p2_speed a_p2_letters a_p2_room a_p2_now a_p2_rounds a_p2_now_order a_p2_now_knows a_p2_now_made a_p2_now_sixteenths a_p2_now_dots a_p2_now_used a_p2_now_stands v_p1_filled v_p1_end v_p1_at v_p1_kind v_p1_place v_p1_word v_p1_key v_p1_number v_p1_faultKind v_p1_faultPlace v_p1_keys v_p1_tape v_p2_cells v_p2_secrets v_p2_pages v_p2_blind v_p2_rubs v_p2_cellNames v_p2_now_inOrder v_p2_now_place v_p2_now_ill v_p2_now_shut v_p2_now_turns v_p2_now_madeInAll v_p2_now_knows v_p2_secretNames)) [1, 2, 3, 4, 5, 7, 9, 18] rfl rfl
            refine mp_calli (isC := [1, 2, 3, 4, 5, 7, 9, 18]) (wc := (k_X2_takeKnows T a_p1 a_p1_tape a_p1_keys a_p2 a_p2_cellNames a_p2_secretNames a_p2_pageNames a_p2_speed a_p2_letters a_p2_room a_p2_now a_p2_rounds a_p2_now_order a_p2_now_knows a_p2_now_made a_p2_now_sixteenths a_p2_now_dots a_p2_now_used a_p2_now_stands v_p1_filled v_p1_end v_p1_at v_p1_kind v_p1_place v_p1_word v_p1_key v_p1_number v_p1_faultKind v_p1_faultPlace v_p1_keys v_p1_tape v_p2_cells v_p2_secrets v_p2_pages v_p2_blind v_p2_rubs v_p2_cellNames v_p2_now_inOrder v_p2_now_place v_p2_now_ill v_p2_now_shut v_p2_now_turns v_p2_now_madeInAll v_p2_now_knows v_p2_secretNames)) (w1 := (k_X2_takeKnows T a_p1 a_p1_tape a_p1_keys a_p2 a_p2_cellNames a_p2_secretNames a_p2_pageNames a_p2_speed a_p2_letters a_p2_room a_p2_now a_p2_rounds a_p2_now_order a_p2_now_knows a_p2_now_made a_p2_now_sixteenths a_p2_now_dots a_p2_now_used a_p2_now_stands v_p1_filled v_p1_end u83 u84 u85 u86 u87 u88 u89 u90 v_p1_keys v_p1_tape v_p2_cells v_p2_secrets v_p2_pages v_p2_blind v_p2_rubs v_p2_cellNames v_p2_now_inOrder v_p2_now_place v_p2_now_ill v_p2_now_shut v_p2_now_turns v_p2_now_madeInAll u91 v_p2_secretNames)) hP (mp_D_of hD rfl) hS hA rfl rfl (mp_runS (As := [.ref a_p1, .ref a_p2]) (rest := []) X me_X2_takeKnows lk_X2_39 (c_X2_takeKnows l D T fu a_p1 a_p1_tape a_p1_keys a_p2 a_p2_cellNames a_p2_secretNames a_p2_pageNames a_p2_speed a_p2_letters a_p2_room a_p2_now a_p2_rounds a_p2_now_order a_p2_now_knows a_p2_now_made a_p2_now_sixteenths a_p2_now_dots a_p2_now_used a_p2_now_stands v_p1_filled v_p2_pages v_p2_blind v_p2_rubs v_p2_now_inOrder v_p2_now_place v_p2_now_ill v_p2_now_shut v_p2_now_turns v_p2_now_madeInAll v_p1_end v_p1_at v_p1_kind v_p1_place v_p1_word v_p1_key v_p1_number v_p1_faultKind v_p1_faultPlace v_p1_keys v_p1_tape v_p2_cells v_p2_secrets v_p2_cellNames v_p2_now_knows v_p2_secretNames r82 u83 u84 u85 u86 u87 u88 u89 u90 u91 c92) rfl rfl ⟨(Nat.le_of_ble_eq_true rfl), (Nat.le_of_ble_eq_true rfl)⟩ hK hPc hDc rfl hl.1 rfl (Nat.le_of_ble_eq_true rfl) dX2_take_125 ⟨Nat.zero_le _, Nat.zero_le _⟩) (fun H locs hP _ hS => ?_)
            replace hP : va_P D mp_cl (k_X2_take T a_ a_p1 a_p1_tape a_p1_keys a_p2 a_p2_cellNames a_p2_secretNames a_p2_pageNames a_p2_speed a_p2_letters a_p2_room a_p2_now a_p2_rounds a_p2_now_order a_p2_now_knows a_p2_now_made a_p2_now_sixteenths a_p2_now_dots a_p2_now_used a_p2_now_stands a_p2_rounds_code a_p2_rounds_one a_p2_rounds_other a_p2_rounds_mate v_ordered v_p1_filled v_p1_end u83 u84 u85 u86 u87 u88 u89 u90 v_p1_keys v_p1_tape v_p2_cells v_p2_secrets v_p2_pages v_p2_blind v_p2_rubs v_p2_cellNames v_p2_letters v_p2_now_inOrder v_p2_now_place v_p2_now_ill v_p2_now_shut v_p2_now_turns v_p2_now_madeInAll v_p2_now_dots u91 v_p2_now_made v_p2_now_order v_p2_now_sixteenths v_p2_now_stands v_p2_now_used v_p2_pageNames v_p2_room v_p2_rounds_present v_p2_rounds_steps v_p2_rounds_size v_p2_secretNames v_p2_speed) H := hP
            refine lv_istore_n (lv' := [(3, .int r82), (0, .ref a_), (1, .ref a_p1), (2, .ref a_p2), (4, .int z4)]) hx hb dX2_take_128 rfl hl (by decide) rfl (fun ls hl => ?_)
            refine lv_goto (tgt := 157) hx hb dX2_take_129 (by decide) ?_
            obtain ⟨y93, e93⟩ : ∃ y : Int32, y = z4 + (nI 1) := ⟨_, rfl⟩
            replace hf := lt_of e93 hf
            refine lv_iinc (v := y93) (lv' := [(4, .int y93), (3, .int r82), (0, .ref a_), (1, .ref a_p1), (2, .ref a_p2)]) hx hb dX2_take_157 hl (k := 4) rfl (by rw [e93]; rfl) (by decide) rfl (fun ls hl => ?_)
            refine lv_goto (tgt := 14) hx hb dX2_take_160 (by decide) ?_
            exact ih r82 y93 v_ordered u83 u84 u85 u86 u87 u88 u89 u90 v_p2_cells v_p2_secrets v_p2_pages v_p2_blind v_p2_rubs v_p2_cellNames v_p2_letters v_p2_now_inOrder v_p2_now_place v_p2_now_ill v_p2_now_shut v_p2_now_turns v_p2_now_madeInAll v_p2_now_dots u91 v_p2_now_made v_p2_now_order v_p2_now_sixteenths v_p2_now_stands v_p2_now_used v_p2_pageNames v_p2_room v_p2_rounds_present v_p2_rounds_steps v_p2_rounds_size v_p2_secretNames v_p2_speed hf _ _ _ hP (mp_D_of hD rfl) hS (lv_sub hl [2, 3, 4, 1, 0] rfl)
          replace hf := if_f hf h81
          by_cases h94 : v_p1_key = (nI 9)
          · replace hf := if_t hf h94
            refine lv_tableIn (off := 95) (tgt := 132) hx hb dX2_take_37 (by rw [h94]; decide) (by rw [h94]; decide) (by rw [h94]; decide) (by decide) ?_
            refine lv_aload_n hx hb dX2_take_132 rfl (lv_at hl 0 rfl) ?_
            refine lv_aload_n hx hb dX2_take_133 rfl (lv_at hl 1 rfl) ?_
            refine lv_aload_n hx hb dX2_take_134 rfl (lv_at hl 2 rfl) ?_
            obtain ⟨⟨r95, u96, u97, u98, u99, u100, u101, u102, u103, u104, u105, u106⟩, c107, hf⟩ := bd_of hf
            dsimp only at hf
            have hPc := hP.sub (ws' := (k_X2_takeOrder T a_ a_p1 a_p1_tape a_p1_keys a_p2 a_p2_cellNames a_p2_secretNames a_p2_pageNames a_p2_speed a_p2_letters a_p2_room a_p2_now a_p2_rounds a_p2_now_order a_p2_now_knows a_p2_now_made a_p2_now_sixteenths a_p2_now_dots a_p2_now_used a_p2_now_stands v_ordered v_p1_filled v_p1_end v_p1_at v_p1_kind v_p1_place v_p1_word v_p1_key v_p1_number v_p1_faultKind v_p1_faultPlace v_p1_keys v_p1_tape v_p2_cells v_p2_secrets v_p2_pages v_p2_blind v_p2_rubs v_p2_cellNames v_p2_now_inOrder v_p2_now_place v_p2_now_ill v_p2_now_shut v_p2_now_turns v_p2_now_madeInAll v_p2_now_order)) [0, 1, 2, 3, 4, 5, 7, 11] rfl
            have hDc := (mp_D_of (w1 := (k_X2_take T a_ a_p1 a_p1_tape a_p1_keys a_p2 a_p2_cellNames a_p2_secretNames a_p2_pageNames a_p2_speed a_p2_letters a_p2_room a_p2_now a_p2_rounds a_p2_now_order a_p2_now_knows a_p2_now_made a_p2_now_sixteenths a_p2_now_dots a_p2_now_used a_p2_now_stands a_p2_rounds_code a_p2_rounds_one a_p2_rounds_other a_p2_rounds_mate v_ordered v_p1_filled v_p1_end v_p1_at v_p1_kind v_p1_place v_p1_word v_p1_key v_p1_number v_p1_faultKind v_p1_faultPlace v_p1_keys v_p1_tape v_p2_cells v_p2_secrets v_p2_pages v_p2_blind v_p2_rubs v_p2_cellNames v_p2_letters v_p2_now_inOrder v_p2_now_place v_p2_now_ill v_p2_now_shut v_p2_now_turns v_p2_now_madeInAll v_p2_now_dots v_p2_now_knows v_p2_now_made v_p2_now_order v_p2_now_sixteenths v_p2_now_stands v_p2_now_used v_p2_pageNames v_p2_room v_p2_rounds_present v_p2_rounds_steps v_p2_rounds_size v_p2_secretNames v_p2_speed)) hD rfl).sub (ws' := (k_X2_takeOrder T a_ a_p1 a_p1_tape a_p1_keys a_p2 a_p2_cellNames a_p2_secretNames a_p2_pageNames a_p2_speed a_p2_letters a_p2_room a_p2_now a_p2_rounds a_p2_now_order a_p2_now_knows a_p2_now_made a_p2_now_sixteenths a_p2_now_dots a_p2_now_used a_p2_now_stands v_ordered v_p1_filled v_p1_end v_p1_at v_p1_kind v_p1_place v_p1_word v_p1_key v_p1_number v_p1_faultKind v_p1_faultPlace v_p1_keys v_p1_tape v_p2_cells v_p2_secrets v_p2_pages v_p2_blind v_p2_rubs v_p2_cellNames v_p2_now_inOrder v_p2_now_place v_p2_now_ill v_p2_now_shut v_p2_now_turns v_p2_now_madeInAll v_p2_now_order)) [0, 1, 2, 3, 4, 5, 7, 11] rfl rfl
            refine mp_calli (isC := [0, 1, 2, 3, 4, 5, 7, 11]) (wc := (k_X2_takeOrder T a_ a_p1 a_p1_tape a_p1_keys a_p2 a_p2_cellNames a_p2_secretNames a_p2_pageNames a_p2_speed a_p2_letters a_p2_room a_p2_now a_p2_rounds a_p2_now_order a_p2_now_knows a_p2_now_made a_p2_now_sixteenths a_p2_now_dots a_p2_now_used a_p2_now_stands v_ordered v_p1_filled v_p1_end v_p1_at v_p1_kind v_p1_place v_p1_word v_p1_key v_p1_number v_p1_faultKind v_p1_faultPlace v_p1_keys v_p1_tape v_p2_cells v_p2_secrets v_p2_pages v_p2_blind v_p2_rubs v_p2_cellNames v_p2_now_inOrder v_p2_now_place v_p2_now_ill v_p2_now_shut v_p2_now_turns v_p2_now_madeInAll v_p2_now_order)) (w1 := (k_X2_takeOrder T a_ a_p1 a_p1_tape a_p1_keys a_p2 a_p2_cellNames a_p2_secretNames a_p2_pageNames a_p2_speed a_p2_letters a_p2_room a_p2_now a_p2_rounds a_p2_now_order a_p2_now_knows a_p2_now_made a_p2_now_sixteenths a_p2_now_dots a_p2_now_used a_p2_now_stands u96 v_p1_filled v_p1_end u97 u98 u99 u100 u101 u102 u103 u104 v_p1_keys v_p1_tape v_p2_cells v_p2_secrets v_p2_pages v_p2_blind v_p2_rubs v_p2_cellNames u105 v_p2_now_place v_p2_now_ill v_p2_now_shut v_p2_now_turns v_p2_now_madeInAll u106)) hP (mp_D_of hD rfl) hS hA rfl rfl (mp_runV (As := [.ref a_p1, .ref a_p2]) (rest := []) X me_X2_takeOrder lk_X2_42 (c_X2_takeOrder l D T fu a_ a_p1 a_p1_tape a_p1_keys a_p2 a_p2_cellNames a_p2_secretNames a_p2_pageNames a_p2_speed a_p2_letters a_p2_room a_p2_now a_p2_rounds a_p2_now_order a_p2_now_knows a_p2_now_made a_p2_now_sixteenths a_p2_now_dots a_p2_now_used a_p2_now_stands v_p1_filled v_p2_secrets v_p2_pages v_p2_blind v_p2_rubs v_p2_now_place v_p2_now_ill v_p2_now_shut v_p2_now_turns v_p2_now_madeInAll v_ordered v_p1_end v_p1_at v_p1_kind v_p1_place v_p1_word v_p1_key v_p1_number v_p1_faultKind v_p1_faultPlace v_p1_keys v_p1_tape v_p2_cells v_p2_cellNames v_p2_now_inOrder v_p2_now_order r95 u96 u97 u98 u99 u100 u101 u102 u103 u104 u105 u106 c107) rfl rfl ⟨(Nat.le_of_ble_eq_true rfl), (Nat.le_of_ble_eq_true rfl)⟩ hK hPc hDc rfl rfl rfl rfl hl.1 rfl (Nat.le_of_ble_eq_true rfl) dX2_take_135 ⟨Nat.zero_le _, Nat.zero_le _⟩) (fun H locs hP _ hS => ?_)
            replace hP : va_P D mp_cl (k_X2_take T a_ a_p1 a_p1_tape a_p1_keys a_p2 a_p2_cellNames a_p2_secretNames a_p2_pageNames a_p2_speed a_p2_letters a_p2_room a_p2_now a_p2_rounds a_p2_now_order a_p2_now_knows a_p2_now_made a_p2_now_sixteenths a_p2_now_dots a_p2_now_used a_p2_now_stands a_p2_rounds_code a_p2_rounds_one a_p2_rounds_other a_p2_rounds_mate u96 v_p1_filled v_p1_end u97 u98 u99 u100 u101 u102 u103 u104 v_p1_keys v_p1_tape v_p2_cells v_p2_secrets v_p2_pages v_p2_blind v_p2_rubs v_p2_cellNames v_p2_letters u105 v_p2_now_place v_p2_now_ill v_p2_now_shut v_p2_now_turns v_p2_now_madeInAll v_p2_now_dots v_p2_now_knows v_p2_now_made u106 v_p2_now_sixteenths v_p2_now_stands v_p2_now_used v_p2_pageNames v_p2_room v_p2_rounds_present v_p2_rounds_steps v_p2_rounds_size v_p2_secretNames v_p2_speed) H := hP
            refine lv_istore_n (lv' := [(3, .int r95), (0, .ref a_), (1, .ref a_p1), (2, .ref a_p2), (4, .int z4)]) hx hb dX2_take_138 rfl hl (by decide) rfl (fun ls hl => ?_)
            refine lv_goto (tgt := 157) hx hb dX2_take_139 (by decide) ?_
            obtain ⟨y108, e108⟩ : ∃ y : Int32, y = z4 + (nI 1) := ⟨_, rfl⟩
            replace hf := lt_of e108 hf
            refine lv_iinc (v := y108) (lv' := [(4, .int y108), (3, .int r95), (0, .ref a_), (1, .ref a_p1), (2, .ref a_p2)]) hx hb dX2_take_157 hl (k := 4) rfl (by rw [e108]; rfl) (by decide) rfl (fun ls hl => ?_)
            refine lv_goto (tgt := 14) hx hb dX2_take_160 (by decide) ?_
            exact ih r95 y108 u96 u97 u98 u99 u100 u101 u102 u103 u104 v_p2_cells v_p2_secrets v_p2_pages v_p2_blind v_p2_rubs v_p2_cellNames v_p2_letters u105 v_p2_now_place v_p2_now_ill v_p2_now_shut v_p2_now_turns v_p2_now_madeInAll v_p2_now_dots v_p2_now_knows v_p2_now_made u106 v_p2_now_sixteenths v_p2_now_stands v_p2_now_used v_p2_pageNames v_p2_room v_p2_rounds_present v_p2_rounds_steps v_p2_rounds_size v_p2_secretNames v_p2_speed hf _ _ _ hP (mp_D_of hD rfl) hS (lv_sub hl [2, 3, 4, 1, 0] rfl)
          replace hf := if_f hf h94
          by_cases h109 : v_p1_key = (nI 10)
          · replace hf := if_t hf h109
            refine lv_tableIn (off := 105) (tgt := 142) hx hb dX2_take_37 (by rw [h109]; decide) (by rw [h109]; decide) (by rw [h109]; decide) (by decide) ?_
            refine lv_aload_n hx hb dX2_take_142 rfl (lv_at hl 1 rfl) ?_
            refine lv_aload_n hx hb dX2_take_143 rfl (lv_at hl 2 rfl) ?_
            obtain ⟨⟨r110, u111, u112, u113, u114, u115, u116, u117, u118, u119⟩, c120, hf⟩ := bd_of hf
            dsimp only at hf
            have hPc := hP.sub (ws' := (k_X2_takeRead T a_p1 a_p1_tape a_p1_keys a_p2 a_p2_cellNames a_p2_secretNames a_p2_pageNames a_p2_speed a_p2_letters a_p2_room a_p2_now a_p2_rounds a_p2_now_order a_p2_now_knows a_p2_now_made a_p2_now_sixteenths a_p2_now_dots a_p2_now_used a_p2_now_stands v_p1_filled v_p1_end v_p1_at v_p1_kind v_p1_place v_p1_word v_p1_key v_p1_number v_p1_faultKind v_p1_faultPlace v_p1_keys v_p1_tape v_p2_cells v_p2_secrets v_p2_pages v_p2_blind v_p2_rubs v_p2_now_inOrder v_p2_now_place v_p2_now_ill v_p2_now_shut v_p2_now_turns v_p2_now_madeInAll v_p2_now_sixteenths v_p2_pageNames)) [1, 2, 3, 4, 7, 12, 15] rfl
            have hDc := (mp_D_of (w1 := (k_X2_take T a_ a_p1 a_p1_tape a_p1_keys a_p2 a_p2_cellNames a_p2_secretNames a_p2_pageNames a_p2_speed a_p2_letters a_p2_room a_p2_now a_p2_rounds a_p2_now_order a_p2_now_knows a_p2_now_made a_p2_now_sixteenths a_p2_now_dots a_p2_now_used a_p2_now_stands a_p2_rounds_code a_p2_rounds_one a_p2_rounds_other a_p2_rounds_mate v_ordered v_p1_filled v_p1_end v_p1_at v_p1_kind v_p1_place v_p1_word v_p1_key v_p1_number v_p1_faultKind v_p1_faultPlace v_p1_keys v_p1_tape v_p2_cells v_p2_secrets v_p2_pages v_p2_blind v_p2_rubs v_p2_cellNames v_p2_letters v_p2_now_inOrder v_p2_now_place v_p2_now_ill v_p2_now_shut v_p2_now_turns v_p2_now_madeInAll v_p2_now_dots v_p2_now_knows v_p2_now_made v_p2_now_order v_p2_now_sixteenths v_p2_now_stands v_p2_now_used v_p2_pageNames v_p2_room v_p2_rounds_present v_p2_rounds_steps v_p2_rounds_size v_p2_secretNames v_p2_speed)) hD rfl).sub (ws' := (k_X2_takeRead T a_p1 a_p1_tape a_p1_keys a_p2 a_p2_cellNames a_p2_secretNames a_p2_pageNames a_p2_speed a_p2_letters a_p2_room a_p2_now a_p2_rounds a_p2_now_order a_p2_now_knows a_p2_now_made a_p2_now_sixteenths a_p2_now_dots a_p2_now_used a_p2_now_stands v_p1_filled v_p1_end v_p1_at v_p1_kind v_p1_place v_p1_word v_p1_key v_p1_number v_p1_faultKind v_p1_faultPlace v_p1_keys v_p1_tape v_p2_cells v_p2_secrets v_p2_pages v_p2_blind v_p2_rubs v_p2_now_inOrder v_p2_now_place v_p2_now_ill v_p2_now_shut v_p2_now_turns v_p2_now_madeInAll v_p2_now_sixteenths v_p2_pageNames)) [1, 2, 3, 4, 7, 12, 15] rfl rfl
            refine mp_calli (isC := [1, 2, 3, 4, 7, 12, 15]) (wc := (k_X2_takeRead T a_p1 a_p1_tape a_p1_keys a_p2 a_p2_cellNames a_p2_secretNames a_p2_pageNames a_p2_speed a_p2_letters a_p2_room a_p2_now a_p2_rounds a_p2_now_order a_p2_now_knows a_p2_now_made a_p2_now_sixteenths a_p2_now_dots a_p2_now_used a_p2_now_stands v_p1_filled v_p1_end v_p1_at v_p1_kind v_p1_place v_p1_word v_p1_key v_p1_number v_p1_faultKind v_p1_faultPlace v_p1_keys v_p1_tape v_p2_cells v_p2_secrets v_p2_pages v_p2_blind v_p2_rubs v_p2_now_inOrder v_p2_now_place v_p2_now_ill v_p2_now_shut v_p2_now_turns v_p2_now_madeInAll v_p2_now_sixteenths v_p2_pageNames)) (w1 := (k_X2_takeRead T a_p1 a_p1_tape a_p1_keys a_p2 a_p2_cellNames a_p2_secretNames a_p2_pageNames a_p2_speed a_p2_letters a_p2_room a_p2_now a_p2_rounds a_p2_now_order a_p2_now_knows a_p2_now_made a_p2_now_sixteenths a_p2_now_dots a_p2_now_used a_p2_now_stands v_p1_filled v_p1_end u111 u112 u113 u114 u115 u116 u117 u118 v_p1_keys v_p1_tape v_p2_cells v_p2_secrets v_p2_pages v_p2_blind v_p2_rubs v_p2_now_inOrder v_p2_now_place v_p2_now_ill v_p2_now_shut v_p2_now_turns v_p2_now_madeInAll u119 v_p2_pageNames)) hP (mp_D_of hD rfl) hS hA rfl rfl (mp_runS (As := [.ref a_p1, .ref a_p2]) (rest := []) X me_X2_takeRead lk_X2_45 (c_X2_takeRead l D T fu a_p1 a_p1_tape a_p1_keys a_p2 a_p2_cellNames a_p2_secretNames a_p2_pageNames a_p2_speed a_p2_letters a_p2_room a_p2_now a_p2_rounds a_p2_now_order a_p2_now_knows a_p2_now_made a_p2_now_sixteenths a_p2_now_dots a_p2_now_used a_p2_now_stands v_p1_filled v_p2_cells v_p2_secrets v_p2_blind v_p2_rubs v_p2_now_inOrder v_p2_now_place v_p2_now_ill v_p2_now_shut v_p2_now_turns v_p2_now_madeInAll v_p1_end v_p1_at v_p1_kind v_p1_place v_p1_word v_p1_key v_p1_number v_p1_faultKind v_p1_faultPlace v_p1_keys v_p1_tape v_p2_pages v_p2_now_sixteenths v_p2_pageNames r110 u111 u112 u113 u114 u115 u116 u117 u118 u119 c120) rfl rfl ⟨(Nat.le_of_ble_eq_true rfl), (Nat.le_of_ble_eq_true rfl)⟩ hK hPc hDc rfl hl.1 rfl (Nat.le_of_ble_eq_true rfl) dX2_take_144 ⟨Nat.zero_le _, Nat.zero_le _⟩) (fun H locs hP _ hS => ?_)
            replace hP : va_P D mp_cl (k_X2_take T a_ a_p1 a_p1_tape a_p1_keys a_p2 a_p2_cellNames a_p2_secretNames a_p2_pageNames a_p2_speed a_p2_letters a_p2_room a_p2_now a_p2_rounds a_p2_now_order a_p2_now_knows a_p2_now_made a_p2_now_sixteenths a_p2_now_dots a_p2_now_used a_p2_now_stands a_p2_rounds_code a_p2_rounds_one a_p2_rounds_other a_p2_rounds_mate v_ordered v_p1_filled v_p1_end u111 u112 u113 u114 u115 u116 u117 u118 v_p1_keys v_p1_tape v_p2_cells v_p2_secrets v_p2_pages v_p2_blind v_p2_rubs v_p2_cellNames v_p2_letters v_p2_now_inOrder v_p2_now_place v_p2_now_ill v_p2_now_shut v_p2_now_turns v_p2_now_madeInAll v_p2_now_dots v_p2_now_knows v_p2_now_made v_p2_now_order u119 v_p2_now_stands v_p2_now_used v_p2_pageNames v_p2_room v_p2_rounds_present v_p2_rounds_steps v_p2_rounds_size v_p2_secretNames v_p2_speed) H := hP
            refine lv_istore_n (lv' := [(3, .int r110), (0, .ref a_), (1, .ref a_p1), (2, .ref a_p2), (4, .int z4)]) hx hb dX2_take_147 rfl hl (by decide) rfl (fun ls hl => ?_)
            refine lv_goto (tgt := 157) hx hb dX2_take_148 (by decide) ?_
            obtain ⟨y121, e121⟩ : ∃ y : Int32, y = z4 + (nI 1) := ⟨_, rfl⟩
            replace hf := lt_of e121 hf
            refine lv_iinc (v := y121) (lv' := [(4, .int y121), (3, .int r110), (0, .ref a_), (1, .ref a_p1), (2, .ref a_p2)]) hx hb dX2_take_157 hl (k := 4) rfl (by rw [e121]; rfl) (by decide) rfl (fun ls hl => ?_)
            refine lv_goto (tgt := 14) hx hb dX2_take_160 (by decide) ?_
            exact ih r110 y121 v_ordered u111 u112 u113 u114 u115 u116 u117 u118 v_p2_cells v_p2_secrets v_p2_pages v_p2_blind v_p2_rubs v_p2_cellNames v_p2_letters v_p2_now_inOrder v_p2_now_place v_p2_now_ill v_p2_now_shut v_p2_now_turns v_p2_now_madeInAll v_p2_now_dots v_p2_now_knows v_p2_now_made v_p2_now_order u119 v_p2_now_stands v_p2_now_used v_p2_pageNames v_p2_room v_p2_rounds_present v_p2_rounds_steps v_p2_rounds_size v_p2_secretNames v_p2_speed hf _ _ _ hP (mp_D_of hD rfl) hS (lv_sub hl [2, 3, 4, 1, 0] rfl)
          replace hf := if_f hf h109
          refine lv_tableOut (tgt := 151) hx hb dX2_take_37 (sw_out (0) 11 (fun k hk => match k, hk with | 0, _ => fun e => h4 (Int32.toInt_inj.mp e) | 1, _ => fun e => h21 (Int32.toInt_inj.mp e) | 2, _ => fun e => h27 (Int32.toInt_inj.mp e) | 3, _ => fun e => h33 (Int32.toInt_inj.mp e) | 4, _ => fun e => h39 (Int32.toInt_inj.mp e) | 5, _ => fun e => h54 (Int32.toInt_inj.mp e) | 6, _ => fun e => h60 (Int32.toInt_inj.mp e) | 7, _ => fun e => h75 (Int32.toInt_inj.mp e) | 8, _ => fun e => h81 (Int32.toInt_inj.mp e) | 9, _ => fun e => h94 (Int32.toInt_inj.mp e) | 10, _ => fun e => h109 (Int32.toInt_inj.mp e) | k + 11, hk => absurd hk (by omega)) (by decide)) (by decide) ?_
          refine lv_aload_n hx hb dX2_take_151 rfl (lv_at hl 1 rfl) ?_
          refine lv_iconst (v := (nI 2)) hx hb dX2_take_152 (by decide) ?_
          obtain ⟨⟨r122, u123, u124⟩, c125, hf⟩ := bd_of hf
          dsimp only at hf
          have hPc := hP.sub (ws' := (k_X8_fail T a_p1 a_p1_tape a_p1_keys v_p1_filled v_p1_end v_p1_at v_p1_kind v_p1_place v_p1_word v_p1_key v_p1_number v_p1_faultKind v_p1_faultPlace)) [1] rfl
          have hDc := (mp_D_of (w1 := (k_X2_take T a_ a_p1 a_p1_tape a_p1_keys a_p2 a_p2_cellNames a_p2_secretNames a_p2_pageNames a_p2_speed a_p2_letters a_p2_room a_p2_now a_p2_rounds a_p2_now_order a_p2_now_knows a_p2_now_made a_p2_now_sixteenths a_p2_now_dots a_p2_now_used a_p2_now_stands a_p2_rounds_code a_p2_rounds_one a_p2_rounds_other a_p2_rounds_mate v_ordered v_p1_filled v_p1_end v_p1_at v_p1_kind v_p1_place v_p1_word v_p1_key v_p1_number v_p1_faultKind v_p1_faultPlace v_p1_keys v_p1_tape v_p2_cells v_p2_secrets v_p2_pages v_p2_blind v_p2_rubs v_p2_cellNames v_p2_letters v_p2_now_inOrder v_p2_now_place v_p2_now_ill v_p2_now_shut v_p2_now_turns v_p2_now_madeInAll v_p2_now_dots v_p2_now_knows v_p2_now_made v_p2_now_order v_p2_now_sixteenths v_p2_now_stands v_p2_now_used v_p2_pageNames v_p2_room v_p2_rounds_present v_p2_rounds_steps v_p2_rounds_size v_p2_secretNames v_p2_speed)) hD rfl).sub (ws' := (k_X8_fail T a_p1 a_p1_tape a_p1_keys v_p1_filled v_p1_end v_p1_at v_p1_kind v_p1_place v_p1_word v_p1_key v_p1_number v_p1_faultKind v_p1_faultPlace)) [1] rfl rfl
          refine mp_calli (isC := [1]) (wc := (k_X8_fail T a_p1 a_p1_tape a_p1_keys v_p1_filled v_p1_end v_p1_at v_p1_kind v_p1_place v_p1_word v_p1_key v_p1_number v_p1_faultKind v_p1_faultPlace)) (w1 := (k_X8_fail T a_p1 a_p1_tape a_p1_keys v_p1_filled v_p1_end v_p1_at v_p1_kind v_p1_place v_p1_word v_p1_key v_p1_number u123 u124)) hP (mp_D_of hD rfl) hS hA rfl rfl (mp_runV (As := [.int (nI 2)]) (rest := []) X me_X8_fail lk_X2_48 (c_X8_fail l D T a_p1 a_p1_tape a_p1_keys (nI 2) v_p1_filled v_p1_end v_p1_at v_p1_word v_p1_key v_p1_number v_p1_kind v_p1_place v_p1_faultKind v_p1_faultPlace r122 u123 u124 c125) rfl rfl ⟨(Nat.le_of_ble_eq_true rfl), (Nat.le_of_ble_eq_true rfl)⟩ hK hPc hDc rfl rfl rfl rfl hl.1 rfl (Nat.le_of_ble_eq_true rfl) dX2_take_153 ⟨Nat.zero_le _, Nat.zero_le _⟩) (fun H locs hP _ hS => ?_)
          replace hP : va_P D mp_cl (k_X2_take T a_ a_p1 a_p1_tape a_p1_keys a_p2 a_p2_cellNames a_p2_secretNames a_p2_pageNames a_p2_speed a_p2_letters a_p2_room a_p2_now a_p2_rounds a_p2_now_order a_p2_now_knows a_p2_now_made a_p2_now_sixteenths a_p2_now_dots a_p2_now_used a_p2_now_stands a_p2_rounds_code a_p2_rounds_one a_p2_rounds_other a_p2_rounds_mate v_ordered v_p1_filled v_p1_end v_p1_at v_p1_kind v_p1_place v_p1_word v_p1_key v_p1_number u123 u124 v_p1_keys v_p1_tape v_p2_cells v_p2_secrets v_p2_pages v_p2_blind v_p2_rubs v_p2_cellNames v_p2_letters v_p2_now_inOrder v_p2_now_place v_p2_now_ill v_p2_now_shut v_p2_now_turns v_p2_now_madeInAll v_p2_now_dots v_p2_now_knows v_p2_now_made v_p2_now_order v_p2_now_sixteenths v_p2_now_stands v_p2_now_used v_p2_pageNames v_p2_room v_p2_rounds_present v_p2_rounds_steps v_p2_rounds_size v_p2_secretNames v_p2_speed) H := hP
          refine lv_istore_n (lv' := [(3, .int r122), (0, .ref a_), (1, .ref a_p1), (2, .ref a_p2), (4, .int z4)]) hx hb dX2_take_156 rfl hl (by decide) rfl (fun ls hl => ?_)
          obtain ⟨y126, e126⟩ : ∃ y : Int32, y = z4 + (nI 1) := ⟨_, rfl⟩
          replace hf := lt_of e126 hf
          refine lv_iinc (v := y126) (lv' := [(4, .int y126), (3, .int r122), (0, .ref a_), (1, .ref a_p1), (2, .ref a_p2)]) hx hb dX2_take_157 hl (k := 4) rfl (by rw [e126]; rfl) (by decide) rfl (fun ls hl => ?_)
          refine lv_goto (tgt := 14) hx hb dX2_take_160 (by decide) ?_
          exact ih r122 y126 v_ordered v_p1_at v_p1_kind v_p1_place v_p1_word v_p1_key v_p1_number u123 u124 v_p2_cells v_p2_secrets v_p2_pages v_p2_blind v_p2_rubs v_p2_cellNames v_p2_letters v_p2_now_inOrder v_p2_now_place v_p2_now_ill v_p2_now_shut v_p2_now_turns v_p2_now_madeInAll v_p2_now_dots v_p2_now_knows v_p2_now_made v_p2_now_order v_p2_now_sixteenths v_p2_now_stands v_p2_now_used v_p2_pageNames v_p2_room v_p2_rounds_present v_p2_rounds_steps v_p2_rounds_size v_p2_secretNames v_p2_speed hf _ _ _ hP (mp_D_of hD rfl) hS (lv_sub hl [2, 3, 4, 1, 0] rfl)

set_option maxHeartbeats 4000000 in
set_option maxRecDepth 100000 in
theorem c_X2_take (l : Launch) (D : va_G) (T : Nat → ClassId) (fu : Nat) (a_ a_p1 a_p1_tape a_p1_keys a_p2 a_p2_cellNames a_p2_secretNames a_p2_pageNames a_p2_speed a_p2_letters a_p2_room a_p2_now a_p2_rounds a_p2_now_order a_p2_now_knows a_p2_now_made a_p2_now_sixteenths a_p2_now_dots a_p2_now_used a_p2_now_stands a_p2_rounds_code a_p2_rounds_one a_p2_rounds_other a_p2_rounds_mate : Nat) (v_p1_filled : Int32) (v_ordered : Int32) (v_p1_end : Int32) (v_p1_at : Int32) (v_p1_kind : Int32) (v_p1_place : Int32) (v_p1_word : Int64) (v_p1_key : Int32) (v_p1_number : Int32) (v_p1_faultKind : Int32) (v_p1_faultPlace : Int32) (v_p1_keys : (Nat → Int64)) (v_p1_tape : (Nat → Int32)) (v_p2_cells : Int32) (v_p2_secrets : Int32) (v_p2_pages : Int32) (v_p2_blind : Int32) (v_p2_rubs : Int32) (v_p2_cellNames : (Nat → Int64)) (v_p2_letters : (Nat → Int32)) (v_p2_now_inOrder : Int32) (v_p2_now_place : Int32) (v_p2_now_ill : Int32) (v_p2_now_shut : Int32) (v_p2_now_turns : Int32) (v_p2_now_madeInAll : Int32) (v_p2_now_dots : (Nat → Int32)) (v_p2_now_knows : (Nat → Int32)) (v_p2_now_made : (Nat → Int32)) (v_p2_now_order : (Nat → Int32)) (v_p2_now_sixteenths : (Nat → Int32)) (v_p2_now_stands : (Nat → Int32)) (v_p2_now_used : (Nat → Int32)) (v_p2_pageNames : (Nat → Int64)) (v_p2_room : (Nat → Int32)) (v_p2_rounds_present : Int32) (v_p2_rounds_steps : Int32) (v_p2_rounds_size : Int32) (v_p2_secretNames : (Nat → Int64)) (v_p2_speed : (Nat → Int32)) (r_ : Int32) (o_ordered : Int32) (o_p1_at : Int32) (o_p1_kind : Int32) (o_p1_place : Int32) (o_p1_word : Int64) (o_p1_key : Int32) (o_p1_number : Int32) (o_p1_faultKind : Int32) (o_p1_faultPlace : Int32) (o_p2_cells : Int32) (o_p2_secrets : Int32) (o_p2_pages : Int32) (o_p2_blind : Int32) (o_p2_rubs : Int32) (o_p2_cellNames : (Nat → Int64)) (o_p2_letters : (Nat → Int32)) (o_p2_now_inOrder : Int32) (o_p2_now_place : Int32) (o_p2_now_ill : Int32) (o_p2_now_shut : Int32) (o_p2_now_turns : Int32) (o_p2_now_madeInAll : Int32) (o_p2_now_dots : (Nat → Int32)) (o_p2_now_knows : (Nat → Int32)) (o_p2_now_made : (Nat → Int32)) (o_p2_now_order : (Nat → Int32)) (o_p2_now_sixteenths : (Nat → Int32)) (o_p2_now_stands : (Nat → Int32)) (o_p2_now_used : (Nat → Int32)) (o_p2_pageNames : (Nat → Int64)) (o_p2_room : (Nat → Int32)) (o_p2_rounds_present : Int32) (o_p2_rounds_steps : Int32) (o_p2_rounds_size : Int32) (o_p2_secretNames : (Nat → Int64)) (o_p2_speed : (Nat → Int32)) (hf : f_X2_take fu v_ordered v_p1_end v_p1_at v_p1_kind v_p1_place v_p1_word v_p1_key v_p1_number v_p1_faultKind v_p1_faultPlace v_p1_keys v_p1_tape v_p2_cells v_p2_secrets v_p2_pages v_p2_blind v_p2_rubs v_p2_cellNames v_p2_letters v_p2_now_inOrder v_p2_now_place v_p2_now_ill v_p2_now_shut v_p2_now_turns v_p2_now_madeInAll v_p2_now_dots v_p2_now_knows v_p2_now_made v_p2_now_order v_p2_now_sixteenths v_p2_now_stands v_p2_now_used v_p2_pageNames v_p2_room v_p2_rounds_present v_p2_rounds_steps v_p2_rounds_size v_p2_secretNames v_p2_speed = some (r_, o_ordered, o_p1_at, o_p1_kind, o_p1_place, o_p1_word, o_p1_key, o_p1_number, o_p1_faultKind, o_p1_faultPlace, o_p2_cells, o_p2_secrets, o_p2_pages, o_p2_blind, o_p2_rubs, o_p2_cellNames, o_p2_letters, o_p2_now_inOrder, o_p2_now_place, o_p2_now_ill, o_p2_now_shut, o_p2_now_turns, o_p2_now_madeInAll, o_p2_now_dots, o_p2_now_knows, o_p2_now_made, o_p2_now_order, o_p2_now_sixteenths, o_p2_now_stands, o_p2_now_used, o_p2_pageNames, o_p2_room, o_p2_rounds_present, o_p2_rounds_steps, o_p2_rounds_size, o_p2_secretNames, o_p2_speed)) :
    mp_M l D T yX2_take cX2_take 5 (some .boolean) ({ frames := 6, cells := 0, slots := 0, locals := 136 }) 0 0 [.ref a_, .ref a_p1, .ref a_p2] (k_X2_take T a_ a_p1 a_p1_tape a_p1_keys a_p2 a_p2_cellNames a_p2_secretNames a_p2_pageNames a_p2_speed a_p2_letters a_p2_room a_p2_now a_p2_rounds a_p2_now_order a_p2_now_knows a_p2_now_made a_p2_now_sixteenths a_p2_now_dots a_p2_now_used a_p2_now_stands a_p2_rounds_code a_p2_rounds_one a_p2_rounds_other a_p2_rounds_mate v_ordered v_p1_filled v_p1_end v_p1_at v_p1_kind v_p1_place v_p1_word v_p1_key v_p1_number v_p1_faultKind v_p1_faultPlace v_p1_keys v_p1_tape v_p2_cells v_p2_secrets v_p2_pages v_p2_blind v_p2_rubs v_p2_cellNames v_p2_letters v_p2_now_inOrder v_p2_now_place v_p2_now_ill v_p2_now_shut v_p2_now_turns v_p2_now_madeInAll v_p2_now_dots v_p2_now_knows v_p2_now_made v_p2_now_order v_p2_now_sixteenths v_p2_now_stands v_p2_now_used v_p2_pageNames v_p2_room v_p2_rounds_present v_p2_rounds_steps v_p2_rounds_size v_p2_secretNames v_p2_speed) (mp_Qi D r_ (k_X2_take T a_ a_p1 a_p1_tape a_p1_keys a_p2 a_p2_cellNames a_p2_secretNames a_p2_pageNames a_p2_speed a_p2_letters a_p2_room a_p2_now a_p2_rounds a_p2_now_order a_p2_now_knows a_p2_now_made a_p2_now_sixteenths a_p2_now_dots a_p2_now_used a_p2_now_stands a_p2_rounds_code a_p2_rounds_one a_p2_rounds_other a_p2_rounds_mate o_ordered v_p1_filled v_p1_end o_p1_at o_p1_kind o_p1_place o_p1_word o_p1_key o_p1_number o_p1_faultKind o_p1_faultPlace v_p1_keys v_p1_tape o_p2_cells o_p2_secrets o_p2_pages o_p2_blind o_p2_rubs o_p2_cellNames o_p2_letters o_p2_now_inOrder o_p2_now_place o_p2_now_ill o_p2_now_shut o_p2_now_turns o_p2_now_madeInAll o_p2_now_dots o_p2_now_knows o_p2_now_made o_p2_now_order o_p2_now_sixteenths o_p2_now_stands o_p2_now_used o_p2_pageNames o_p2_room o_p2_rounds_present o_p2_rounds_steps o_p2_rounds_size o_p2_secretNames o_p2_speed)) := by
  refine mp_of (by decide) (Nat.le_of_ble_eq_true rfl) rfl ?_
  intro p e s m args below meth c A ls X hK hP hD hS hA hl
  replace X : mp_X p s m meth c args RX2 "take" cX2_take 5 (some .boolean) := X
  have hx := X.1
  have hb := X.2.1
  have hml := X.2.2.1
  have hown := X.2.2.2.2.1
  have hts := X.2.2.2.2.2.1
  replace hl : lv_has ls 5 [(0, .ref a_), (1, .ref a_p1), (2, .ref a_p2)] := hl
  replace hf : bd_ (f_X1_clear fu v_p2_cells v_p2_secrets v_p2_pages v_p2_blind v_p2_rubs v_p2_now_inOrder v_p2_now_place v_p2_now_ill v_p2_now_shut v_p2_now_turns v_p2_now_madeInAll v_p2_now_dots v_p2_now_knows v_p2_now_made v_p2_now_sixteenths v_p2_now_stands v_p2_now_used v_p2_rounds_present v_p2_rounds_steps v_p2_rounds_size) (fun (z : Int32 × Int32 × Int32 × Int32 × Int32 × Int32 × Int32 × Int32 × Int32 × Int32 × Int32 × (Nat → Int32) × (Nat → Int32) × (Nat → Int32) × (Nat → Int32) × (Nat → Int32) × (Nat → Int32) × Int32 × Int32 × Int32) => match z with | (u1, u2, u3, u4, u5, u6, u7, u8, u9, u10, u11, u12, u13, u14, u15, u16, u17, u18, u19, u20) => f_X2_take_14 fu v_p1_end v_p1_keys v_p1_tape  fu (nI 1) (nI 0) (nI 0) v_p1_at v_p1_kind v_p1_place v_p1_word v_p1_key v_p1_number v_p1_faultKind v_p1_faultPlace u1 u2 u3 u4 u5 v_p2_cellNames v_p2_letters u6 u7 u8 u9 u10 u11 u12 u13 u14 v_p2_now_order u15 u16 u17 v_p2_pageNames v_p2_room u18 u19 u20 v_p2_secretNames v_p2_speed) = some (r_, o_ordered, o_p1_at, o_p1_kind, o_p1_place, o_p1_word, o_p1_key, o_p1_number, o_p1_faultKind, o_p1_faultPlace, o_p2_cells, o_p2_secrets, o_p2_pages, o_p2_blind, o_p2_rubs, o_p2_cellNames, o_p2_letters, o_p2_now_inOrder, o_p2_now_place, o_p2_now_ill, o_p2_now_shut, o_p2_now_turns, o_p2_now_madeInAll, o_p2_now_dots, o_p2_now_knows, o_p2_now_made, o_p2_now_order, o_p2_now_sixteenths, o_p2_now_stands, o_p2_now_used, o_p2_pageNames, o_p2_room, o_p2_rounds_present, o_p2_rounds_steps, o_p2_rounds_size, o_p2_secretNames, o_p2_speed) := hf
  refine lv_aload_n hx hb dX2_take_0 rfl (lv_at hl 2 rfl) ?_
  obtain ⟨⟨u1, u2, u3, u4, u5, u6, u7, u8, u9, u10, u11, u12, u13, u14, u15, u16, u17, u18, u19, u20⟩, c21, hf⟩ := bd_of hf
  dsimp only at hf
  have hPc := hP.sub (ws' := (k_X1_clear T a_p2 a_p2_cellNames a_p2_secretNames a_p2_pageNames a_p2_speed a_p2_letters a_p2_room a_p2_now a_p2_rounds a_p2_now_order a_p2_now_knows a_p2_now_made a_p2_now_sixteenths a_p2_now_dots a_p2_now_used a_p2_now_stands a_p2_rounds_code a_p2_rounds_one a_p2_rounds_other a_p2_rounds_mate v_p2_cells v_p2_secrets v_p2_pages v_p2_blind v_p2_rubs v_p2_now_inOrder v_p2_now_place v_p2_now_ill v_p2_now_shut v_p2_now_turns v_p2_now_madeInAll v_p2_now_dots v_p2_now_knows v_p2_now_made v_p2_now_sixteenths v_p2_now_stands v_p2_now_used v_p2_rounds_present v_p2_rounds_steps v_p2_rounds_size)) [4, 7, 8, 9, 10, 12, 13, 14, 17] rfl
  have hDc := (mp_D_of (w1 := (k_X2_take T a_ a_p1 a_p1_tape a_p1_keys a_p2 a_p2_cellNames a_p2_secretNames a_p2_pageNames a_p2_speed a_p2_letters a_p2_room a_p2_now a_p2_rounds a_p2_now_order a_p2_now_knows a_p2_now_made a_p2_now_sixteenths a_p2_now_dots a_p2_now_used a_p2_now_stands a_p2_rounds_code a_p2_rounds_one a_p2_rounds_other a_p2_rounds_mate v_ordered v_p1_filled v_p1_end v_p1_at v_p1_kind v_p1_place v_p1_word v_p1_key v_p1_number v_p1_faultKind v_p1_faultPlace v_p1_keys v_p1_tape v_p2_cells v_p2_secrets v_p2_pages v_p2_blind v_p2_rubs v_p2_cellNames v_p2_letters v_p2_now_inOrder v_p2_now_place v_p2_now_ill v_p2_now_shut v_p2_now_turns v_p2_now_madeInAll v_p2_now_dots v_p2_now_knows v_p2_now_made v_p2_now_order v_p2_now_sixteenths v_p2_now_stands v_p2_now_used v_p2_pageNames v_p2_room v_p2_rounds_present v_p2_rounds_steps v_p2_rounds_size v_p2_secretNames v_p2_speed)) hD rfl).sub (ws' := (k_X1_clear T a_p2 a_p2_cellNames a_p2_secretNames a_p2_pageNames a_p2_speed a_p2_letters a_p2_room a_p2_now a_p2_rounds a_p2_now_order a_p2_now_knows a_p2_now_made a_p2_now_sixteenths a_p2_now_dots a_p2_now_used a_p2_now_stands a_p2_rounds_code a_p2_rounds_one a_p2_rounds_other a_p2_rounds_mate v_p2_cells v_p2_secrets v_p2_pages v_p2_blind v_p2_rubs v_p2_now_inOrder v_p2_now_place v_p2_now_ill v_p2_now_shut v_p2_now_turns v_p2_now_madeInAll v_p2_now_dots v_p2_now_knows v_p2_now_made v_p2_now_sixteenths v_p2_now_stands v_p2_now_used v_p2_rounds_present v_p2_rounds_steps v_p2_rounds_size)) [4, 7, 8, 9, 10, 12, 13, 14, 17] rfl rfl
  refine mp_callv (isC := [4, 7, 8, 9, 10, 12, 13, 14, 17]) (wc := (k_X1_clear T a_p2 a_p2_cellNames a_p2_secretNames a_p2_pageNames a_p2_speed a_p2_letters a_p2_room a_p2_now a_p2_rounds a_p2_now_order a_p2_now_knows a_p2_now_made a_p2_now_sixteenths a_p2_now_dots a_p2_now_used a_p2_now_stands a_p2_rounds_code a_p2_rounds_one a_p2_rounds_other a_p2_rounds_mate v_p2_cells v_p2_secrets v_p2_pages v_p2_blind v_p2_rubs v_p2_now_inOrder v_p2_now_place v_p2_now_ill v_p2_now_shut v_p2_now_turns v_p2_now_madeInAll v_p2_now_dots v_p2_now_knows v_p2_now_made v_p2_now_sixteenths v_p2_now_stands v_p2_now_used v_p2_rounds_present v_p2_rounds_steps v_p2_rounds_size)) (w1 := (k_X1_clear T a_p2 a_p2_cellNames a_p2_secretNames a_p2_pageNames a_p2_speed a_p2_letters a_p2_room a_p2_now a_p2_rounds a_p2_now_order a_p2_now_knows a_p2_now_made a_p2_now_sixteenths a_p2_now_dots a_p2_now_used a_p2_now_stands a_p2_rounds_code a_p2_rounds_one a_p2_rounds_other a_p2_rounds_mate u1 u2 u3 u4 u5 u6 u7 u8 u9 u10 u11 u12 u13 u14 u15 u16 u17 u18 u19 u20)) hP (mp_D_of hD rfl) hS hA rfl rfl (mp_runV (As := []) (rest := []) X me_X1_clear lk_X2_15 (c_X1_clear l D T fu a_p2 a_p2_cellNames a_p2_secretNames a_p2_pageNames a_p2_speed a_p2_letters a_p2_room a_p2_now a_p2_rounds a_p2_now_order a_p2_now_knows a_p2_now_made a_p2_now_sixteenths a_p2_now_dots a_p2_now_used a_p2_now_stands a_p2_rounds_code a_p2_rounds_one a_p2_rounds_other a_p2_rounds_mate v_p2_cells v_p2_secrets v_p2_pages v_p2_blind v_p2_rubs v_p2_now_inOrder v_p2_now_place v_p2_now_ill v_p2_now_shut v_p2_now_turns v_p2_now_madeInAll v_p2_now_dots v_p2_now_knows v_p2_now_made v_p2_now_sixteenths v_p2_now_stands v_p2_now_used v_p2_rounds_present v_p2_rounds_steps v_p2_rounds_size u1 u2 u3 u4 u5 u6 u7 u8 u9 u10 u11 u12 u13 u14 u15 u16 u17 u18 u19 u20 c21) rfl rfl ⟨(Nat.le_of_ble_eq_true rfl), (Nat.le_of_ble_eq_true rfl)⟩ hK hPc hDc rfl rfl rfl rfl hl.1 rfl (Nat.le_of_ble_eq_true rfl) dX2_take_1 ⟨Nat.zero_le _, Nat.zero_le _⟩) (fun H locs hP _ hS => ?_)
  replace hP : va_P D mp_cl (k_X2_take T a_ a_p1 a_p1_tape a_p1_keys a_p2 a_p2_cellNames a_p2_secretNames a_p2_pageNames a_p2_speed a_p2_letters a_p2_room a_p2_now a_p2_rounds a_p2_now_order a_p2_now_knows a_p2_now_made a_p2_now_sixteenths a_p2_now_dots a_p2_now_used a_p2_now_stands a_p2_rounds_code a_p2_rounds_one a_p2_rounds_other a_p2_rounds_mate v_ordered v_p1_filled v_p1_end v_p1_at v_p1_kind v_p1_place v_p1_word v_p1_key v_p1_number v_p1_faultKind v_p1_faultPlace v_p1_keys v_p1_tape u1 u2 u3 u4 u5 v_p2_cellNames v_p2_letters u6 u7 u8 u9 u10 u11 u12 u13 u14 v_p2_now_order u15 u16 u17 v_p2_pageNames v_p2_room u18 u19 u20 v_p2_secretNames v_p2_speed) H := hP
  refine lv_aload_n hx hb dX2_take_4 rfl (lv_at hl 0 rfl) ?_
  refine lv_iconst (v := (nI 0)) hx hb dX2_take_5 (by decide) ?_
  refine mp_putf X fl_X2_9 fp_X2 rfl hK hP (mp_D_of hD rfl) hS 0 rfl rfl rfl (Nat.le_of_ble_eq_true rfl) dX2_take_6 (fun H locs hP _ hS => ?_)
  replace hP : va_P D mp_cl (k_X2_take T a_ a_p1 a_p1_tape a_p1_keys a_p2 a_p2_cellNames a_p2_secretNames a_p2_pageNames a_p2_speed a_p2_letters a_p2_room a_p2_now a_p2_rounds a_p2_now_order a_p2_now_knows a_p2_now_made a_p2_now_sixteenths a_p2_now_dots a_p2_now_used a_p2_now_stands a_p2_rounds_code a_p2_rounds_one a_p2_rounds_other a_p2_rounds_mate (nI 0) v_p1_filled v_p1_end v_p1_at v_p1_kind v_p1_place v_p1_word v_p1_key v_p1_number v_p1_faultKind v_p1_faultPlace v_p1_keys v_p1_tape u1 u2 u3 u4 u5 v_p2_cellNames v_p2_letters u6 u7 u8 u9 u10 u11 u12 u13 u14 v_p2_now_order u15 u16 u17 v_p2_pageNames v_p2_room u18 u19 u20 v_p2_secretNames v_p2_speed) H := hP
  refine lv_iconst (v := (nI 1)) hx hb dX2_take_9 (by decide) ?_
  refine lv_istore_n (lv' := [(3, .int (nI 1)), (0, .ref a_), (1, .ref a_p1), (2, .ref a_p2)]) hx hb dX2_take_10 rfl hl (by decide) rfl (fun ls hl => ?_)
  refine lv_iconst (v := (nI 0)) hx hb dX2_take_11 (by decide) ?_
  refine lv_istore (lv' := [(4, .int (nI 0)), (3, .int (nI 1)), (0, .ref a_), (1, .ref a_p1), (2, .ref a_p2)]) hx hb dX2_take_12 hl (by decide) rfl (fun ls hl => ?_)
  exact w_X2_take_14 X hK hA  fu a_ a_p1 a_p1_tape a_p1_keys a_p2 a_p2_cellNames a_p2_secretNames a_p2_pageNames a_p2_speed a_p2_letters a_p2_room a_p2_now a_p2_rounds a_p2_now_order a_p2_now_knows a_p2_now_made a_p2_now_sixteenths a_p2_now_dots a_p2_now_used a_p2_now_stands a_p2_rounds_code a_p2_rounds_one a_p2_rounds_other a_p2_rounds_mate v_p1_filled v_p1_end v_p1_keys v_p1_tape r_ o_ordered o_p1_at o_p1_kind o_p1_place o_p1_word o_p1_key o_p1_number o_p1_faultKind o_p1_faultPlace o_p2_cells o_p2_secrets o_p2_pages o_p2_blind o_p2_rubs o_p2_cellNames o_p2_letters o_p2_now_inOrder o_p2_now_place o_p2_now_ill o_p2_now_shut o_p2_now_turns o_p2_now_madeInAll o_p2_now_dots o_p2_now_knows o_p2_now_made o_p2_now_order o_p2_now_sixteenths o_p2_now_stands o_p2_now_used o_p2_pageNames o_p2_room o_p2_rounds_present o_p2_rounds_steps o_p2_rounds_size o_p2_secretNames o_p2_speed   fu (nI 1) (nI 0) (nI 0) v_p1_at v_p1_kind v_p1_place v_p1_word v_p1_key v_p1_number v_p1_faultKind v_p1_faultPlace u1 u2 u3 u4 u5 v_p2_cellNames v_p2_letters u6 u7 u8 u9 u10 u11 u12 u13 u14 v_p2_now_order u15 u16 u17 v_p2_pageNames v_p2_room u18 u19 u20 v_p2_secretNames v_p2_speed hf _ _ _ hP (mp_D_of hD rfl) hS (lv_sub hl [2, 3, 4, 1, 0] rfl)


def k_X6_takeEnd (T : Nat → ClassId) (a_ a_open a_p1 a_p1_tape a_p1_keys a_p2 a_p2_code a_p2_one a_p2_other a_p2_mate : Nat) (v_depth : Int32) (v_open : (Nat → Int32)) (v_p1_filled : Int32) (v_p1_end : Int32) (v_p1_at : Int32) (v_p1_kind : Int32) (v_p1_place : Int32) (v_p1_word : Int64) (v_p1_key : Int32) (v_p1_number : Int32) (v_p1_faultKind : Int32) (v_p1_faultPlace : Int32) (v_p1_keys : (Nat → Int64)) (v_p1_tape : (Nat → Int32)) (v_p2_present : Int32) (v_p2_steps : Int32) (v_p2_size : Int32) (v_p2_code : (Nat → Int32)) (v_p2_mate : (Nat → Int32)) (v_p2_one : (Nat → Int32)) (v_p2_other : (Nat → Int32)) : va_W := [(a_, oX6 a_open v_depth), (a_open, mp_aI T 3 v_open), (a_p1, oX8 a_p1_tape v_p1_filled v_p1_end v_p1_at v_p1_kind v_p1_place v_p1_word v_p1_key v_p1_number v_p1_faultKind v_p1_faultPlace a_p1_keys), (a_p1_keys, mp_aJ T 24 v_p1_keys), (a_p1_tape, mp_aB T 900 v_p1_tape), (a_p2, oX5 v_p2_present v_p2_steps v_p2_size a_p2_code a_p2_one a_p2_other a_p2_mate), (a_p2_code, mp_aI T 60 v_p2_code), (a_p2_mate, mp_aI T 60 v_p2_mate), (a_p2_one, mp_aI T 60 v_p2_one), (a_p2_other, mp_aI T 60 v_p2_other)]
set_option maxHeartbeats 4000000 in
set_option maxRecDepth 100000 in
theorem c_X6_takeEnd (l : Launch) (D : va_G) (T : Nat → ClassId) (fu : Nat) (a_ a_open a_p1 a_p1_tape a_p1_keys a_p2 a_p2_code a_p2_one a_p2_other a_p2_mate : Nat) (v_p1_filled : Int32) (v_p2_present : Int32) (v_p2_steps : Int32) (v_depth : Int32) (v_open : (Nat → Int32)) (v_p1_end : Int32) (v_p1_at : Int32) (v_p1_kind : Int32) (v_p1_place : Int32) (v_p1_word : Int64) (v_p1_key : Int32) (v_p1_number : Int32) (v_p1_faultKind : Int32) (v_p1_faultPlace : Int32) (v_p1_keys : (Nat → Int64)) (v_p1_tape : (Nat → Int32)) (v_p2_size : Int32) (v_p2_code : (Nat → Int32)) (v_p2_mate : (Nat → Int32)) (v_p2_one : (Nat → Int32)) (v_p2_other : (Nat → Int32)) (r_ : Int32) (o_depth : Int32) (o_p1_at : Int32) (o_p1_kind : Int32) (o_p1_place : Int32) (o_p1_word : Int64) (o_p1_key : Int32) (o_p1_number : Int32) (o_p1_faultKind : Int32) (o_p1_faultPlace : Int32) (o_p2_size : Int32) (o_p2_code : (Nat → Int32)) (o_p2_mate : (Nat → Int32)) (o_p2_one : (Nat → Int32)) (o_p2_other : (Nat → Int32)) (hf : f_X6_takeEnd fu v_depth v_open v_p1_end v_p1_at v_p1_kind v_p1_place v_p1_word v_p1_key v_p1_number v_p1_faultKind v_p1_faultPlace v_p1_keys v_p1_tape v_p2_size v_p2_code v_p2_mate v_p2_one v_p2_other = some (r_, o_depth, o_p1_at, o_p1_kind, o_p1_place, o_p1_word, o_p1_key, o_p1_number, o_p1_faultKind, o_p1_faultPlace, o_p2_size, o_p2_code, o_p2_mate, o_p2_one, o_p2_other)) :
    mp_M l D T yX6_takeEnd cX6_takeEnd 3 (some .boolean) ({ frames := 4, cells := 0, slots := 0, locals := 85 }) 0 0 [.ref a_, .ref a_p1, .ref a_p2] (k_X6_takeEnd T a_ a_open a_p1 a_p1_tape a_p1_keys a_p2 a_p2_code a_p2_one a_p2_other a_p2_mate v_depth v_open v_p1_filled v_p1_end v_p1_at v_p1_kind v_p1_place v_p1_word v_p1_key v_p1_number v_p1_faultKind v_p1_faultPlace v_p1_keys v_p1_tape v_p2_present v_p2_steps v_p2_size v_p2_code v_p2_mate v_p2_one v_p2_other) (mp_Qi D r_ (k_X6_takeEnd T a_ a_open a_p1 a_p1_tape a_p1_keys a_p2 a_p2_code a_p2_one a_p2_other a_p2_mate o_depth v_open v_p1_filled v_p1_end o_p1_at o_p1_kind o_p1_place o_p1_word o_p1_key o_p1_number o_p1_faultKind o_p1_faultPlace v_p1_keys v_p1_tape v_p2_present v_p2_steps o_p2_size o_p2_code o_p2_mate o_p2_one o_p2_other)) := by
  refine mp_of (by decide) (Nat.le_of_ble_eq_true rfl) rfl ?_
  intro p e s m args below meth c A ls X hK hP hD hS hA hl
  replace X : mp_X p s m meth c args RX6 "takeEnd" cX6_takeEnd 3 (some .boolean) := X
  have hx := X.1
  have hb := X.2.1
  have hml := X.2.2.1
  have hown := X.2.2.2.2.1
  have hts := X.2.2.2.2.2.1
  replace hl : lv_has ls 3 [(0, .ref a_), (1, .ref a_p1), (2, .ref a_p2)] := hl
  replace hf : (if 0 < v_depth then bd_ (f_X8_forward fu v_p1_end v_p1_at v_p1_kind v_p1_place v_p1_word v_p1_key v_p1_number v_p1_keys v_p1_tape) (fun (z : Int32 × Int32 × Int32 × Int64 × Int32 × Int32) => match z with | (u2, u3, u4, u5, u6, u7) => bd_ (f_X8_closes fu v_p1_end u2 u3 u4 u5 u6 u7 v_p1_faultKind v_p1_faultPlace v_p1_keys v_p1_tape) (fun (z : Int32 × Int32 × Int32 × Int32 × Int64 × Int32 × Int32 × Int32 × Int32) => match z with | (r9, u10, u11, u12, u13, u14, u15, u16, u17) => (if r9 = 0 then some ((nI 0), v_depth, u10, u11, u12, u13, u14, u15, u16, u17, v_p2_size, v_p2_code, v_p2_mate, v_p2_one, v_p2_other) else lt_ (v_depth - (nI 1)) (fun (y20 : Int32) => gi_ y20 3 (bd_ (f_X5_close (v_open (y20).toNatClampNeg) v_p2_size v_p2_code v_p2_mate v_p2_one v_p2_other) (fun (z : Int32 × (Nat → Int32) × (Nat → Int32) × (Nat → Int32) × (Nat → Int32)) => match z with | (u22, u23, u24, u25, u26) => some ((nI 1), y20, u10, u11, u12, u13, u14, u15, u16, u17, u22, u23, u24, u25, u26))))))) else bd_ (f_X8_fail (nI 2) v_p1_kind v_p1_place v_p1_faultKind v_p1_faultPlace) (fun (z : Int32 × Int32 × Int32) => match z with | (r28, u29, u30) => gd_ (r28 = 0 ∨ r28 = 1) (some (r28, v_depth, v_p1_at, v_p1_kind, v_p1_place, v_p1_word, v_p1_key, v_p1_number, u29, u30, v_p2_size, v_p2_code, v_p2_mate, v_p2_one, v_p2_other)))) = some (r_, o_depth, o_p1_at, o_p1_kind, o_p1_place, o_p1_word, o_p1_key, o_p1_number, o_p1_faultKind, o_p1_faultPlace, o_p2_size, o_p2_code, o_p2_mate, o_p2_one, o_p2_other) := hf
  refine lv_aload_n hx hb dX6_takeEnd_0 rfl (lv_at hl 0 rfl) ?_
  refine mp_get X fl_X6_15 hK hP 0 rfl rfl dX6_takeEnd_1 ?_
  refine lv_if_gt (tgt := 13) hx hb dX6_takeEnd_4 (by decide) (fun h1 => ?_) (fun h1 => ?_)
  · replace hf := if_t hf h1
    refine lv_aload_n hx hb dX6_takeEnd_13 rfl (lv_at hl 1 rfl) ?_
    obtain ⟨⟨u2, u3, u4, u5, u6, u7⟩, c8, hf⟩ := bd_of hf
    dsimp only at hf
    have hPc := hP.sub (ws' := (k_X8_forward T a_p1 a_p1_tape a_p1_keys v_p1_filled v_p1_end v_p1_at v_p1_kind v_p1_place v_p1_word v_p1_key v_p1_number v_p1_faultKind v_p1_faultPlace v_p1_keys v_p1_tape)) [2, 3, 4] rfl
    have hDc := (mp_D_of (w1 := (k_X6_takeEnd T a_ a_open a_p1 a_p1_tape a_p1_keys a_p2 a_p2_code a_p2_one a_p2_other a_p2_mate v_depth v_open v_p1_filled v_p1_end v_p1_at v_p1_kind v_p1_place v_p1_word v_p1_key v_p1_number v_p1_faultKind v_p1_faultPlace v_p1_keys v_p1_tape v_p2_present v_p2_steps v_p2_size v_p2_code v_p2_mate v_p2_one v_p2_other)) hD rfl).sub (ws' := (k_X8_forward T a_p1 a_p1_tape a_p1_keys v_p1_filled v_p1_end v_p1_at v_p1_kind v_p1_place v_p1_word v_p1_key v_p1_number v_p1_faultKind v_p1_faultPlace v_p1_keys v_p1_tape)) [2, 3, 4] rfl rfl
    refine mp_callv (isC := [2, 3, 4]) (wc := (k_X8_forward T a_p1 a_p1_tape a_p1_keys v_p1_filled v_p1_end v_p1_at v_p1_kind v_p1_place v_p1_word v_p1_key v_p1_number v_p1_faultKind v_p1_faultPlace v_p1_keys v_p1_tape)) (w1 := (k_X8_forward T a_p1 a_p1_tape a_p1_keys v_p1_filled v_p1_end u2 u3 u4 u5 u6 u7 v_p1_faultKind v_p1_faultPlace v_p1_keys v_p1_tape)) hP (mp_D_of hD rfl) hS hA rfl rfl (mp_runV (As := []) (rest := []) X me_X8_forward lk_X6_48 (c_X8_forward l D T fu a_p1 a_p1_tape a_p1_keys v_p1_filled v_p1_faultKind v_p1_faultPlace v_p1_end v_p1_at v_p1_kind v_p1_place v_p1_word v_p1_key v_p1_number v_p1_keys v_p1_tape u2 u3 u4 u5 u6 u7 c8) rfl rfl ⟨(Nat.le_of_ble_eq_true rfl), (Nat.le_of_ble_eq_true rfl)⟩ hK hPc hDc rfl rfl rfl rfl hl.1 rfl (Nat.le_of_ble_eq_true rfl) dX6_takeEnd_14 ⟨Nat.zero_le _, Nat.zero_le _⟩) (fun H locs hP _ hS => ?_)
    replace hP : va_P D mp_cl (k_X6_takeEnd T a_ a_open a_p1 a_p1_tape a_p1_keys a_p2 a_p2_code a_p2_one a_p2_other a_p2_mate v_depth v_open v_p1_filled v_p1_end u2 u3 u4 u5 u6 u7 v_p1_faultKind v_p1_faultPlace v_p1_keys v_p1_tape v_p2_present v_p2_steps v_p2_size v_p2_code v_p2_mate v_p2_one v_p2_other) H := hP
    refine lv_aload_n hx hb dX6_takeEnd_17 rfl (lv_at hl 1 rfl) ?_
    obtain ⟨⟨r9, u10, u11, u12, u13, u14, u15, u16, u17⟩, c18, hf⟩ := bd_of hf
    dsimp only at hf
    have hPc := hP.sub (ws' := (k_X8_closes T a_p1 a_p1_tape a_p1_keys v_p1_filled v_p1_end u2 u3 u4 u5 u6 u7 v_p1_faultKind v_p1_faultPlace v_p1_keys v_p1_tape)) [2, 3, 4] rfl
    have hDc := (mp_D_of (w1 := (k_X6_takeEnd T a_ a_open a_p1 a_p1_tape a_p1_keys a_p2 a_p2_code a_p2_one a_p2_other a_p2_mate v_depth v_open v_p1_filled v_p1_end u2 u3 u4 u5 u6 u7 v_p1_faultKind v_p1_faultPlace v_p1_keys v_p1_tape v_p2_present v_p2_steps v_p2_size v_p2_code v_p2_mate v_p2_one v_p2_other)) hD rfl).sub (ws' := (k_X8_closes T a_p1 a_p1_tape a_p1_keys v_p1_filled v_p1_end u2 u3 u4 u5 u6 u7 v_p1_faultKind v_p1_faultPlace v_p1_keys v_p1_tape)) [2, 3, 4] rfl rfl
    refine mp_calli (isC := [2, 3, 4]) (wc := (k_X8_closes T a_p1 a_p1_tape a_p1_keys v_p1_filled v_p1_end u2 u3 u4 u5 u6 u7 v_p1_faultKind v_p1_faultPlace v_p1_keys v_p1_tape)) (w1 := (k_X8_closes T a_p1 a_p1_tape a_p1_keys v_p1_filled v_p1_end u10 u11 u12 u13 u14 u15 u16 u17 v_p1_keys v_p1_tape)) hP (mp_D_of hD rfl) hS hA rfl rfl (mp_runV (As := []) (rest := []) X me_X8_closes lk_X6_51 (c_X8_closes l D T fu a_p1 a_p1_tape a_p1_keys v_p1_filled v_p1_end u2 u3 u4 u5 u6 u7 v_p1_faultKind v_p1_faultPlace v_p1_keys v_p1_tape r9 u10 u11 u12 u13 u14 u15 u16 u17 c18) rfl rfl ⟨(Nat.le_of_ble_eq_true rfl), (Nat.le_of_ble_eq_true rfl)⟩ hK hPc hDc rfl rfl rfl rfl hl.1 rfl (Nat.le_of_ble_eq_true rfl) dX6_takeEnd_18 ⟨Nat.zero_le _, Nat.zero_le _⟩) (fun H locs hP _ hS => ?_)
    replace hP : va_P D mp_cl (k_X6_takeEnd T a_ a_open a_p1 a_p1_tape a_p1_keys a_p2 a_p2_code a_p2_one a_p2_other a_p2_mate v_depth v_open v_p1_filled v_p1_end u10 u11 u12 u13 u14 u15 u16 u17 v_p1_keys v_p1_tape v_p2_present v_p2_steps v_p2_size v_p2_code v_p2_mate v_p2_one v_p2_other) H := hP
    refine lv_if_ne (tgt := 26) hx hb dX6_takeEnd_21 (by decide) (fun h19 => ?_) (fun h19 => ?_)
    · replace hf := if_f hf h19
      refine lv_aload_n hx hb dX6_takeEnd_26 rfl (lv_at hl 0 rfl) ?_
      refine lv_dup hx hb dX6_takeEnd_27 rfl ?_
      refine mp_get X fl_X6_15 hK hP 0 rfl rfl dX6_takeEnd_28 ?_
      refine lv_iconst (v := (nI 1)) hx hb dX6_takeEnd_31 (by decide) ?_
      refine lv_isub hx hb dX6_takeEnd_32 ?_
      refine lv_topi (fun y20 e20 => ?_)
      replace hf := lt_of e20 hf
      refine mp_putf X fl_X6_15 fp_X6 rfl hK hP (mp_D_of hD rfl) hS 0 rfl rfl rfl (Nat.le_of_ble_eq_true rfl) dX6_takeEnd_33 (fun H locs hP _ hS => ?_)
      replace hP : va_P D mp_cl (k_X6_takeEnd T a_ a_open a_p1 a_p1_tape a_p1_keys a_p2 a_p2_code a_p2_one a_p2_other a_p2_mate y20 v_open v_p1_filled v_p1_end u10 u11 u12 u13 u14 u15 u16 u17 v_p1_keys v_p1_tape v_p2_present v_p2_steps v_p2_size v_p2_code v_p2_mate v_p2_one v_p2_other) H := hP
      refine lv_aload_n hx hb dX6_takeEnd_36 rfl (lv_at hl 2 rfl) ?_
      refine lv_aload_n hx hb dX6_takeEnd_37 rfl (lv_at hl 0 rfl) ?_
      refine mp_get X fl_X6_9 hK hP 0 rfl rfl dX6_takeEnd_38 ?_
      refine lv_aload_n hx hb dX6_takeEnd_41 rfl (lv_at hl 0 rfl) ?_
      refine mp_get X fl_X6_15 hK hP 0 rfl rfl dX6_takeEnd_42 ?_
      obtain ⟨h21, hf⟩ := gi_of hf
      refine va_iald hx hb hK hP 1 0 rfl rfl h21 dX6_takeEnd_45 ?_
      obtain ⟨⟨u22, u23, u24, u25, u26⟩, c27, hf⟩ := bd_of hf
      dsimp only at hf
      have hPc := hP.sub (ws' := (k_X5_close T a_p2 a_p2_code a_p2_one a_p2_other a_p2_mate v_p2_present v_p2_steps v_p2_size v_p2_code v_p2_mate v_p2_one v_p2_other)) [5, 6, 7, 8, 9] rfl
      have hDc := (mp_D_of (w1 := (k_X6_takeEnd T a_ a_open a_p1 a_p1_tape a_p1_keys a_p2 a_p2_code a_p2_one a_p2_other a_p2_mate y20 v_open v_p1_filled v_p1_end u10 u11 u12 u13 u14 u15 u16 u17 v_p1_keys v_p1_tape v_p2_present v_p2_steps v_p2_size v_p2_code v_p2_mate v_p2_one v_p2_other)) hD rfl).sub (ws' := (k_X5_close T a_p2 a_p2_code a_p2_one a_p2_other a_p2_mate v_p2_present v_p2_steps v_p2_size v_p2_code v_p2_mate v_p2_one v_p2_other)) [5, 6, 7, 8, 9] rfl rfl
      refine mp_callv (isC := [5, 6, 7, 8, 9]) (wc := (k_X5_close T a_p2 a_p2_code a_p2_one a_p2_other a_p2_mate v_p2_present v_p2_steps v_p2_size v_p2_code v_p2_mate v_p2_one v_p2_other)) (w1 := (k_X5_close T a_p2 a_p2_code a_p2_one a_p2_other a_p2_mate v_p2_present v_p2_steps u22 u23 u24 u25 u26)) hP (mp_D_of hD rfl) hS hA rfl rfl (mp_runV (As := [.int (v_open (y20).toNatClampNeg)]) (rest := []) X me_X5_close lk_X6_55 (c_X5_close l D T a_p2 a_p2_code a_p2_one a_p2_other a_p2_mate (v_open (y20).toNatClampNeg) v_p2_present v_p2_steps v_p2_size v_p2_code v_p2_mate v_p2_one v_p2_other u22 u23 u24 u25 u26 c27) rfl rfl ⟨(Nat.le_of_ble_eq_true rfl), (Nat.le_of_ble_eq_true rfl)⟩ hK hPc hDc rfl rfl rfl rfl hl.1 rfl (Nat.le_of_ble_eq_true rfl) dX6_takeEnd_46 ⟨Nat.zero_le _, Nat.zero_le _⟩) (fun H locs hP _ hS => ?_)
      replace hP : va_P D mp_cl (k_X6_takeEnd T a_ a_open a_p1 a_p1_tape a_p1_keys a_p2 a_p2_code a_p2_one a_p2_other a_p2_mate y20 v_open v_p1_filled v_p1_end u10 u11 u12 u13 u14 u15 u16 u17 v_p1_keys v_p1_tape v_p2_present v_p2_steps u22 u23 u24 u25 u26) H := hP
      refine lv_iconst (v := (nI 1)) hx hb dX6_takeEnd_49 (by decide) ?_
      cases hf
      exact mp_retz X hP hS rfl (Or.inr rfl) dX6_takeEnd_50
    · replace hf := if_t hf h19
      refine lv_iconst (v := (nI 0)) hx hb dX6_takeEnd_24 (by decide) ?_
      cases hf
      exact mp_retz X hP hS rfl (Or.inl rfl) dX6_takeEnd_25
  · replace hf := if_f hf h1
    refine lv_aload_n hx hb dX6_takeEnd_7 rfl (lv_at hl 1 rfl) ?_
    refine lv_iconst (v := (nI 2)) hx hb dX6_takeEnd_8 (by decide) ?_
    obtain ⟨⟨r28, u29, u30⟩, c31, hf⟩ := bd_of hf
    dsimp only at hf
    have hPc := hP.sub (ws' := (k_X8_fail T a_p1 a_p1_tape a_p1_keys v_p1_filled v_p1_end v_p1_at v_p1_kind v_p1_place v_p1_word v_p1_key v_p1_number v_p1_faultKind v_p1_faultPlace)) [2] rfl
    have hDc := (mp_D_of (w1 := (k_X6_takeEnd T a_ a_open a_p1 a_p1_tape a_p1_keys a_p2 a_p2_code a_p2_one a_p2_other a_p2_mate v_depth v_open v_p1_filled v_p1_end v_p1_at v_p1_kind v_p1_place v_p1_word v_p1_key v_p1_number v_p1_faultKind v_p1_faultPlace v_p1_keys v_p1_tape v_p2_present v_p2_steps v_p2_size v_p2_code v_p2_mate v_p2_one v_p2_other)) hD rfl).sub (ws' := (k_X8_fail T a_p1 a_p1_tape a_p1_keys v_p1_filled v_p1_end v_p1_at v_p1_kind v_p1_place v_p1_word v_p1_key v_p1_number v_p1_faultKind v_p1_faultPlace)) [2] rfl rfl
    refine mp_calli (isC := [2]) (wc := (k_X8_fail T a_p1 a_p1_tape a_p1_keys v_p1_filled v_p1_end v_p1_at v_p1_kind v_p1_place v_p1_word v_p1_key v_p1_number v_p1_faultKind v_p1_faultPlace)) (w1 := (k_X8_fail T a_p1 a_p1_tape a_p1_keys v_p1_filled v_p1_end v_p1_at v_p1_kind v_p1_place v_p1_word v_p1_key v_p1_number u29 u30)) hP (mp_D_of hD rfl) hS hA rfl rfl (mp_runV (As := [.int (nI 2)]) (rest := []) X me_X8_fail lk_X6_40 (c_X8_fail l D T a_p1 a_p1_tape a_p1_keys (nI 2) v_p1_filled v_p1_end v_p1_at v_p1_word v_p1_key v_p1_number v_p1_kind v_p1_place v_p1_faultKind v_p1_faultPlace r28 u29 u30 c31) rfl rfl ⟨(Nat.le_of_ble_eq_true rfl), (Nat.le_of_ble_eq_true rfl)⟩ hK hPc hDc rfl rfl rfl rfl hl.1 rfl (Nat.le_of_ble_eq_true rfl) dX6_takeEnd_9 ⟨Nat.zero_le _, Nat.zero_le _⟩) (fun H locs hP _ hS => ?_)
    replace hP : va_P D mp_cl (k_X6_takeEnd T a_ a_open a_p1 a_p1_tape a_p1_keys a_p2 a_p2_code a_p2_one a_p2_other a_p2_mate v_depth v_open v_p1_filled v_p1_end v_p1_at v_p1_kind v_p1_place v_p1_word v_p1_key v_p1_number u29 u30 v_p1_keys v_p1_tape v_p2_present v_p2_steps v_p2_size v_p2_code v_p2_mate v_p2_one v_p2_other) H := hP
    obtain ⟨h32, hf⟩ := gd_of hf
    cases hf
    exact mp_retz X hP hS rfl h32 dX6_takeEnd_12


def k_X6_takeOne (T : Nat → ClassId) (a_p1 a_p1_tape a_p1_keys a_p2 a_p2_cellNames a_p2_secretNames a_p2_pageNames a_p2_speed a_p2_letters a_p2_room a_p2_now a_p2_rounds : Nat) (v_p1_filled : Int32) (v_p1_end : Int32) (v_p1_at : Int32) (v_p1_kind : Int32) (v_p1_place : Int32) (v_p1_word : Int64) (v_p1_key : Int32) (v_p1_number : Int32) (v_p1_faultKind : Int32) (v_p1_faultPlace : Int32) (v_p1_keys : (Nat → Int64)) (v_p1_tape : (Nat → Int32)) (v_p2_cells : Int32) (v_p2_secrets : Int32) (v_p2_pages : Int32) (v_p2_blind : Int32) (v_p2_rubs : Int32) (v_p2_cellNames : (Nat → Int64)) (v_p2_pageNames : (Nat → Int64)) (v_p2_secretNames : (Nat → Int64)) : va_W := [(a_p1, oX8 a_p1_tape v_p1_filled v_p1_end v_p1_at v_p1_kind v_p1_place v_p1_word v_p1_key v_p1_number v_p1_faultKind v_p1_faultPlace a_p1_keys), (a_p1_keys, mp_aJ T 24 v_p1_keys), (a_p1_tape, mp_aB T 900 v_p1_tape), (a_p2, oX1 v_p2_cells v_p2_secrets v_p2_pages a_p2_cellNames a_p2_secretNames a_p2_pageNames a_p2_speed v_p2_blind v_p2_rubs a_p2_letters a_p2_room a_p2_now a_p2_rounds), (a_p2_cellNames, mp_aJ T 8 v_p2_cellNames), (a_p2_pageNames, mp_aJ T 6 v_p2_pageNames), (a_p2_secretNames, mp_aJ T 6 v_p2_secretNames)]
set_option maxHeartbeats 4000000 in
set_option maxRecDepth 100000 in
theorem c_X6_takeOne (l : Launch) (D : va_G) (T : Nat → ClassId) (fu : Nat) (a_p1 a_p1_tape a_p1_keys a_p2 a_p2_cellNames a_p2_secretNames a_p2_pageNames a_p2_speed a_p2_letters a_p2_room a_p2_now a_p2_rounds : Nat) (x3 : Int32) (v_p1_filled : Int32) (v_p2_blind : Int32) (v_p2_rubs : Int32) (v_p1_end : Int32) (v_p1_at : Int32) (v_p1_kind : Int32) (v_p1_place : Int32) (v_p1_word : Int64) (v_p1_key : Int32) (v_p1_number : Int32) (v_p1_faultKind : Int32) (v_p1_faultPlace : Int32) (v_p1_keys : (Nat → Int64)) (v_p1_tape : (Nat → Int32)) (v_p2_cells : Int32) (v_p2_secrets : Int32) (v_p2_pages : Int32) (v_p2_cellNames : (Nat → Int64)) (v_p2_pageNames : (Nat → Int64)) (v_p2_secretNames : (Nat → Int64)) (r_ : Int32) (o_p1_at : Int32) (o_p1_kind : Int32) (o_p1_place : Int32) (o_p1_word : Int64) (o_p1_key : Int32) (o_p1_number : Int32) (o_p1_faultKind : Int32) (o_p1_faultPlace : Int32) (hf : f_X6_takeOne fu x3 v_p1_end v_p1_at v_p1_kind v_p1_place v_p1_word v_p1_key v_p1_number v_p1_faultKind v_p1_faultPlace v_p1_keys v_p1_tape v_p2_cells v_p2_secrets v_p2_pages v_p2_cellNames v_p2_pageNames v_p2_secretNames = some (r_, o_p1_at, o_p1_kind, o_p1_place, o_p1_word, o_p1_key, o_p1_number, o_p1_faultKind, o_p1_faultPlace)) :
    mp_M l D T yX6_takeOne cX6_takeOne 3 (some .int) ({ frames := 4, cells := 0, slots := 0, locals := 90 }) 0 0 [.ref a_p1, .ref a_p2, .int x3] (k_X6_takeOne T a_p1 a_p1_tape a_p1_keys a_p2 a_p2_cellNames a_p2_secretNames a_p2_pageNames a_p2_speed a_p2_letters a_p2_room a_p2_now a_p2_rounds v_p1_filled v_p1_end v_p1_at v_p1_kind v_p1_place v_p1_word v_p1_key v_p1_number v_p1_faultKind v_p1_faultPlace v_p1_keys v_p1_tape v_p2_cells v_p2_secrets v_p2_pages v_p2_blind v_p2_rubs v_p2_cellNames v_p2_pageNames v_p2_secretNames) (mp_Qi D r_ (k_X6_takeOne T a_p1 a_p1_tape a_p1_keys a_p2 a_p2_cellNames a_p2_secretNames a_p2_pageNames a_p2_speed a_p2_letters a_p2_room a_p2_now a_p2_rounds v_p1_filled v_p1_end o_p1_at o_p1_kind o_p1_place o_p1_word o_p1_key o_p1_number o_p1_faultKind o_p1_faultPlace v_p1_keys v_p1_tape v_p2_cells v_p2_secrets v_p2_pages v_p2_blind v_p2_rubs v_p2_cellNames v_p2_pageNames v_p2_secretNames)) := by
  refine mp_of (by decide) (Nat.le_of_ble_eq_true rfl) rfl ?_
  intro p e s m args below meth c A ls X hK hP hD hS hA hl
  replace X : mp_X p s m meth c args RX6 "takeOne" cX6_takeOne 3 (some .int) := X
  have hx := X.1
  have hb := X.2.1
  have hml := X.2.2.1
  have hown := X.2.2.2.2.1
  have hts := X.2.2.2.2.2.1
  replace hl : lv_has ls 3 [(0, .ref a_p1), (1, .ref a_p2), (2, .int x3)] := hl
  replace hf : (if x3 = (nI 8) then bd_ (f_X8_oneOf fu 8 v_p2_cells v_p1_end v_p1_at v_p1_kind v_p1_place v_p1_word v_p1_key v_p1_number v_p1_faultKind v_p1_faultPlace v_p1_keys v_p1_tape v_p2_cellNames) (fun (z : Int32 × Int32 × Int32 × Int32 × Int64 × Int32 × Int32 × Int32 × Int32) => match z with | (r2, u3, u4, u5, u6, u7, u8, u9, u10) => some (r2, u3, u4, u5, u6, u7, u8, u9, u10)) else (if x3 = (nI 9) then some ((nI 0), v_p1_at, v_p1_kind, v_p1_place, v_p1_word, v_p1_key, v_p1_number, v_p1_faultKind, v_p1_faultPlace) else (if x3 = (nI 10) then some ((nI 0), v_p1_at, v_p1_kind, v_p1_place, v_p1_word, v_p1_key, v_p1_number, v_p1_faultKind, v_p1_faultPlace) else (if x3 = (nI 11) then some ((nI 0), v_p1_at, v_p1_kind, v_p1_place, v_p1_word, v_p1_key, v_p1_number, v_p1_faultKind, v_p1_faultPlace) else (if x3 = (nI 12) then bd_ (f_X8_numberWithin fu (nI 1) (nI 99) v_p1_end v_p1_at v_p1_kind v_p1_place v_p1_word v_p1_key v_p1_number v_p1_faultKind v_p1_faultPlace v_p1_keys v_p1_tape) (fun (z : Int32 × Int32 × Int32 × Int32 × Int64 × Int32 × Int32 × Int32 × Int32) => match z with | (r16, u17, u18, u19, u20, u21, u22, u23, u24) => some (r16, u17, u18, u19, u20, u21, u22, u23, u24)) else (if x3 = (nI 13) then bd_ (f_X8_oneOf fu 8 v_p2_cells v_p1_end v_p1_at v_p1_kind v_p1_place v_p1_word v_p1_key v_p1_number v_p1_faultKind v_p1_faultPlace v_p1_keys v_p1_tape v_p2_cellNames) (fun (z : Int32 × Int32 × Int32 × Int32 × Int64 × Int32 × Int32 × Int32 × Int32) => match z with | (r27, u28, u29, u30, u31, u32, u33, u34, u35) => some (r27, u28, u29, u30, u31, u32, u33, u34, u35)) else (if x3 = (nI 14) then bd_ (f_X8_oneOf fu 8 v_p2_cells v_p1_end v_p1_at v_p1_kind v_p1_place v_p1_word v_p1_key v_p1_number v_p1_faultKind v_p1_faultPlace v_p1_keys v_p1_tape v_p2_cellNames) (fun (z : Int32 × Int32 × Int32 × Int32 × Int64 × Int32 × Int32 × Int32 × Int32) => match z with | (r38, u39, u40, u41, u42, u43, u44, u45, u46) => some (r38, u39, u40, u41, u42, u43, u44, u45, u46)) else (if x3 = (nI 15) then bd_ (f_X8_oneOf fu 6 v_p2_pages v_p1_end v_p1_at v_p1_kind v_p1_place v_p1_word v_p1_key v_p1_number v_p1_faultKind v_p1_faultPlace v_p1_keys v_p1_tape v_p2_pageNames) (fun (z : Int32 × Int32 × Int32 × Int32 × Int64 × Int32 × Int32 × Int32 × Int32) => match z with | (r49, u50, u51, u52, u53, u54, u55, u56, u57) => some (r49, u50, u51, u52, u53, u54, u55, u56, u57)) else (if x3 = (nI 16) then bd_ (f_X8_oneOf fu 6 v_p2_pages v_p1_end v_p1_at v_p1_kind v_p1_place v_p1_word v_p1_key v_p1_number v_p1_faultKind v_p1_faultPlace v_p1_keys v_p1_tape v_p2_pageNames) (fun (z : Int32 × Int32 × Int32 × Int32 × Int64 × Int32 × Int32 × Int32 × Int32) => match z with | (r60, u61, u62, u63, u64, u65, u66, u67, u68) => some (r60, u61, u62, u63, u64, u65, u66, u67, u68)) else (if x3 = (nI 17) then some ((nI 0), v_p1_at, v_p1_kind, v_p1_place, v_p1_word, v_p1_key, v_p1_number, v_p1_faultKind, v_p1_faultPlace) else (if x3 = (nI 18) then some ((nI 0), v_p1_at, v_p1_kind, v_p1_place, v_p1_word, v_p1_key, v_p1_number, v_p1_faultKind, v_p1_faultPlace) else (if x3 = (nI 19) then bd_ (f_X8_oneOf fu 6 v_p2_pages v_p1_end v_p1_at v_p1_kind v_p1_place v_p1_word v_p1_key v_p1_number v_p1_faultKind v_p1_faultPlace v_p1_keys v_p1_tape v_p2_pageNames) (fun (z : Int32 × Int32 × Int32 × Int32 × Int64 × Int32 × Int32 × Int32 × Int32) => match z with | (r73, u74, u75, u76, u77, u78, u79, u80, u81) => some (r73, u74, u75, u76, u77, u78, u79, u80, u81)) else (if x3 = (nI 20) then bd_ (f_X8_oneOf fu 6 v_p2_secrets v_p1_end v_p1_at v_p1_kind v_p1_place v_p1_word v_p1_key v_p1_number v_p1_faultKind v_p1_faultPlace v_p1_keys v_p1_tape v_p2_secretNames) (fun (z : Int32 × Int32 × Int32 × Int32 × Int64 × Int32 × Int32 × Int32 × Int32) => match z with | (r84, u85, u86, u87, u88, u89, u90, u91, u92) => some (r84, u85, u86, u87, u88, u89, u90, u91, u92)) else (if x3 = (nI 21) then bd_ (f_X8_numberWithin fu (nI 1) (nI 99) v_p1_end v_p1_at v_p1_kind v_p1_place v_p1_word v_p1_key v_p1_number v_p1_faultKind v_p1_faultPlace v_p1_keys v_p1_tape) (fun (z : Int32 × Int32 × Int32 × Int32 × Int64 × Int32 × Int32 × Int32 × Int32) => match z with | (r95, u96, u97, u98, u99, u100, u101, u102, u103) => some (r95, u96, u97, u98, u99, u100, u101, u102, u103)) else some ((nI 0), v_p1_at, v_p1_kind, v_p1_place, v_p1_word, v_p1_key, v_p1_number, v_p1_faultKind, v_p1_faultPlace))))))))))))))) = some (r_, o_p1_at, o_p1_kind, o_p1_place, o_p1_word, o_p1_key, o_p1_number, o_p1_faultKind, o_p1_faultPlace) := hf
  refine lv_iload_n hx hb dX6_takeOne_0 rfl (lv_at hl 2 rfl) ?_
  by_cases h1 : x3 = (nI 8)
  · replace hf := if_t hf h1
    refine lv_tableIn (off := 79) (tgt := 80) hx hb dX6_takeOne_1 (by rw [h1]; decide) (by rw [h1]; decide) (by rw [h1]; decide) (by decide) ?_
    refine lv_aload_n hx hb dX6_takeOne_80 rfl (lv_at hl 0 rfl) ?_
    refine lv_aload_n hx hb dX6_takeOne_81 rfl (lv_at hl 1 rfl) ?_
    refine mp_get X fl_X6_80 hK hP 3 rfl rfl dX6_takeOne_82 ?_
    refine lv_aload_n hx hb dX6_takeOne_85 rfl (lv_at hl 1 rfl) ?_
    refine mp_get X fl_X6_86 hK hP 3 rfl rfl dX6_takeOne_86 ?_
    obtain ⟨⟨r2, u3, u4, u5, u6, u7, u8, u9, u10⟩, c11, hf⟩ := bd_of hf
    dsimp only at hf
    have hPc := hP.sub (ws' := (k_X8_oneOf T a_p1 a_p1_tape a_p1_keys a_p2_cellNames 8 v_p1_filled v_p1_end v_p1_at v_p1_kind v_p1_place v_p1_word v_p1_key v_p1_number v_p1_faultKind v_p1_faultPlace v_p1_keys v_p1_tape v_p2_cellNames)) [0, 1, 2, 4] rfl
    have hDc := (mp_D_of (w1 := (k_X6_takeOne T a_p1 a_p1_tape a_p1_keys a_p2 a_p2_cellNames a_p2_secretNames a_p2_pageNames a_p2_speed a_p2_letters a_p2_room a_p2_now a_p2_rounds v_p1_filled v_p1_end v_p1_at v_p1_kind v_p1_place v_p1_word v_p1_key v_p1_number v_p1_faultKind v_p1_faultPlace v_p1_keys v_p1_tape v_p2_cells v_p2_secrets v_p2_pages v_p2_blind v_p2_rubs v_p2_cellNames v_p2_pageNames v_p2_secretNames)) hD rfl).sub (ws' := (k_X8_oneOf T a_p1 a_p1_tape a_p1_keys a_p2_cellNames 8 v_p1_filled v_p1_end v_p1_at v_p1_kind v_p1_place v_p1_word v_p1_key v_p1_number v_p1_faultKind v_p1_faultPlace v_p1_keys v_p1_tape v_p2_cellNames)) [0, 1, 2, 4] rfl rfl
    refine mp_calli (isC := [0, 1, 2, 4]) (wc := (k_X8_oneOf T a_p1 a_p1_tape a_p1_keys a_p2_cellNames 8 v_p1_filled v_p1_end v_p1_at v_p1_kind v_p1_place v_p1_word v_p1_key v_p1_number v_p1_faultKind v_p1_faultPlace v_p1_keys v_p1_tape v_p2_cellNames)) (w1 := (k_X8_oneOf T a_p1 a_p1_tape a_p1_keys a_p2_cellNames 8 v_p1_filled v_p1_end u3 u4 u5 u6 u7 u8 u9 u10 v_p1_keys v_p1_tape v_p2_cellNames)) hP (mp_D_of hD rfl) hS hA rfl rfl (mp_runV (As := [.ref a_p2_cellNames, .int v_p2_cells]) (rest := []) X me_X8_oneOf lk_X6_89 (c_X8_oneOf l D T fu a_p1 a_p1_tape a_p1_keys a_p2_cellNames 8 v_p2_cells v_p1_filled v_p1_end v_p1_at v_p1_kind v_p1_place v_p1_word v_p1_key v_p1_number v_p1_faultKind v_p1_faultPlace v_p1_keys v_p1_tape v_p2_cellNames r2 u3 u4 u5 u6 u7 u8 u9 u10 c11) rfl rfl ⟨(Nat.le_of_ble_eq_true rfl), (Nat.le_of_ble_eq_true rfl)⟩ hK hPc hDc rfl rfl rfl rfl hl.1 rfl (Nat.le_of_ble_eq_true rfl) dX6_takeOne_89 ⟨Nat.zero_le _, Nat.zero_le _⟩) (fun H locs hP _ hS => ?_)
    replace hP : va_P D mp_cl (k_X6_takeOne T a_p1 a_p1_tape a_p1_keys a_p2 a_p2_cellNames a_p2_secretNames a_p2_pageNames a_p2_speed a_p2_letters a_p2_room a_p2_now a_p2_rounds v_p1_filled v_p1_end u3 u4 u5 u6 u7 u8 u9 u10 v_p1_keys v_p1_tape v_p2_cells v_p2_secrets v_p2_pages v_p2_blind v_p2_rubs v_p2_cellNames v_p2_pageNames v_p2_secretNames) H := hP
    cases hf
    exact mp_reti X hP hS rfl dX6_takeOne_92
  replace hf := if_f hf h1
  by_cases h12 : x3 = (nI 9)
  · replace hf := if_t hf h12
    refine lv_tableIn (off := 118) (tgt := 119) hx hb dX6_takeOne_1 (by rw [h12]; decide) (by rw [h12]; decide) (by rw [h12]; decide) (by decide) ?_
    refine lv_iconst (v := (nI 0)) hx hb dX6_takeOne_119 (by decide) ?_
    cases hf
    exact mp_reti X hP hS rfl dX6_takeOne_120
  replace hf := if_f hf h12
  by_cases h13 : x3 = (nI 10)
  · replace hf := if_t hf h13
    refine lv_tableIn (off := 118) (tgt := 119) hx hb dX6_takeOne_1 (by rw [h13]; decide) (by rw [h13]; decide) (by rw [h13]; decide) (by decide) ?_
    refine lv_iconst (v := (nI 0)) hx hb dX6_takeOne_119 (by decide) ?_
    cases hf
    exact mp_reti X hP hS rfl dX6_takeOne_120
  replace hf := if_f hf h13
  by_cases h14 : x3 = (nI 11)
  · replace hf := if_t hf h14
    refine lv_tableIn (off := 118) (tgt := 119) hx hb dX6_takeOne_1 (by rw [h14]; decide) (by rw [h14]; decide) (by rw [h14]; decide) (by decide) ?_
    refine lv_iconst (v := (nI 0)) hx hb dX6_takeOne_119 (by decide) ?_
    cases hf
    exact mp_reti X hP hS rfl dX6_takeOne_120
  replace hf := if_f hf h14
  by_cases h15 : x3 = (nI 12)
  · replace hf := if_t hf h15
    refine lv_tableIn (off := 71) (tgt := 72) hx hb dX6_takeOne_1 (by rw [h15]; decide) (by rw [h15]; decide) (by rw [h15]; decide) (by decide) ?_
    refine lv_aload_n hx hb dX6_takeOne_72 rfl (lv_at hl 0 rfl) ?_
    refine lv_iconst (v := (nI 1)) hx hb dX6_takeOne_73 (by decide) ?_
    refine lv_bipush (v := (nI 99)) hx hb dX6_takeOne_74 (by decide) ?_
    obtain ⟨⟨r16, u17, u18, u19, u20, u21, u22, u23, u24⟩, c25, hf⟩ := bd_of hf
    dsimp only at hf
    have hPc := hP.sub (ws' := (k_X8_numberWithin T a_p1 a_p1_tape a_p1_keys v_p1_filled v_p1_end v_p1_at v_p1_kind v_p1_place v_p1_word v_p1_key v_p1_number v_p1_faultKind v_p1_faultPlace v_p1_keys v_p1_tape)) [0, 1, 2] rfl
    have hDc := (mp_D_of (w1 := (k_X6_takeOne T a_p1 a_p1_tape a_p1_keys a_p2 a_p2_cellNames a_p2_secretNames a_p2_pageNames a_p2_speed a_p2_letters a_p2_room a_p2_now a_p2_rounds v_p1_filled v_p1_end v_p1_at v_p1_kind v_p1_place v_p1_word v_p1_key v_p1_number v_p1_faultKind v_p1_faultPlace v_p1_keys v_p1_tape v_p2_cells v_p2_secrets v_p2_pages v_p2_blind v_p2_rubs v_p2_cellNames v_p2_pageNames v_p2_secretNames)) hD rfl).sub (ws' := (k_X8_numberWithin T a_p1 a_p1_tape a_p1_keys v_p1_filled v_p1_end v_p1_at v_p1_kind v_p1_place v_p1_word v_p1_key v_p1_number v_p1_faultKind v_p1_faultPlace v_p1_keys v_p1_tape)) [0, 1, 2] rfl rfl
    refine mp_calli (isC := [0, 1, 2]) (wc := (k_X8_numberWithin T a_p1 a_p1_tape a_p1_keys v_p1_filled v_p1_end v_p1_at v_p1_kind v_p1_place v_p1_word v_p1_key v_p1_number v_p1_faultKind v_p1_faultPlace v_p1_keys v_p1_tape)) (w1 := (k_X8_numberWithin T a_p1 a_p1_tape a_p1_keys v_p1_filled v_p1_end u17 u18 u19 u20 u21 u22 u23 u24 v_p1_keys v_p1_tape)) hP (mp_D_of hD rfl) hS hA rfl rfl (mp_runV (As := [.int (nI 1), .int (nI 99)]) (rest := []) X me_X8_numberWithin lk_X6_76 (c_X8_numberWithin l D T fu a_p1 a_p1_tape a_p1_keys (nI 1) (nI 99) v_p1_filled v_p1_end v_p1_at v_p1_kind v_p1_place v_p1_word v_p1_key v_p1_number v_p1_faultKind v_p1_faultPlace v_p1_keys v_p1_tape r16 u17 u18 u19 u20 u21 u22 u23 u24 c25) rfl rfl ⟨(Nat.le_of_ble_eq_true rfl), (Nat.le_of_ble_eq_true rfl)⟩ hK hPc hDc rfl rfl rfl rfl hl.1 rfl (Nat.le_of_ble_eq_true rfl) dX6_takeOne_76 ⟨Nat.zero_le _, Nat.zero_le _⟩) (fun H locs hP _ hS => ?_)
    replace hP : va_P D mp_cl (k_X6_takeOne T a_p1 a_p1_tape a_p1_keys a_p2 a_p2_cellNames a_p2_secretNames a_p2_pageNames a_p2_speed a_p2_letters a_p2_room a_p2_now a_p2_rounds v_p1_filled v_p1_end u17 u18 u19 u20 u21 u22 u23 u24 v_p1_keys v_p1_tape v_p2_cells v_p2_secrets v_p2_pages v_p2_blind v_p2_rubs v_p2_cellNames v_p2_pageNames v_p2_secretNames) H := hP
    cases hf
    exact mp_reti X hP hS rfl dX6_takeOne_79
  replace hf := if_f hf h15
  by_cases h26 : x3 = (nI 13)
  · replace hf := if_t hf h26
    refine lv_tableIn (off := 79) (tgt := 80) hx hb dX6_takeOne_1 (by rw [h26]; decide) (by rw [h26]; decide) (by rw [h26]; decide) (by decide) ?_
    refine lv_aload_n hx hb dX6_takeOne_80 rfl (lv_at hl 0 rfl) ?_
    refine lv_aload_n hx hb dX6_takeOne_81 rfl (lv_at hl 1 rfl) ?_
    refine mp_get X fl_X6_80 hK hP 3 rfl rfl dX6_takeOne_82 ?_
    refine lv_aload_n hx hb dX6_takeOne_85 rfl (lv_at hl 1 rfl) ?_
    refine mp_get X fl_X6_86 hK hP 3 rfl rfl dX6_takeOne_86 ?_
    obtain ⟨⟨r27, u28, u29, u30, u31, u32, u33, u34, u35⟩, c36, hf⟩ := bd_of hf
    dsimp only at hf
    have hPc := hP.sub (ws' := (k_X8_oneOf T a_p1 a_p1_tape a_p1_keys a_p2_cellNames 8 v_p1_filled v_p1_end v_p1_at v_p1_kind v_p1_place v_p1_word v_p1_key v_p1_number v_p1_faultKind v_p1_faultPlace v_p1_keys v_p1_tape v_p2_cellNames)) [0, 1, 2, 4] rfl
    have hDc := (mp_D_of (w1 := (k_X6_takeOne T a_p1 a_p1_tape a_p1_keys a_p2 a_p2_cellNames a_p2_secretNames a_p2_pageNames a_p2_speed a_p2_letters a_p2_room a_p2_now a_p2_rounds v_p1_filled v_p1_end v_p1_at v_p1_kind v_p1_place v_p1_word v_p1_key v_p1_number v_p1_faultKind v_p1_faultPlace v_p1_keys v_p1_tape v_p2_cells v_p2_secrets v_p2_pages v_p2_blind v_p2_rubs v_p2_cellNames v_p2_pageNames v_p2_secretNames)) hD rfl).sub (ws' := (k_X8_oneOf T a_p1 a_p1_tape a_p1_keys a_p2_cellNames 8 v_p1_filled v_p1_end v_p1_at v_p1_kind v_p1_place v_p1_word v_p1_key v_p1_number v_p1_faultKind v_p1_faultPlace v_p1_keys v_p1_tape v_p2_cellNames)) [0, 1, 2, 4] rfl rfl
    refine mp_calli (isC := [0, 1, 2, 4]) (wc := (k_X8_oneOf T a_p1 a_p1_tape a_p1_keys a_p2_cellNames 8 v_p1_filled v_p1_end v_p1_at v_p1_kind v_p1_place v_p1_word v_p1_key v_p1_number v_p1_faultKind v_p1_faultPlace v_p1_keys v_p1_tape v_p2_cellNames)) (w1 := (k_X8_oneOf T a_p1 a_p1_tape a_p1_keys a_p2_cellNames 8 v_p1_filled v_p1_end u28 u29 u30 u31 u32 u33 u34 u35 v_p1_keys v_p1_tape v_p2_cellNames)) hP (mp_D_of hD rfl) hS hA rfl rfl (mp_runV (As := [.ref a_p2_cellNames, .int v_p2_cells]) (rest := []) X me_X8_oneOf lk_X6_89 (c_X8_oneOf l D T fu a_p1 a_p1_tape a_p1_keys a_p2_cellNames 8 v_p2_cells v_p1_filled v_p1_end v_p1_at v_p1_kind v_p1_place v_p1_word v_p1_key v_p1_number v_p1_faultKind v_p1_faultPlace v_p1_keys v_p1_tape v_p2_cellNames r27 u28 u29 u30 u31 u32 u33 u34 u35 c36) rfl rfl ⟨(Nat.le_of_ble_eq_true rfl), (Nat.le_of_ble_eq_true rfl)⟩ hK hPc hDc rfl rfl rfl rfl hl.1 rfl (Nat.le_of_ble_eq_true rfl) dX6_takeOne_89 ⟨Nat.zero_le _, Nat.zero_le _⟩) (fun H locs hP _ hS => ?_)
    replace hP : va_P D mp_cl (k_X6_takeOne T a_p1 a_p1_tape a_p1_keys a_p2 a_p2_cellNames a_p2_secretNames a_p2_pageNames a_p2_speed a_p2_letters a_p2_room a_p2_now a_p2_rounds v_p1_filled v_p1_end u28 u29 u30 u31 u32 u33 u34 u35 v_p1_keys v_p1_tape v_p2_cells v_p2_secrets v_p2_pages v_p2_blind v_p2_rubs v_p2_cellNames v_p2_pageNames v_p2_secretNames) H := hP
    cases hf
    exact mp_reti X hP hS rfl dX6_takeOne_92
  replace hf := if_f hf h26
  by_cases h37 : x3 = (nI 14)
  · replace hf := if_t hf h37
    refine lv_tableIn (off := 79) (tgt := 80) hx hb dX6_takeOne_1 (by rw [h37]; decide) (by rw [h37]; decide) (by rw [h37]; decide) (by decide) ?_
    refine lv_aload_n hx hb dX6_takeOne_80 rfl (lv_at hl 0 rfl) ?_
    refine lv_aload_n hx hb dX6_takeOne_81 rfl (lv_at hl 1 rfl) ?_
    refine mp_get X fl_X6_80 hK hP 3 rfl rfl dX6_takeOne_82 ?_
    refine lv_aload_n hx hb dX6_takeOne_85 rfl (lv_at hl 1 rfl) ?_
    refine mp_get X fl_X6_86 hK hP 3 rfl rfl dX6_takeOne_86 ?_
    obtain ⟨⟨r38, u39, u40, u41, u42, u43, u44, u45, u46⟩, c47, hf⟩ := bd_of hf
    dsimp only at hf
    have hPc := hP.sub (ws' := (k_X8_oneOf T a_p1 a_p1_tape a_p1_keys a_p2_cellNames 8 v_p1_filled v_p1_end v_p1_at v_p1_kind v_p1_place v_p1_word v_p1_key v_p1_number v_p1_faultKind v_p1_faultPlace v_p1_keys v_p1_tape v_p2_cellNames)) [0, 1, 2, 4] rfl
    have hDc := (mp_D_of (w1 := (k_X6_takeOne T a_p1 a_p1_tape a_p1_keys a_p2 a_p2_cellNames a_p2_secretNames a_p2_pageNames a_p2_speed a_p2_letters a_p2_room a_p2_now a_p2_rounds v_p1_filled v_p1_end v_p1_at v_p1_kind v_p1_place v_p1_word v_p1_key v_p1_number v_p1_faultKind v_p1_faultPlace v_p1_keys v_p1_tape v_p2_cells v_p2_secrets v_p2_pages v_p2_blind v_p2_rubs v_p2_cellNames v_p2_pageNames v_p2_secretNames)) hD rfl).sub (ws' := (k_X8_oneOf T a_p1 a_p1_tape a_p1_keys a_p2_cellNames 8 v_p1_filled v_p1_end v_p1_at v_p1_kind v_p1_place v_p1_word v_p1_key v_p1_number v_p1_faultKind v_p1_faultPlace v_p1_keys v_p1_tape v_p2_cellNames)) [0, 1, 2, 4] rfl rfl
    refine mp_calli (isC := [0, 1, 2, 4]) (wc := (k_X8_oneOf T a_p1 a_p1_tape a_p1_keys a_p2_cellNames 8 v_p1_filled v_p1_end v_p1_at v_p1_kind v_p1_place v_p1_word v_p1_key v_p1_number v_p1_faultKind v_p1_faultPlace v_p1_keys v_p1_tape v_p2_cellNames)) (w1 := (k_X8_oneOf T a_p1 a_p1_tape a_p1_keys a_p2_cellNames 8 v_p1_filled v_p1_end u39 u40 u41 u42 u43 u44 u45 u46 v_p1_keys v_p1_tape v_p2_cellNames)) hP (mp_D_of hD rfl) hS hA rfl rfl (mp_runV (As := [.ref a_p2_cellNames, .int v_p2_cells]) (rest := []) X me_X8_oneOf lk_X6_89 (c_X8_oneOf l D T fu a_p1 a_p1_tape a_p1_keys a_p2_cellNames 8 v_p2_cells v_p1_filled v_p1_end v_p1_at v_p1_kind v_p1_place v_p1_word v_p1_key v_p1_number v_p1_faultKind v_p1_faultPlace v_p1_keys v_p1_tape v_p2_cellNames r38 u39 u40 u41 u42 u43 u44 u45 u46 c47) rfl rfl ⟨(Nat.le_of_ble_eq_true rfl), (Nat.le_of_ble_eq_true rfl)⟩ hK hPc hDc rfl rfl rfl rfl hl.1 rfl (Nat.le_of_ble_eq_true rfl) dX6_takeOne_89 ⟨Nat.zero_le _, Nat.zero_le _⟩) (fun H locs hP _ hS => ?_)
    replace hP : va_P D mp_cl (k_X6_takeOne T a_p1 a_p1_tape a_p1_keys a_p2 a_p2_cellNames a_p2_secretNames a_p2_pageNames a_p2_speed a_p2_letters a_p2_room a_p2_now a_p2_rounds v_p1_filled v_p1_end u39 u40 u41 u42 u43 u44 u45 u46 v_p1_keys v_p1_tape v_p2_cells v_p2_secrets v_p2_pages v_p2_blind v_p2_rubs v_p2_cellNames v_p2_pageNames v_p2_secretNames) H := hP
    cases hf
    exact mp_reti X hP hS rfl dX6_takeOne_92
  replace hf := if_f hf h37
  by_cases h48 : x3 = (nI 15)
  · replace hf := if_t hf h48
    refine lv_tableIn (off := 92) (tgt := 93) hx hb dX6_takeOne_1 (by rw [h48]; decide) (by rw [h48]; decide) (by rw [h48]; decide) (by decide) ?_
    refine lv_aload_n hx hb dX6_takeOne_93 rfl (lv_at hl 0 rfl) ?_
    refine lv_aload_n hx hb dX6_takeOne_94 rfl (lv_at hl 1 rfl) ?_
    refine mp_get X fl_X6_93 hK hP 3 rfl rfl dX6_takeOne_95 ?_
    refine lv_aload_n hx hb dX6_takeOne_98 rfl (lv_at hl 1 rfl) ?_
    refine mp_get X fl_X6_96 hK hP 3 rfl rfl dX6_takeOne_99 ?_
    obtain ⟨⟨r49, u50, u51, u52, u53, u54, u55, u56, u57⟩, c58, hf⟩ := bd_of hf
    dsimp only at hf
    have hPc := hP.sub (ws' := (k_X8_oneOf T a_p1 a_p1_tape a_p1_keys a_p2_pageNames 6 v_p1_filled v_p1_end v_p1_at v_p1_kind v_p1_place v_p1_word v_p1_key v_p1_number v_p1_faultKind v_p1_faultPlace v_p1_keys v_p1_tape v_p2_pageNames)) [0, 1, 2, 5] rfl
    have hDc := (mp_D_of (w1 := (k_X6_takeOne T a_p1 a_p1_tape a_p1_keys a_p2 a_p2_cellNames a_p2_secretNames a_p2_pageNames a_p2_speed a_p2_letters a_p2_room a_p2_now a_p2_rounds v_p1_filled v_p1_end v_p1_at v_p1_kind v_p1_place v_p1_word v_p1_key v_p1_number v_p1_faultKind v_p1_faultPlace v_p1_keys v_p1_tape v_p2_cells v_p2_secrets v_p2_pages v_p2_blind v_p2_rubs v_p2_cellNames v_p2_pageNames v_p2_secretNames)) hD rfl).sub (ws' := (k_X8_oneOf T a_p1 a_p1_tape a_p1_keys a_p2_pageNames 6 v_p1_filled v_p1_end v_p1_at v_p1_kind v_p1_place v_p1_word v_p1_key v_p1_number v_p1_faultKind v_p1_faultPlace v_p1_keys v_p1_tape v_p2_pageNames)) [0, 1, 2, 5] rfl rfl
    refine mp_calli (isC := [0, 1, 2, 5]) (wc := (k_X8_oneOf T a_p1 a_p1_tape a_p1_keys a_p2_pageNames 6 v_p1_filled v_p1_end v_p1_at v_p1_kind v_p1_place v_p1_word v_p1_key v_p1_number v_p1_faultKind v_p1_faultPlace v_p1_keys v_p1_tape v_p2_pageNames)) (w1 := (k_X8_oneOf T a_p1 a_p1_tape a_p1_keys a_p2_pageNames 6 v_p1_filled v_p1_end u50 u51 u52 u53 u54 u55 u56 u57 v_p1_keys v_p1_tape v_p2_pageNames)) hP (mp_D_of hD rfl) hS hA rfl rfl (mp_runV (As := [.ref a_p2_pageNames, .int v_p2_pages]) (rest := []) X me_X8_oneOf lk_X6_89 (c_X8_oneOf l D T fu a_p1 a_p1_tape a_p1_keys a_p2_pageNames 6 v_p2_pages v_p1_filled v_p1_end v_p1_at v_p1_kind v_p1_place v_p1_word v_p1_key v_p1_number v_p1_faultKind v_p1_faultPlace v_p1_keys v_p1_tape v_p2_pageNames r49 u50 u51 u52 u53 u54 u55 u56 u57 c58) rfl rfl ⟨(Nat.le_of_ble_eq_true rfl), (Nat.le_of_ble_eq_true rfl)⟩ hK hPc hDc rfl rfl rfl rfl hl.1 rfl (Nat.le_of_ble_eq_true rfl) dX6_takeOne_102 ⟨Nat.zero_le _, Nat.zero_le _⟩) (fun H locs hP _ hS => ?_)
    replace hP : va_P D mp_cl (k_X6_takeOne T a_p1 a_p1_tape a_p1_keys a_p2 a_p2_cellNames a_p2_secretNames a_p2_pageNames a_p2_speed a_p2_letters a_p2_room a_p2_now a_p2_rounds v_p1_filled v_p1_end u50 u51 u52 u53 u54 u55 u56 u57 v_p1_keys v_p1_tape v_p2_cells v_p2_secrets v_p2_pages v_p2_blind v_p2_rubs v_p2_cellNames v_p2_pageNames v_p2_secretNames) H := hP
    cases hf
    exact mp_reti X hP hS rfl dX6_takeOne_105
  replace hf := if_f hf h48
  by_cases h59 : x3 = (nI 16)
  · replace hf := if_t hf h59
    refine lv_tableIn (off := 92) (tgt := 93) hx hb dX6_takeOne_1 (by rw [h59]; decide) (by rw [h59]; decide) (by rw [h59]; decide) (by decide) ?_
    refine lv_aload_n hx hb dX6_takeOne_93 rfl (lv_at hl 0 rfl) ?_
    refine lv_aload_n hx hb dX6_takeOne_94 rfl (lv_at hl 1 rfl) ?_
    refine mp_get X fl_X6_93 hK hP 3 rfl rfl dX6_takeOne_95 ?_
    refine lv_aload_n hx hb dX6_takeOne_98 rfl (lv_at hl 1 rfl) ?_
    refine mp_get X fl_X6_96 hK hP 3 rfl rfl dX6_takeOne_99 ?_
    obtain ⟨⟨r60, u61, u62, u63, u64, u65, u66, u67, u68⟩, c69, hf⟩ := bd_of hf
    dsimp only at hf
    have hPc := hP.sub (ws' := (k_X8_oneOf T a_p1 a_p1_tape a_p1_keys a_p2_pageNames 6 v_p1_filled v_p1_end v_p1_at v_p1_kind v_p1_place v_p1_word v_p1_key v_p1_number v_p1_faultKind v_p1_faultPlace v_p1_keys v_p1_tape v_p2_pageNames)) [0, 1, 2, 5] rfl
    have hDc := (mp_D_of (w1 := (k_X6_takeOne T a_p1 a_p1_tape a_p1_keys a_p2 a_p2_cellNames a_p2_secretNames a_p2_pageNames a_p2_speed a_p2_letters a_p2_room a_p2_now a_p2_rounds v_p1_filled v_p1_end v_p1_at v_p1_kind v_p1_place v_p1_word v_p1_key v_p1_number v_p1_faultKind v_p1_faultPlace v_p1_keys v_p1_tape v_p2_cells v_p2_secrets v_p2_pages v_p2_blind v_p2_rubs v_p2_cellNames v_p2_pageNames v_p2_secretNames)) hD rfl).sub (ws' := (k_X8_oneOf T a_p1 a_p1_tape a_p1_keys a_p2_pageNames 6 v_p1_filled v_p1_end v_p1_at v_p1_kind v_p1_place v_p1_word v_p1_key v_p1_number v_p1_faultKind v_p1_faultPlace v_p1_keys v_p1_tape v_p2_pageNames)) [0, 1, 2, 5] rfl rfl
    refine mp_calli (isC := [0, 1, 2, 5]) (wc := (k_X8_oneOf T a_p1 a_p1_tape a_p1_keys a_p2_pageNames 6 v_p1_filled v_p1_end v_p1_at v_p1_kind v_p1_place v_p1_word v_p1_key v_p1_number v_p1_faultKind v_p1_faultPlace v_p1_keys v_p1_tape v_p2_pageNames)) (w1 := (k_X8_oneOf T a_p1 a_p1_tape a_p1_keys a_p2_pageNames 6 v_p1_filled v_p1_end u61 u62 u63 u64 u65 u66 u67 u68 v_p1_keys v_p1_tape v_p2_pageNames)) hP (mp_D_of hD rfl) hS hA rfl rfl (mp_runV (As := [.ref a_p2_pageNames, .int v_p2_pages]) (rest := []) X me_X8_oneOf lk_X6_89 (c_X8_oneOf l D T fu a_p1 a_p1_tape a_p1_keys a_p2_pageNames 6 v_p2_pages v_p1_filled v_p1_end v_p1_at v_p1_kind v_p1_place v_p1_word v_p1_key v_p1_number v_p1_faultKind v_p1_faultPlace v_p1_keys v_p1_tape v_p2_pageNames r60 u61 u62 u63 u64 u65 u66 u67 u68 c69) rfl rfl ⟨(Nat.le_of_ble_eq_true rfl), (Nat.le_of_ble_eq_true rfl)⟩ hK hPc hDc rfl rfl rfl rfl hl.1 rfl (Nat.le_of_ble_eq_true rfl) dX6_takeOne_102 ⟨Nat.zero_le _, Nat.zero_le _⟩) (fun H locs hP _ hS => ?_)
    replace hP : va_P D mp_cl (k_X6_takeOne T a_p1 a_p1_tape a_p1_keys a_p2 a_p2_cellNames a_p2_secretNames a_p2_pageNames a_p2_speed a_p2_letters a_p2_room a_p2_now a_p2_rounds v_p1_filled v_p1_end u61 u62 u63 u64 u65 u66 u67 u68 v_p1_keys v_p1_tape v_p2_cells v_p2_secrets v_p2_pages v_p2_blind v_p2_rubs v_p2_cellNames v_p2_pageNames v_p2_secretNames) H := hP
    cases hf
    exact mp_reti X hP hS rfl dX6_takeOne_105
  replace hf := if_f hf h59
  by_cases h70 : x3 = (nI 17)
  · replace hf := if_t hf h70
    refine lv_tableIn (off := 118) (tgt := 119) hx hb dX6_takeOne_1 (by rw [h70]; decide) (by rw [h70]; decide) (by rw [h70]; decide) (by decide) ?_
    refine lv_iconst (v := (nI 0)) hx hb dX6_takeOne_119 (by decide) ?_
    cases hf
    exact mp_reti X hP hS rfl dX6_takeOne_120
  replace hf := if_f hf h70
  by_cases h71 : x3 = (nI 18)
  · replace hf := if_t hf h71
    refine lv_tableIn (off := 118) (tgt := 119) hx hb dX6_takeOne_1 (by rw [h71]; decide) (by rw [h71]; decide) (by rw [h71]; decide) (by decide) ?_
    refine lv_iconst (v := (nI 0)) hx hb dX6_takeOne_119 (by decide) ?_
    cases hf
    exact mp_reti X hP hS rfl dX6_takeOne_120
  replace hf := if_f hf h71
  by_cases h72 : x3 = (nI 19)
  · replace hf := if_t hf h72
    refine lv_tableIn (off := 92) (tgt := 93) hx hb dX6_takeOne_1 (by rw [h72]; decide) (by rw [h72]; decide) (by rw [h72]; decide) (by decide) ?_
    refine lv_aload_n hx hb dX6_takeOne_93 rfl (lv_at hl 0 rfl) ?_
    refine lv_aload_n hx hb dX6_takeOne_94 rfl (lv_at hl 1 rfl) ?_
    refine mp_get X fl_X6_93 hK hP 3 rfl rfl dX6_takeOne_95 ?_
    refine lv_aload_n hx hb dX6_takeOne_98 rfl (lv_at hl 1 rfl) ?_
    refine mp_get X fl_X6_96 hK hP 3 rfl rfl dX6_takeOne_99 ?_
    obtain ⟨⟨r73, u74, u75, u76, u77, u78, u79, u80, u81⟩, c82, hf⟩ := bd_of hf
    dsimp only at hf
    have hPc := hP.sub (ws' := (k_X8_oneOf T a_p1 a_p1_tape a_p1_keys a_p2_pageNames 6 v_p1_filled v_p1_end v_p1_at v_p1_kind v_p1_place v_p1_word v_p1_key v_p1_number v_p1_faultKind v_p1_faultPlace v_p1_keys v_p1_tape v_p2_pageNames)) [0, 1, 2, 5] rfl
    have hDc := (mp_D_of (w1 := (k_X6_takeOne T a_p1 a_p1_tape a_p1_keys a_p2 a_p2_cellNames a_p2_secretNames a_p2_pageNames a_p2_speed a_p2_letters a_p2_room a_p2_now a_p2_rounds v_p1_filled v_p1_end v_p1_at v_p1_kind v_p1_place v_p1_word v_p1_key v_p1_number v_p1_faultKind v_p1_faultPlace v_p1_keys v_p1_tape v_p2_cells v_p2_secrets v_p2_pages v_p2_blind v_p2_rubs v_p2_cellNames v_p2_pageNames v_p2_secretNames)) hD rfl).sub (ws' := (k_X8_oneOf T a_p1 a_p1_tape a_p1_keys a_p2_pageNames 6 v_p1_filled v_p1_end v_p1_at v_p1_kind v_p1_place v_p1_word v_p1_key v_p1_number v_p1_faultKind v_p1_faultPlace v_p1_keys v_p1_tape v_p2_pageNames)) [0, 1, 2, 5] rfl rfl
    refine mp_calli (isC := [0, 1, 2, 5]) (wc := (k_X8_oneOf T a_p1 a_p1_tape a_p1_keys a_p2_pageNames 6 v_p1_filled v_p1_end v_p1_at v_p1_kind v_p1_place v_p1_word v_p1_key v_p1_number v_p1_faultKind v_p1_faultPlace v_p1_keys v_p1_tape v_p2_pageNames)) (w1 := (k_X8_oneOf T a_p1 a_p1_tape a_p1_keys a_p2_pageNames 6 v_p1_filled v_p1_end u74 u75 u76 u77 u78 u79 u80 u81 v_p1_keys v_p1_tape v_p2_pageNames)) hP (mp_D_of hD rfl) hS hA rfl rfl (mp_runV (As := [.ref a_p2_pageNames, .int v_p2_pages]) (rest := []) X me_X8_oneOf lk_X6_89 (c_X8_oneOf l D T fu a_p1 a_p1_tape a_p1_keys a_p2_pageNames 6 v_p2_pages v_p1_filled v_p1_end v_p1_at v_p1_kind v_p1_place v_p1_word v_p1_key v_p1_number v_p1_faultKind v_p1_faultPlace v_p1_keys v_p1_tape v_p2_pageNames r73 u74 u75 u76 u77 u78 u79 u80 u81 c82) rfl rfl ⟨(Nat.le_of_ble_eq_true rfl), (Nat.le_of_ble_eq_true rfl)⟩ hK hPc hDc rfl rfl rfl rfl hl.1 rfl (Nat.le_of_ble_eq_true rfl) dX6_takeOne_102 ⟨Nat.zero_le _, Nat.zero_le _⟩) (fun H locs hP _ hS => ?_)
    replace hP : va_P D mp_cl (k_X6_takeOne T a_p1 a_p1_tape a_p1_keys a_p2 a_p2_cellNames a_p2_secretNames a_p2_pageNames a_p2_speed a_p2_letters a_p2_room a_p2_now a_p2_rounds v_p1_filled v_p1_end u74 u75 u76 u77 u78 u79 u80 u81 v_p1_keys v_p1_tape v_p2_cells v_p2_secrets v_p2_pages v_p2_blind v_p2_rubs v_p2_cellNames v_p2_pageNames v_p2_secretNames) H := hP
    cases hf
    exact mp_reti X hP hS rfl dX6_takeOne_105
  replace hf := if_f hf h72
  by_cases h83 : x3 = (nI 20)
  · replace hf := if_t hf h83
    refine lv_tableIn (off := 105) (tgt := 106) hx hb dX6_takeOne_1 (by rw [h83]; decide) (by rw [h83]; decide) (by rw [h83]; decide) (by decide) ?_
    refine lv_aload_n hx hb dX6_takeOne_106 rfl (lv_at hl 0 rfl) ?_
    refine lv_aload_n hx hb dX6_takeOne_107 rfl (lv_at hl 1 rfl) ?_
    refine mp_get X fl_X6_99 hK hP 3 rfl rfl dX6_takeOne_108 ?_
    refine lv_aload_n hx hb dX6_takeOne_111 rfl (lv_at hl 1 rfl) ?_
    refine mp_get X fl_X6_102 hK hP 3 rfl rfl dX6_takeOne_112 ?_
    obtain ⟨⟨r84, u85, u86, u87, u88, u89, u90, u91, u92⟩, c93, hf⟩ := bd_of hf
    dsimp only at hf
    have hPc := hP.sub (ws' := (k_X8_oneOf T a_p1 a_p1_tape a_p1_keys a_p2_secretNames 6 v_p1_filled v_p1_end v_p1_at v_p1_kind v_p1_place v_p1_word v_p1_key v_p1_number v_p1_faultKind v_p1_faultPlace v_p1_keys v_p1_tape v_p2_secretNames)) [0, 1, 2, 6] rfl
    have hDc := (mp_D_of (w1 := (k_X6_takeOne T a_p1 a_p1_tape a_p1_keys a_p2 a_p2_cellNames a_p2_secretNames a_p2_pageNames a_p2_speed a_p2_letters a_p2_room a_p2_now a_p2_rounds v_p1_filled v_p1_end v_p1_at v_p1_kind v_p1_place v_p1_word v_p1_key v_p1_number v_p1_faultKind v_p1_faultPlace v_p1_keys v_p1_tape v_p2_cells v_p2_secrets v_p2_pages v_p2_blind v_p2_rubs v_p2_cellNames v_p2_pageNames v_p2_secretNames)) hD rfl).sub (ws' := (k_X8_oneOf T a_p1 a_p1_tape a_p1_keys a_p2_secretNames 6 v_p1_filled v_p1_end v_p1_at v_p1_kind v_p1_place v_p1_word v_p1_key v_p1_number v_p1_faultKind v_p1_faultPlace v_p1_keys v_p1_tape v_p2_secretNames)) [0, 1, 2, 6] rfl rfl
    refine mp_calli (isC := [0, 1, 2, 6]) (wc := (k_X8_oneOf T a_p1 a_p1_tape a_p1_keys a_p2_secretNames 6 v_p1_filled v_p1_end v_p1_at v_p1_kind v_p1_place v_p1_word v_p1_key v_p1_number v_p1_faultKind v_p1_faultPlace v_p1_keys v_p1_tape v_p2_secretNames)) (w1 := (k_X8_oneOf T a_p1 a_p1_tape a_p1_keys a_p2_secretNames 6 v_p1_filled v_p1_end u85 u86 u87 u88 u89 u90 u91 u92 v_p1_keys v_p1_tape v_p2_secretNames)) hP (mp_D_of hD rfl) hS hA rfl rfl (mp_runV (As := [.ref a_p2_secretNames, .int v_p2_secrets]) (rest := []) X me_X8_oneOf lk_X6_89 (c_X8_oneOf l D T fu a_p1 a_p1_tape a_p1_keys a_p2_secretNames 6 v_p2_secrets v_p1_filled v_p1_end v_p1_at v_p1_kind v_p1_place v_p1_word v_p1_key v_p1_number v_p1_faultKind v_p1_faultPlace v_p1_keys v_p1_tape v_p2_secretNames r84 u85 u86 u87 u88 u89 u90 u91 u92 c93) rfl rfl ⟨(Nat.le_of_ble_eq_true rfl), (Nat.le_of_ble_eq_true rfl)⟩ hK hPc hDc rfl rfl rfl rfl hl.1 rfl (Nat.le_of_ble_eq_true rfl) dX6_takeOne_115 ⟨Nat.zero_le _, Nat.zero_le _⟩) (fun H locs hP _ hS => ?_)
    replace hP : va_P D mp_cl (k_X6_takeOne T a_p1 a_p1_tape a_p1_keys a_p2 a_p2_cellNames a_p2_secretNames a_p2_pageNames a_p2_speed a_p2_letters a_p2_room a_p2_now a_p2_rounds v_p1_filled v_p1_end u85 u86 u87 u88 u89 u90 u91 u92 v_p1_keys v_p1_tape v_p2_cells v_p2_secrets v_p2_pages v_p2_blind v_p2_rubs v_p2_cellNames v_p2_pageNames v_p2_secretNames) H := hP
    cases hf
    exact mp_reti X hP hS rfl dX6_takeOne_118
  replace hf := if_f hf h83
  by_cases h94 : x3 = (nI 21)
  · replace hf := if_t hf h94
    refine lv_tableIn (off := 71) (tgt := 72) hx hb dX6_takeOne_1 (by rw [h94]; decide) (by rw [h94]; decide) (by rw [h94]; decide) (by decide) ?_
    refine lv_aload_n hx hb dX6_takeOne_72 rfl (lv_at hl 0 rfl) ?_
    refine lv_iconst (v := (nI 1)) hx hb dX6_takeOne_73 (by decide) ?_
    refine lv_bipush (v := (nI 99)) hx hb dX6_takeOne_74 (by decide) ?_
    obtain ⟨⟨r95, u96, u97, u98, u99, u100, u101, u102, u103⟩, c104, hf⟩ := bd_of hf
    dsimp only at hf
    have hPc := hP.sub (ws' := (k_X8_numberWithin T a_p1 a_p1_tape a_p1_keys v_p1_filled v_p1_end v_p1_at v_p1_kind v_p1_place v_p1_word v_p1_key v_p1_number v_p1_faultKind v_p1_faultPlace v_p1_keys v_p1_tape)) [0, 1, 2] rfl
    have hDc := (mp_D_of (w1 := (k_X6_takeOne T a_p1 a_p1_tape a_p1_keys a_p2 a_p2_cellNames a_p2_secretNames a_p2_pageNames a_p2_speed a_p2_letters a_p2_room a_p2_now a_p2_rounds v_p1_filled v_p1_end v_p1_at v_p1_kind v_p1_place v_p1_word v_p1_key v_p1_number v_p1_faultKind v_p1_faultPlace v_p1_keys v_p1_tape v_p2_cells v_p2_secrets v_p2_pages v_p2_blind v_p2_rubs v_p2_cellNames v_p2_pageNames v_p2_secretNames)) hD rfl).sub (ws' := (k_X8_numberWithin T a_p1 a_p1_tape a_p1_keys v_p1_filled v_p1_end v_p1_at v_p1_kind v_p1_place v_p1_word v_p1_key v_p1_number v_p1_faultKind v_p1_faultPlace v_p1_keys v_p1_tape)) [0, 1, 2] rfl rfl
    refine mp_calli (isC := [0, 1, 2]) (wc := (k_X8_numberWithin T a_p1 a_p1_tape a_p1_keys v_p1_filled v_p1_end v_p1_at v_p1_kind v_p1_place v_p1_word v_p1_key v_p1_number v_p1_faultKind v_p1_faultPlace v_p1_keys v_p1_tape)) (w1 := (k_X8_numberWithin T a_p1 a_p1_tape a_p1_keys v_p1_filled v_p1_end u96 u97 u98 u99 u100 u101 u102 u103 v_p1_keys v_p1_tape)) hP (mp_D_of hD rfl) hS hA rfl rfl (mp_runV (As := [.int (nI 1), .int (nI 99)]) (rest := []) X me_X8_numberWithin lk_X6_76 (c_X8_numberWithin l D T fu a_p1 a_p1_tape a_p1_keys (nI 1) (nI 99) v_p1_filled v_p1_end v_p1_at v_p1_kind v_p1_place v_p1_word v_p1_key v_p1_number v_p1_faultKind v_p1_faultPlace v_p1_keys v_p1_tape r95 u96 u97 u98 u99 u100 u101 u102 u103 c104) rfl rfl ⟨(Nat.le_of_ble_eq_true rfl), (Nat.le_of_ble_eq_true rfl)⟩ hK hPc hDc rfl rfl rfl rfl hl.1 rfl (Nat.le_of_ble_eq_true rfl) dX6_takeOne_76 ⟨Nat.zero_le _, Nat.zero_le _⟩) (fun H locs hP _ hS => ?_)
    replace hP : va_P D mp_cl (k_X6_takeOne T a_p1 a_p1_tape a_p1_keys a_p2 a_p2_cellNames a_p2_secretNames a_p2_pageNames a_p2_speed a_p2_letters a_p2_room a_p2_now a_p2_rounds v_p1_filled v_p1_end u96 u97 u98 u99 u100 u101 u102 u103 v_p1_keys v_p1_tape v_p2_cells v_p2_secrets v_p2_pages v_p2_blind v_p2_rubs v_p2_cellNames v_p2_pageNames v_p2_secretNames) H := hP
    cases hf
    exact mp_reti X hP hS rfl dX6_takeOne_79
  replace hf := if_f hf h94
  refine lv_tableOut (tgt := 119) hx hb dX6_takeOne_1 (sw_out (8) 14 (fun k hk => match k, hk with | 0, _ => fun e => h1 (Int32.toInt_inj.mp e) | 1, _ => fun e => h12 (Int32.toInt_inj.mp e) | 2, _ => fun e => h13 (Int32.toInt_inj.mp e) | 3, _ => fun e => h14 (Int32.toInt_inj.mp e) | 4, _ => fun e => h15 (Int32.toInt_inj.mp e) | 5, _ => fun e => h26 (Int32.toInt_inj.mp e) | 6, _ => fun e => h37 (Int32.toInt_inj.mp e) | 7, _ => fun e => h48 (Int32.toInt_inj.mp e) | 8, _ => fun e => h59 (Int32.toInt_inj.mp e) | 9, _ => fun e => h70 (Int32.toInt_inj.mp e) | 10, _ => fun e => h71 (Int32.toInt_inj.mp e) | 11, _ => fun e => h72 (Int32.toInt_inj.mp e) | 12, _ => fun e => h83 (Int32.toInt_inj.mp e) | 13, _ => fun e => h94 (Int32.toInt_inj.mp e) | k + 14, hk => absurd hk (by omega)) (by decide)) (by decide) ?_
  refine lv_iconst (v := (nI 0)) hx hb dX6_takeOne_119 (by decide) ?_
  cases hf
  exact mp_reti X hP hS rfl dX6_takeOne_120


def k_X6_takeOther (T : Nat → ClassId) (a_p1 a_p1_tape a_p1_keys a_p2 a_p2_cellNames a_p2_secretNames a_p2_pageNames a_p2_speed a_p2_letters a_p2_room a_p2_now a_p2_rounds : Nat) (v_p1_filled : Int32) (v_p1_end : Int32) (v_p1_at : Int32) (v_p1_kind : Int32) (v_p1_place : Int32) (v_p1_word : Int64) (v_p1_key : Int32) (v_p1_number : Int32) (v_p1_faultKind : Int32) (v_p1_faultPlace : Int32) (v_p1_keys : (Nat → Int64)) (v_p1_tape : (Nat → Int32)) (v_p2_cells : Int32) (v_p2_secrets : Int32) (v_p2_pages : Int32) (v_p2_blind : Int32) (v_p2_rubs : Int32) (v_p2_cellNames : (Nat → Int64)) (v_p2_secretNames : (Nat → Int64)) : va_W := [(a_p1, oX8 a_p1_tape v_p1_filled v_p1_end v_p1_at v_p1_kind v_p1_place v_p1_word v_p1_key v_p1_number v_p1_faultKind v_p1_faultPlace a_p1_keys), (a_p1_keys, mp_aJ T 24 v_p1_keys), (a_p1_tape, mp_aB T 900 v_p1_tape), (a_p2, oX1 v_p2_cells v_p2_secrets v_p2_pages a_p2_cellNames a_p2_secretNames a_p2_pageNames a_p2_speed v_p2_blind v_p2_rubs a_p2_letters a_p2_room a_p2_now a_p2_rounds), (a_p2_cellNames, mp_aJ T 8 v_p2_cellNames), (a_p2_secretNames, mp_aJ T 6 v_p2_secretNames)]
set_option maxHeartbeats 4000000 in
set_option maxRecDepth 100000 in
theorem c_X6_takeOther (l : Launch) (D : va_G) (T : Nat → ClassId) (fu : Nat) (a_p1 a_p1_tape a_p1_keys a_p2 a_p2_cellNames a_p2_secretNames a_p2_pageNames a_p2_speed a_p2_letters a_p2_room a_p2_now a_p2_rounds : Nat) (x3 : Int32) (v_p1_filled : Int32) (v_p2_pages : Int32) (v_p2_blind : Int32) (v_p2_rubs : Int32) (v_p1_end : Int32) (v_p1_at : Int32) (v_p1_kind : Int32) (v_p1_place : Int32) (v_p1_word : Int64) (v_p1_key : Int32) (v_p1_number : Int32) (v_p1_faultKind : Int32) (v_p1_faultPlace : Int32) (v_p1_keys : (Nat → Int64)) (v_p1_tape : (Nat → Int32)) (v_p2_cells : Int32) (v_p2_secrets : Int32) (v_p2_cellNames : (Nat → Int64)) (v_p2_secretNames : (Nat → Int64)) (r_ : Int32) (o_p1_at : Int32) (o_p1_kind : Int32) (o_p1_place : Int32) (o_p1_word : Int64) (o_p1_key : Int32) (o_p1_number : Int32) (o_p1_faultKind : Int32) (o_p1_faultPlace : Int32) (hf : f_X6_takeOther fu x3 v_p1_end v_p1_at v_p1_kind v_p1_place v_p1_word v_p1_key v_p1_number v_p1_faultKind v_p1_faultPlace v_p1_keys v_p1_tape v_p2_cells v_p2_secrets v_p2_cellNames v_p2_secretNames = some (r_, o_p1_at, o_p1_kind, o_p1_place, o_p1_word, o_p1_key, o_p1_number, o_p1_faultKind, o_p1_faultPlace)) :
    mp_M l D T yX6_takeOther cX6_takeOther 3 (some .int) ({ frames := 4, cells := 0, slots := 0, locals := 90 }) 0 0 [.ref a_p1, .ref a_p2, .int x3] (k_X6_takeOther T a_p1 a_p1_tape a_p1_keys a_p2 a_p2_cellNames a_p2_secretNames a_p2_pageNames a_p2_speed a_p2_letters a_p2_room a_p2_now a_p2_rounds v_p1_filled v_p1_end v_p1_at v_p1_kind v_p1_place v_p1_word v_p1_key v_p1_number v_p1_faultKind v_p1_faultPlace v_p1_keys v_p1_tape v_p2_cells v_p2_secrets v_p2_pages v_p2_blind v_p2_rubs v_p2_cellNames v_p2_secretNames) (mp_Qi D r_ (k_X6_takeOther T a_p1 a_p1_tape a_p1_keys a_p2 a_p2_cellNames a_p2_secretNames a_p2_pageNames a_p2_speed a_p2_letters a_p2_room a_p2_now a_p2_rounds v_p1_filled v_p1_end o_p1_at o_p1_kind o_p1_place o_p1_word o_p1_key o_p1_number o_p1_faultKind o_p1_faultPlace v_p1_keys v_p1_tape v_p2_cells v_p2_secrets v_p2_pages v_p2_blind v_p2_rubs v_p2_cellNames v_p2_secretNames)) := by
  refine mp_of (by decide) (Nat.le_of_ble_eq_true rfl) rfl ?_
  intro p e s m args below meth c A ls X hK hP hD hS hA hl
  replace X : mp_X p s m meth c args RX6 "takeOther" cX6_takeOther 3 (some .int) := X
  have hx := X.1
  have hb := X.2.1
  have hml := X.2.2.1
  have hown := X.2.2.2.2.1
  have hts := X.2.2.2.2.2.1
  replace hl : lv_has ls 3 [(0, .ref a_p1), (1, .ref a_p2), (2, .int x3)] := hl
  replace hf : (if x3 = (nI 8) then bd_ (f_X8_oneOf fu 6 v_p2_secrets v_p1_end v_p1_at v_p1_kind v_p1_place v_p1_word v_p1_key v_p1_number v_p1_faultKind v_p1_faultPlace v_p1_keys v_p1_tape v_p2_secretNames) (fun (z : Int32 × Int32 × Int32 × Int32 × Int64 × Int32 × Int32 × Int32 × Int32) => match z with | (r2, u3, u4, u5, u6, u7, u8, u9, u10) => some (r2, u3, u4, u5, u6, u7, u8, u9, u10)) else (if x3 = (nI 14) then bd_ (f_X8_oneOf fu 8 v_p2_cells v_p1_end v_p1_at v_p1_kind v_p1_place v_p1_word v_p1_key v_p1_number v_p1_faultKind v_p1_faultPlace v_p1_keys v_p1_tape v_p2_cellNames) (fun (z : Int32 × Int32 × Int32 × Int32 × Int64 × Int32 × Int32 × Int32 × Int32) => match z with | (r13, u14, u15, u16, u17, u18, u19, u20, u21) => some (r13, u14, u15, u16, u17, u18, u19, u20, u21)) else some ((nI 0), v_p1_at, v_p1_kind, v_p1_place, v_p1_word, v_p1_key, v_p1_number, v_p1_faultKind, v_p1_faultPlace))) = some (r_, o_p1_at, o_p1_kind, o_p1_place, o_p1_word, o_p1_key, o_p1_number, o_p1_faultKind, o_p1_faultPlace) := hf
  refine lv_iload_n hx hb dX6_takeOther_0 rfl (lv_at hl 2 rfl) ?_
  by_cases h1 : x3 = (nI 8)
  · replace hf := if_t hf h1
    refine lv_lookup (off := 40) (tgt := 41) hx hb dX6_takeOther_1 (by decide) (by rw [h1]; decide) (by decide) ?_
    refine lv_aload_n hx hb dX6_takeOther_41 rfl (lv_at hl 0 rfl) ?_
    refine lv_aload_n hx hb dX6_takeOther_42 rfl (lv_at hl 1 rfl) ?_
    refine mp_get X fl_X6_99 hK hP 3 rfl rfl dX6_takeOther_43 ?_
    refine lv_aload_n hx hb dX6_takeOther_46 rfl (lv_at hl 1 rfl) ?_
    refine mp_get X fl_X6_102 hK hP 3 rfl rfl dX6_takeOther_47 ?_
    obtain ⟨⟨r2, u3, u4, u5, u6, u7, u8, u9, u10⟩, c11, hf⟩ := bd_of hf
    dsimp only at hf
    have hPc := hP.sub (ws' := (k_X8_oneOf T a_p1 a_p1_tape a_p1_keys a_p2_secretNames 6 v_p1_filled v_p1_end v_p1_at v_p1_kind v_p1_place v_p1_word v_p1_key v_p1_number v_p1_faultKind v_p1_faultPlace v_p1_keys v_p1_tape v_p2_secretNames)) [0, 1, 2, 5] rfl
    have hDc := (mp_D_of (w1 := (k_X6_takeOther T a_p1 a_p1_tape a_p1_keys a_p2 a_p2_cellNames a_p2_secretNames a_p2_pageNames a_p2_speed a_p2_letters a_p2_room a_p2_now a_p2_rounds v_p1_filled v_p1_end v_p1_at v_p1_kind v_p1_place v_p1_word v_p1_key v_p1_number v_p1_faultKind v_p1_faultPlace v_p1_keys v_p1_tape v_p2_cells v_p2_secrets v_p2_pages v_p2_blind v_p2_rubs v_p2_cellNames v_p2_secretNames)) hD rfl).sub (ws' := (k_X8_oneOf T a_p1 a_p1_tape a_p1_keys a_p2_secretNames 6 v_p1_filled v_p1_end v_p1_at v_p1_kind v_p1_place v_p1_word v_p1_key v_p1_number v_p1_faultKind v_p1_faultPlace v_p1_keys v_p1_tape v_p2_secretNames)) [0, 1, 2, 5] rfl rfl
    refine mp_calli (isC := [0, 1, 2, 5]) (wc := (k_X8_oneOf T a_p1 a_p1_tape a_p1_keys a_p2_secretNames 6 v_p1_filled v_p1_end v_p1_at v_p1_kind v_p1_place v_p1_word v_p1_key v_p1_number v_p1_faultKind v_p1_faultPlace v_p1_keys v_p1_tape v_p2_secretNames)) (w1 := (k_X8_oneOf T a_p1 a_p1_tape a_p1_keys a_p2_secretNames 6 v_p1_filled v_p1_end u3 u4 u5 u6 u7 u8 u9 u10 v_p1_keys v_p1_tape v_p2_secretNames)) hP (mp_D_of hD rfl) hS hA rfl rfl (mp_runV (As := [.ref a_p2_secretNames, .int v_p2_secrets]) (rest := []) X me_X8_oneOf lk_X6_89 (c_X8_oneOf l D T fu a_p1 a_p1_tape a_p1_keys a_p2_secretNames 6 v_p2_secrets v_p1_filled v_p1_end v_p1_at v_p1_kind v_p1_place v_p1_word v_p1_key v_p1_number v_p1_faultKind v_p1_faultPlace v_p1_keys v_p1_tape v_p2_secretNames r2 u3 u4 u5 u6 u7 u8 u9 u10 c11) rfl rfl ⟨(Nat.le_of_ble_eq_true rfl), (Nat.le_of_ble_eq_true rfl)⟩ hK hPc hDc rfl rfl rfl rfl hl.1 rfl (Nat.le_of_ble_eq_true rfl) dX6_takeOther_50 ⟨Nat.zero_le _, Nat.zero_le _⟩) (fun H locs hP _ hS => ?_)
    replace hP : va_P D mp_cl (k_X6_takeOther T a_p1 a_p1_tape a_p1_keys a_p2 a_p2_cellNames a_p2_secretNames a_p2_pageNames a_p2_speed a_p2_letters a_p2_room a_p2_now a_p2_rounds v_p1_filled v_p1_end u3 u4 u5 u6 u7 u8 u9 u10 v_p1_keys v_p1_tape v_p2_cells v_p2_secrets v_p2_pages v_p2_blind v_p2_rubs v_p2_cellNames v_p2_secretNames) H := hP
    cases hf
    exact mp_reti X hP hS rfl dX6_takeOther_53
  replace hf := if_f hf h1
  by_cases h12 : x3 = (nI 14)
  · replace hf := if_t hf h12
    refine lv_lookup (off := 27) (tgt := 28) hx hb dX6_takeOther_1 (by decide) (by rw [h12]; decide) (by decide) ?_
    refine lv_aload_n hx hb dX6_takeOther_28 rfl (lv_at hl 0 rfl) ?_
    refine lv_aload_n hx hb dX6_takeOther_29 rfl (lv_at hl 1 rfl) ?_
    refine mp_get X fl_X6_80 hK hP 3 rfl rfl dX6_takeOther_30 ?_
    refine lv_aload_n hx hb dX6_takeOther_33 rfl (lv_at hl 1 rfl) ?_
    refine mp_get X fl_X6_86 hK hP 3 rfl rfl dX6_takeOther_34 ?_
    obtain ⟨⟨r13, u14, u15, u16, u17, u18, u19, u20, u21⟩, c22, hf⟩ := bd_of hf
    dsimp only at hf
    have hPc := hP.sub (ws' := (k_X8_oneOf T a_p1 a_p1_tape a_p1_keys a_p2_cellNames 8 v_p1_filled v_p1_end v_p1_at v_p1_kind v_p1_place v_p1_word v_p1_key v_p1_number v_p1_faultKind v_p1_faultPlace v_p1_keys v_p1_tape v_p2_cellNames)) [0, 1, 2, 4] rfl
    have hDc := (mp_D_of (w1 := (k_X6_takeOther T a_p1 a_p1_tape a_p1_keys a_p2 a_p2_cellNames a_p2_secretNames a_p2_pageNames a_p2_speed a_p2_letters a_p2_room a_p2_now a_p2_rounds v_p1_filled v_p1_end v_p1_at v_p1_kind v_p1_place v_p1_word v_p1_key v_p1_number v_p1_faultKind v_p1_faultPlace v_p1_keys v_p1_tape v_p2_cells v_p2_secrets v_p2_pages v_p2_blind v_p2_rubs v_p2_cellNames v_p2_secretNames)) hD rfl).sub (ws' := (k_X8_oneOf T a_p1 a_p1_tape a_p1_keys a_p2_cellNames 8 v_p1_filled v_p1_end v_p1_at v_p1_kind v_p1_place v_p1_word v_p1_key v_p1_number v_p1_faultKind v_p1_faultPlace v_p1_keys v_p1_tape v_p2_cellNames)) [0, 1, 2, 4] rfl rfl
    refine mp_calli (isC := [0, 1, 2, 4]) (wc := (k_X8_oneOf T a_p1 a_p1_tape a_p1_keys a_p2_cellNames 8 v_p1_filled v_p1_end v_p1_at v_p1_kind v_p1_place v_p1_word v_p1_key v_p1_number v_p1_faultKind v_p1_faultPlace v_p1_keys v_p1_tape v_p2_cellNames)) (w1 := (k_X8_oneOf T a_p1 a_p1_tape a_p1_keys a_p2_cellNames 8 v_p1_filled v_p1_end u14 u15 u16 u17 u18 u19 u20 u21 v_p1_keys v_p1_tape v_p2_cellNames)) hP (mp_D_of hD rfl) hS hA rfl rfl (mp_runV (As := [.ref a_p2_cellNames, .int v_p2_cells]) (rest := []) X me_X8_oneOf lk_X6_89 (c_X8_oneOf l D T fu a_p1 a_p1_tape a_p1_keys a_p2_cellNames 8 v_p2_cells v_p1_filled v_p1_end v_p1_at v_p1_kind v_p1_place v_p1_word v_p1_key v_p1_number v_p1_faultKind v_p1_faultPlace v_p1_keys v_p1_tape v_p2_cellNames r13 u14 u15 u16 u17 u18 u19 u20 u21 c22) rfl rfl ⟨(Nat.le_of_ble_eq_true rfl), (Nat.le_of_ble_eq_true rfl)⟩ hK hPc hDc rfl rfl rfl rfl hl.1 rfl (Nat.le_of_ble_eq_true rfl) dX6_takeOther_37 ⟨Nat.zero_le _, Nat.zero_le _⟩) (fun H locs hP _ hS => ?_)
    replace hP : va_P D mp_cl (k_X6_takeOther T a_p1 a_p1_tape a_p1_keys a_p2 a_p2_cellNames a_p2_secretNames a_p2_pageNames a_p2_speed a_p2_letters a_p2_room a_p2_now a_p2_rounds v_p1_filled v_p1_end u14 u15 u16 u17 u18 u19 u20 u21 v_p1_keys v_p1_tape v_p2_cells v_p2_secrets v_p2_pages v_p2_blind v_p2_rubs v_p2_cellNames v_p2_secretNames) H := hP
    cases hf
    exact mp_reti X hP hS rfl dX6_takeOther_40
  replace hf := if_f hf h12
  refine lv_lookup (off := 53) (tgt := 54) hx hb dX6_takeOther_1 (by decide) (by simp only [Op.lookupswitch.offset, List.find?]; simp [show ¬ ((8 : Int) = (x3).toInt) from fun e => h1 (Int32.toInt_inj.mp e.symm), show ¬ ((14 : Int) = (x3).toInt) from fun e => h12 (Int32.toInt_inj.mp e.symm)]) (by decide) ?_
  refine lv_iconst (v := (nI 0)) hx hb dX6_takeOther_54 (by decide) ?_
  cases hf
  exact mp_reti X hP hS rfl dX6_takeOther_55


def k_X6_addStep (T : Nat → ClassId) (a_ a_open a_p1 a_p1_code a_p1_one a_p1_other a_p1_mate : Nat) (v_depth : Int32) (v_open : (Nat → Int32)) (v_p1_present : Int32) (v_p1_steps : Int32) (v_p1_size : Int32) (v_p1_code : (Nat → Int32)) (v_p1_mate : (Nat → Int32)) (v_p1_one : (Nat → Int32)) (v_p1_other : (Nat → Int32)) : va_W := [(a_, oX6 a_open v_depth), (a_open, mp_aI T 3 v_open), (a_p1, oX5 v_p1_present v_p1_steps v_p1_size a_p1_code a_p1_one a_p1_other a_p1_mate), (a_p1_code, mp_aI T 60 v_p1_code), (a_p1_mate, mp_aI T 60 v_p1_mate), (a_p1_one, mp_aI T 60 v_p1_one), (a_p1_other, mp_aI T 60 v_p1_other)]
set_option maxHeartbeats 4000000 in
set_option maxRecDepth 100000 in
theorem w_X6_addStep_33 {p : Program} {l : Launch} {e : Env} {s : State} {m : MethodId} {args : Array Value} {below : List Frame} {meth : Method} {c : Code} {D : va_G} {T : Nat → ClassId} {A : Nat → Prop} (X : mp_X p s m meth c args RX6 "addStep" cX6_addStep 6 none) (hK : va_K D mp_cl (mp_ty T) s) (hA : ∀ q, s.heap.size ≤ q → A q) (a_ a_open a_p1 a_p1_code a_p1_one a_p1_other a_p1_mate : Nat) (v_p1_present : Int32) (o_depth : Int32) (o_open : (Nat → Int32)) (o_p1_steps : Int32) (o_p1_size : Int32) (o_p1_code : (Nat → Int32)) (o_p1_mate : (Nat → Int32)) (o_p1_one : (Nat → Int32)) (o_p1_other : (Nat → Int32)) :
    ∀  (z5 : Int32) (v_depth : Int32) (v_open : (Nat → Int32)) (v_p1_steps : Int32) (v_p1_size : Int32) (v_p1_code : (Nat → Int32)) (v_p1_mate : (Nat → Int32)) (v_p1_one : (Nat → Int32)) (v_p1_other : (Nat → Int32)), f_X6_addStep_33   z5 v_depth v_open v_p1_steps v_p1_size v_p1_code v_p1_mate v_p1_one v_p1_other = some (o_depth, o_open, o_p1_steps, o_p1_size, o_p1_code, o_p1_mate, o_p1_one, o_p1_other) → ∀ (H : Heap) (locs : List Loc) (ls : Array Slot), va_P D mp_cl (k_X6_addStep T a_ a_open a_p1 a_p1_code a_p1_one a_p1_other a_p1_mate v_depth v_open v_p1_present v_p1_steps v_p1_size v_p1_code v_p1_mate v_p1_one v_p1_other) H → va_D A (k_X6_addStep T a_ a_open a_p1 a_p1_code a_p1_one a_p1_other a_p1_mate v_depth v_open v_p1_present v_p1_steps v_p1_size v_p1_code v_p1_mate v_p1_one v_p1_other) → va_S A s.heap H locs → lv_has ls 6 [(0, .ref a_), (5, .int z5)] → W p l e ({ frames := 1, cells := 0, slots := 0, locals := 23 }) s m args below meth c H locs 0 0 (MQ below ((mp_Qv D (k_X6_addStep T a_ a_open a_p1 a_p1_code a_p1_one a_p1_other a_p1_mate o_depth o_open v_p1_present o_p1_steps o_p1_size o_p1_code o_p1_mate o_p1_one o_p1_other)) A) args s 0 0 A) (F0 m 33 ls []) := by
  have hx := X.1
  have hb := X.2.1
  have hml := X.2.2.1
  have hown := X.2.2.2.2.1
  have hts := X.2.2.2.2.2.1
  intro z5 v_depth v_open v_p1_steps v_p1_size v_p1_code v_p1_mate v_p1_one v_p1_other hf H locs ls hP hD hS hl
  replace hf : (if (nI 3) ≤ v_depth then some (v_depth, v_open, v_p1_steps, v_p1_size, v_p1_code, v_p1_mate, v_p1_one, v_p1_other) else gi_ v_depth 3 (lt_ (v_depth + (nI 1)) (fun (y3 : Int32) => some (y3, upd v_open (v_depth).toNatClampNeg z5, v_p1_steps, v_p1_size, v_p1_code, v_p1_mate, v_p1_one, v_p1_other)))) = some (o_depth, o_open, o_p1_steps, o_p1_size, o_p1_code, o_p1_mate, o_p1_one, o_p1_other) := hf
  refine lv_aload_n hx hb dX6_addStep_33 rfl (lv_at hl 0 rfl) ?_
  refine mp_get X fl_X6_15 hK hP 0 rfl rfl dX6_addStep_34 ?_
  refine lv_iconst (v := (nI 3)) hx hb dX6_addStep_37 (by decide) ?_
  refine lv_icmp_ge (tgt := 62) hx hb dX6_addStep_38 (by decide) (fun h1 => ?_) (fun h1 => ?_)
  · replace hf := if_t hf h1
    cases hf
    exact mp_retv X hP hS dX6_addStep_62
  · replace hf := if_f hf h1
    refine lv_aload_n hx hb dX6_addStep_41 rfl (lv_at hl 0 rfl) ?_
    refine mp_get X fl_X6_9 hK hP 0 rfl rfl dX6_addStep_42 ?_
    refine lv_aload_n hx hb dX6_addStep_45 rfl (lv_at hl 0 rfl) ?_
    refine mp_get X fl_X6_15 hK hP 0 rfl rfl dX6_addStep_46 ?_
    refine lv_iload hx hb dX6_addStep_49 (lv_at hl 1 rfl) ?_
    obtain ⟨h2, hf⟩ := gi_of hf
    refine va_iast hx hb hK hP (mp_D_of hD rfl) hS 1 0 rfl rfl h2 dX6_addStep_51 (fun H locs hP _ hS => ?_)
    replace hP : va_P D mp_cl (k_X6_addStep T a_ a_open a_p1 a_p1_code a_p1_one a_p1_other a_p1_mate v_depth (upd v_open (v_depth).toNatClampNeg z5) v_p1_present v_p1_steps v_p1_size v_p1_code v_p1_mate v_p1_one v_p1_other) H := hP
    refine lv_aload_n hx hb dX6_addStep_52 rfl (lv_at hl 0 rfl) ?_
    refine lv_dup hx hb dX6_addStep_53 rfl ?_
    refine mp_get X fl_X6_15 hK hP 0 rfl rfl dX6_addStep_54 ?_
    refine lv_iconst (v := (nI 1)) hx hb dX6_addStep_57 (by decide) ?_
    refine lv_iadd hx hb dX6_addStep_58 ?_
    refine lv_topi (fun y3 e3 => ?_)
    replace hf := lt_of e3 hf
    refine mp_putf X fl_X6_15 fp_X6 rfl hK hP (mp_D_of hD rfl) hS 0 rfl rfl rfl (Nat.le_of_ble_eq_true rfl) dX6_addStep_59 (fun H locs hP _ hS => ?_)
    replace hP : va_P D mp_cl (k_X6_addStep T a_ a_open a_p1 a_p1_code a_p1_one a_p1_other a_p1_mate y3 (upd v_open (v_depth).toNatClampNeg z5) v_p1_present v_p1_steps v_p1_size v_p1_code v_p1_mate v_p1_one v_p1_other) H := hP
    cases hf
    exact mp_retv X hP hS dX6_addStep_62

set_option maxHeartbeats 4000000 in
set_option maxRecDepth 100000 in
theorem c_X6_addStep (l : Launch) (D : va_G) (T : Nat → ClassId) (a_ a_open a_p1 a_p1_code a_p1_one a_p1_other a_p1_mate : Nat) (x2 : Int32) (x3 : Int32) (x4 : Int32) (v_p1_present : Int32) (v_depth : Int32) (v_open : (Nat → Int32)) (v_p1_steps : Int32) (v_p1_size : Int32) (v_p1_code : (Nat → Int32)) (v_p1_mate : (Nat → Int32)) (v_p1_one : (Nat → Int32)) (v_p1_other : (Nat → Int32)) (o_depth : Int32) (o_open : (Nat → Int32)) (o_p1_steps : Int32) (o_p1_size : Int32) (o_p1_code : (Nat → Int32)) (o_p1_mate : (Nat → Int32)) (o_p1_one : (Nat → Int32)) (o_p1_other : (Nat → Int32)) (hf : f_X6_addStep x2 x3 x4 v_depth v_open v_p1_steps v_p1_size v_p1_code v_p1_mate v_p1_one v_p1_other = some (o_depth, o_open, o_p1_steps, o_p1_size, o_p1_code, o_p1_mate, o_p1_one, o_p1_other)) :
    mp_M l D T yX6_addStep cX6_addStep 6 none ({ frames := 1, cells := 0, slots := 0, locals := 23 }) 0 0 [.ref a_, .ref a_p1, .int x2, .int x3, .int x4] (k_X6_addStep T a_ a_open a_p1 a_p1_code a_p1_one a_p1_other a_p1_mate v_depth v_open v_p1_present v_p1_steps v_p1_size v_p1_code v_p1_mate v_p1_one v_p1_other) (mp_Qv D (k_X6_addStep T a_ a_open a_p1 a_p1_code a_p1_one a_p1_other a_p1_mate o_depth o_open v_p1_present o_p1_steps o_p1_size o_p1_code o_p1_mate o_p1_one o_p1_other)) := by
  refine mp_of (by decide) (Nat.le_of_ble_eq_true rfl) rfl ?_
  intro p e s m args below meth c A ls X hK hP hD hS hA hl
  replace X : mp_X p s m meth c args RX6 "addStep" cX6_addStep 6 none := X
  have hx := X.1
  have hb := X.2.1
  have hml := X.2.2.1
  have hown := X.2.2.2.2.1
  have hts := X.2.2.2.2.2.1
  replace hl : lv_has ls 6 [(0, .ref a_), (1, .ref a_p1), (2, .int x2), (3, .int x3), (4, .int x4)] := hl
  replace hf : bd_ (f_X5_add x2 x3 x4 v_p1_size v_p1_code v_p1_mate v_p1_one v_p1_other) (fun (z : Int32 × Int32 × (Nat → Int32) × (Nat → Int32) × (Nat → Int32) × (Nat → Int32)) => match z with | (r1, u2, u3, u4, u5, u6) => lt_ (v_p1_steps + (nI 1)) (fun (y8 : Int32) => (if x2 = (nI 21) then f_X6_addStep_33   r1 v_depth v_open y8 u2 u3 u4 u5 u6 else bd_ (f_X5_isTest x2) (fun (r10 : Int32) => (if r10 = 0 then some (v_depth, v_open, y8, u2, u3, u4, u5, u6) else f_X6_addStep_33   r1 v_depth v_open y8 u2 u3 u4 u5 u6))))) = some (o_depth, o_open, o_p1_steps, o_p1_size, o_p1_code, o_p1_mate, o_p1_one, o_p1_other) := hf
  refine lv_aload_n hx hb dX6_addStep_0 rfl (lv_at hl 1 rfl) ?_
  refine lv_iload_n hx hb dX6_addStep_1 rfl (lv_at hl 2 rfl) ?_
  refine lv_iload_n hx hb dX6_addStep_2 rfl (lv_at hl 3 rfl) ?_
  refine lv_iload hx hb dX6_addStep_3 (lv_at hl 4 rfl) ?_
  obtain ⟨⟨r1, u2, u3, u4, u5, u6⟩, c7, hf⟩ := bd_of hf
  dsimp only at hf
  have hPc := hP.sub (ws' := (k_X5_add T a_p1 a_p1_code a_p1_one a_p1_other a_p1_mate v_p1_present v_p1_steps v_p1_size v_p1_code v_p1_mate v_p1_one v_p1_other)) [2, 3, 4, 5, 6] rfl
  have hDc := (mp_D_of (w1 := (k_X6_addStep T a_ a_open a_p1 a_p1_code a_p1_one a_p1_other a_p1_mate v_depth v_open v_p1_present v_p1_steps v_p1_size v_p1_code v_p1_mate v_p1_one v_p1_other)) hD rfl).sub (ws' := (k_X5_add T a_p1 a_p1_code a_p1_one a_p1_other a_p1_mate v_p1_present v_p1_steps v_p1_size v_p1_code v_p1_mate v_p1_one v_p1_other)) [2, 3, 4, 5, 6] rfl rfl
  refine mp_calli (isC := [2, 3, 4, 5, 6]) (wc := (k_X5_add T a_p1 a_p1_code a_p1_one a_p1_other a_p1_mate v_p1_present v_p1_steps v_p1_size v_p1_code v_p1_mate v_p1_one v_p1_other)) (w1 := (k_X5_add T a_p1 a_p1_code a_p1_one a_p1_other a_p1_mate v_p1_present v_p1_steps u2 u3 u4 u5 u6)) hP (mp_D_of hD rfl) hS hA rfl rfl (mp_runV (As := [.int x2, .int x3, .int x4]) (rest := []) X me_X5_add lk_X6_105 (c_X5_add l D T a_p1 a_p1_code a_p1_one a_p1_other a_p1_mate x2 x3 x4 v_p1_present v_p1_steps v_p1_size v_p1_code v_p1_mate v_p1_one v_p1_other r1 u2 u3 u4 u5 u6 c7) rfl rfl ⟨(Nat.le_of_ble_eq_true rfl), (Nat.le_of_ble_eq_true rfl)⟩ hK hPc hDc rfl rfl rfl rfl hl.1 rfl (Nat.le_of_ble_eq_true rfl) dX6_addStep_5 ⟨Nat.zero_le _, Nat.zero_le _⟩) (fun H locs hP _ hS => ?_)
  replace hP : va_P D mp_cl (k_X6_addStep T a_ a_open a_p1 a_p1_code a_p1_one a_p1_other a_p1_mate v_depth v_open v_p1_present v_p1_steps u2 u3 u4 u5 u6) H := hP
  refine lv_istore (lv' := [(5, .int r1), (0, .ref a_), (1, .ref a_p1), (2, .int x2), (3, .int x3), (4, .int x4)]) hx hb dX6_addStep_8 hl (by decide) rfl (fun ls hl => ?_)
  refine lv_aload_n hx hb dX6_addStep_10 rfl (lv_at hl 2 rfl) ?_
  refine lv_dup hx hb dX6_addStep_11 rfl ?_
  refine mp_get X fl_X6_59 hK hP 2 rfl rfl dX6_addStep_12 ?_
  refine lv_iconst (v := (nI 1)) hx hb dX6_addStep_15 (by decide) ?_
  refine lv_iadd hx hb dX6_addStep_16 ?_
  refine lv_topi (fun y8 e8 => ?_)
  replace hf := lt_of e8 hf
  refine mp_putf X fl_X6_59 fp_X5 rfl hK hP (mp_D_of hD rfl) hS 2 rfl rfl rfl (Nat.le_of_ble_eq_true rfl) dX6_addStep_17 (fun H locs hP _ hS => ?_)
  replace hP : va_P D mp_cl (k_X6_addStep T a_ a_open a_p1 a_p1_code a_p1_one a_p1_other a_p1_mate v_depth v_open v_p1_present y8 u2 u3 u4 u5 u6) H := hP
  refine lv_iload_n hx hb dX6_addStep_20 rfl (lv_at hl 3 rfl) ?_
  refine lv_bipush (v := (nI 21)) hx hb dX6_addStep_21 (by decide) ?_
  refine lv_icmp_eq (tgt := 33) hx hb dX6_addStep_23 (by decide) (fun h9 => ?_) (fun h9 => ?_)
  · replace hf := if_t hf h9
    exact w_X6_addStep_33 X hK hA  a_ a_open a_p1 a_p1_code a_p1_one a_p1_other a_p1_mate v_p1_present o_depth o_open o_p1_steps o_p1_size o_p1_code o_p1_mate o_p1_one o_p1_other   r1 v_depth v_open y8 u2 u3 u4 u5 u6 hf _ _ _ hP (mp_D_of hD rfl) hS (lv_sub hl [1, 0] rfl)
  · replace hf := if_f hf h9
    refine lv_iload_n hx hb dX6_addStep_26 rfl (lv_at hl 3 rfl) ?_
    obtain ⟨r10, c11, hf⟩ := bd_of hf
    have hPc := hP.sub (ws' := (k_X5_isTest T )) [] rfl
    have hDc := (mp_D_of (w1 := (k_X6_addStep T a_ a_open a_p1 a_p1_code a_p1_one a_p1_other a_p1_mate v_depth v_open v_p1_present y8 u2 u3 u4 u5 u6)) hD rfl).sub (ws' := (k_X5_isTest T )) [] rfl rfl
    refine mp_calli (isC := []) (wc := (k_X5_isTest T )) (w1 := (k_X5_isTest T )) hP (mp_D_of hD rfl) hS hA rfl rfl (mp_runS (As := [.int x2]) (rest := []) X me_X5_isTest lk_X6_62 (c_X5_isTest l D T x2 r10 c11) rfl rfl ⟨(Nat.le_of_ble_eq_true rfl), (Nat.le_of_ble_eq_true rfl)⟩ hK hPc hDc rfl hl.1 rfl (Nat.le_of_ble_eq_true rfl) dX6_addStep_27 ⟨Nat.zero_le _, Nat.zero_le _⟩) (fun H locs hP _ hS => ?_)
    replace hP : va_P D mp_cl (k_X6_addStep T a_ a_open a_p1 a_p1_code a_p1_one a_p1_other a_p1_mate v_depth v_open v_p1_present y8 u2 u3 u4 u5 u6) H := hP
    refine lv_if_eq (tgt := 62) hx hb dX6_addStep_30 (by decide) (fun h12 => ?_) (fun h12 => ?_)
    · replace hf := if_t hf h12
      cases hf
      exact mp_retv X hP hS dX6_addStep_62
    · replace hf := if_f hf h12
      exact w_X6_addStep_33 X hK hA  a_ a_open a_p1 a_p1_code a_p1_one a_p1_other a_p1_mate v_p1_present o_depth o_open o_p1_steps o_p1_size o_p1_code o_p1_mate o_p1_one o_p1_other   r1 v_depth v_open y8 u2 u3 u4 u5 u6 hf _ _ _ hP (mp_D_of hD rfl) hS (lv_sub hl [1, 0] rfl)


def k_X6_takeStep (T : Nat → ClassId) (a_ a_open a_p1 a_p1_tape a_p1_keys a_p2 a_p2_cellNames a_p2_secretNames a_p2_pageNames a_p2_speed a_p2_letters a_p2_room a_p2_now a_p2_rounds a_p3 a_p3_code a_p3_one a_p3_other a_p3_mate : Nat) (v_depth : Int32) (v_open : (Nat → Int32)) (v_p1_filled : Int32) (v_p1_end : Int32) (v_p1_at : Int32) (v_p1_kind : Int32) (v_p1_place : Int32) (v_p1_word : Int64) (v_p1_key : Int32) (v_p1_number : Int32) (v_p1_faultKind : Int32) (v_p1_faultPlace : Int32) (v_p1_keys : (Nat → Int64)) (v_p1_tape : (Nat → Int32)) (v_p2_cells : Int32) (v_p2_secrets : Int32) (v_p2_pages : Int32) (v_p2_blind : Int32) (v_p2_rubs : Int32) (v_p2_cellNames : (Nat → Int64)) (v_p2_pageNames : (Nat → Int64)) (v_p2_secretNames : (Nat → Int64)) (v_p3_present : Int32) (v_p3_steps : Int32) (v_p3_size : Int32) (v_p3_code : (Nat → Int32)) (v_p3_mate : (Nat → Int32)) (v_p3_one : (Nat → Int32)) (v_p3_other : (Nat → Int32)) : va_W := [(a_, oX6 a_open v_depth), (a_open, mp_aI T 3 v_open), (a_p1, oX8 a_p1_tape v_p1_filled v_p1_end v_p1_at v_p1_kind v_p1_place v_p1_word v_p1_key v_p1_number v_p1_faultKind v_p1_faultPlace a_p1_keys), (a_p1_keys, mp_aJ T 24 v_p1_keys), (a_p1_tape, mp_aB T 900 v_p1_tape), (a_p2, oX1 v_p2_cells v_p2_secrets v_p2_pages a_p2_cellNames a_p2_secretNames a_p2_pageNames a_p2_speed v_p2_blind v_p2_rubs a_p2_letters a_p2_room a_p2_now a_p2_rounds), (a_p2_cellNames, mp_aJ T 8 v_p2_cellNames), (a_p2_pageNames, mp_aJ T 6 v_p2_pageNames), (a_p2_secretNames, mp_aJ T 6 v_p2_secretNames), (a_p3, oX5 v_p3_present v_p3_steps v_p3_size a_p3_code a_p3_one a_p3_other a_p3_mate), (a_p3_code, mp_aI T 60 v_p3_code), (a_p3_mate, mp_aI T 60 v_p3_mate), (a_p3_one, mp_aI T 60 v_p3_one), (a_p3_other, mp_aI T 60 v_p3_other)]
set_option maxHeartbeats 4000000 in
set_option maxRecDepth 100000 in
theorem w_X6_takeStep_139 {p : Program} {l : Launch} {e : Env} {s : State} {m : MethodId} {args : Array Value} {below : List Frame} {meth : Method} {c : Code} {D : va_G} {T : Nat → ClassId} {A : Nat → Prop} (X : mp_X p s m meth c args RX6 "takeStep" cX6_takeStep 7 (some .boolean)) (hK : va_K D mp_cl (mp_ty T) s) (hA : ∀ q, s.heap.size ≤ q → A q) (fu : Nat) (a_ a_open a_p1 a_p1_tape a_p1_keys a_p2 a_p2_cellNames a_p2_secretNames a_p2_pageNames a_p2_speed a_p2_letters a_p2_room a_p2_now a_p2_rounds a_p3 a_p3_code a_p3_one a_p3_other a_p3_mate : Nat) (v_p1_filled : Int32) (v_p2_blind : Int32) (v_p2_rubs : Int32) (v_p3_present : Int32) (v_p1_end : Int32) (v_p1_keys : (Nat → Int64)) (v_p1_tape : (Nat → Int32)) (v_p2_cells : Int32) (v_p2_secrets : Int32) (v_p2_pages : Int32) (v_p2_cellNames : (Nat → Int64)) (v_p2_pageNames : (Nat → Int64)) (v_p2_secretNames : (Nat → Int64)) (r_ : Int32) (o_depth : Int32) (o_open : (Nat → Int32)) (o_p1_at : Int32) (o_p1_kind : Int32) (o_p1_place : Int32) (o_p1_word : Int64) (o_p1_key : Int32) (o_p1_number : Int32) (o_p1_faultKind : Int32) (o_p1_faultPlace : Int32) (o_p3_steps : Int32) (o_p3_size : Int32) (o_p3_code : (Nat → Int32)) (o_p3_mate : (Nat → Int32)) (o_p3_one : (Nat → Int32)) (o_p3_other : (Nat → Int32)) :
    ∀  (z4 : Int32) (z5 : Int32) (w0 : Int32) (v_depth : Int32) (v_open : (Nat → Int32)) (v_p1_at : Int32) (v_p1_kind : Int32) (v_p1_place : Int32) (v_p1_word : Int64) (v_p1_key : Int32) (v_p1_number : Int32) (v_p1_faultKind : Int32) (v_p1_faultPlace : Int32) (v_p3_steps : Int32) (v_p3_size : Int32) (v_p3_code : (Nat → Int32)) (v_p3_mate : (Nat → Int32)) (v_p3_one : (Nat → Int32)) (v_p3_other : (Nat → Int32)), f_X6_takeStep_139 fu v_p1_end v_p1_keys v_p1_tape v_p2_cells v_p2_secrets v_p2_pages v_p2_cellNames v_p2_pageNames v_p2_secretNames  z4 z5 w0 v_depth v_open v_p1_at v_p1_kind v_p1_place v_p1_word v_p1_key v_p1_number v_p1_faultKind v_p1_faultPlace v_p3_steps v_p3_size v_p3_code v_p3_mate v_p3_one v_p3_other = some (r_, o_depth, o_open, o_p1_at, o_p1_kind, o_p1_place, o_p1_word, o_p1_key, o_p1_number, o_p1_faultKind, o_p1_faultPlace, o_p3_steps, o_p3_size, o_p3_code, o_p3_mate, o_p3_one, o_p3_other) → ∀ (H : Heap) (locs : List Loc) (ls : Array Slot), va_P D mp_cl (k_X6_takeStep T a_ a_open a_p1 a_p1_tape a_p1_keys a_p2 a_p2_cellNames a_p2_secretNames a_p2_pageNames a_p2_speed a_p2_letters a_p2_room a_p2_now a_p2_rounds a_p3 a_p3_code a_p3_one a_p3_other a_p3_mate v_depth v_open v_p1_filled v_p1_end v_p1_at v_p1_kind v_p1_place v_p1_word v_p1_key v_p1_number v_p1_faultKind v_p1_faultPlace v_p1_keys v_p1_tape v_p2_cells v_p2_secrets v_p2_pages v_p2_blind v_p2_rubs v_p2_cellNames v_p2_pageNames v_p2_secretNames v_p3_present v_p3_steps v_p3_size v_p3_code v_p3_mate v_p3_one v_p3_other) H → va_D A (k_X6_takeStep T a_ a_open a_p1 a_p1_tape a_p1_keys a_p2 a_p2_cellNames a_p2_secretNames a_p2_pageNames a_p2_speed a_p2_letters a_p2_room a_p2_now a_p2_rounds a_p3 a_p3_code a_p3_one a_p3_other a_p3_mate v_depth v_open v_p1_filled v_p1_end v_p1_at v_p1_kind v_p1_place v_p1_word v_p1_key v_p1_number v_p1_faultKind v_p1_faultPlace v_p1_keys v_p1_tape v_p2_cells v_p2_secrets v_p2_pages v_p2_blind v_p2_rubs v_p2_cellNames v_p2_pageNames v_p2_secretNames v_p3_present v_p3_steps v_p3_size v_p3_code v_p3_mate v_p3_one v_p3_other) → va_S A s.heap H locs → lv_has ls 7 [(0, .ref a_), (1, .ref a_p1), (3, .ref a_p3), (4, .int z4), (5, .int z5)] → W p l e ({ frames := 5, cells := 0, slots := 0, locals := 112 }) s m args below meth c H locs 0 0 (MQ below ((mp_Qi D r_ (k_X6_takeStep T a_ a_open a_p1 a_p1_tape a_p1_keys a_p2 a_p2_cellNames a_p2_secretNames a_p2_pageNames a_p2_speed a_p2_letters a_p2_room a_p2_now a_p2_rounds a_p3 a_p3_code a_p3_one a_p3_other a_p3_mate o_depth o_open v_p1_filled v_p1_end o_p1_at o_p1_kind o_p1_place o_p1_word o_p1_key o_p1_number o_p1_faultKind o_p1_faultPlace v_p1_keys v_p1_tape v_p2_cells v_p2_secrets v_p2_pages v_p2_blind v_p2_rubs v_p2_cellNames v_p2_pageNames v_p2_secretNames v_p3_present o_p3_steps o_p3_size o_p3_code o_p3_mate o_p3_one o_p3_other)) A) args s 0 0 A) (F0 m 139 ls [.int w0]) := by
  have hx := X.1
  have hb := X.2.1
  have hml := X.2.2.1
  have hown := X.2.2.2.2.1
  have hts := X.2.2.2.2.2.1
  intro z4 z5 w0 v_depth v_open v_p1_at v_p1_kind v_p1_place v_p1_word v_p1_key v_p1_number v_p1_faultKind v_p1_faultPlace v_p3_steps v_p3_size v_p3_code v_p3_mate v_p3_one v_p3_other hf H locs ls hP hD hS hl
  replace hf : (if w0 = (-1 : Int32) then some ((nI 0), v_depth, v_open, v_p1_at, v_p1_kind, v_p1_place, v_p1_word, v_p1_key, v_p1_number, v_p1_faultKind, v_p1_faultPlace, v_p3_steps, v_p3_size, v_p3_code, v_p3_mate, v_p3_one, v_p3_other) else bd_ (f_X8_closes fu v_p1_end v_p1_at v_p1_kind v_p1_place v_p1_word v_p1_key v_p1_number v_p1_faultKind v_p1_faultPlace v_p1_keys v_p1_tape) (fun (z : Int32 × Int32 × Int32 × Int32 × Int64 × Int32 × Int32 × Int32 × Int32) => match z with | (r2, u3, u4, u5, u6, u7, u8, u9, u10) => (if r2 = 0 then some ((nI 0), v_depth, v_open, u3, u4, u5, u6, u7, u8, u9, u10, v_p3_steps, v_p3_size, v_p3_code, v_p3_mate, v_p3_one, v_p3_other) else bd_ (f_X6_addStep z4 z5 w0 v_depth v_open v_p3_steps v_p3_size v_p3_code v_p3_mate v_p3_one v_p3_other) (fun (z : Int32 × (Nat → Int32) × Int32 × Int32 × (Nat → Int32) × (Nat → Int32) × (Nat → Int32) × (Nat → Int32)) => match z with | (u13, u14, u15, u16, u17, u18, u19, u20) => some ((nI 1), u13, u14, u3, u4, u5, u6, u7, u8, u9, u10, u15, u16, u17, u18, u19, u20))))) = some (r_, o_depth, o_open, o_p1_at, o_p1_kind, o_p1_place, o_p1_word, o_p1_key, o_p1_number, o_p1_faultKind, o_p1_faultPlace, o_p3_steps, o_p3_size, o_p3_code, o_p3_mate, o_p3_one, o_p3_other) := hf
  refine lv_istore (lv' := [(6, .int w0), (0, .ref a_), (1, .ref a_p1), (3, .ref a_p3), (4, .int z4), (5, .int z5)]) hx hb dX6_takeStep_139 hl (by decide) rfl (fun ls hl => ?_)
  refine lv_iload hx hb dX6_takeStep_141 (lv_at hl 0 rfl) ?_
  refine lv_iconst (v := (-1 : Int32)) hx hb dX6_takeStep_143 (by decide) ?_
  refine lv_icmp_eq (tgt := 154) hx hb dX6_takeStep_144 (by decide) (fun h1 => ?_) (fun h1 => ?_)
  · replace hf := if_t hf h1
    refine lv_iconst (v := (nI 0)) hx hb dX6_takeStep_154 (by decide) ?_
    cases hf
    exact mp_retz X hP hS rfl (Or.inl rfl) dX6_takeStep_155
  · replace hf := if_f hf h1
    refine lv_aload_n hx hb dX6_takeStep_147 rfl (lv_at hl 2 rfl) ?_
    obtain ⟨⟨r2, u3, u4, u5, u6, u7, u8, u9, u10⟩, c11, hf⟩ := bd_of hf
    dsimp only at hf
    have hPc := hP.sub (ws' := (k_X8_closes T a_p1 a_p1_tape a_p1_keys v_p1_filled v_p1_end v_p1_at v_p1_kind v_p1_place v_p1_word v_p1_key v_p1_number v_p1_faultKind v_p1_faultPlace v_p1_keys v_p1_tape)) [2, 3, 4] rfl
    have hDc := (mp_D_of (w1 := (k_X6_takeStep T a_ a_open a_p1 a_p1_tape a_p1_keys a_p2 a_p2_cellNames a_p2_secretNames a_p2_pageNames a_p2_speed a_p2_letters a_p2_room a_p2_now a_p2_rounds a_p3 a_p3_code a_p3_one a_p3_other a_p3_mate v_depth v_open v_p1_filled v_p1_end v_p1_at v_p1_kind v_p1_place v_p1_word v_p1_key v_p1_number v_p1_faultKind v_p1_faultPlace v_p1_keys v_p1_tape v_p2_cells v_p2_secrets v_p2_pages v_p2_blind v_p2_rubs v_p2_cellNames v_p2_pageNames v_p2_secretNames v_p3_present v_p3_steps v_p3_size v_p3_code v_p3_mate v_p3_one v_p3_other)) hD rfl).sub (ws' := (k_X8_closes T a_p1 a_p1_tape a_p1_keys v_p1_filled v_p1_end v_p1_at v_p1_kind v_p1_place v_p1_word v_p1_key v_p1_number v_p1_faultKind v_p1_faultPlace v_p1_keys v_p1_tape)) [2, 3, 4] rfl rfl
    refine mp_calli (isC := [2, 3, 4]) (wc := (k_X8_closes T a_p1 a_p1_tape a_p1_keys v_p1_filled v_p1_end v_p1_at v_p1_kind v_p1_place v_p1_word v_p1_key v_p1_number v_p1_faultKind v_p1_faultPlace v_p1_keys v_p1_tape)) (w1 := (k_X8_closes T a_p1 a_p1_tape a_p1_keys v_p1_filled v_p1_end u3 u4 u5 u6 u7 u8 u9 u10 v_p1_keys v_p1_tape)) hP (mp_D_of hD rfl) hS hA rfl rfl (mp_runV (As := []) (rest := []) X me_X8_closes lk_X6_51 (c_X8_closes l D T fu a_p1 a_p1_tape a_p1_keys v_p1_filled v_p1_end v_p1_at v_p1_kind v_p1_place v_p1_word v_p1_key v_p1_number v_p1_faultKind v_p1_faultPlace v_p1_keys v_p1_tape r2 u3 u4 u5 u6 u7 u8 u9 u10 c11) rfl rfl ⟨(Nat.le_of_ble_eq_true rfl), (Nat.le_of_ble_eq_true rfl)⟩ hK hPc hDc rfl rfl rfl rfl hl.1 rfl (Nat.le_of_ble_eq_true rfl) dX6_takeStep_148 ⟨Nat.zero_le _, Nat.zero_le _⟩) (fun H locs hP _ hS => ?_)
    replace hP : va_P D mp_cl (k_X6_takeStep T a_ a_open a_p1 a_p1_tape a_p1_keys a_p2 a_p2_cellNames a_p2_secretNames a_p2_pageNames a_p2_speed a_p2_letters a_p2_room a_p2_now a_p2_rounds a_p3 a_p3_code a_p3_one a_p3_other a_p3_mate v_depth v_open v_p1_filled v_p1_end u3 u4 u5 u6 u7 u8 u9 u10 v_p1_keys v_p1_tape v_p2_cells v_p2_secrets v_p2_pages v_p2_blind v_p2_rubs v_p2_cellNames v_p2_pageNames v_p2_secretNames v_p3_present v_p3_steps v_p3_size v_p3_code v_p3_mate v_p3_one v_p3_other) H := hP
    refine lv_if_ne (tgt := 156) hx hb dX6_takeStep_151 (by decide) (fun h12 => ?_) (fun h12 => ?_)
    · replace hf := if_f hf h12
      refine lv_aload_n hx hb dX6_takeStep_156 rfl (lv_at hl 1 rfl) ?_
      refine lv_aload_n hx hb dX6_takeStep_157 rfl (lv_at hl 3 rfl) ?_
      refine lv_iload hx hb dX6_takeStep_158 (lv_at hl 4 rfl) ?_
      refine lv_iload hx hb dX6_takeStep_160 (lv_at hl 5 rfl) ?_
      refine lv_iload hx hb dX6_takeStep_162 (lv_at hl 0 rfl) ?_
      obtain ⟨⟨u13, u14, u15, u16, u17, u18, u19, u20⟩, c21, hf⟩ := bd_of hf
      dsimp only at hf
      have hPc := hP.sub (ws' := (k_X6_addStep T a_ a_open a_p3 a_p3_code a_p3_one a_p3_other a_p3_mate v_depth v_open v_p3_present v_p3_steps v_p3_size v_p3_code v_p3_mate v_p3_one v_p3_other)) [0, 1, 9, 10, 11, 12, 13] rfl
      have hDc := (mp_D_of (w1 := (k_X6_takeStep T a_ a_open a_p1 a_p1_tape a_p1_keys a_p2 a_p2_cellNames a_p2_secretNames a_p2_pageNames a_p2_speed a_p2_letters a_p2_room a_p2_now a_p2_rounds a_p3 a_p3_code a_p3_one a_p3_other a_p3_mate v_depth v_open v_p1_filled v_p1_end u3 u4 u5 u6 u7 u8 u9 u10 v_p1_keys v_p1_tape v_p2_cells v_p2_secrets v_p2_pages v_p2_blind v_p2_rubs v_p2_cellNames v_p2_pageNames v_p2_secretNames v_p3_present v_p3_steps v_p3_size v_p3_code v_p3_mate v_p3_one v_p3_other)) hD rfl).sub (ws' := (k_X6_addStep T a_ a_open a_p3 a_p3_code a_p3_one a_p3_other a_p3_mate v_depth v_open v_p3_present v_p3_steps v_p3_size v_p3_code v_p3_mate v_p3_one v_p3_other)) [0, 1, 9, 10, 11, 12, 13] rfl rfl
      refine mp_callv (isC := [0, 1, 9, 10, 11, 12, 13]) (wc := (k_X6_addStep T a_ a_open a_p3 a_p3_code a_p3_one a_p3_other a_p3_mate v_depth v_open v_p3_present v_p3_steps v_p3_size v_p3_code v_p3_mate v_p3_one v_p3_other)) (w1 := (k_X6_addStep T a_ a_open a_p3 a_p3_code a_p3_one a_p3_other a_p3_mate u13 u14 v_p3_present u15 u16 u17 u18 u19 u20)) hP (mp_D_of hD rfl) hS hA rfl rfl (mp_runV (As := [.ref a_p3, .int z4, .int z5, .int w0]) (rest := []) X me_X6_addStep lk_X6_72 (c_X6_addStep l D T a_ a_open a_p3 a_p3_code a_p3_one a_p3_other a_p3_mate z4 z5 w0 v_p3_present v_depth v_open v_p3_steps v_p3_size v_p3_code v_p3_mate v_p3_one v_p3_other u13 u14 u15 u16 u17 u18 u19 u20 c21) rfl rfl ⟨(Nat.le_of_ble_eq_true rfl), (Nat.le_of_ble_eq_true rfl)⟩ hK hPc hDc rfl rfl rfl rfl hl.1 rfl (Nat.le_of_ble_eq_true rfl) dX6_takeStep_164 ⟨Nat.zero_le _, Nat.zero_le _⟩) (fun H locs hP _ hS => ?_)
      replace hP : va_P D mp_cl (k_X6_takeStep T a_ a_open a_p1 a_p1_tape a_p1_keys a_p2 a_p2_cellNames a_p2_secretNames a_p2_pageNames a_p2_speed a_p2_letters a_p2_room a_p2_now a_p2_rounds a_p3 a_p3_code a_p3_one a_p3_other a_p3_mate u13 u14 v_p1_filled v_p1_end u3 u4 u5 u6 u7 u8 u9 u10 v_p1_keys v_p1_tape v_p2_cells v_p2_secrets v_p2_pages v_p2_blind v_p2_rubs v_p2_cellNames v_p2_pageNames v_p2_secretNames v_p3_present u15 u16 u17 u18 u19 u20) H := hP
      refine lv_iconst (v := (nI 1)) hx hb dX6_takeStep_167 (by decide) ?_
      cases hf
      exact mp_retz X hP hS rfl (Or.inr rfl) dX6_takeStep_168
    · replace hf := if_t hf h12
      refine lv_iconst (v := (nI 0)) hx hb dX6_takeStep_154 (by decide) ?_
      cases hf
      exact mp_retz X hP hS rfl (Or.inl rfl) dX6_takeStep_155

set_option maxHeartbeats 4000000 in
set_option maxRecDepth 100000 in
theorem w_X6_takeStep_113 {p : Program} {l : Launch} {e : Env} {s : State} {m : MethodId} {args : Array Value} {below : List Frame} {meth : Method} {c : Code} {D : va_G} {T : Nat → ClassId} {A : Nat → Prop} (X : mp_X p s m meth c args RX6 "takeStep" cX6_takeStep 7 (some .boolean)) (hK : va_K D mp_cl (mp_ty T) s) (hA : ∀ q, s.heap.size ≤ q → A q) (fu : Nat) (a_ a_open a_p1 a_p1_tape a_p1_keys a_p2 a_p2_cellNames a_p2_secretNames a_p2_pageNames a_p2_speed a_p2_letters a_p2_room a_p2_now a_p2_rounds a_p3 a_p3_code a_p3_one a_p3_other a_p3_mate : Nat) (v_p1_filled : Int32) (v_p2_blind : Int32) (v_p2_rubs : Int32) (v_p3_present : Int32) (v_p1_end : Int32) (v_p1_keys : (Nat → Int64)) (v_p1_tape : (Nat → Int32)) (v_p2_cells : Int32) (v_p2_secrets : Int32) (v_p2_pages : Int32) (v_p2_cellNames : (Nat → Int64)) (v_p2_pageNames : (Nat → Int64)) (v_p2_secretNames : (Nat → Int64)) (r_ : Int32) (o_depth : Int32) (o_open : (Nat → Int32)) (o_p1_at : Int32) (o_p1_kind : Int32) (o_p1_place : Int32) (o_p1_word : Int64) (o_p1_key : Int32) (o_p1_number : Int32) (o_p1_faultKind : Int32) (o_p1_faultPlace : Int32) (o_p3_steps : Int32) (o_p3_size : Int32) (o_p3_code : (Nat → Int32)) (o_p3_mate : (Nat → Int32)) (o_p3_one : (Nat → Int32)) (o_p3_other : (Nat → Int32)) :
    ∀  (z4 : Int32) (v_depth : Int32) (v_open : (Nat → Int32)) (v_p1_at : Int32) (v_p1_kind : Int32) (v_p1_place : Int32) (v_p1_word : Int64) (v_p1_key : Int32) (v_p1_number : Int32) (v_p1_faultKind : Int32) (v_p1_faultPlace : Int32) (v_p3_steps : Int32) (v_p3_size : Int32) (v_p3_code : (Nat → Int32)) (v_p3_mate : (Nat → Int32)) (v_p3_one : (Nat → Int32)) (v_p3_other : (Nat → Int32)), f_X6_takeStep_113 fu v_p1_end v_p1_keys v_p1_tape v_p2_cells v_p2_secrets v_p2_pages v_p2_cellNames v_p2_pageNames v_p2_secretNames  z4 v_depth v_open v_p1_at v_p1_kind v_p1_place v_p1_word v_p1_key v_p1_number v_p1_faultKind v_p1_faultPlace v_p3_steps v_p3_size v_p3_code v_p3_mate v_p3_one v_p3_other = some (r_, o_depth, o_open, o_p1_at, o_p1_kind, o_p1_place, o_p1_word, o_p1_key, o_p1_number, o_p1_faultKind, o_p1_faultPlace, o_p3_steps, o_p3_size, o_p3_code, o_p3_mate, o_p3_one, o_p3_other) → ∀ (H : Heap) (locs : List Loc) (ls : Array Slot), va_P D mp_cl (k_X6_takeStep T a_ a_open a_p1 a_p1_tape a_p1_keys a_p2 a_p2_cellNames a_p2_secretNames a_p2_pageNames a_p2_speed a_p2_letters a_p2_room a_p2_now a_p2_rounds a_p3 a_p3_code a_p3_one a_p3_other a_p3_mate v_depth v_open v_p1_filled v_p1_end v_p1_at v_p1_kind v_p1_place v_p1_word v_p1_key v_p1_number v_p1_faultKind v_p1_faultPlace v_p1_keys v_p1_tape v_p2_cells v_p2_secrets v_p2_pages v_p2_blind v_p2_rubs v_p2_cellNames v_p2_pageNames v_p2_secretNames v_p3_present v_p3_steps v_p3_size v_p3_code v_p3_mate v_p3_one v_p3_other) H → va_D A (k_X6_takeStep T a_ a_open a_p1 a_p1_tape a_p1_keys a_p2 a_p2_cellNames a_p2_secretNames a_p2_pageNames a_p2_speed a_p2_letters a_p2_room a_p2_now a_p2_rounds a_p3 a_p3_code a_p3_one a_p3_other a_p3_mate v_depth v_open v_p1_filled v_p1_end v_p1_at v_p1_kind v_p1_place v_p1_word v_p1_key v_p1_number v_p1_faultKind v_p1_faultPlace v_p1_keys v_p1_tape v_p2_cells v_p2_secrets v_p2_pages v_p2_blind v_p2_rubs v_p2_cellNames v_p2_pageNames v_p2_secretNames v_p3_present v_p3_steps v_p3_size v_p3_code v_p3_mate v_p3_one v_p3_other) → va_S A s.heap H locs → lv_has ls 7 [(0, .ref a_), (1, .ref a_p1), (2, .ref a_p2), (3, .ref a_p3), (4, .int z4)] → W p l e ({ frames := 5, cells := 0, slots := 0, locals := 112 }) s m args below meth c H locs 0 0 (MQ below ((mp_Qi D r_ (k_X6_takeStep T a_ a_open a_p1 a_p1_tape a_p1_keys a_p2 a_p2_cellNames a_p2_secretNames a_p2_pageNames a_p2_speed a_p2_letters a_p2_room a_p2_now a_p2_rounds a_p3 a_p3_code a_p3_one a_p3_other a_p3_mate o_depth o_open v_p1_filled v_p1_end o_p1_at o_p1_kind o_p1_place o_p1_word o_p1_key o_p1_number o_p1_faultKind o_p1_faultPlace v_p1_keys v_p1_tape v_p2_cells v_p2_secrets v_p2_pages v_p2_blind v_p2_rubs v_p2_cellNames v_p2_pageNames v_p2_secretNames v_p3_present o_p3_steps o_p3_size o_p3_code o_p3_mate o_p3_one o_p3_other)) A) args s 0 0 A) (F0 m 113 ls []) := by
  have hx := X.1
  have hb := X.2.1
  have hml := X.2.2.1
  have hown := X.2.2.2.2.1
  have hts := X.2.2.2.2.2.1
  intro z4 v_depth v_open v_p1_at v_p1_kind v_p1_place v_p1_word v_p1_key v_p1_number v_p1_faultKind v_p1_faultPlace v_p3_steps v_p3_size v_p3_code v_p3_mate v_p3_one v_p3_other hf H locs ls hP hD hS hl
  replace hf : bd_ (f_X6_takeOne fu z4 v_p1_end v_p1_at v_p1_kind v_p1_place v_p1_word v_p1_key v_p1_number v_p1_faultKind v_p1_faultPlace v_p1_keys v_p1_tape v_p2_cells v_p2_secrets v_p2_pages v_p2_cellNames v_p2_pageNames v_p2_secretNames) (fun (z : Int32 × Int32 × Int32 × Int32 × Int64 × Int32 × Int32 × Int32 × Int32) => match z with | (r1, u2, u3, u4, u5, u6, u7, u8, u9) => (if r1 = (-1 : Int32) then f_X6_takeStep_139 fu v_p1_end v_p1_keys v_p1_tape v_p2_cells v_p2_secrets v_p2_pages v_p2_cellNames v_p2_pageNames v_p2_secretNames  z4 r1 (-1 : Int32) v_depth v_open u2 u3 u4 u5 u6 u7 u8 u9 v_p3_steps v_p3_size v_p3_code v_p3_mate v_p3_one v_p3_other else bd_ (f_X6_takeOther fu z4 v_p1_end u2 u3 u4 u5 u6 u7 u8 u9 v_p1_keys v_p1_tape v_p2_cells v_p2_secrets v_p2_cellNames v_p2_secretNames) (fun (z : Int32 × Int32 × Int32 × Int32 × Int64 × Int32 × Int32 × Int32 × Int32) => match z with | (r12, u13, u14, u15, u16, u17, u18, u19, u20) => f_X6_takeStep_139 fu v_p1_end v_p1_keys v_p1_tape v_p2_cells v_p2_secrets v_p2_pages v_p2_cellNames v_p2_pageNames v_p2_secretNames  z4 r1 r12 v_depth v_open u13 u14 u15 u16 u17 u18 u19 u20 v_p3_steps v_p3_size v_p3_code v_p3_mate v_p3_one v_p3_other))) = some (r_, o_depth, o_open, o_p1_at, o_p1_kind, o_p1_place, o_p1_word, o_p1_key, o_p1_number, o_p1_faultKind, o_p1_faultPlace, o_p3_steps, o_p3_size, o_p3_code, o_p3_mate, o_p3_one, o_p3_other) := hf
  refine lv_aload_n hx hb dX6_takeStep_113 rfl (lv_at hl 1 rfl) ?_
  refine lv_aload_n hx hb dX6_takeStep_114 rfl (lv_at hl 2 rfl) ?_
  refine lv_iload hx hb dX6_takeStep_115 (lv_at hl 4 rfl) ?_
  obtain ⟨⟨r1, u2, u3, u4, u5, u6, u7, u8, u9⟩, c10, hf⟩ := bd_of hf
  dsimp only at hf
  have hPc := hP.sub (ws' := (k_X6_takeOne T a_p1 a_p1_tape a_p1_keys a_p2 a_p2_cellNames a_p2_secretNames a_p2_pageNames a_p2_speed a_p2_letters a_p2_room a_p2_now a_p2_rounds v_p1_filled v_p1_end v_p1_at v_p1_kind v_p1_place v_p1_word v_p1_key v_p1_number v_p1_faultKind v_p1_faultPlace v_p1_keys v_p1_tape v_p2_cells v_p2_secrets v_p2_pages v_p2_blind v_p2_rubs v_p2_cellNames v_p2_pageNames v_p2_secretNames)) [2, 3, 4, 5, 6, 7, 8] rfl
  have hDc := (mp_D_of (w1 := (k_X6_takeStep T a_ a_open a_p1 a_p1_tape a_p1_keys a_p2 a_p2_cellNames a_p2_secretNames a_p2_pageNames a_p2_speed a_p2_letters a_p2_room a_p2_now a_p2_rounds a_p3 a_p3_code a_p3_one a_p3_other a_p3_mate v_depth v_open v_p1_filled v_p1_end v_p1_at v_p1_kind v_p1_place v_p1_word v_p1_key v_p1_number v_p1_faultKind v_p1_faultPlace v_p1_keys v_p1_tape v_p2_cells v_p2_secrets v_p2_pages v_p2_blind v_p2_rubs v_p2_cellNames v_p2_pageNames v_p2_secretNames v_p3_present v_p3_steps v_p3_size v_p3_code v_p3_mate v_p3_one v_p3_other)) hD rfl).sub (ws' := (k_X6_takeOne T a_p1 a_p1_tape a_p1_keys a_p2 a_p2_cellNames a_p2_secretNames a_p2_pageNames a_p2_speed a_p2_letters a_p2_room a_p2_now a_p2_rounds v_p1_filled v_p1_end v_p1_at v_p1_kind v_p1_place v_p1_word v_p1_key v_p1_number v_p1_faultKind v_p1_faultPlace v_p1_keys v_p1_tape v_p2_cells v_p2_secrets v_p2_pages v_p2_blind v_p2_rubs v_p2_cellNames v_p2_pageNames v_p2_secretNames)) [2, 3, 4, 5, 6, 7, 8] rfl rfl
  refine mp_calli (isC := [2, 3, 4, 5, 6, 7, 8]) (wc := (k_X6_takeOne T a_p1 a_p1_tape a_p1_keys a_p2 a_p2_cellNames a_p2_secretNames a_p2_pageNames a_p2_speed a_p2_letters a_p2_room a_p2_now a_p2_rounds v_p1_filled v_p1_end v_p1_at v_p1_kind v_p1_place v_p1_word v_p1_key v_p1_number v_p1_faultKind v_p1_faultPlace v_p1_keys v_p1_tape v_p2_cells v_p2_secrets v_p2_pages v_p2_blind v_p2_rubs v_p2_cellNames v_p2_pageNames v_p2_secretNames)) (w1 := (k_X6_takeOne T a_p1 a_p1_tape a_p1_keys a_p2 a_p2_cellNames a_p2_secretNames a_p2_pageNames a_p2_speed a_p2_letters a_p2_room a_p2_now a_p2_rounds v_p1_filled v_p1_end u2 u3 u4 u5 u6 u7 u8 u9 v_p1_keys v_p1_tape v_p2_cells v_p2_secrets v_p2_pages v_p2_blind v_p2_rubs v_p2_cellNames v_p2_pageNames v_p2_secretNames)) hP (mp_D_of hD rfl) hS hA rfl rfl (mp_runS (As := [.ref a_p1, .ref a_p2, .int z4]) (rest := []) X me_X6_takeOne lk_X6_65 (c_X6_takeOne l D T fu a_p1 a_p1_tape a_p1_keys a_p2 a_p2_cellNames a_p2_secretNames a_p2_pageNames a_p2_speed a_p2_letters a_p2_room a_p2_now a_p2_rounds z4 v_p1_filled v_p2_blind v_p2_rubs v_p1_end v_p1_at v_p1_kind v_p1_place v_p1_word v_p1_key v_p1_number v_p1_faultKind v_p1_faultPlace v_p1_keys v_p1_tape v_p2_cells v_p2_secrets v_p2_pages v_p2_cellNames v_p2_pageNames v_p2_secretNames r1 u2 u3 u4 u5 u6 u7 u8 u9 c10) rfl rfl ⟨(Nat.le_of_ble_eq_true rfl), (Nat.le_of_ble_eq_true rfl)⟩ hK hPc hDc rfl hl.1 rfl (Nat.le_of_ble_eq_true rfl) dX6_takeStep_117 ⟨Nat.zero_le _, Nat.zero_le _⟩) (fun H locs hP _ hS => ?_)
  replace hP : va_P D mp_cl (k_X6_takeStep T a_ a_open a_p1 a_p1_tape a_p1_keys a_p2 a_p2_cellNames a_p2_secretNames a_p2_pageNames a_p2_speed a_p2_letters a_p2_room a_p2_now a_p2_rounds a_p3 a_p3_code a_p3_one a_p3_other a_p3_mate v_depth v_open v_p1_filled v_p1_end u2 u3 u4 u5 u6 u7 u8 u9 v_p1_keys v_p1_tape v_p2_cells v_p2_secrets v_p2_pages v_p2_blind v_p2_rubs v_p2_cellNames v_p2_pageNames v_p2_secretNames v_p3_present v_p3_steps v_p3_size v_p3_code v_p3_mate v_p3_one v_p3_other) H := hP
  refine lv_istore (lv' := [(5, .int r1), (0, .ref a_), (1, .ref a_p1), (2, .ref a_p2), (3, .ref a_p3), (4, .int z4)]) hx hb dX6_takeStep_120 hl (by decide) rfl (fun ls hl => ?_)
  refine lv_iload hx hb dX6_takeStep_122 (lv_at hl 0 rfl) ?_
  refine lv_iconst (v := (-1 : Int32)) hx hb dX6_takeStep_124 (by decide) ?_
  refine lv_icmp_ne (tgt := 132) hx hb dX6_takeStep_125 (by decide) (fun h11 => ?_) (fun h11 => ?_)
  · replace hf := if_f hf h11
    refine lv_aload_n hx hb dX6_takeStep_132 rfl (lv_at hl 2 rfl) ?_
    refine lv_aload_n hx hb dX6_takeStep_133 rfl (lv_at hl 3 rfl) ?_
    refine lv_iload hx hb dX6_takeStep_134 (lv_at hl 5 rfl) ?_
    obtain ⟨⟨r12, u13, u14, u15, u16, u17, u18, u19, u20⟩, c21, hf⟩ := bd_of hf
    dsimp only at hf
    have hPc := hP.sub (ws' := (k_X6_takeOther T a_p1 a_p1_tape a_p1_keys a_p2 a_p2_cellNames a_p2_secretNames a_p2_pageNames a_p2_speed a_p2_letters a_p2_room a_p2_now a_p2_rounds v_p1_filled v_p1_end u2 u3 u4 u5 u6 u7 u8 u9 v_p1_keys v_p1_tape v_p2_cells v_p2_secrets v_p2_pages v_p2_blind v_p2_rubs v_p2_cellNames v_p2_secretNames)) [2, 3, 4, 5, 6, 8] rfl
    have hDc := (mp_D_of (w1 := (k_X6_takeStep T a_ a_open a_p1 a_p1_tape a_p1_keys a_p2 a_p2_cellNames a_p2_secretNames a_p2_pageNames a_p2_speed a_p2_letters a_p2_room a_p2_now a_p2_rounds a_p3 a_p3_code a_p3_one a_p3_other a_p3_mate v_depth v_open v_p1_filled v_p1_end u2 u3 u4 u5 u6 u7 u8 u9 v_p1_keys v_p1_tape v_p2_cells v_p2_secrets v_p2_pages v_p2_blind v_p2_rubs v_p2_cellNames v_p2_pageNames v_p2_secretNames v_p3_present v_p3_steps v_p3_size v_p3_code v_p3_mate v_p3_one v_p3_other)) hD rfl).sub (ws' := (k_X6_takeOther T a_p1 a_p1_tape a_p1_keys a_p2 a_p2_cellNames a_p2_secretNames a_p2_pageNames a_p2_speed a_p2_letters a_p2_room a_p2_now a_p2_rounds v_p1_filled v_p1_end u2 u3 u4 u5 u6 u7 u8 u9 v_p1_keys v_p1_tape v_p2_cells v_p2_secrets v_p2_pages v_p2_blind v_p2_rubs v_p2_cellNames v_p2_secretNames)) [2, 3, 4, 5, 6, 8] rfl rfl
    refine mp_calli (isC := [2, 3, 4, 5, 6, 8]) (wc := (k_X6_takeOther T a_p1 a_p1_tape a_p1_keys a_p2 a_p2_cellNames a_p2_secretNames a_p2_pageNames a_p2_speed a_p2_letters a_p2_room a_p2_now a_p2_rounds v_p1_filled v_p1_end u2 u3 u4 u5 u6 u7 u8 u9 v_p1_keys v_p1_tape v_p2_cells v_p2_secrets v_p2_pages v_p2_blind v_p2_rubs v_p2_cellNames v_p2_secretNames)) (w1 := (k_X6_takeOther T a_p1 a_p1_tape a_p1_keys a_p2 a_p2_cellNames a_p2_secretNames a_p2_pageNames a_p2_speed a_p2_letters a_p2_room a_p2_now a_p2_rounds v_p1_filled v_p1_end u13 u14 u15 u16 u17 u18 u19 u20 v_p1_keys v_p1_tape v_p2_cells v_p2_secrets v_p2_pages v_p2_blind v_p2_rubs v_p2_cellNames v_p2_secretNames)) hP (mp_D_of hD rfl) hS hA rfl rfl (mp_runS (As := [.ref a_p1, .ref a_p2, .int z4]) (rest := []) X me_X6_takeOther lk_X6_69 (c_X6_takeOther l D T fu a_p1 a_p1_tape a_p1_keys a_p2 a_p2_cellNames a_p2_secretNames a_p2_pageNames a_p2_speed a_p2_letters a_p2_room a_p2_now a_p2_rounds z4 v_p1_filled v_p2_pages v_p2_blind v_p2_rubs v_p1_end u2 u3 u4 u5 u6 u7 u8 u9 v_p1_keys v_p1_tape v_p2_cells v_p2_secrets v_p2_cellNames v_p2_secretNames r12 u13 u14 u15 u16 u17 u18 u19 u20 c21) rfl rfl ⟨(Nat.le_of_ble_eq_true rfl), (Nat.le_of_ble_eq_true rfl)⟩ hK hPc hDc rfl hl.1 rfl (Nat.le_of_ble_eq_true rfl) dX6_takeStep_136 ⟨Nat.zero_le _, Nat.zero_le _⟩) (fun H locs hP _ hS => ?_)
    replace hP : va_P D mp_cl (k_X6_takeStep T a_ a_open a_p1 a_p1_tape a_p1_keys a_p2 a_p2_cellNames a_p2_secretNames a_p2_pageNames a_p2_speed a_p2_letters a_p2_room a_p2_now a_p2_rounds a_p3 a_p3_code a_p3_one a_p3_other a_p3_mate v_depth v_open v_p1_filled v_p1_end u13 u14 u15 u16 u17 u18 u19 u20 v_p1_keys v_p1_tape v_p2_cells v_p2_secrets v_p2_pages v_p2_blind v_p2_rubs v_p2_cellNames v_p2_pageNames v_p2_secretNames v_p3_present v_p3_steps v_p3_size v_p3_code v_p3_mate v_p3_one v_p3_other) H := hP
    exact w_X6_takeStep_139 X hK hA  fu a_ a_open a_p1 a_p1_tape a_p1_keys a_p2 a_p2_cellNames a_p2_secretNames a_p2_pageNames a_p2_speed a_p2_letters a_p2_room a_p2_now a_p2_rounds a_p3 a_p3_code a_p3_one a_p3_other a_p3_mate v_p1_filled v_p2_blind v_p2_rubs v_p3_present v_p1_end v_p1_keys v_p1_tape v_p2_cells v_p2_secrets v_p2_pages v_p2_cellNames v_p2_pageNames v_p2_secretNames r_ o_depth o_open o_p1_at o_p1_kind o_p1_place o_p1_word o_p1_key o_p1_number o_p1_faultKind o_p1_faultPlace o_p3_steps o_p3_size o_p3_code o_p3_mate o_p3_one o_p3_other   z4 r1 r12 v_depth v_open u13 u14 u15 u16 u17 u18 u19 u20 v_p3_steps v_p3_size v_p3_code v_p3_mate v_p3_one v_p3_other hf _ _ _ hP (mp_D_of hD rfl) hS (lv_sub hl [1, 2, 4, 5, 0] rfl)
  · replace hf := if_t hf h11
    refine lv_iconst (v := (-1 : Int32)) hx hb dX6_takeStep_128 (by decide) ?_
    refine lv_goto (tgt := 139) hx hb dX6_takeStep_129 (by decide) ?_
    exact w_X6_takeStep_139 X hK hA  fu a_ a_open a_p1 a_p1_tape a_p1_keys a_p2 a_p2_cellNames a_p2_secretNames a_p2_pageNames a_p2_speed a_p2_letters a_p2_room a_p2_now a_p2_rounds a_p3 a_p3_code a_p3_one a_p3_other a_p3_mate v_p1_filled v_p2_blind v_p2_rubs v_p3_present v_p1_end v_p1_keys v_p1_tape v_p2_cells v_p2_secrets v_p2_pages v_p2_cellNames v_p2_pageNames v_p2_secretNames r_ o_depth o_open o_p1_at o_p1_kind o_p1_place o_p1_word o_p1_key o_p1_number o_p1_faultKind o_p1_faultPlace o_p3_steps o_p3_size o_p3_code o_p3_mate o_p3_one o_p3_other   z4 r1 (-1 : Int32) v_depth v_open u2 u3 u4 u5 u6 u7 u8 u9 v_p3_steps v_p3_size v_p3_code v_p3_mate v_p3_one v_p3_other hf _ _ _ hP (mp_D_of hD rfl) hS (lv_sub hl [1, 2, 4, 5, 0] rfl)

set_option maxHeartbeats 4000000 in
set_option maxRecDepth 100000 in
theorem w_X6_takeStep_78 {p : Program} {l : Launch} {e : Env} {s : State} {m : MethodId} {args : Array Value} {below : List Frame} {meth : Method} {c : Code} {D : va_G} {T : Nat → ClassId} {A : Nat → Prop} (X : mp_X p s m meth c args RX6 "takeStep" cX6_takeStep 7 (some .boolean)) (hK : va_K D mp_cl (mp_ty T) s) (hA : ∀ q, s.heap.size ≤ q → A q) (fu : Nat) (a_ a_open a_p1 a_p1_tape a_p1_keys a_p2 a_p2_cellNames a_p2_secretNames a_p2_pageNames a_p2_speed a_p2_letters a_p2_room a_p2_now a_p2_rounds a_p3 a_p3_code a_p3_one a_p3_other a_p3_mate : Nat) (v_p1_filled : Int32) (v_p2_blind : Int32) (v_p2_rubs : Int32) (v_p3_present : Int32) (v_p1_end : Int32) (v_p1_keys : (Nat → Int64)) (v_p1_tape : (Nat → Int32)) (v_p2_cells : Int32) (v_p2_secrets : Int32) (v_p2_pages : Int32) (v_p2_cellNames : (Nat → Int64)) (v_p2_pageNames : (Nat → Int64)) (v_p2_secretNames : (Nat → Int64)) (r_ : Int32) (o_depth : Int32) (o_open : (Nat → Int32)) (o_p1_at : Int32) (o_p1_kind : Int32) (o_p1_place : Int32) (o_p1_word : Int64) (o_p1_key : Int32) (o_p1_number : Int32) (o_p1_faultKind : Int32) (o_p1_faultPlace : Int32) (o_p3_steps : Int32) (o_p3_size : Int32) (o_p3_code : (Nat → Int32)) (o_p3_mate : (Nat → Int32)) (o_p3_one : (Nat → Int32)) (o_p3_other : (Nat → Int32)) :
    ∀  (z4 : Int32) (v_depth : Int32) (v_open : (Nat → Int32)) (v_p1_at : Int32) (v_p1_kind : Int32) (v_p1_place : Int32) (v_p1_word : Int64) (v_p1_key : Int32) (v_p1_number : Int32) (v_p1_faultKind : Int32) (v_p1_faultPlace : Int32) (v_p3_steps : Int32) (v_p3_size : Int32) (v_p3_code : (Nat → Int32)) (v_p3_mate : (Nat → Int32)) (v_p3_one : (Nat → Int32)) (v_p3_other : (Nat → Int32)), f_X6_takeStep_78 fu v_p1_end v_p1_keys v_p1_tape v_p2_cells v_p2_secrets v_p2_pages v_p2_cellNames v_p2_pageNames v_p2_secretNames  z4 v_depth v_open v_p1_at v_p1_kind v_p1_place v_p1_word v_p1_key v_p1_number v_p1_faultKind v_p1_faultPlace v_p3_steps v_p3_size v_p3_code v_p3_mate v_p3_one v_p3_other = some (r_, o_depth, o_open, o_p1_at, o_p1_kind, o_p1_place, o_p1_word, o_p1_key, o_p1_number, o_p1_faultKind, o_p1_faultPlace, o_p3_steps, o_p3_size, o_p3_code, o_p3_mate, o_p3_one, o_p3_other) → ∀ (H : Heap) (locs : List Loc) (ls : Array Slot), va_P D mp_cl (k_X6_takeStep T a_ a_open a_p1 a_p1_tape a_p1_keys a_p2 a_p2_cellNames a_p2_secretNames a_p2_pageNames a_p2_speed a_p2_letters a_p2_room a_p2_now a_p2_rounds a_p3 a_p3_code a_p3_one a_p3_other a_p3_mate v_depth v_open v_p1_filled v_p1_end v_p1_at v_p1_kind v_p1_place v_p1_word v_p1_key v_p1_number v_p1_faultKind v_p1_faultPlace v_p1_keys v_p1_tape v_p2_cells v_p2_secrets v_p2_pages v_p2_blind v_p2_rubs v_p2_cellNames v_p2_pageNames v_p2_secretNames v_p3_present v_p3_steps v_p3_size v_p3_code v_p3_mate v_p3_one v_p3_other) H → va_D A (k_X6_takeStep T a_ a_open a_p1 a_p1_tape a_p1_keys a_p2 a_p2_cellNames a_p2_secretNames a_p2_pageNames a_p2_speed a_p2_letters a_p2_room a_p2_now a_p2_rounds a_p3 a_p3_code a_p3_one a_p3_other a_p3_mate v_depth v_open v_p1_filled v_p1_end v_p1_at v_p1_kind v_p1_place v_p1_word v_p1_key v_p1_number v_p1_faultKind v_p1_faultPlace v_p1_keys v_p1_tape v_p2_cells v_p2_secrets v_p2_pages v_p2_blind v_p2_rubs v_p2_cellNames v_p2_pageNames v_p2_secretNames v_p3_present v_p3_steps v_p3_size v_p3_code v_p3_mate v_p3_one v_p3_other) → va_S A s.heap H locs → lv_has ls 7 [(0, .ref a_), (1, .ref a_p1), (2, .ref a_p2), (3, .ref a_p3), (4, .int z4)] → W p l e ({ frames := 5, cells := 0, slots := 0, locals := 112 }) s m args below meth c H locs 0 0 (MQ below ((mp_Qi D r_ (k_X6_takeStep T a_ a_open a_p1 a_p1_tape a_p1_keys a_p2 a_p2_cellNames a_p2_secretNames a_p2_pageNames a_p2_speed a_p2_letters a_p2_room a_p2_now a_p2_rounds a_p3 a_p3_code a_p3_one a_p3_other a_p3_mate o_depth o_open v_p1_filled v_p1_end o_p1_at o_p1_kind o_p1_place o_p1_word o_p1_key o_p1_number o_p1_faultKind o_p1_faultPlace v_p1_keys v_p1_tape v_p2_cells v_p2_secrets v_p2_pages v_p2_blind v_p2_rubs v_p2_cellNames v_p2_pageNames v_p2_secretNames v_p3_present o_p3_steps o_p3_size o_p3_code o_p3_mate o_p3_one o_p3_other)) A) args s 0 0 A) (F0 m 78 ls []) := by
  have hx := X.1
  have hb := X.2.1
  have hml := X.2.2.1
  have hown := X.2.2.2.2.1
  have hts := X.2.2.2.2.2.1
  intro z4 v_depth v_open v_p1_at v_p1_kind v_p1_place v_p1_word v_p1_key v_p1_number v_p1_faultKind v_p1_faultPlace v_p3_steps v_p3_size v_p3_code v_p3_mate v_p3_one v_p3_other hf H locs ls hP hD hS hl
  replace hf : bd_ (f_X8_forward fu v_p1_end v_p1_at v_p1_kind v_p1_place v_p1_word v_p1_key v_p1_number v_p1_keys v_p1_tape) (fun (z : Int32 × Int32 × Int32 × Int64 × Int32 × Int32) => match z with | (u1, u2, u3, u4, u5, u6) => (if z4 = (nI 18) then bd_ (f_X5_isTest u5) (fun (r9 : Int32) => (if r9 = 0 then bd_ (f_X8_fail (nI 2) u2 u3 v_p1_faultKind v_p1_faultPlace) (fun (z : Int32 × Int32 × Int32) => match z with | (r19, u20, u21) => gd_ (r19 = 0 ∨ r19 = 1) (some (r19, v_depth, v_open, u1, u2, u3, u4, u5, u6, u20, u21, v_p3_steps, v_p3_size, v_p3_code, v_p3_mate, v_p3_one, v_p3_other))) else bd_ (f_X8_forward fu v_p1_end u1 u2 u3 u4 u5 u6 v_p1_keys v_p1_tape) (fun (z : Int32 × Int32 × Int32 × Int64 × Int32 × Int32) => match z with | (u12, u13, u14, u15, u16, u17) => f_X6_takeStep_113 fu v_p1_end v_p1_keys v_p1_tape v_p2_cells v_p2_secrets v_p2_pages v_p2_cellNames v_p2_pageNames v_p2_secretNames  u5 v_depth v_open u12 u13 u14 u15 u16 u17 v_p1_faultKind v_p1_faultPlace v_p3_steps v_p3_size v_p3_code v_p3_mate v_p3_one v_p3_other))) else f_X6_takeStep_113 fu v_p1_end v_p1_keys v_p1_tape v_p2_cells v_p2_secrets v_p2_pages v_p2_cellNames v_p2_pageNames v_p2_secretNames  z4 v_depth v_open u1 u2 u3 u4 u5 u6 v_p1_faultKind v_p1_faultPlace v_p3_steps v_p3_size v_p3_code v_p3_mate v_p3_one v_p3_other)) = some (r_, o_depth, o_open, o_p1_at, o_p1_kind, o_p1_place, o_p1_word, o_p1_key, o_p1_number, o_p1_faultKind, o_p1_faultPlace, o_p3_steps, o_p3_size, o_p3_code, o_p3_mate, o_p3_one, o_p3_other) := hf
  refine lv_aload_n hx hb dX6_takeStep_78 rfl (lv_at hl 1 rfl) ?_
  obtain ⟨⟨u1, u2, u3, u4, u5, u6⟩, c7, hf⟩ := bd_of hf
  dsimp only at hf
  have hPc := hP.sub (ws' := (k_X8_forward T a_p1 a_p1_tape a_p1_keys v_p1_filled v_p1_end v_p1_at v_p1_kind v_p1_place v_p1_word v_p1_key v_p1_number v_p1_faultKind v_p1_faultPlace v_p1_keys v_p1_tape)) [2, 3, 4] rfl
  have hDc := (mp_D_of (w1 := (k_X6_takeStep T a_ a_open a_p1 a_p1_tape a_p1_keys a_p2 a_p2_cellNames a_p2_secretNames a_p2_pageNames a_p2_speed a_p2_letters a_p2_room a_p2_now a_p2_rounds a_p3 a_p3_code a_p3_one a_p3_other a_p3_mate v_depth v_open v_p1_filled v_p1_end v_p1_at v_p1_kind v_p1_place v_p1_word v_p1_key v_p1_number v_p1_faultKind v_p1_faultPlace v_p1_keys v_p1_tape v_p2_cells v_p2_secrets v_p2_pages v_p2_blind v_p2_rubs v_p2_cellNames v_p2_pageNames v_p2_secretNames v_p3_present v_p3_steps v_p3_size v_p3_code v_p3_mate v_p3_one v_p3_other)) hD rfl).sub (ws' := (k_X8_forward T a_p1 a_p1_tape a_p1_keys v_p1_filled v_p1_end v_p1_at v_p1_kind v_p1_place v_p1_word v_p1_key v_p1_number v_p1_faultKind v_p1_faultPlace v_p1_keys v_p1_tape)) [2, 3, 4] rfl rfl
  refine mp_callv (isC := [2, 3, 4]) (wc := (k_X8_forward T a_p1 a_p1_tape a_p1_keys v_p1_filled v_p1_end v_p1_at v_p1_kind v_p1_place v_p1_word v_p1_key v_p1_number v_p1_faultKind v_p1_faultPlace v_p1_keys v_p1_tape)) (w1 := (k_X8_forward T a_p1 a_p1_tape a_p1_keys v_p1_filled v_p1_end u1 u2 u3 u4 u5 u6 v_p1_faultKind v_p1_faultPlace v_p1_keys v_p1_tape)) hP (mp_D_of hD rfl) hS hA rfl rfl (mp_runV (As := []) (rest := []) X me_X8_forward lk_X6_48 (c_X8_forward l D T fu a_p1 a_p1_tape a_p1_keys v_p1_filled v_p1_faultKind v_p1_faultPlace v_p1_end v_p1_at v_p1_kind v_p1_place v_p1_word v_p1_key v_p1_number v_p1_keys v_p1_tape u1 u2 u3 u4 u5 u6 c7) rfl rfl ⟨(Nat.le_of_ble_eq_true rfl), (Nat.le_of_ble_eq_true rfl)⟩ hK hPc hDc rfl rfl rfl rfl hl.1 rfl (Nat.le_of_ble_eq_true rfl) dX6_takeStep_79 ⟨Nat.zero_le _, Nat.zero_le _⟩) (fun H locs hP _ hS => ?_)
  replace hP : va_P D mp_cl (k_X6_takeStep T a_ a_open a_p1 a_p1_tape a_p1_keys a_p2 a_p2_cellNames a_p2_secretNames a_p2_pageNames a_p2_speed a_p2_letters a_p2_room a_p2_now a_p2_rounds a_p3 a_p3_code a_p3_one a_p3_other a_p3_mate v_depth v_open v_p1_filled v_p1_end u1 u2 u3 u4 u5 u6 v_p1_faultKind v_p1_faultPlace v_p1_keys v_p1_tape v_p2_cells v_p2_secrets v_p2_pages v_p2_blind v_p2_rubs v_p2_cellNames v_p2_pageNames v_p2_secretNames v_p3_present v_p3_steps v_p3_size v_p3_code v_p3_mate v_p3_one v_p3_other) H := hP
  refine lv_iload hx hb dX6_takeStep_82 (lv_at hl 4 rfl) ?_
  refine lv_bipush (v := (nI 18)) hx hb dX6_takeStep_84 (by decide) ?_
  refine lv_icmp_ne (tgt := 113) hx hb dX6_takeStep_86 (by decide) (fun h8 => ?_) (fun h8 => ?_)
  · replace hf := if_f hf h8
    exact w_X6_takeStep_113 X hK hA  fu a_ a_open a_p1 a_p1_tape a_p1_keys a_p2 a_p2_cellNames a_p2_secretNames a_p2_pageNames a_p2_speed a_p2_letters a_p2_room a_p2_now a_p2_rounds a_p3 a_p3_code a_p3_one a_p3_other a_p3_mate v_p1_filled v_p2_blind v_p2_rubs v_p3_present v_p1_end v_p1_keys v_p1_tape v_p2_cells v_p2_secrets v_p2_pages v_p2_cellNames v_p2_pageNames v_p2_secretNames r_ o_depth o_open o_p1_at o_p1_kind o_p1_place o_p1_word o_p1_key o_p1_number o_p1_faultKind o_p1_faultPlace o_p3_steps o_p3_size o_p3_code o_p3_mate o_p3_one o_p3_other   z4 v_depth v_open u1 u2 u3 u4 u5 u6 v_p1_faultKind v_p1_faultPlace v_p3_steps v_p3_size v_p3_code v_p3_mate v_p3_one v_p3_other hf _ _ _ hP (mp_D_of hD rfl) hS (lv_sub hl [0, 1, 2, 3, 4] rfl)
  · replace hf := if_t hf h8
    refine lv_aload_n hx hb dX6_takeStep_89 rfl (lv_at hl 1 rfl) ?_
    refine mp_get X fl_X6_29 hK hP 2 rfl rfl dX6_takeStep_90 ?_
    refine lv_istore (lv' := [(4, .int u5), (0, .ref a_), (1, .ref a_p1), (2, .ref a_p2), (3, .ref a_p3)]) hx hb dX6_takeStep_93 hl (by decide) rfl (fun ls hl => ?_)
    refine lv_iload hx hb dX6_takeStep_95 (lv_at hl 0 rfl) ?_
    obtain ⟨r9, c10, hf⟩ := bd_of hf
    have hPc := hP.sub (ws' := (k_X5_isTest T )) [] rfl
    have hDc := (mp_D_of (w1 := (k_X6_takeStep T a_ a_open a_p1 a_p1_tape a_p1_keys a_p2 a_p2_cellNames a_p2_secretNames a_p2_pageNames a_p2_speed a_p2_letters a_p2_room a_p2_now a_p2_rounds a_p3 a_p3_code a_p3_one a_p3_other a_p3_mate v_depth v_open v_p1_filled v_p1_end u1 u2 u3 u4 u5 u6 v_p1_faultKind v_p1_faultPlace v_p1_keys v_p1_tape v_p2_cells v_p2_secrets v_p2_pages v_p2_blind v_p2_rubs v_p2_cellNames v_p2_pageNames v_p2_secretNames v_p3_present v_p3_steps v_p3_size v_p3_code v_p3_mate v_p3_one v_p3_other)) hD rfl).sub (ws' := (k_X5_isTest T )) [] rfl rfl
    refine mp_calli (isC := []) (wc := (k_X5_isTest T )) (w1 := (k_X5_isTest T )) hP (mp_D_of hD rfl) hS hA rfl rfl (mp_runS (As := [.int u5]) (rest := []) X me_X5_isTest lk_X6_62 (c_X5_isTest l D T u5 r9 c10) rfl rfl ⟨(Nat.le_of_ble_eq_true rfl), (Nat.le_of_ble_eq_true rfl)⟩ hK hPc hDc rfl hl.1 rfl (Nat.le_of_ble_eq_true rfl) dX6_takeStep_97 ⟨Nat.zero_le _, Nat.zero_le _⟩) (fun H locs hP _ hS => ?_)
    replace hP : va_P D mp_cl (k_X6_takeStep T a_ a_open a_p1 a_p1_tape a_p1_keys a_p2 a_p2_cellNames a_p2_secretNames a_p2_pageNames a_p2_speed a_p2_letters a_p2_room a_p2_now a_p2_rounds a_p3 a_p3_code a_p3_one a_p3_other a_p3_mate v_depth v_open v_p1_filled v_p1_end u1 u2 u3 u4 u5 u6 v_p1_faultKind v_p1_faultPlace v_p1_keys v_p1_tape v_p2_cells v_p2_secrets v_p2_pages v_p2_blind v_p2_rubs v_p2_cellNames v_p2_pageNames v_p2_secretNames v_p3_present v_p3_steps v_p3_size v_p3_code v_p3_mate v_p3_one v_p3_other) H := hP
    refine lv_if_ne (tgt := 109) hx hb dX6_takeStep_100 (by decide) (fun h11 => ?_) (fun h11 => ?_)
    · replace hf := if_f hf h11
      refine lv_aload_n hx hb dX6_takeStep_109 rfl (lv_at hl 2 rfl) ?_
      obtain ⟨⟨u12, u13, u14, u15, u16, u17⟩, c18, hf⟩ := bd_of hf
      dsimp only at hf
      have hPc := hP.sub (ws' := (k_X8_forward T a_p1 a_p1_tape a_p1_keys v_p1_filled v_p1_end u1 u2 u3 u4 u5 u6 v_p1_faultKind v_p1_faultPlace v_p1_keys v_p1_tape)) [2, 3, 4] rfl
      have hDc := (mp_D_of (w1 := (k_X6_takeStep T a_ a_open a_p1 a_p1_tape a_p1_keys a_p2 a_p2_cellNames a_p2_secretNames a_p2_pageNames a_p2_speed a_p2_letters a_p2_room a_p2_now a_p2_rounds a_p3 a_p3_code a_p3_one a_p3_other a_p3_mate v_depth v_open v_p1_filled v_p1_end u1 u2 u3 u4 u5 u6 v_p1_faultKind v_p1_faultPlace v_p1_keys v_p1_tape v_p2_cells v_p2_secrets v_p2_pages v_p2_blind v_p2_rubs v_p2_cellNames v_p2_pageNames v_p2_secretNames v_p3_present v_p3_steps v_p3_size v_p3_code v_p3_mate v_p3_one v_p3_other)) hD rfl).sub (ws' := (k_X8_forward T a_p1 a_p1_tape a_p1_keys v_p1_filled v_p1_end u1 u2 u3 u4 u5 u6 v_p1_faultKind v_p1_faultPlace v_p1_keys v_p1_tape)) [2, 3, 4] rfl rfl
      refine mp_callv (isC := [2, 3, 4]) (wc := (k_X8_forward T a_p1 a_p1_tape a_p1_keys v_p1_filled v_p1_end u1 u2 u3 u4 u5 u6 v_p1_faultKind v_p1_faultPlace v_p1_keys v_p1_tape)) (w1 := (k_X8_forward T a_p1 a_p1_tape a_p1_keys v_p1_filled v_p1_end u12 u13 u14 u15 u16 u17 v_p1_faultKind v_p1_faultPlace v_p1_keys v_p1_tape)) hP (mp_D_of hD rfl) hS hA rfl rfl (mp_runV (As := []) (rest := []) X me_X8_forward lk_X6_48 (c_X8_forward l D T fu a_p1 a_p1_tape a_p1_keys v_p1_filled v_p1_faultKind v_p1_faultPlace v_p1_end u1 u2 u3 u4 u5 u6 v_p1_keys v_p1_tape u12 u13 u14 u15 u16 u17 c18) rfl rfl ⟨(Nat.le_of_ble_eq_true rfl), (Nat.le_of_ble_eq_true rfl)⟩ hK hPc hDc rfl rfl rfl rfl hl.1 rfl (Nat.le_of_ble_eq_true rfl) dX6_takeStep_110 ⟨Nat.zero_le _, Nat.zero_le _⟩) (fun H locs hP _ hS => ?_)
      replace hP : va_P D mp_cl (k_X6_takeStep T a_ a_open a_p1 a_p1_tape a_p1_keys a_p2 a_p2_cellNames a_p2_secretNames a_p2_pageNames a_p2_speed a_p2_letters a_p2_room a_p2_now a_p2_rounds a_p3 a_p3_code a_p3_one a_p3_other a_p3_mate v_depth v_open v_p1_filled v_p1_end u12 u13 u14 u15 u16 u17 v_p1_faultKind v_p1_faultPlace v_p1_keys v_p1_tape v_p2_cells v_p2_secrets v_p2_pages v_p2_blind v_p2_rubs v_p2_cellNames v_p2_pageNames v_p2_secretNames v_p3_present v_p3_steps v_p3_size v_p3_code v_p3_mate v_p3_one v_p3_other) H := hP
      exact w_X6_takeStep_113 X hK hA  fu a_ a_open a_p1 a_p1_tape a_p1_keys a_p2 a_p2_cellNames a_p2_secretNames a_p2_pageNames a_p2_speed a_p2_letters a_p2_room a_p2_now a_p2_rounds a_p3 a_p3_code a_p3_one a_p3_other a_p3_mate v_p1_filled v_p2_blind v_p2_rubs v_p3_present v_p1_end v_p1_keys v_p1_tape v_p2_cells v_p2_secrets v_p2_pages v_p2_cellNames v_p2_pageNames v_p2_secretNames r_ o_depth o_open o_p1_at o_p1_kind o_p1_place o_p1_word o_p1_key o_p1_number o_p1_faultKind o_p1_faultPlace o_p3_steps o_p3_size o_p3_code o_p3_mate o_p3_one o_p3_other   u5 v_depth v_open u12 u13 u14 u15 u16 u17 v_p1_faultKind v_p1_faultPlace v_p3_steps v_p3_size v_p3_code v_p3_mate v_p3_one v_p3_other hf _ _ _ hP (mp_D_of hD rfl) hS (lv_sub hl [1, 2, 3, 4, 0] rfl)
    · replace hf := if_t hf h11
      refine lv_aload_n hx hb dX6_takeStep_103 rfl (lv_at hl 2 rfl) ?_
      refine lv_iconst (v := (nI 2)) hx hb dX6_takeStep_104 (by decide) ?_
      obtain ⟨⟨r19, u20, u21⟩, c22, hf⟩ := bd_of hf
      dsimp only at hf
      have hPc := hP.sub (ws' := (k_X8_fail T a_p1 a_p1_tape a_p1_keys v_p1_filled v_p1_end u1 u2 u3 u4 u5 u6 v_p1_faultKind v_p1_faultPlace)) [2] rfl
      have hDc := (mp_D_of (w1 := (k_X6_takeStep T a_ a_open a_p1 a_p1_tape a_p1_keys a_p2 a_p2_cellNames a_p2_secretNames a_p2_pageNames a_p2_speed a_p2_letters a_p2_room a_p2_now a_p2_rounds a_p3 a_p3_code a_p3_one a_p3_other a_p3_mate v_depth v_open v_p1_filled v_p1_end u1 u2 u3 u4 u5 u6 v_p1_faultKind v_p1_faultPlace v_p1_keys v_p1_tape v_p2_cells v_p2_secrets v_p2_pages v_p2_blind v_p2_rubs v_p2_cellNames v_p2_pageNames v_p2_secretNames v_p3_present v_p3_steps v_p3_size v_p3_code v_p3_mate v_p3_one v_p3_other)) hD rfl).sub (ws' := (k_X8_fail T a_p1 a_p1_tape a_p1_keys v_p1_filled v_p1_end u1 u2 u3 u4 u5 u6 v_p1_faultKind v_p1_faultPlace)) [2] rfl rfl
      refine mp_calli (isC := [2]) (wc := (k_X8_fail T a_p1 a_p1_tape a_p1_keys v_p1_filled v_p1_end u1 u2 u3 u4 u5 u6 v_p1_faultKind v_p1_faultPlace)) (w1 := (k_X8_fail T a_p1 a_p1_tape a_p1_keys v_p1_filled v_p1_end u1 u2 u3 u4 u5 u6 u20 u21)) hP (mp_D_of hD rfl) hS hA rfl rfl (mp_runV (As := [.int (nI 2)]) (rest := []) X me_X8_fail lk_X6_40 (c_X8_fail l D T a_p1 a_p1_tape a_p1_keys (nI 2) v_p1_filled v_p1_end u1 u4 u5 u6 u2 u3 v_p1_faultKind v_p1_faultPlace r19 u20 u21 c22) rfl rfl ⟨(Nat.le_of_ble_eq_true rfl), (Nat.le_of_ble_eq_true rfl)⟩ hK hPc hDc rfl rfl rfl rfl hl.1 rfl (Nat.le_of_ble_eq_true rfl) dX6_takeStep_105 ⟨Nat.zero_le _, Nat.zero_le _⟩) (fun H locs hP _ hS => ?_)
      replace hP : va_P D mp_cl (k_X6_takeStep T a_ a_open a_p1 a_p1_tape a_p1_keys a_p2 a_p2_cellNames a_p2_secretNames a_p2_pageNames a_p2_speed a_p2_letters a_p2_room a_p2_now a_p2_rounds a_p3 a_p3_code a_p3_one a_p3_other a_p3_mate v_depth v_open v_p1_filled v_p1_end u1 u2 u3 u4 u5 u6 u20 u21 v_p1_keys v_p1_tape v_p2_cells v_p2_secrets v_p2_pages v_p2_blind v_p2_rubs v_p2_cellNames v_p2_pageNames v_p2_secretNames v_p3_present v_p3_steps v_p3_size v_p3_code v_p3_mate v_p3_one v_p3_other) H := hP
      obtain ⟨h23, hf⟩ := gd_of hf
      cases hf
      exact mp_retz X hP hS rfl h23 dX6_takeStep_108

set_option maxHeartbeats 4000000 in
set_option maxRecDepth 100000 in
theorem w_X6_takeStep_63 {p : Program} {l : Launch} {e : Env} {s : State} {m : MethodId} {args : Array Value} {below : List Frame} {meth : Method} {c : Code} {D : va_G} {T : Nat → ClassId} {A : Nat → Prop} (X : mp_X p s m meth c args RX6 "takeStep" cX6_takeStep 7 (some .boolean)) (hK : va_K D mp_cl (mp_ty T) s) (hA : ∀ q, s.heap.size ≤ q → A q) (fu : Nat) (a_ a_open a_p1 a_p1_tape a_p1_keys a_p2 a_p2_cellNames a_p2_secretNames a_p2_pageNames a_p2_speed a_p2_letters a_p2_room a_p2_now a_p2_rounds a_p3 a_p3_code a_p3_one a_p3_other a_p3_mate : Nat) (v_p1_filled : Int32) (v_p2_blind : Int32) (v_p2_rubs : Int32) (v_p3_present : Int32) (v_p1_end : Int32) (v_p1_keys : (Nat → Int64)) (v_p1_tape : (Nat → Int32)) (v_p2_cells : Int32) (v_p2_secrets : Int32) (v_p2_pages : Int32) (v_p2_cellNames : (Nat → Int64)) (v_p2_pageNames : (Nat → Int64)) (v_p2_secretNames : (Nat → Int64)) (r_ : Int32) (o_depth : Int32) (o_open : (Nat → Int32)) (o_p1_at : Int32) (o_p1_kind : Int32) (o_p1_place : Int32) (o_p1_word : Int64) (o_p1_key : Int32) (o_p1_number : Int32) (o_p1_faultKind : Int32) (o_p1_faultPlace : Int32) (o_p3_steps : Int32) (o_p3_size : Int32) (o_p3_code : (Nat → Int32)) (o_p3_mate : (Nat → Int32)) (o_p3_one : (Nat → Int32)) (o_p3_other : (Nat → Int32)) :
    ∀  (z4 : Int32) (v_depth : Int32) (v_open : (Nat → Int32)) (v_p1_at : Int32) (v_p1_kind : Int32) (v_p1_place : Int32) (v_p1_word : Int64) (v_p1_key : Int32) (v_p1_number : Int32) (v_p1_faultKind : Int32) (v_p1_faultPlace : Int32) (v_p3_steps : Int32) (v_p3_size : Int32) (v_p3_code : (Nat → Int32)) (v_p3_mate : (Nat → Int32)) (v_p3_one : (Nat → Int32)) (v_p3_other : (Nat → Int32)), f_X6_takeStep_63 fu v_p1_end v_p1_keys v_p1_tape v_p2_cells v_p2_secrets v_p2_pages v_p2_cellNames v_p2_pageNames v_p2_secretNames  z4 v_depth v_open v_p1_at v_p1_kind v_p1_place v_p1_word v_p1_key v_p1_number v_p1_faultKind v_p1_faultPlace v_p3_steps v_p3_size v_p3_code v_p3_mate v_p3_one v_p3_other = some (r_, o_depth, o_open, o_p1_at, o_p1_kind, o_p1_place, o_p1_word, o_p1_key, o_p1_number, o_p1_faultKind, o_p1_faultPlace, o_p3_steps, o_p3_size, o_p3_code, o_p3_mate, o_p3_one, o_p3_other) → ∀ (H : Heap) (locs : List Loc) (ls : Array Slot), va_P D mp_cl (k_X6_takeStep T a_ a_open a_p1 a_p1_tape a_p1_keys a_p2 a_p2_cellNames a_p2_secretNames a_p2_pageNames a_p2_speed a_p2_letters a_p2_room a_p2_now a_p2_rounds a_p3 a_p3_code a_p3_one a_p3_other a_p3_mate v_depth v_open v_p1_filled v_p1_end v_p1_at v_p1_kind v_p1_place v_p1_word v_p1_key v_p1_number v_p1_faultKind v_p1_faultPlace v_p1_keys v_p1_tape v_p2_cells v_p2_secrets v_p2_pages v_p2_blind v_p2_rubs v_p2_cellNames v_p2_pageNames v_p2_secretNames v_p3_present v_p3_steps v_p3_size v_p3_code v_p3_mate v_p3_one v_p3_other) H → va_D A (k_X6_takeStep T a_ a_open a_p1 a_p1_tape a_p1_keys a_p2 a_p2_cellNames a_p2_secretNames a_p2_pageNames a_p2_speed a_p2_letters a_p2_room a_p2_now a_p2_rounds a_p3 a_p3_code a_p3_one a_p3_other a_p3_mate v_depth v_open v_p1_filled v_p1_end v_p1_at v_p1_kind v_p1_place v_p1_word v_p1_key v_p1_number v_p1_faultKind v_p1_faultPlace v_p1_keys v_p1_tape v_p2_cells v_p2_secrets v_p2_pages v_p2_blind v_p2_rubs v_p2_cellNames v_p2_pageNames v_p2_secretNames v_p3_present v_p3_steps v_p3_size v_p3_code v_p3_mate v_p3_one v_p3_other) → va_S A s.heap H locs → lv_has ls 7 [(0, .ref a_), (1, .ref a_p1), (2, .ref a_p2), (3, .ref a_p3), (4, .int z4)] → W p l e ({ frames := 5, cells := 0, slots := 0, locals := 112 }) s m args below meth c H locs 0 0 (MQ below ((mp_Qi D r_ (k_X6_takeStep T a_ a_open a_p1 a_p1_tape a_p1_keys a_p2 a_p2_cellNames a_p2_secretNames a_p2_pageNames a_p2_speed a_p2_letters a_p2_room a_p2_now a_p2_rounds a_p3 a_p3_code a_p3_one a_p3_other a_p3_mate o_depth o_open v_p1_filled v_p1_end o_p1_at o_p1_kind o_p1_place o_p1_word o_p1_key o_p1_number o_p1_faultKind o_p1_faultPlace v_p1_keys v_p1_tape v_p2_cells v_p2_secrets v_p2_pages v_p2_blind v_p2_rubs v_p2_cellNames v_p2_pageNames v_p2_secretNames v_p3_present o_p3_steps o_p3_size o_p3_code o_p3_mate o_p3_one o_p3_other)) A) args s 0 0 A) (F0 m 63 ls []) := by
  have hx := X.1
  have hb := X.2.1
  have hml := X.2.2.1
  have hown := X.2.2.2.2.1
  have hts := X.2.2.2.2.2.1
  intro z4 v_depth v_open v_p1_at v_p1_kind v_p1_place v_p1_word v_p1_key v_p1_number v_p1_faultKind v_p1_faultPlace v_p3_steps v_p3_size v_p3_code v_p3_mate v_p3_one v_p3_other hf H locs ls hP hD hS hl
  replace hf : (if v_depth < (nI 3) then f_X6_takeStep_78 fu v_p1_end v_p1_keys v_p1_tape v_p2_cells v_p2_secrets v_p2_pages v_p2_cellNames v_p2_pageNames v_p2_secretNames  z4 v_depth v_open v_p1_at v_p1_kind v_p1_place v_p1_word v_p1_key v_p1_number v_p1_faultKind v_p1_faultPlace v_p3_steps v_p3_size v_p3_code v_p3_mate v_p3_one v_p3_other else bd_ (f_X8_fail (nI 7) v_p1_kind v_p1_place v_p1_faultKind v_p1_faultPlace) (fun (z : Int32 × Int32 × Int32) => match z with | (r2, u3, u4) => gd_ (r2 = 0 ∨ r2 = 1) (some (r2, v_depth, v_open, v_p1_at, v_p1_kind, v_p1_place, v_p1_word, v_p1_key, v_p1_number, u3, u4, v_p3_steps, v_p3_size, v_p3_code, v_p3_mate, v_p3_one, v_p3_other)))) = some (r_, o_depth, o_open, o_p1_at, o_p1_kind, o_p1_place, o_p1_word, o_p1_key, o_p1_number, o_p1_faultKind, o_p1_faultPlace, o_p3_steps, o_p3_size, o_p3_code, o_p3_mate, o_p3_one, o_p3_other) := hf
  refine lv_aload_n hx hb dX6_takeStep_63 rfl (lv_at hl 0 rfl) ?_
  refine mp_get X fl_X6_15 hK hP 0 rfl rfl dX6_takeStep_64 ?_
  refine lv_iconst (v := (nI 3)) hx hb dX6_takeStep_67 (by decide) ?_
  refine lv_icmp_lt (tgt := 78) hx hb dX6_takeStep_68 (by decide) (fun h1 => ?_) (fun h1 => ?_)
  · replace hf := if_t hf h1
    exact w_X6_takeStep_78 X hK hA  fu a_ a_open a_p1 a_p1_tape a_p1_keys a_p2 a_p2_cellNames a_p2_secretNames a_p2_pageNames a_p2_speed a_p2_letters a_p2_room a_p2_now a_p2_rounds a_p3 a_p3_code a_p3_one a_p3_other a_p3_mate v_p1_filled v_p2_blind v_p2_rubs v_p3_present v_p1_end v_p1_keys v_p1_tape v_p2_cells v_p2_secrets v_p2_pages v_p2_cellNames v_p2_pageNames v_p2_secretNames r_ o_depth o_open o_p1_at o_p1_kind o_p1_place o_p1_word o_p1_key o_p1_number o_p1_faultKind o_p1_faultPlace o_p3_steps o_p3_size o_p3_code o_p3_mate o_p3_one o_p3_other   z4 v_depth v_open v_p1_at v_p1_kind v_p1_place v_p1_word v_p1_key v_p1_number v_p1_faultKind v_p1_faultPlace v_p3_steps v_p3_size v_p3_code v_p3_mate v_p3_one v_p3_other hf _ _ _ hP (mp_D_of hD rfl) hS (lv_sub hl [0, 1, 2, 3, 4] rfl)
  · replace hf := if_f hf h1
    refine lv_aload_n hx hb dX6_takeStep_71 rfl (lv_at hl 1 rfl) ?_
    refine lv_bipush (v := (nI 7)) hx hb dX6_takeStep_72 (by decide) ?_
    obtain ⟨⟨r2, u3, u4⟩, c5, hf⟩ := bd_of hf
    dsimp only at hf
    have hPc := hP.sub (ws' := (k_X8_fail T a_p1 a_p1_tape a_p1_keys v_p1_filled v_p1_end v_p1_at v_p1_kind v_p1_place v_p1_word v_p1_key v_p1_number v_p1_faultKind v_p1_faultPlace)) [2] rfl
    have hDc := (mp_D_of (w1 := (k_X6_takeStep T a_ a_open a_p1 a_p1_tape a_p1_keys a_p2 a_p2_cellNames a_p2_secretNames a_p2_pageNames a_p2_speed a_p2_letters a_p2_room a_p2_now a_p2_rounds a_p3 a_p3_code a_p3_one a_p3_other a_p3_mate v_depth v_open v_p1_filled v_p1_end v_p1_at v_p1_kind v_p1_place v_p1_word v_p1_key v_p1_number v_p1_faultKind v_p1_faultPlace v_p1_keys v_p1_tape v_p2_cells v_p2_secrets v_p2_pages v_p2_blind v_p2_rubs v_p2_cellNames v_p2_pageNames v_p2_secretNames v_p3_present v_p3_steps v_p3_size v_p3_code v_p3_mate v_p3_one v_p3_other)) hD rfl).sub (ws' := (k_X8_fail T a_p1 a_p1_tape a_p1_keys v_p1_filled v_p1_end v_p1_at v_p1_kind v_p1_place v_p1_word v_p1_key v_p1_number v_p1_faultKind v_p1_faultPlace)) [2] rfl rfl
    refine mp_calli (isC := [2]) (wc := (k_X8_fail T a_p1 a_p1_tape a_p1_keys v_p1_filled v_p1_end v_p1_at v_p1_kind v_p1_place v_p1_word v_p1_key v_p1_number v_p1_faultKind v_p1_faultPlace)) (w1 := (k_X8_fail T a_p1 a_p1_tape a_p1_keys v_p1_filled v_p1_end v_p1_at v_p1_kind v_p1_place v_p1_word v_p1_key v_p1_number u3 u4)) hP (mp_D_of hD rfl) hS hA rfl rfl (mp_runV (As := [.int (nI 7)]) (rest := []) X me_X8_fail lk_X6_40 (c_X8_fail l D T a_p1 a_p1_tape a_p1_keys (nI 7) v_p1_filled v_p1_end v_p1_at v_p1_word v_p1_key v_p1_number v_p1_kind v_p1_place v_p1_faultKind v_p1_faultPlace r2 u3 u4 c5) rfl rfl ⟨(Nat.le_of_ble_eq_true rfl), (Nat.le_of_ble_eq_true rfl)⟩ hK hPc hDc rfl rfl rfl rfl hl.1 rfl (Nat.le_of_ble_eq_true rfl) dX6_takeStep_74 ⟨Nat.zero_le _, Nat.zero_le _⟩) (fun H locs hP _ hS => ?_)
    replace hP : va_P D mp_cl (k_X6_takeStep T a_ a_open a_p1 a_p1_tape a_p1_keys a_p2 a_p2_cellNames a_p2_secretNames a_p2_pageNames a_p2_speed a_p2_letters a_p2_room a_p2_now a_p2_rounds a_p3 a_p3_code a_p3_one a_p3_other a_p3_mate v_depth v_open v_p1_filled v_p1_end v_p1_at v_p1_kind v_p1_place v_p1_word v_p1_key v_p1_number u3 u4 v_p1_keys v_p1_tape v_p2_cells v_p2_secrets v_p2_pages v_p2_blind v_p2_rubs v_p2_cellNames v_p2_pageNames v_p2_secretNames v_p3_present v_p3_steps v_p3_size v_p3_code v_p3_mate v_p3_one v_p3_other) H := hP
    obtain ⟨h6, hf⟩ := gd_of hf
    cases hf
    exact mp_retz X hP hS rfl h6 dX6_takeStep_77

set_option maxHeartbeats 4000000 in
set_option maxRecDepth 100000 in
theorem c_X6_takeStep (l : Launch) (D : va_G) (T : Nat → ClassId) (fu : Nat) (a_ a_open a_p1 a_p1_tape a_p1_keys a_p2 a_p2_cellNames a_p2_secretNames a_p2_pageNames a_p2_speed a_p2_letters a_p2_room a_p2_now a_p2_rounds a_p3 a_p3_code a_p3_one a_p3_other a_p3_mate : Nat) (v_p1_filled : Int32) (v_p2_blind : Int32) (v_p2_rubs : Int32) (v_p3_present : Int32) (v_depth : Int32) (v_open : (Nat → Int32)) (v_p1_end : Int32) (v_p1_at : Int32) (v_p1_kind : Int32) (v_p1_place : Int32) (v_p1_word : Int64) (v_p1_key : Int32) (v_p1_number : Int32) (v_p1_faultKind : Int32) (v_p1_faultPlace : Int32) (v_p1_keys : (Nat → Int64)) (v_p1_tape : (Nat → Int32)) (v_p2_cells : Int32) (v_p2_secrets : Int32) (v_p2_pages : Int32) (v_p2_cellNames : (Nat → Int64)) (v_p2_pageNames : (Nat → Int64)) (v_p2_secretNames : (Nat → Int64)) (v_p3_steps : Int32) (v_p3_size : Int32) (v_p3_code : (Nat → Int32)) (v_p3_mate : (Nat → Int32)) (v_p3_one : (Nat → Int32)) (v_p3_other : (Nat → Int32)) (r_ : Int32) (o_depth : Int32) (o_open : (Nat → Int32)) (o_p1_at : Int32) (o_p1_kind : Int32) (o_p1_place : Int32) (o_p1_word : Int64) (o_p1_key : Int32) (o_p1_number : Int32) (o_p1_faultKind : Int32) (o_p1_faultPlace : Int32) (o_p3_steps : Int32) (o_p3_size : Int32) (o_p3_code : (Nat → Int32)) (o_p3_mate : (Nat → Int32)) (o_p3_one : (Nat → Int32)) (o_p3_other : (Nat → Int32)) (hf : f_X6_takeStep fu v_depth v_open v_p1_end v_p1_at v_p1_kind v_p1_place v_p1_word v_p1_key v_p1_number v_p1_faultKind v_p1_faultPlace v_p1_keys v_p1_tape v_p2_cells v_p2_secrets v_p2_pages v_p2_cellNames v_p2_pageNames v_p2_secretNames v_p3_steps v_p3_size v_p3_code v_p3_mate v_p3_one v_p3_other = some (r_, o_depth, o_open, o_p1_at, o_p1_kind, o_p1_place, o_p1_word, o_p1_key, o_p1_number, o_p1_faultKind, o_p1_faultPlace, o_p3_steps, o_p3_size, o_p3_code, o_p3_mate, o_p3_one, o_p3_other)) :
    mp_M l D T yX6_takeStep cX6_takeStep 7 (some .boolean) ({ frames := 5, cells := 0, slots := 0, locals := 112 }) 0 0 [.ref a_, .ref a_p1, .ref a_p2, .ref a_p3] (k_X6_takeStep T a_ a_open a_p1 a_p1_tape a_p1_keys a_p2 a_p2_cellNames a_p2_secretNames a_p2_pageNames a_p2_speed a_p2_letters a_p2_room a_p2_now a_p2_rounds a_p3 a_p3_code a_p3_one a_p3_other a_p3_mate v_depth v_open v_p1_filled v_p1_end v_p1_at v_p1_kind v_p1_place v_p1_word v_p1_key v_p1_number v_p1_faultKind v_p1_faultPlace v_p1_keys v_p1_tape v_p2_cells v_p2_secrets v_p2_pages v_p2_blind v_p2_rubs v_p2_cellNames v_p2_pageNames v_p2_secretNames v_p3_present v_p3_steps v_p3_size v_p3_code v_p3_mate v_p3_one v_p3_other) (mp_Qi D r_ (k_X6_takeStep T a_ a_open a_p1 a_p1_tape a_p1_keys a_p2 a_p2_cellNames a_p2_secretNames a_p2_pageNames a_p2_speed a_p2_letters a_p2_room a_p2_now a_p2_rounds a_p3 a_p3_code a_p3_one a_p3_other a_p3_mate o_depth o_open v_p1_filled v_p1_end o_p1_at o_p1_kind o_p1_place o_p1_word o_p1_key o_p1_number o_p1_faultKind o_p1_faultPlace v_p1_keys v_p1_tape v_p2_cells v_p2_secrets v_p2_pages v_p2_blind v_p2_rubs v_p2_cellNames v_p2_pageNames v_p2_secretNames v_p3_present o_p3_steps o_p3_size o_p3_code o_p3_mate o_p3_one o_p3_other)) := by
  refine mp_of (by decide) (Nat.le_of_ble_eq_true rfl) rfl ?_
  intro p e s m args below meth c A ls X hK hP hD hS hA hl
  replace X : mp_X p s m meth c args RX6 "takeStep" cX6_takeStep 7 (some .boolean) := X
  have hx := X.1
  have hb := X.2.1
  have hml := X.2.2.1
  have hown := X.2.2.2.2.1
  have hts := X.2.2.2.2.2.1
  replace hl : lv_has ls 7 [(0, .ref a_), (1, .ref a_p1), (2, .ref a_p2), (3, .ref a_p3)] := hl
  replace hf : (if v_p1_key < (nI 12) then bd_ (f_X8_fail (nI 2) v_p1_kind v_p1_place v_p1_faultKind v_p1_faultPlace) (fun (z : Int32 × Int32 × Int32) => match z with | (r2, u3, u4) => gd_ (r2 = 0 ∨ r2 = 1) (some (r2, v_depth, v_open, v_p1_at, v_p1_kind, v_p1_place, v_p1_word, v_p1_key, v_p1_number, u3, u4, v_p3_steps, v_p3_size, v_p3_code, v_p3_mate, v_p3_one, v_p3_other))) else (if v_p1_key = (nI 19) then bd_ (f_X8_fail (nI 2) v_p1_kind v_p1_place v_p1_faultKind v_p1_faultPlace) (fun (z : Int32 × Int32 × Int32) => match z with | (r8, u9, u10) => gd_ (r8 = 0 ∨ r8 = 1) (some (r8, v_depth, v_open, v_p1_at, v_p1_kind, v_p1_place, v_p1_word, v_p1_key, v_p1_number, u9, u10, v_p3_steps, v_p3_size, v_p3_code, v_p3_mate, v_p3_one, v_p3_other))) else (if v_p1_key = (nI 20) then bd_ (f_X8_fail (nI 2) v_p1_kind v_p1_place v_p1_faultKind v_p1_faultPlace) (fun (z : Int32 × Int32 × Int32) => match z with | (r22, u23, u24) => gd_ (r22 = 0 ∨ r22 = 1) (some (r22, v_depth, v_open, v_p1_at, v_p1_kind, v_p1_place, v_p1_word, v_p1_key, v_p1_number, u23, u24, v_p3_steps, v_p3_size, v_p3_code, v_p3_mate, v_p3_one, v_p3_other))) else (if v_p3_steps < (nI 30) then (if v_p1_key = (nI 18) then f_X6_takeStep_63 fu v_p1_end v_p1_keys v_p1_tape v_p2_cells v_p2_secrets v_p2_pages v_p2_cellNames v_p2_pageNames v_p2_secretNames  v_p1_key v_depth v_open v_p1_at v_p1_kind v_p1_place v_p1_word v_p1_key v_p1_number v_p1_faultKind v_p1_faultPlace v_p3_steps v_p3_size v_p3_code v_p3_mate v_p3_one v_p3_other else (if v_p1_key = (nI 21) then f_X6_takeStep_63 fu v_p1_end v_p1_keys v_p1_tape v_p2_cells v_p2_secrets v_p2_pages v_p2_cellNames v_p2_pageNames v_p2_secretNames  v_p1_key v_depth v_open v_p1_at v_p1_kind v_p1_place v_p1_word v_p1_key v_p1_number v_p1_faultKind v_p1_faultPlace v_p3_steps v_p3_size v_p3_code v_p3_mate v_p3_one v_p3_other else f_X6_takeStep_78 fu v_p1_end v_p1_keys v_p1_tape v_p2_cells v_p2_secrets v_p2_pages v_p2_cellNames v_p2_pageNames v_p2_secretNames  v_p1_key v_depth v_open v_p1_at v_p1_kind v_p1_place v_p1_word v_p1_key v_p1_number v_p1_faultKind v_p1_faultPlace v_p3_steps v_p3_size v_p3_code v_p3_mate v_p3_one v_p3_other)) else bd_ (f_X8_fail (nI 6) v_p1_kind v_p1_place v_p1_faultKind v_p1_faultPlace) (fun (z : Int32 × Int32 × Int32) => match z with | (r17, u18, u19) => gd_ (r17 = 0 ∨ r17 = 1) (some (r17, v_depth, v_open, v_p1_at, v_p1_kind, v_p1_place, v_p1_word, v_p1_key, v_p1_number, u18, u19, v_p3_steps, v_p3_size, v_p3_code, v_p3_mate, v_p3_one, v_p3_other))))))) = some (r_, o_depth, o_open, o_p1_at, o_p1_kind, o_p1_place, o_p1_word, o_p1_key, o_p1_number, o_p1_faultKind, o_p1_faultPlace, o_p3_steps, o_p3_size, o_p3_code, o_p3_mate, o_p3_one, o_p3_other) := hf
  refine lv_aload_n hx hb dX6_takeStep_0 rfl (lv_at hl 1 rfl) ?_
  refine mp_get X fl_X6_29 hK hP 2 rfl rfl dX6_takeStep_1 ?_
  refine lv_istore (lv' := [(4, .int v_p1_key), (0, .ref a_), (1, .ref a_p1), (2, .ref a_p2), (3, .ref a_p3)]) hx hb dX6_takeStep_4 hl (by decide) rfl (fun ls hl => ?_)
  refine lv_iload hx hb dX6_takeStep_6 (lv_at hl 0 rfl) ?_
  refine lv_bipush (v := (nI 12)) hx hb dX6_takeStep_8 (by decide) ?_
  refine lv_icmp_lt (tgt := 27) hx hb dX6_takeStep_10 (by decide) (fun h1 => ?_) (fun h1 => ?_)
  · replace hf := if_t hf h1
    refine lv_aload_n hx hb dX6_takeStep_27 rfl (lv_at hl 2 rfl) ?_
    refine lv_iconst (v := (nI 2)) hx hb dX6_takeStep_28 (by decide) ?_
    obtain ⟨⟨r2, u3, u4⟩, c5, hf⟩ := bd_of hf
    dsimp only at hf
    have hPc := hP.sub (ws' := (k_X8_fail T a_p1 a_p1_tape a_p1_keys v_p1_filled v_p1_end v_p1_at v_p1_kind v_p1_place v_p1_word v_p1_key v_p1_number v_p1_faultKind v_p1_faultPlace)) [2] rfl
    have hDc := (mp_D_of (w1 := (k_X6_takeStep T a_ a_open a_p1 a_p1_tape a_p1_keys a_p2 a_p2_cellNames a_p2_secretNames a_p2_pageNames a_p2_speed a_p2_letters a_p2_room a_p2_now a_p2_rounds a_p3 a_p3_code a_p3_one a_p3_other a_p3_mate v_depth v_open v_p1_filled v_p1_end v_p1_at v_p1_kind v_p1_place v_p1_word v_p1_key v_p1_number v_p1_faultKind v_p1_faultPlace v_p1_keys v_p1_tape v_p2_cells v_p2_secrets v_p2_pages v_p2_blind v_p2_rubs v_p2_cellNames v_p2_pageNames v_p2_secretNames v_p3_present v_p3_steps v_p3_size v_p3_code v_p3_mate v_p3_one v_p3_other)) hD rfl).sub (ws' := (k_X8_fail T a_p1 a_p1_tape a_p1_keys v_p1_filled v_p1_end v_p1_at v_p1_kind v_p1_place v_p1_word v_p1_key v_p1_number v_p1_faultKind v_p1_faultPlace)) [2] rfl rfl
    refine mp_calli (isC := [2]) (wc := (k_X8_fail T a_p1 a_p1_tape a_p1_keys v_p1_filled v_p1_end v_p1_at v_p1_kind v_p1_place v_p1_word v_p1_key v_p1_number v_p1_faultKind v_p1_faultPlace)) (w1 := (k_X8_fail T a_p1 a_p1_tape a_p1_keys v_p1_filled v_p1_end v_p1_at v_p1_kind v_p1_place v_p1_word v_p1_key v_p1_number u3 u4)) hP (mp_D_of hD rfl) hS hA rfl rfl (mp_runV (As := [.int (nI 2)]) (rest := []) X me_X8_fail lk_X6_40 (c_X8_fail l D T a_p1 a_p1_tape a_p1_keys (nI 2) v_p1_filled v_p1_end v_p1_at v_p1_word v_p1_key v_p1_number v_p1_kind v_p1_place v_p1_faultKind v_p1_faultPlace r2 u3 u4 c5) rfl rfl ⟨(Nat.le_of_ble_eq_true rfl), (Nat.le_of_ble_eq_true rfl)⟩ hK hPc hDc rfl rfl rfl rfl hl.1 rfl (Nat.le_of_ble_eq_true rfl) dX6_takeStep_29 ⟨Nat.zero_le _, Nat.zero_le _⟩) (fun H locs hP _ hS => ?_)
    replace hP : va_P D mp_cl (k_X6_takeStep T a_ a_open a_p1 a_p1_tape a_p1_keys a_p2 a_p2_cellNames a_p2_secretNames a_p2_pageNames a_p2_speed a_p2_letters a_p2_room a_p2_now a_p2_rounds a_p3 a_p3_code a_p3_one a_p3_other a_p3_mate v_depth v_open v_p1_filled v_p1_end v_p1_at v_p1_kind v_p1_place v_p1_word v_p1_key v_p1_number u3 u4 v_p1_keys v_p1_tape v_p2_cells v_p2_secrets v_p2_pages v_p2_blind v_p2_rubs v_p2_cellNames v_p2_pageNames v_p2_secretNames v_p3_present v_p3_steps v_p3_size v_p3_code v_p3_mate v_p3_one v_p3_other) H := hP
    obtain ⟨h6, hf⟩ := gd_of hf
    cases hf
    exact mp_retz X hP hS rfl h6 dX6_takeStep_32
  · replace hf := if_f hf h1
    refine lv_iload hx hb dX6_takeStep_13 (lv_at hl 0 rfl) ?_
    refine lv_bipush (v := (nI 19)) hx hb dX6_takeStep_15 (by decide) ?_
    refine lv_icmp_eq (tgt := 27) hx hb dX6_takeStep_17 (by decide) (fun h7 => ?_) (fun h7 => ?_)
    · replace hf := if_t hf h7
      refine lv_aload_n hx hb dX6_takeStep_27 rfl (lv_at hl 2 rfl) ?_
      refine lv_iconst (v := (nI 2)) hx hb dX6_takeStep_28 (by decide) ?_
      obtain ⟨⟨r8, u9, u10⟩, c11, hf⟩ := bd_of hf
      dsimp only at hf
      have hPc := hP.sub (ws' := (k_X8_fail T a_p1 a_p1_tape a_p1_keys v_p1_filled v_p1_end v_p1_at v_p1_kind v_p1_place v_p1_word v_p1_key v_p1_number v_p1_faultKind v_p1_faultPlace)) [2] rfl
      have hDc := (mp_D_of (w1 := (k_X6_takeStep T a_ a_open a_p1 a_p1_tape a_p1_keys a_p2 a_p2_cellNames a_p2_secretNames a_p2_pageNames a_p2_speed a_p2_letters a_p2_room a_p2_now a_p2_rounds a_p3 a_p3_code a_p3_one a_p3_other a_p3_mate v_depth v_open v_p1_filled v_p1_end v_p1_at v_p1_kind v_p1_place v_p1_word v_p1_key v_p1_number v_p1_faultKind v_p1_faultPlace v_p1_keys v_p1_tape v_p2_cells v_p2_secrets v_p2_pages v_p2_blind v_p2_rubs v_p2_cellNames v_p2_pageNames v_p2_secretNames v_p3_present v_p3_steps v_p3_size v_p3_code v_p3_mate v_p3_one v_p3_other)) hD rfl).sub (ws' := (k_X8_fail T a_p1 a_p1_tape a_p1_keys v_p1_filled v_p1_end v_p1_at v_p1_kind v_p1_place v_p1_word v_p1_key v_p1_number v_p1_faultKind v_p1_faultPlace)) [2] rfl rfl
      refine mp_calli (isC := [2]) (wc := (k_X8_fail T a_p1 a_p1_tape a_p1_keys v_p1_filled v_p1_end v_p1_at v_p1_kind v_p1_place v_p1_word v_p1_key v_p1_number v_p1_faultKind v_p1_faultPlace)) (w1 := (k_X8_fail T a_p1 a_p1_tape a_p1_keys v_p1_filled v_p1_end v_p1_at v_p1_kind v_p1_place v_p1_word v_p1_key v_p1_number u9 u10)) hP (mp_D_of hD rfl) hS hA rfl rfl (mp_runV (As := [.int (nI 2)]) (rest := []) X me_X8_fail lk_X6_40 (c_X8_fail l D T a_p1 a_p1_tape a_p1_keys (nI 2) v_p1_filled v_p1_end v_p1_at v_p1_word v_p1_key v_p1_number v_p1_kind v_p1_place v_p1_faultKind v_p1_faultPlace r8 u9 u10 c11) rfl rfl ⟨(Nat.le_of_ble_eq_true rfl), (Nat.le_of_ble_eq_true rfl)⟩ hK hPc hDc rfl rfl rfl rfl hl.1 rfl (Nat.le_of_ble_eq_true rfl) dX6_takeStep_29 ⟨Nat.zero_le _, Nat.zero_le _⟩) (fun H locs hP _ hS => ?_)
      replace hP : va_P D mp_cl (k_X6_takeStep T a_ a_open a_p1 a_p1_tape a_p1_keys a_p2 a_p2_cellNames a_p2_secretNames a_p2_pageNames a_p2_speed a_p2_letters a_p2_room a_p2_now a_p2_rounds a_p3 a_p3_code a_p3_one a_p3_other a_p3_mate v_depth v_open v_p1_filled v_p1_end v_p1_at v_p1_kind v_p1_place v_p1_word v_p1_key v_p1_number u9 u10 v_p1_keys v_p1_tape v_p2_cells v_p2_secrets v_p2_pages v_p2_blind v_p2_rubs v_p2_cellNames v_p2_pageNames v_p2_secretNames v_p3_present v_p3_steps v_p3_size v_p3_code v_p3_mate v_p3_one v_p3_other) H := hP
      obtain ⟨h12, hf⟩ := gd_of hf
      cases hf
      exact mp_retz X hP hS rfl h12 dX6_takeStep_32
    · replace hf := if_f hf h7
      refine lv_iload hx hb dX6_takeStep_20 (lv_at hl 0 rfl) ?_
      refine lv_bipush (v := (nI 20)) hx hb dX6_takeStep_22 (by decide) ?_
      refine lv_icmp_ne (tgt := 33) hx hb dX6_takeStep_24 (by decide) (fun h13 => ?_) (fun h13 => ?_)
      · replace hf := if_f hf h13
        refine lv_aload_n hx hb dX6_takeStep_33 rfl (lv_at hl 4 rfl) ?_
        refine mp_get X fl_X6_59 hK hP 9 rfl rfl dX6_takeStep_34 ?_
        refine lv_bipush (v := (nI 30)) hx hb dX6_takeStep_37 (by decide) ?_
        refine lv_icmp_lt (tgt := 49) hx hb dX6_takeStep_39 (by decide) (fun h14 => ?_) (fun h14 => ?_)
        · replace hf := if_t hf h14
          refine lv_iload hx hb dX6_takeStep_49 (lv_at hl 0 rfl) ?_
          refine lv_bipush (v := (nI 18)) hx hb dX6_takeStep_51 (by decide) ?_
          refine lv_icmp_eq (tgt := 63) hx hb dX6_takeStep_53 (by decide) (fun h15 => ?_) (fun h15 => ?_)
          · replace hf := if_t hf h15
            exact w_X6_takeStep_63 X hK hA  fu a_ a_open a_p1 a_p1_tape a_p1_keys a_p2 a_p2_cellNames a_p2_secretNames a_p2_pageNames a_p2_speed a_p2_letters a_p2_room a_p2_now a_p2_rounds a_p3 a_p3_code a_p3_one a_p3_other a_p3_mate v_p1_filled v_p2_blind v_p2_rubs v_p3_present v_p1_end v_p1_keys v_p1_tape v_p2_cells v_p2_secrets v_p2_pages v_p2_cellNames v_p2_pageNames v_p2_secretNames r_ o_depth o_open o_p1_at o_p1_kind o_p1_place o_p1_word o_p1_key o_p1_number o_p1_faultKind o_p1_faultPlace o_p3_steps o_p3_size o_p3_code o_p3_mate o_p3_one o_p3_other   v_p1_key v_depth v_open v_p1_at v_p1_kind v_p1_place v_p1_word v_p1_key v_p1_number v_p1_faultKind v_p1_faultPlace v_p3_steps v_p3_size v_p3_code v_p3_mate v_p3_one v_p3_other hf _ _ _ hP (mp_D_of hD rfl) hS (lv_sub hl [1, 2, 3, 4, 0] rfl)
          · replace hf := if_f hf h15
            refine lv_iload hx hb dX6_takeStep_56 (lv_at hl 0 rfl) ?_
            refine lv_bipush (v := (nI 21)) hx hb dX6_takeStep_58 (by decide) ?_
            refine lv_icmp_ne (tgt := 78) hx hb dX6_takeStep_60 (by decide) (fun h16 => ?_) (fun h16 => ?_)
            · replace hf := if_f hf h16
              exact w_X6_takeStep_78 X hK hA  fu a_ a_open a_p1 a_p1_tape a_p1_keys a_p2 a_p2_cellNames a_p2_secretNames a_p2_pageNames a_p2_speed a_p2_letters a_p2_room a_p2_now a_p2_rounds a_p3 a_p3_code a_p3_one a_p3_other a_p3_mate v_p1_filled v_p2_blind v_p2_rubs v_p3_present v_p1_end v_p1_keys v_p1_tape v_p2_cells v_p2_secrets v_p2_pages v_p2_cellNames v_p2_pageNames v_p2_secretNames r_ o_depth o_open o_p1_at o_p1_kind o_p1_place o_p1_word o_p1_key o_p1_number o_p1_faultKind o_p1_faultPlace o_p3_steps o_p3_size o_p3_code o_p3_mate o_p3_one o_p3_other   v_p1_key v_depth v_open v_p1_at v_p1_kind v_p1_place v_p1_word v_p1_key v_p1_number v_p1_faultKind v_p1_faultPlace v_p3_steps v_p3_size v_p3_code v_p3_mate v_p3_one v_p3_other hf _ _ _ hP (mp_D_of hD rfl) hS (lv_sub hl [1, 2, 3, 4, 0] rfl)
            · replace hf := if_t hf h16
              exact w_X6_takeStep_63 X hK hA  fu a_ a_open a_p1 a_p1_tape a_p1_keys a_p2 a_p2_cellNames a_p2_secretNames a_p2_pageNames a_p2_speed a_p2_letters a_p2_room a_p2_now a_p2_rounds a_p3 a_p3_code a_p3_one a_p3_other a_p3_mate v_p1_filled v_p2_blind v_p2_rubs v_p3_present v_p1_end v_p1_keys v_p1_tape v_p2_cells v_p2_secrets v_p2_pages v_p2_cellNames v_p2_pageNames v_p2_secretNames r_ o_depth o_open o_p1_at o_p1_kind o_p1_place o_p1_word o_p1_key o_p1_number o_p1_faultKind o_p1_faultPlace o_p3_steps o_p3_size o_p3_code o_p3_mate o_p3_one o_p3_other   v_p1_key v_depth v_open v_p1_at v_p1_kind v_p1_place v_p1_word v_p1_key v_p1_number v_p1_faultKind v_p1_faultPlace v_p3_steps v_p3_size v_p3_code v_p3_mate v_p3_one v_p3_other hf _ _ _ hP (mp_D_of hD rfl) hS (lv_sub hl [1, 2, 3, 4, 0] rfl)
        · replace hf := if_f hf h14
          refine lv_aload_n hx hb dX6_takeStep_42 rfl (lv_at hl 2 rfl) ?_
          refine lv_bipush (v := (nI 6)) hx hb dX6_takeStep_43 (by decide) ?_
          obtain ⟨⟨r17, u18, u19⟩, c20, hf⟩ := bd_of hf
          dsimp only at hf
          have hPc := hP.sub (ws' := (k_X8_fail T a_p1 a_p1_tape a_p1_keys v_p1_filled v_p1_end v_p1_at v_p1_kind v_p1_place v_p1_word v_p1_key v_p1_number v_p1_faultKind v_p1_faultPlace)) [2] rfl
          have hDc := (mp_D_of (w1 := (k_X6_takeStep T a_ a_open a_p1 a_p1_tape a_p1_keys a_p2 a_p2_cellNames a_p2_secretNames a_p2_pageNames a_p2_speed a_p2_letters a_p2_room a_p2_now a_p2_rounds a_p3 a_p3_code a_p3_one a_p3_other a_p3_mate v_depth v_open v_p1_filled v_p1_end v_p1_at v_p1_kind v_p1_place v_p1_word v_p1_key v_p1_number v_p1_faultKind v_p1_faultPlace v_p1_keys v_p1_tape v_p2_cells v_p2_secrets v_p2_pages v_p2_blind v_p2_rubs v_p2_cellNames v_p2_pageNames v_p2_secretNames v_p3_present v_p3_steps v_p3_size v_p3_code v_p3_mate v_p3_one v_p3_other)) hD rfl).sub (ws' := (k_X8_fail T a_p1 a_p1_tape a_p1_keys v_p1_filled v_p1_end v_p1_at v_p1_kind v_p1_place v_p1_word v_p1_key v_p1_number v_p1_faultKind v_p1_faultPlace)) [2] rfl rfl
          refine mp_calli (isC := [2]) (wc := (k_X8_fail T a_p1 a_p1_tape a_p1_keys v_p1_filled v_p1_end v_p1_at v_p1_kind v_p1_place v_p1_word v_p1_key v_p1_number v_p1_faultKind v_p1_faultPlace)) (w1 := (k_X8_fail T a_p1 a_p1_tape a_p1_keys v_p1_filled v_p1_end v_p1_at v_p1_kind v_p1_place v_p1_word v_p1_key v_p1_number u18 u19)) hP (mp_D_of hD rfl) hS hA rfl rfl (mp_runV (As := [.int (nI 6)]) (rest := []) X me_X8_fail lk_X6_40 (c_X8_fail l D T a_p1 a_p1_tape a_p1_keys (nI 6) v_p1_filled v_p1_end v_p1_at v_p1_word v_p1_key v_p1_number v_p1_kind v_p1_place v_p1_faultKind v_p1_faultPlace r17 u18 u19 c20) rfl rfl ⟨(Nat.le_of_ble_eq_true rfl), (Nat.le_of_ble_eq_true rfl)⟩ hK hPc hDc rfl rfl rfl rfl hl.1 rfl (Nat.le_of_ble_eq_true rfl) dX6_takeStep_45 ⟨Nat.zero_le _, Nat.zero_le _⟩) (fun H locs hP _ hS => ?_)
          replace hP : va_P D mp_cl (k_X6_takeStep T a_ a_open a_p1 a_p1_tape a_p1_keys a_p2 a_p2_cellNames a_p2_secretNames a_p2_pageNames a_p2_speed a_p2_letters a_p2_room a_p2_now a_p2_rounds a_p3 a_p3_code a_p3_one a_p3_other a_p3_mate v_depth v_open v_p1_filled v_p1_end v_p1_at v_p1_kind v_p1_place v_p1_word v_p1_key v_p1_number u18 u19 v_p1_keys v_p1_tape v_p2_cells v_p2_secrets v_p2_pages v_p2_blind v_p2_rubs v_p2_cellNames v_p2_pageNames v_p2_secretNames v_p3_present v_p3_steps v_p3_size v_p3_code v_p3_mate v_p3_one v_p3_other) H := hP
          obtain ⟨h21, hf⟩ := gd_of hf
          cases hf
          exact mp_retz X hP hS rfl h21 dX6_takeStep_48
      · replace hf := if_t hf h13
        refine lv_aload_n hx hb dX6_takeStep_27 rfl (lv_at hl 2 rfl) ?_
        refine lv_iconst (v := (nI 2)) hx hb dX6_takeStep_28 (by decide) ?_
        obtain ⟨⟨r22, u23, u24⟩, c25, hf⟩ := bd_of hf
        dsimp only at hf
        have hPc := hP.sub (ws' := (k_X8_fail T a_p1 a_p1_tape a_p1_keys v_p1_filled v_p1_end v_p1_at v_p1_kind v_p1_place v_p1_word v_p1_key v_p1_number v_p1_faultKind v_p1_faultPlace)) [2] rfl
        have hDc := (mp_D_of (w1 := (k_X6_takeStep T a_ a_open a_p1 a_p1_tape a_p1_keys a_p2 a_p2_cellNames a_p2_secretNames a_p2_pageNames a_p2_speed a_p2_letters a_p2_room a_p2_now a_p2_rounds a_p3 a_p3_code a_p3_one a_p3_other a_p3_mate v_depth v_open v_p1_filled v_p1_end v_p1_at v_p1_kind v_p1_place v_p1_word v_p1_key v_p1_number v_p1_faultKind v_p1_faultPlace v_p1_keys v_p1_tape v_p2_cells v_p2_secrets v_p2_pages v_p2_blind v_p2_rubs v_p2_cellNames v_p2_pageNames v_p2_secretNames v_p3_present v_p3_steps v_p3_size v_p3_code v_p3_mate v_p3_one v_p3_other)) hD rfl).sub (ws' := (k_X8_fail T a_p1 a_p1_tape a_p1_keys v_p1_filled v_p1_end v_p1_at v_p1_kind v_p1_place v_p1_word v_p1_key v_p1_number v_p1_faultKind v_p1_faultPlace)) [2] rfl rfl
        refine mp_calli (isC := [2]) (wc := (k_X8_fail T a_p1 a_p1_tape a_p1_keys v_p1_filled v_p1_end v_p1_at v_p1_kind v_p1_place v_p1_word v_p1_key v_p1_number v_p1_faultKind v_p1_faultPlace)) (w1 := (k_X8_fail T a_p1 a_p1_tape a_p1_keys v_p1_filled v_p1_end v_p1_at v_p1_kind v_p1_place v_p1_word v_p1_key v_p1_number u23 u24)) hP (mp_D_of hD rfl) hS hA rfl rfl (mp_runV (As := [.int (nI 2)]) (rest := []) X me_X8_fail lk_X6_40 (c_X8_fail l D T a_p1 a_p1_tape a_p1_keys (nI 2) v_p1_filled v_p1_end v_p1_at v_p1_word v_p1_key v_p1_number v_p1_kind v_p1_place v_p1_faultKind v_p1_faultPlace r22 u23 u24 c25) rfl rfl ⟨(Nat.le_of_ble_eq_true rfl), (Nat.le_of_ble_eq_true rfl)⟩ hK hPc hDc rfl rfl rfl rfl hl.1 rfl (Nat.le_of_ble_eq_true rfl) dX6_takeStep_29 ⟨Nat.zero_le _, Nat.zero_le _⟩) (fun H locs hP _ hS => ?_)
        replace hP : va_P D mp_cl (k_X6_takeStep T a_ a_open a_p1 a_p1_tape a_p1_keys a_p2 a_p2_cellNames a_p2_secretNames a_p2_pageNames a_p2_speed a_p2_letters a_p2_room a_p2_now a_p2_rounds a_p3 a_p3_code a_p3_one a_p3_other a_p3_mate v_depth v_open v_p1_filled v_p1_end v_p1_at v_p1_kind v_p1_place v_p1_word v_p1_key v_p1_number u23 u24 v_p1_keys v_p1_tape v_p2_cells v_p2_secrets v_p2_pages v_p2_blind v_p2_rubs v_p2_cellNames v_p2_pageNames v_p2_secretNames v_p3_present v_p3_steps v_p3_size v_p3_code v_p3_mate v_p3_one v_p3_other) H := hP
        obtain ⟨h26, hf⟩ := gd_of hf
        cases hf
        exact mp_retz X hP hS rfl h26 dX6_takeStep_32


def k_X6_take (T : Nat → ClassId) (a_ a_open a_p1 a_p1_tape a_p1_keys a_p2 a_p2_cellNames a_p2_secretNames a_p2_pageNames a_p2_speed a_p2_letters a_p2_room a_p2_now a_p2_rounds a_p3 a_p3_code a_p3_one a_p3_other a_p3_mate : Nat) (v_depth : Int32) (v_open : (Nat → Int32)) (v_p1_filled : Int32) (v_p1_end : Int32) (v_p1_at : Int32) (v_p1_kind : Int32) (v_p1_place : Int32) (v_p1_word : Int64) (v_p1_key : Int32) (v_p1_number : Int32) (v_p1_faultKind : Int32) (v_p1_faultPlace : Int32) (v_p1_keys : (Nat → Int64)) (v_p1_tape : (Nat → Int32)) (v_p2_cells : Int32) (v_p2_secrets : Int32) (v_p2_pages : Int32) (v_p2_blind : Int32) (v_p2_rubs : Int32) (v_p2_cellNames : (Nat → Int64)) (v_p2_pageNames : (Nat → Int64)) (v_p2_secretNames : (Nat → Int64)) (v_p3_present : Int32) (v_p3_steps : Int32) (v_p3_size : Int32) (v_p3_code : (Nat → Int32)) (v_p3_mate : (Nat → Int32)) (v_p3_one : (Nat → Int32)) (v_p3_other : (Nat → Int32)) : va_W := [(a_, oX6 a_open v_depth), (a_open, mp_aI T 3 v_open), (a_p1, oX8 a_p1_tape v_p1_filled v_p1_end v_p1_at v_p1_kind v_p1_place v_p1_word v_p1_key v_p1_number v_p1_faultKind v_p1_faultPlace a_p1_keys), (a_p1_keys, mp_aJ T 24 v_p1_keys), (a_p1_tape, mp_aB T 900 v_p1_tape), (a_p2, oX1 v_p2_cells v_p2_secrets v_p2_pages a_p2_cellNames a_p2_secretNames a_p2_pageNames a_p2_speed v_p2_blind v_p2_rubs a_p2_letters a_p2_room a_p2_now a_p2_rounds), (a_p2_cellNames, mp_aJ T 8 v_p2_cellNames), (a_p2_pageNames, mp_aJ T 6 v_p2_pageNames), (a_p2_secretNames, mp_aJ T 6 v_p2_secretNames), (a_p3, oX5 v_p3_present v_p3_steps v_p3_size a_p3_code a_p3_one a_p3_other a_p3_mate), (a_p3_code, mp_aI T 60 v_p3_code), (a_p3_mate, mp_aI T 60 v_p3_mate), (a_p3_one, mp_aI T 60 v_p3_one), (a_p3_other, mp_aI T 60 v_p3_other)]
set_option maxHeartbeats 4000000 in
set_option maxRecDepth 100000 in
theorem w_X6_take_68 {p : Program} {l : Launch} {e : Env} {s : State} {m : MethodId} {args : Array Value} {below : List Frame} {meth : Method} {c : Code} {D : va_G} {T : Nat → ClassId} {A : Nat → Prop} (X : mp_X p s m meth c args RX6 "take" cX6_take 6 (some .boolean)) (hK : va_K D mp_cl (mp_ty T) s) (hA : ∀ q, s.heap.size ≤ q → A q) (fu : Nat) (a_ a_open a_p1 a_p1_tape a_p1_keys a_p2 a_p2_cellNames a_p2_secretNames a_p2_pageNames a_p2_speed a_p2_letters a_p2_room a_p2_now a_p2_rounds a_p3 a_p3_code a_p3_one a_p3_other a_p3_mate : Nat) (v_p1_filled : Int32) (v_p2_blind : Int32) (v_p2_rubs : Int32) (v_p1_end : Int32) (v_p1_keys : (Nat → Int64)) (v_p1_tape : (Nat → Int32)) (v_p2_cells : Int32) (v_p2_secrets : Int32) (v_p2_pages : Int32) (v_p2_cellNames : (Nat → Int64)) (v_p2_pageNames : (Nat → Int64)) (v_p2_secretNames : (Nat → Int64)) (r_ : Int32) (o_depth : Int32) (o_open : (Nat → Int32)) (o_p1_at : Int32) (o_p1_kind : Int32) (o_p1_place : Int32) (o_p1_word : Int64) (o_p1_key : Int32) (o_p1_number : Int32) (o_p1_faultKind : Int32) (o_p1_faultPlace : Int32) (o_p3_present : Int32) (o_p3_steps : Int32) (o_p3_size : Int32) (o_p3_code : (Nat → Int32)) (o_p3_mate : (Nat → Int32)) (o_p3_one : (Nat → Int32)) (o_p3_other : (Nat → Int32)) :
    ∀  (z4 : Int32) (v_depth : Int32) (v_open : (Nat → Int32)) (v_p1_at : Int32) (v_p1_kind : Int32) (v_p1_place : Int32) (v_p1_word : Int64) (v_p1_key : Int32) (v_p1_number : Int32) (v_p1_faultKind : Int32) (v_p1_faultPlace : Int32) (v_p3_present : Int32) (v_p3_steps : Int32) (v_p3_size : Int32) (v_p3_code : (Nat → Int32)) (v_p3_mate : (Nat → Int32)) (v_p3_one : (Nat → Int32)) (v_p3_other : (Nat → Int32)), f_X6_take_68 fu v_p1_end v_p1_keys v_p1_tape v_p2_cells v_p2_secrets v_p2_pages v_p2_cellNames v_p2_pageNames v_p2_secretNames  z4 v_depth v_open v_p1_at v_p1_kind v_p1_place v_p1_word v_p1_key v_p1_number v_p1_faultKind v_p1_faultPlace v_p3_present v_p3_steps v_p3_size v_p3_code v_p3_mate v_p3_one v_p3_other = some (r_, o_depth, o_open, o_p1_at, o_p1_kind, o_p1_place, o_p1_word, o_p1_key, o_p1_number, o_p1_faultKind, o_p1_faultPlace, o_p3_present, o_p3_steps, o_p3_size, o_p3_code, o_p3_mate, o_p3_one, o_p3_other) → ∀ (H : Heap) (locs : List Loc) (ls : Array Slot), va_P D mp_cl (k_X6_take T a_ a_open a_p1 a_p1_tape a_p1_keys a_p2 a_p2_cellNames a_p2_secretNames a_p2_pageNames a_p2_speed a_p2_letters a_p2_room a_p2_now a_p2_rounds a_p3 a_p3_code a_p3_one a_p3_other a_p3_mate v_depth v_open v_p1_filled v_p1_end v_p1_at v_p1_kind v_p1_place v_p1_word v_p1_key v_p1_number v_p1_faultKind v_p1_faultPlace v_p1_keys v_p1_tape v_p2_cells v_p2_secrets v_p2_pages v_p2_blind v_p2_rubs v_p2_cellNames v_p2_pageNames v_p2_secretNames v_p3_present v_p3_steps v_p3_size v_p3_code v_p3_mate v_p3_one v_p3_other) H → va_D A (k_X6_take T a_ a_open a_p1 a_p1_tape a_p1_keys a_p2 a_p2_cellNames a_p2_secretNames a_p2_pageNames a_p2_speed a_p2_letters a_p2_room a_p2_now a_p2_rounds a_p3 a_p3_code a_p3_one a_p3_other a_p3_mate v_depth v_open v_p1_filled v_p1_end v_p1_at v_p1_kind v_p1_place v_p1_word v_p1_key v_p1_number v_p1_faultKind v_p1_faultPlace v_p1_keys v_p1_tape v_p2_cells v_p2_secrets v_p2_pages v_p2_blind v_p2_rubs v_p2_cellNames v_p2_pageNames v_p2_secretNames v_p3_present v_p3_steps v_p3_size v_p3_code v_p3_mate v_p3_one v_p3_other) → va_S A s.heap H locs → lv_has ls 6 [(0, .ref a_), (1, .ref a_p1), (3, .ref a_p3), (4, .int z4)] → W p l e ({ frames := 6, cells := 0, slots := 0, locals := 138 }) s m args below meth c H locs 0 0 (MQ below ((mp_Qi D r_ (k_X6_take T a_ a_open a_p1 a_p1_tape a_p1_keys a_p2 a_p2_cellNames a_p2_secretNames a_p2_pageNames a_p2_speed a_p2_letters a_p2_room a_p2_now a_p2_rounds a_p3 a_p3_code a_p3_one a_p3_other a_p3_mate o_depth o_open v_p1_filled v_p1_end o_p1_at o_p1_kind o_p1_place o_p1_word o_p1_key o_p1_number o_p1_faultKind o_p1_faultPlace v_p1_keys v_p1_tape v_p2_cells v_p2_secrets v_p2_pages v_p2_blind v_p2_rubs v_p2_cellNames v_p2_pageNames v_p2_secretNames o_p3_present o_p3_steps o_p3_size o_p3_code o_p3_mate o_p3_one o_p3_other)) A) args s 0 0 A) (F0 m 68 ls []) := by
  have hx := X.1
  have hb := X.2.1
  have hml := X.2.2.1
  have hown := X.2.2.2.2.1
  have hts := X.2.2.2.2.2.1
  intro z4 v_depth v_open v_p1_at v_p1_kind v_p1_place v_p1_word v_p1_key v_p1_number v_p1_faultKind v_p1_faultPlace v_p3_present v_p3_steps v_p3_size v_p3_code v_p3_mate v_p3_one v_p3_other hf H locs ls hP hD hS hl
  replace hf : (if z4 = 0 then gd_ (z4 = 0 ∨ z4 = 1) (gd_ (z4 = 0 ∨ z4 = 1) (some (z4, v_depth, v_open, v_p1_at, v_p1_kind, v_p1_place, v_p1_word, v_p1_key, v_p1_number, v_p1_faultKind, v_p1_faultPlace, z4, v_p3_steps, v_p3_size, v_p3_code, v_p3_mate, v_p3_one, v_p3_other))) else (if v_depth ≤ 0 then gd_ (z4 = 0 ∨ z4 = 1) (gd_ (z4 = 0 ∨ z4 = 1) (some (z4, v_depth, v_open, v_p1_at, v_p1_kind, v_p1_place, v_p1_word, v_p1_key, v_p1_number, v_p1_faultKind, v_p1_faultPlace, z4, v_p3_steps, v_p3_size, v_p3_code, v_p3_mate, v_p3_one, v_p3_other))) else bd_ (f_X8_fail (nI 2) v_p1_kind v_p1_place v_p1_faultKind v_p1_faultPlace) (fun (z : Int32 × Int32 × Int32) => match z with | (r7, u8, u9) => gd_ (r7 = 0 ∨ r7 = 1) (gd_ (r7 = 0 ∨ r7 = 1) (some (r7, v_depth, v_open, v_p1_at, v_p1_kind, v_p1_place, v_p1_word, v_p1_key, v_p1_number, u8, u9, r7, v_p3_steps, v_p3_size, v_p3_code, v_p3_mate, v_p3_one, v_p3_other)))))) = some (r_, o_depth, o_open, o_p1_at, o_p1_kind, o_p1_place, o_p1_word, o_p1_key, o_p1_number, o_p1_faultKind, o_p1_faultPlace, o_p3_present, o_p3_steps, o_p3_size, o_p3_code, o_p3_mate, o_p3_one, o_p3_other) := hf
  refine lv_iload hx hb dX6_take_68 (lv_at hl 3 rfl) ?_
  refine lv_if_eq (tgt := 87) hx hb dX6_take_70 (by decide) (fun h1 => ?_) (fun h1 => ?_)
  · replace hf := if_t hf h1
    refine lv_aload_n hx hb dX6_take_87 rfl (lv_at hl 2 rfl) ?_
    refine lv_iload hx hb dX6_take_88 (lv_at hl 3 rfl) ?_
    obtain ⟨h2, hf⟩ := gd_of hf
    refine mp_putf X fl_X6_44 fp_X5 rfl hK hP (mp_D_of hD rfl) hS 9 rfl (by rcases h2 with rfl | rfl <;> rfl) (by rcases h2 with rfl | rfl <;> rfl) (Nat.le_of_ble_eq_true rfl) dX6_take_90 (fun H locs hP _ hS => ?_)
    replace hP : va_P D mp_cl (k_X6_take T a_ a_open a_p1 a_p1_tape a_p1_keys a_p2 a_p2_cellNames a_p2_secretNames a_p2_pageNames a_p2_speed a_p2_letters a_p2_room a_p2_now a_p2_rounds a_p3 a_p3_code a_p3_one a_p3_other a_p3_mate v_depth v_open v_p1_filled v_p1_end v_p1_at v_p1_kind v_p1_place v_p1_word v_p1_key v_p1_number v_p1_faultKind v_p1_faultPlace v_p1_keys v_p1_tape v_p2_cells v_p2_secrets v_p2_pages v_p2_blind v_p2_rubs v_p2_cellNames v_p2_pageNames v_p2_secretNames z4 v_p3_steps v_p3_size v_p3_code v_p3_mate v_p3_one v_p3_other) H := hP
    refine lv_iload hx hb dX6_take_93 (lv_at hl 3 rfl) ?_
    obtain ⟨h3, hf⟩ := gd_of hf
    cases hf
    exact mp_retz X hP hS rfl h3 dX6_take_95
  · replace hf := if_f hf h1
    refine lv_aload_n hx hb dX6_take_73 rfl (lv_at hl 0 rfl) ?_
    refine mp_get X fl_X6_15 hK hP 0 rfl rfl dX6_take_74 ?_
    refine lv_if_le (tgt := 87) hx hb dX6_take_77 (by decide) (fun h4 => ?_) (fun h4 => ?_)
    · replace hf := if_t hf h4
      refine lv_aload_n hx hb dX6_take_87 rfl (lv_at hl 2 rfl) ?_
      refine lv_iload hx hb dX6_take_88 (lv_at hl 3 rfl) ?_
      obtain ⟨h5, hf⟩ := gd_of hf
      refine mp_putf X fl_X6_44 fp_X5 rfl hK hP (mp_D_of hD rfl) hS 9 rfl (by rcases h5 with rfl | rfl <;> rfl) (by rcases h5 with rfl | rfl <;> rfl) (Nat.le_of_ble_eq_true rfl) dX6_take_90 (fun H locs hP _ hS => ?_)
      replace hP : va_P D mp_cl (k_X6_take T a_ a_open a_p1 a_p1_tape a_p1_keys a_p2 a_p2_cellNames a_p2_secretNames a_p2_pageNames a_p2_speed a_p2_letters a_p2_room a_p2_now a_p2_rounds a_p3 a_p3_code a_p3_one a_p3_other a_p3_mate v_depth v_open v_p1_filled v_p1_end v_p1_at v_p1_kind v_p1_place v_p1_word v_p1_key v_p1_number v_p1_faultKind v_p1_faultPlace v_p1_keys v_p1_tape v_p2_cells v_p2_secrets v_p2_pages v_p2_blind v_p2_rubs v_p2_cellNames v_p2_pageNames v_p2_secretNames z4 v_p3_steps v_p3_size v_p3_code v_p3_mate v_p3_one v_p3_other) H := hP
      refine lv_iload hx hb dX6_take_93 (lv_at hl 3 rfl) ?_
      obtain ⟨h6, hf⟩ := gd_of hf
      cases hf
      exact mp_retz X hP hS rfl h6 dX6_take_95
    · replace hf := if_f hf h4
      refine lv_aload_n hx hb dX6_take_80 rfl (lv_at hl 1 rfl) ?_
      refine lv_iconst (v := (nI 2)) hx hb dX6_take_81 (by decide) ?_
      obtain ⟨⟨r7, u8, u9⟩, c10, hf⟩ := bd_of hf
      dsimp only at hf
      have hPc := hP.sub (ws' := (k_X8_fail T a_p1 a_p1_tape a_p1_keys v_p1_filled v_p1_end v_p1_at v_p1_kind v_p1_place v_p1_word v_p1_key v_p1_number v_p1_faultKind v_p1_faultPlace)) [2] rfl
      have hDc := (mp_D_of (w1 := (k_X6_take T a_ a_open a_p1 a_p1_tape a_p1_keys a_p2 a_p2_cellNames a_p2_secretNames a_p2_pageNames a_p2_speed a_p2_letters a_p2_room a_p2_now a_p2_rounds a_p3 a_p3_code a_p3_one a_p3_other a_p3_mate v_depth v_open v_p1_filled v_p1_end v_p1_at v_p1_kind v_p1_place v_p1_word v_p1_key v_p1_number v_p1_faultKind v_p1_faultPlace v_p1_keys v_p1_tape v_p2_cells v_p2_secrets v_p2_pages v_p2_blind v_p2_rubs v_p2_cellNames v_p2_pageNames v_p2_secretNames v_p3_present v_p3_steps v_p3_size v_p3_code v_p3_mate v_p3_one v_p3_other)) hD rfl).sub (ws' := (k_X8_fail T a_p1 a_p1_tape a_p1_keys v_p1_filled v_p1_end v_p1_at v_p1_kind v_p1_place v_p1_word v_p1_key v_p1_number v_p1_faultKind v_p1_faultPlace)) [2] rfl rfl
      refine mp_calli (isC := [2]) (wc := (k_X8_fail T a_p1 a_p1_tape a_p1_keys v_p1_filled v_p1_end v_p1_at v_p1_kind v_p1_place v_p1_word v_p1_key v_p1_number v_p1_faultKind v_p1_faultPlace)) (w1 := (k_X8_fail T a_p1 a_p1_tape a_p1_keys v_p1_filled v_p1_end v_p1_at v_p1_kind v_p1_place v_p1_word v_p1_key v_p1_number u8 u9)) hP (mp_D_of hD rfl) hS hA rfl rfl (mp_runV (As := [.int (nI 2)]) (rest := []) X me_X8_fail lk_X6_40 (c_X8_fail l D T a_p1 a_p1_tape a_p1_keys (nI 2) v_p1_filled v_p1_end v_p1_at v_p1_word v_p1_key v_p1_number v_p1_kind v_p1_place v_p1_faultKind v_p1_faultPlace r7 u8 u9 c10) rfl rfl ⟨(Nat.le_of_ble_eq_true rfl), (Nat.le_of_ble_eq_true rfl)⟩ hK hPc hDc rfl rfl rfl rfl hl.1 rfl (Nat.le_of_ble_eq_true rfl) dX6_take_82 ⟨Nat.zero_le _, Nat.zero_le _⟩) (fun H locs hP _ hS => ?_)
      replace hP : va_P D mp_cl (k_X6_take T a_ a_open a_p1 a_p1_tape a_p1_keys a_p2 a_p2_cellNames a_p2_secretNames a_p2_pageNames a_p2_speed a_p2_letters a_p2_room a_p2_now a_p2_rounds a_p3 a_p3_code a_p3_one a_p3_other a_p3_mate v_depth v_open v_p1_filled v_p1_end v_p1_at v_p1_kind v_p1_place v_p1_word v_p1_key v_p1_number u8 u9 v_p1_keys v_p1_tape v_p2_cells v_p2_secrets v_p2_pages v_p2_blind v_p2_rubs v_p2_cellNames v_p2_pageNames v_p2_secretNames v_p3_present v_p3_steps v_p3_size v_p3_code v_p3_mate v_p3_one v_p3_other) H := hP
      refine lv_istore (lv' := [(4, .int r7), (0, .ref a_), (1, .ref a_p1), (3, .ref a_p3)]) hx hb dX6_take_85 hl (by decide) rfl (fun ls hl => ?_)
      refine lv_aload_n hx hb dX6_take_87 rfl (lv_at hl 3 rfl) ?_
      refine lv_iload hx hb dX6_take_88 (lv_at hl 0 rfl) ?_
      obtain ⟨h11, hf⟩ := gd_of hf
      refine mp_putf X fl_X6_44 fp_X5 rfl hK hP (mp_D_of hD rfl) hS 9 rfl (by rcases h11 with rfl | rfl <;> rfl) (by rcases h11 with rfl | rfl <;> rfl) (Nat.le_of_ble_eq_true rfl) dX6_take_90 (fun H locs hP _ hS => ?_)
      replace hP : va_P D mp_cl (k_X6_take T a_ a_open a_p1 a_p1_tape a_p1_keys a_p2 a_p2_cellNames a_p2_secretNames a_p2_pageNames a_p2_speed a_p2_letters a_p2_room a_p2_now a_p2_rounds a_p3 a_p3_code a_p3_one a_p3_other a_p3_mate v_depth v_open v_p1_filled v_p1_end v_p1_at v_p1_kind v_p1_place v_p1_word v_p1_key v_p1_number u8 u9 v_p1_keys v_p1_tape v_p2_cells v_p2_secrets v_p2_pages v_p2_blind v_p2_rubs v_p2_cellNames v_p2_pageNames v_p2_secretNames r7 v_p3_steps v_p3_size v_p3_code v_p3_mate v_p3_one v_p3_other) H := hP
      refine lv_iload hx hb dX6_take_93 (lv_at hl 0 rfl) ?_
      obtain ⟨h12, hf⟩ := gd_of hf
      cases hf
      exact mp_retz X hP hS rfl h12 dX6_take_95

set_option maxHeartbeats 4000000 in
set_option maxRecDepth 100000 in
theorem w_X6_take_15 {p : Program} {l : Launch} {e : Env} {s : State} {m : MethodId} {args : Array Value} {below : List Frame} {meth : Method} {c : Code} {D : va_G} {T : Nat → ClassId} {A : Nat → Prop} (X : mp_X p s m meth c args RX6 "take" cX6_take 6 (some .boolean)) (hK : va_K D mp_cl (mp_ty T) s) (hA : ∀ q, s.heap.size ≤ q → A q) (fu : Nat) (a_ a_open a_p1 a_p1_tape a_p1_keys a_p2 a_p2_cellNames a_p2_secretNames a_p2_pageNames a_p2_speed a_p2_letters a_p2_room a_p2_now a_p2_rounds a_p3 a_p3_code a_p3_one a_p3_other a_p3_mate : Nat) (v_p1_filled : Int32) (v_p2_blind : Int32) (v_p2_rubs : Int32) (v_p1_end : Int32) (v_p1_keys : (Nat → Int64)) (v_p1_tape : (Nat → Int32)) (v_p2_cells : Int32) (v_p2_secrets : Int32) (v_p2_pages : Int32) (v_p2_cellNames : (Nat → Int64)) (v_p2_pageNames : (Nat → Int64)) (v_p2_secretNames : (Nat → Int64)) (r_ : Int32) (o_depth : Int32) (o_open : (Nat → Int32)) (o_p1_at : Int32) (o_p1_kind : Int32) (o_p1_place : Int32) (o_p1_word : Int64) (o_p1_key : Int32) (o_p1_number : Int32) (o_p1_faultKind : Int32) (o_p1_faultPlace : Int32) (o_p3_present : Int32) (o_p3_steps : Int32) (o_p3_size : Int32) (o_p3_code : (Nat → Int32)) (o_p3_mate : (Nat → Int32)) (o_p3_one : (Nat → Int32)) (o_p3_other : (Nat → Int32)) :
    ∀ (n : Nat) (z4 : Int32) (z5 : Int32) (v_depth : Int32) (v_open : (Nat → Int32)) (v_p1_at : Int32) (v_p1_kind : Int32) (v_p1_place : Int32) (v_p1_word : Int64) (v_p1_key : Int32) (v_p1_number : Int32) (v_p1_faultKind : Int32) (v_p1_faultPlace : Int32) (v_p3_present : Int32) (v_p3_steps : Int32) (v_p3_size : Int32) (v_p3_code : (Nat → Int32)) (v_p3_mate : (Nat → Int32)) (v_p3_one : (Nat → Int32)) (v_p3_other : (Nat → Int32)), f_X6_take_15 fu v_p1_end v_p1_keys v_p1_tape v_p2_cells v_p2_secrets v_p2_pages v_p2_cellNames v_p2_pageNames v_p2_secretNames  n z4 z5 v_depth v_open v_p1_at v_p1_kind v_p1_place v_p1_word v_p1_key v_p1_number v_p1_faultKind v_p1_faultPlace v_p3_present v_p3_steps v_p3_size v_p3_code v_p3_mate v_p3_one v_p3_other = some (r_, o_depth, o_open, o_p1_at, o_p1_kind, o_p1_place, o_p1_word, o_p1_key, o_p1_number, o_p1_faultKind, o_p1_faultPlace, o_p3_present, o_p3_steps, o_p3_size, o_p3_code, o_p3_mate, o_p3_one, o_p3_other) → ∀ (H : Heap) (locs : List Loc) (ls : Array Slot), va_P D mp_cl (k_X6_take T a_ a_open a_p1 a_p1_tape a_p1_keys a_p2 a_p2_cellNames a_p2_secretNames a_p2_pageNames a_p2_speed a_p2_letters a_p2_room a_p2_now a_p2_rounds a_p3 a_p3_code a_p3_one a_p3_other a_p3_mate v_depth v_open v_p1_filled v_p1_end v_p1_at v_p1_kind v_p1_place v_p1_word v_p1_key v_p1_number v_p1_faultKind v_p1_faultPlace v_p1_keys v_p1_tape v_p2_cells v_p2_secrets v_p2_pages v_p2_blind v_p2_rubs v_p2_cellNames v_p2_pageNames v_p2_secretNames v_p3_present v_p3_steps v_p3_size v_p3_code v_p3_mate v_p3_one v_p3_other) H → va_D A (k_X6_take T a_ a_open a_p1 a_p1_tape a_p1_keys a_p2 a_p2_cellNames a_p2_secretNames a_p2_pageNames a_p2_speed a_p2_letters a_p2_room a_p2_now a_p2_rounds a_p3 a_p3_code a_p3_one a_p3_other a_p3_mate v_depth v_open v_p1_filled v_p1_end v_p1_at v_p1_kind v_p1_place v_p1_word v_p1_key v_p1_number v_p1_faultKind v_p1_faultPlace v_p1_keys v_p1_tape v_p2_cells v_p2_secrets v_p2_pages v_p2_blind v_p2_rubs v_p2_cellNames v_p2_pageNames v_p2_secretNames v_p3_present v_p3_steps v_p3_size v_p3_code v_p3_mate v_p3_one v_p3_other) → va_S A s.heap H locs → lv_has ls 6 [(0, .ref a_), (1, .ref a_p1), (2, .ref a_p2), (3, .ref a_p3), (4, .int z4), (5, .int z5)] → W p l e ({ frames := 6, cells := 0, slots := 0, locals := 138 }) s m args below meth c H locs 0 0 (MQ below ((mp_Qi D r_ (k_X6_take T a_ a_open a_p1 a_p1_tape a_p1_keys a_p2 a_p2_cellNames a_p2_secretNames a_p2_pageNames a_p2_speed a_p2_letters a_p2_room a_p2_now a_p2_rounds a_p3 a_p3_code a_p3_one a_p3_other a_p3_mate o_depth o_open v_p1_filled v_p1_end o_p1_at o_p1_kind o_p1_place o_p1_word o_p1_key o_p1_number o_p1_faultKind o_p1_faultPlace v_p1_keys v_p1_tape v_p2_cells v_p2_secrets v_p2_pages v_p2_blind v_p2_rubs v_p2_cellNames v_p2_pageNames v_p2_secretNames o_p3_present o_p3_steps o_p3_size o_p3_code o_p3_mate o_p3_one o_p3_other)) A) args s 0 0 A) (F0 m 15 ls []) := by
  have hx := X.1
  have hb := X.2.1
  have hml := X.2.2.1
  have hown := X.2.2.2.2.1
  have hts := X.2.2.2.2.2.1
  intro n
  induction n with
  | zero => intro z4 z5 v_depth v_open v_p1_at v_p1_kind v_p1_place v_p1_word v_p1_key v_p1_number v_p1_faultKind v_p1_faultPlace v_p3_present v_p3_steps v_p3_size v_p3_code v_p3_mate v_p3_one v_p3_other hf; exact absurd hf (by intro h; cases h)
  | succ n ih =>
    intro z4 z5 v_depth v_open v_p1_at v_p1_kind v_p1_place v_p1_word v_p1_key v_p1_number v_p1_faultKind v_p1_faultPlace v_p3_present v_p3_steps v_p3_size v_p3_code v_p3_mate v_p3_one v_p3_other hf H locs ls hP hD hS hl
    replace hf : (if (nI 300) ≤ z5 then f_X6_take_68 fu v_p1_end v_p1_keys v_p1_tape v_p2_cells v_p2_secrets v_p2_pages v_p2_cellNames v_p2_pageNames v_p2_secretNames  z4 v_depth v_open v_p1_at v_p1_kind v_p1_place v_p1_word v_p1_key v_p1_number v_p1_faultKind v_p1_faultPlace v_p3_present v_p3_steps v_p3_size v_p3_code v_p3_mate v_p3_one v_p3_other else (if z4 = 0 then f_X6_take_68 fu v_p1_end v_p1_keys v_p1_tape v_p2_cells v_p2_secrets v_p2_pages v_p2_cellNames v_p2_pageNames v_p2_secretNames  z4 v_depth v_open v_p1_at v_p1_kind v_p1_place v_p1_word v_p1_key v_p1_number v_p1_faultKind v_p1_faultPlace v_p3_present v_p3_steps v_p3_size v_p3_code v_p3_mate v_p3_one v_p3_other else (if v_p1_kind = 0 then f_X6_take_68 fu v_p1_end v_p1_keys v_p1_tape v_p2_cells v_p2_secrets v_p2_pages v_p2_cellNames v_p2_pageNames v_p2_secretNames  z4 v_depth v_open v_p1_at v_p1_kind v_p1_place v_p1_word v_p1_key v_p1_number v_p1_faultKind v_p1_faultPlace v_p3_present v_p3_steps v_p3_size v_p3_code v_p3_mate v_p3_one v_p3_other else (if v_p1_key = (nI 22) then bd_ (f_X6_takeEnd fu v_depth v_open v_p1_end v_p1_at v_p1_kind v_p1_place v_p1_word v_p1_key v_p1_number v_p1_faultKind v_p1_faultPlace v_p1_keys v_p1_tape v_p3_size v_p3_code v_p3_mate v_p3_one v_p3_other) (fun (z : Int32 × Int32 × Int32 × Int32 × Int32 × Int64 × Int32 × Int32 × Int32 × Int32 × Int32 × (Nat → Int32) × (Nat → Int32) × (Nat → Int32) × (Nat → Int32)) => match z with | (r24, u25, u26, u27, u28, u29, u30, u31, u32, u33, u34, u35, u36, u37, u38) => lt_ (z5 + (nI 1)) (fun (y40 : Int32) => f_X6_take_15 fu v_p1_end v_p1_keys v_p1_tape v_p2_cells v_p2_secrets v_p2_pages v_p2_cellNames v_p2_pageNames v_p2_secretNames  n r24 y40 u25 v_open u26 u27 u28 u29 u30 u31 u32 u33 v_p3_present v_p3_steps u34 u35 u36 u37 u38)) else bd_ (f_X6_takeStep fu v_depth v_open v_p1_end v_p1_at v_p1_kind v_p1_place v_p1_word v_p1_key v_p1_number v_p1_faultKind v_p1_faultPlace v_p1_keys v_p1_tape v_p2_cells v_p2_secrets v_p2_pages v_p2_cellNames v_p2_pageNames v_p2_secretNames v_p3_steps v_p3_size v_p3_code v_p3_mate v_p3_one v_p3_other) (fun (z : Int32 × Int32 × (Nat → Int32) × Int32 × Int32 × Int32 × Int64 × Int32 × Int32 × Int32 × Int32 × Int32 × Int32 × (Nat → Int32) × (Nat → Int32) × (Nat → Int32) × (Nat → Int32)) => match z with | (r5, u6, u7, u8, u9, u10, u11, u12, u13, u14, u15, u16, u17, u18, u19, u20, u21) => lt_ (z5 + (nI 1)) (fun (y23 : Int32) => f_X6_take_15 fu v_p1_end v_p1_keys v_p1_tape v_p2_cells v_p2_secrets v_p2_pages v_p2_cellNames v_p2_pageNames v_p2_secretNames  n r5 y23 u6 u7 u8 u9 u10 u11 u12 u13 u14 u15 v_p3_present u16 u17 u18 u19 u20 u21)))))) = some (r_, o_depth, o_open, o_p1_at, o_p1_kind, o_p1_place, o_p1_word, o_p1_key, o_p1_number, o_p1_faultKind, o_p1_faultPlace, o_p3_present, o_p3_steps, o_p3_size, o_p3_code, o_p3_mate, o_p3_one, o_p3_other) := hf
    refine lv_iload hx hb dX6_take_15 (lv_at hl 5 rfl) ?_
    refine lv_sipush (v := (nI 300)) hx hb dX6_take_17 (by decide) ?_
    refine lv_icmp_ge (tgt := 68) hx hb dX6_take_20 (by decide) (fun h1 => ?_) (fun h1 => ?_)
    · replace hf := if_t hf h1
      exact w_X6_take_68 X hK hA  fu a_ a_open a_p1 a_p1_tape a_p1_keys a_p2 a_p2_cellNames a_p2_secretNames a_p2_pageNames a_p2_speed a_p2_letters a_p2_room a_p2_now a_p2_rounds a_p3 a_p3_code a_p3_one a_p3_other a_p3_mate v_p1_filled v_p2_blind v_p2_rubs v_p1_end v_p1_keys v_p1_tape v_p2_cells v_p2_secrets v_p2_pages v_p2_cellNames v_p2_pageNames v_p2_secretNames r_ o_depth o_open o_p1_at o_p1_kind o_p1_place o_p1_word o_p1_key o_p1_number o_p1_faultKind o_p1_faultPlace o_p3_present o_p3_steps o_p3_size o_p3_code o_p3_mate o_p3_one o_p3_other   z4 v_depth v_open v_p1_at v_p1_kind v_p1_place v_p1_word v_p1_key v_p1_number v_p1_faultKind v_p1_faultPlace v_p3_present v_p3_steps v_p3_size v_p3_code v_p3_mate v_p3_one v_p3_other hf _ _ _ hP (mp_D_of hD rfl) hS (lv_sub hl [0, 1, 3, 4] rfl)
    · replace hf := if_f hf h1
      refine lv_iload hx hb dX6_take_23 (lv_at hl 4 rfl) ?_
      refine lv_if_eq (tgt := 68) hx hb dX6_take_25 (by decide) (fun h2 => ?_) (fun h2 => ?_)
      · replace hf := if_t hf h2
        exact w_X6_take_68 X hK hA  fu a_ a_open a_p1 a_p1_tape a_p1_keys a_p2 a_p2_cellNames a_p2_secretNames a_p2_pageNames a_p2_speed a_p2_letters a_p2_room a_p2_now a_p2_rounds a_p3 a_p3_code a_p3_one a_p3_other a_p3_mate v_p1_filled v_p2_blind v_p2_rubs v_p1_end v_p1_keys v_p1_tape v_p2_cells v_p2_secrets v_p2_pages v_p2_cellNames v_p2_pageNames v_p2_secretNames r_ o_depth o_open o_p1_at o_p1_kind o_p1_place o_p1_word o_p1_key o_p1_number o_p1_faultKind o_p1_faultPlace o_p3_present o_p3_steps o_p3_size o_p3_code o_p3_mate o_p3_one o_p3_other   z4 v_depth v_open v_p1_at v_p1_kind v_p1_place v_p1_word v_p1_key v_p1_number v_p1_faultKind v_p1_faultPlace v_p3_present v_p3_steps v_p3_size v_p3_code v_p3_mate v_p3_one v_p3_other hf _ _ _ hP (mp_D_of hD rfl) hS (lv_sub hl [0, 1, 3, 4] rfl)
      · replace hf := if_f hf h2
        refine lv_aload_n hx hb dX6_take_28 rfl (lv_at hl 1 rfl) ?_
        refine mp_get X fl_X6_24 hK hP 2 rfl rfl dX6_take_29 ?_
        refine lv_if_eq (tgt := 68) hx hb dX6_take_32 (by decide) (fun h3 => ?_) (fun h3 => ?_)
        · replace hf := if_t hf h3
          exact w_X6_take_68 X hK hA  fu a_ a_open a_p1 a_p1_tape a_p1_keys a_p2 a_p2_cellNames a_p2_secretNames a_p2_pageNames a_p2_speed a_p2_letters a_p2_room a_p2_now a_p2_rounds a_p3 a_p3_code a_p3_one a_p3_other a_p3_mate v_p1_filled v_p2_blind v_p2_rubs v_p1_end v_p1_keys v_p1_tape v_p2_cells v_p2_secrets v_p2_pages v_p2_cellNames v_p2_pageNames v_p2_secretNames r_ o_depth o_open o_p1_at o_p1_kind o_p1_place o_p1_word o_p1_key o_p1_number o_p1_faultKind o_p1_faultPlace o_p3_present o_p3_steps o_p3_size o_p3_code o_p3_mate o_p3_one o_p3_other   z4 v_depth v_open v_p1_at v_p1_kind v_p1_place v_p1_word v_p1_key v_p1_number v_p1_faultKind v_p1_faultPlace v_p3_present v_p3_steps v_p3_size v_p3_code v_p3_mate v_p3_one v_p3_other hf _ _ _ hP (mp_D_of hD rfl) hS (lv_sub hl [0, 1, 3, 4] rfl)
        · replace hf := if_f hf h3
          refine lv_aload_n hx hb dX6_take_35 rfl (lv_at hl 1 rfl) ?_
          refine mp_get X fl_X6_29 hK hP 2 rfl rfl dX6_take_36 ?_
          refine lv_bipush (v := (nI 22)) hx hb dX6_take_39 (by decide) ?_
          refine lv_icmp_ne (tgt := 53) hx hb dX6_take_41 (by decide) (fun h4 => ?_) (fun h4 => ?_)
          · replace hf := if_f hf h4
            refine lv_aload_n hx hb dX6_take_53 rfl (lv_at hl 0 rfl) ?_
            refine lv_aload_n hx hb dX6_take_54 rfl (lv_at hl 1 rfl) ?_
            refine lv_aload_n hx hb dX6_take_55 rfl (lv_at hl 2 rfl) ?_
            refine lv_aload_n hx hb dX6_take_56 rfl (lv_at hl 3 rfl) ?_
            obtain ⟨⟨r5, u6, u7, u8, u9, u10, u11, u12, u13, u14, u15, u16, u17, u18, u19, u20, u21⟩, c22, hf⟩ := bd_of hf
            dsimp only at hf
            have hPc := hP.sub (ws' := (k_X6_takeStep T a_ a_open a_p1 a_p1_tape a_p1_keys a_p2 a_p2_cellNames a_p2_secretNames a_p2_pageNames a_p2_speed a_p2_letters a_p2_room a_p2_now a_p2_rounds a_p3 a_p3_code a_p3_one a_p3_other a_p3_mate v_depth v_open v_p1_filled v_p1_end v_p1_at v_p1_kind v_p1_place v_p1_word v_p1_key v_p1_number v_p1_faultKind v_p1_faultPlace v_p1_keys v_p1_tape v_p2_cells v_p2_secrets v_p2_pages v_p2_blind v_p2_rubs v_p2_cellNames v_p2_pageNames v_p2_secretNames v_p3_present v_p3_steps v_p3_size v_p3_code v_p3_mate v_p3_one v_p3_other)) [0, 1, 2, 3, 4, 5, 6, 7, 8, 9, 10, 11, 12, 13] rfl
            have hDc := (mp_D_of (w1 := (k_X6_take T a_ a_open a_p1 a_p1_tape a_p1_keys a_p2 a_p2_cellNames a_p2_secretNames a_p2_pageNames a_p2_speed a_p2_letters a_p2_room a_p2_now a_p2_rounds a_p3 a_p3_code a_p3_one a_p3_other a_p3_mate v_depth v_open v_p1_filled v_p1_end v_p1_at v_p1_kind v_p1_place v_p1_word v_p1_key v_p1_number v_p1_faultKind v_p1_faultPlace v_p1_keys v_p1_tape v_p2_cells v_p2_secrets v_p2_pages v_p2_blind v_p2_rubs v_p2_cellNames v_p2_pageNames v_p2_secretNames v_p3_present v_p3_steps v_p3_size v_p3_code v_p3_mate v_p3_one v_p3_other)) hD rfl).sub (ws' := (k_X6_takeStep T a_ a_open a_p1 a_p1_tape a_p1_keys a_p2 a_p2_cellNames a_p2_secretNames a_p2_pageNames a_p2_speed a_p2_letters a_p2_room a_p2_now a_p2_rounds a_p3 a_p3_code a_p3_one a_p3_other a_p3_mate v_depth v_open v_p1_filled v_p1_end v_p1_at v_p1_kind v_p1_place v_p1_word v_p1_key v_p1_number v_p1_faultKind v_p1_faultPlace v_p1_keys v_p1_tape v_p2_cells v_p2_secrets v_p2_pages v_p2_blind v_p2_rubs v_p2_cellNames v_p2_pageNames v_p2_secretNames v_p3_present v_p3_steps v_p3_size v_p3_code v_p3_mate v_p3_one v_p3_other)) [0, 1, 2, 3, 4, 5, 6, 7, 8, 9, 10, 11, 12, 13] rfl rfl
            refine mp_calli (isC := [0, 1, 2, 3, 4, 5, 6, 7, 8, 9, 10, 11, 12, 13]) (wc := (k_X6_takeStep T a_ a_open a_p1 a_p1_tape a_p1_keys a_p2 a_p2_cellNames a_p2_secretNames a_p2_pageNames a_p2_speed a_p2_letters a_p2_room a_p2_now a_p2_rounds a_p3 a_p3_code a_p3_one a_p3_other a_p3_mate v_depth v_open v_p1_filled v_p1_end v_p1_at v_p1_kind v_p1_place v_p1_word v_p1_key v_p1_number v_p1_faultKind v_p1_faultPlace v_p1_keys v_p1_tape v_p2_cells v_p2_secrets v_p2_pages v_p2_blind v_p2_rubs v_p2_cellNames v_p2_pageNames v_p2_secretNames v_p3_present v_p3_steps v_p3_size v_p3_code v_p3_mate v_p3_one v_p3_other)) (w1 := (k_X6_takeStep T a_ a_open a_p1 a_p1_tape a_p1_keys a_p2 a_p2_cellNames a_p2_secretNames a_p2_pageNames a_p2_speed a_p2_letters a_p2_room a_p2_now a_p2_rounds a_p3 a_p3_code a_p3_one a_p3_other a_p3_mate u6 u7 v_p1_filled v_p1_end u8 u9 u10 u11 u12 u13 u14 u15 v_p1_keys v_p1_tape v_p2_cells v_p2_secrets v_p2_pages v_p2_blind v_p2_rubs v_p2_cellNames v_p2_pageNames v_p2_secretNames v_p3_present u16 u17 u18 u19 u20 u21)) hP (mp_D_of hD rfl) hS hA rfl rfl (mp_runV (As := [.ref a_p1, .ref a_p2, .ref a_p3]) (rest := []) X me_X6_takeStep lk_X6_36 (c_X6_takeStep l D T fu a_ a_open a_p1 a_p1_tape a_p1_keys a_p2 a_p2_cellNames a_p2_secretNames a_p2_pageNames a_p2_speed a_p2_letters a_p2_room a_p2_now a_p2_rounds a_p3 a_p3_code a_p3_one a_p3_other a_p3_mate v_p1_filled v_p2_blind v_p2_rubs v_p3_present v_depth v_open v_p1_end v_p1_at v_p1_kind v_p1_place v_p1_word v_p1_key v_p1_number v_p1_faultKind v_p1_faultPlace v_p1_keys v_p1_tape v_p2_cells v_p2_secrets v_p2_pages v_p2_cellNames v_p2_pageNames v_p2_secretNames v_p3_steps v_p3_size v_p3_code v_p3_mate v_p3_one v_p3_other r5 u6 u7 u8 u9 u10 u11 u12 u13 u14 u15 u16 u17 u18 u19 u20 u21 c22) rfl rfl ⟨(Nat.le_of_ble_eq_true rfl), (Nat.le_of_ble_eq_true rfl)⟩ hK hPc hDc rfl rfl rfl rfl hl.1 rfl (Nat.le_of_ble_eq_true rfl) dX6_take_57 ⟨Nat.zero_le _, Nat.zero_le _⟩) (fun H locs hP _ hS => ?_)
            replace hP : va_P D mp_cl (k_X6_take T a_ a_open a_p1 a_p1_tape a_p1_keys a_p2 a_p2_cellNames a_p2_secretNames a_p2_pageNames a_p2_speed a_p2_letters a_p2_room a_p2_now a_p2_rounds a_p3 a_p3_code a_p3_one a_p3_other a_p3_mate u6 u7 v_p1_filled v_p1_end u8 u9 u10 u11 u12 u13 u14 u15 v_p1_keys v_p1_tape v_p2_cells v_p2_secrets v_p2_pages v_p2_blind v_p2_rubs v_p2_cellNames v_p2_pageNames v_p2_secretNames v_p3_present u16 u17 u18 u19 u20 u21) H := hP
            refine lv_istore (lv' := [(4, .int r5), (0, .ref a_), (1, .ref a_p1), (2, .ref a_p2), (3, .ref a_p3), (5, .int z5)]) hx hb dX6_take_60 hl (by decide) rfl (fun ls hl => ?_)
            obtain ⟨y23, e23⟩ : ∃ y : Int32, y = z5 + (nI 1) := ⟨_, rfl⟩
            replace hf := lt_of e23 hf
            refine lv_iinc (v := y23) (lv' := [(5, .int y23), (4, .int r5), (0, .ref a_), (1, .ref a_p1), (2, .ref a_p2), (3, .ref a_p3)]) hx hb dX6_take_62 hl (k := 5) rfl (by rw [e23]; rfl) (by decide) rfl (fun ls hl => ?_)
            refine lv_goto (tgt := 15) hx hb dX6_take_65 (by decide) ?_
            exact ih r5 y23 u6 u7 u8 u9 u10 u11 u12 u13 u14 u15 v_p3_present u16 u17 u18 u19 u20 u21 hf _ _ _ hP (mp_D_of hD rfl) hS (lv_sub hl [2, 3, 4, 5, 1, 0] rfl)
          · replace hf := if_t hf h4
            refine lv_aload_n hx hb dX6_take_44 rfl (lv_at hl 0 rfl) ?_
            refine lv_aload_n hx hb dX6_take_45 rfl (lv_at hl 1 rfl) ?_
            refine lv_aload_n hx hb dX6_take_46 rfl (lv_at hl 3 rfl) ?_
            obtain ⟨⟨r24, u25, u26, u27, u28, u29, u30, u31, u32, u33, u34, u35, u36, u37, u38⟩, c39, hf⟩ := bd_of hf
            dsimp only at hf
            have hPc := hP.sub (ws' := (k_X6_takeEnd T a_ a_open a_p1 a_p1_tape a_p1_keys a_p3 a_p3_code a_p3_one a_p3_other a_p3_mate v_depth v_open v_p1_filled v_p1_end v_p1_at v_p1_kind v_p1_place v_p1_word v_p1_key v_p1_number v_p1_faultKind v_p1_faultPlace v_p1_keys v_p1_tape v_p3_present v_p3_steps v_p3_size v_p3_code v_p3_mate v_p3_one v_p3_other)) [0, 1, 2, 3, 4, 9, 10, 11, 12, 13] rfl
            have hDc := (mp_D_of (w1 := (k_X6_take T a_ a_open a_p1 a_p1_tape a_p1_keys a_p2 a_p2_cellNames a_p2_secretNames a_p2_pageNames a_p2_speed a_p2_letters a_p2_room a_p2_now a_p2_rounds a_p3 a_p3_code a_p3_one a_p3_other a_p3_mate v_depth v_open v_p1_filled v_p1_end v_p1_at v_p1_kind v_p1_place v_p1_word v_p1_key v_p1_number v_p1_faultKind v_p1_faultPlace v_p1_keys v_p1_tape v_p2_cells v_p2_secrets v_p2_pages v_p2_blind v_p2_rubs v_p2_cellNames v_p2_pageNames v_p2_secretNames v_p3_present v_p3_steps v_p3_size v_p3_code v_p3_mate v_p3_one v_p3_other)) hD rfl).sub (ws' := (k_X6_takeEnd T a_ a_open a_p1 a_p1_tape a_p1_keys a_p3 a_p3_code a_p3_one a_p3_other a_p3_mate v_depth v_open v_p1_filled v_p1_end v_p1_at v_p1_kind v_p1_place v_p1_word v_p1_key v_p1_number v_p1_faultKind v_p1_faultPlace v_p1_keys v_p1_tape v_p3_present v_p3_steps v_p3_size v_p3_code v_p3_mate v_p3_one v_p3_other)) [0, 1, 2, 3, 4, 9, 10, 11, 12, 13] rfl rfl
            refine mp_calli (isC := [0, 1, 2, 3, 4, 9, 10, 11, 12, 13]) (wc := (k_X6_takeEnd T a_ a_open a_p1 a_p1_tape a_p1_keys a_p3 a_p3_code a_p3_one a_p3_other a_p3_mate v_depth v_open v_p1_filled v_p1_end v_p1_at v_p1_kind v_p1_place v_p1_word v_p1_key v_p1_number v_p1_faultKind v_p1_faultPlace v_p1_keys v_p1_tape v_p3_present v_p3_steps v_p3_size v_p3_code v_p3_mate v_p3_one v_p3_other)) (w1 := (k_X6_takeEnd T a_ a_open a_p1 a_p1_tape a_p1_keys a_p3 a_p3_code a_p3_one a_p3_other a_p3_mate u25 v_open v_p1_filled v_p1_end u26 u27 u28 u29 u30 u31 u32 u33 v_p1_keys v_p1_tape v_p3_present v_p3_steps u34 u35 u36 u37 u38)) hP (mp_D_of hD rfl) hS hA rfl rfl (mp_runV (As := [.ref a_p1, .ref a_p3]) (rest := []) X me_X6_takeEnd lk_X6_32 (c_X6_takeEnd l D T fu a_ a_open a_p1 a_p1_tape a_p1_keys a_p3 a_p3_code a_p3_one a_p3_other a_p3_mate v_p1_filled v_p3_present v_p3_steps v_depth v_open v_p1_end v_p1_at v_p1_kind v_p1_place v_p1_word v_p1_key v_p1_number v_p1_faultKind v_p1_faultPlace v_p1_keys v_p1_tape v_p3_size v_p3_code v_p3_mate v_p3_one v_p3_other r24 u25 u26 u27 u28 u29 u30 u31 u32 u33 u34 u35 u36 u37 u38 c39) rfl rfl ⟨(Nat.le_of_ble_eq_true rfl), (Nat.le_of_ble_eq_true rfl)⟩ hK hPc hDc rfl rfl rfl rfl hl.1 rfl (Nat.le_of_ble_eq_true rfl) dX6_take_47 ⟨Nat.zero_le _, Nat.zero_le _⟩) (fun H locs hP _ hS => ?_)
            replace hP : va_P D mp_cl (k_X6_take T a_ a_open a_p1 a_p1_tape a_p1_keys a_p2 a_p2_cellNames a_p2_secretNames a_p2_pageNames a_p2_speed a_p2_letters a_p2_room a_p2_now a_p2_rounds a_p3 a_p3_code a_p3_one a_p3_other a_p3_mate u25 v_open v_p1_filled v_p1_end u26 u27 u28 u29 u30 u31 u32 u33 v_p1_keys v_p1_tape v_p2_cells v_p2_secrets v_p2_pages v_p2_blind v_p2_rubs v_p2_cellNames v_p2_pageNames v_p2_secretNames v_p3_present v_p3_steps u34 u35 u36 u37 u38) H := hP
            refine lv_goto (tgt := 60) hx hb dX6_take_50 (by decide) ?_
            refine lv_istore (lv' := [(4, .int r24), (0, .ref a_), (1, .ref a_p1), (2, .ref a_p2), (3, .ref a_p3), (5, .int z5)]) hx hb dX6_take_60 hl (by decide) rfl (fun ls hl => ?_)
            obtain ⟨y40, e40⟩ : ∃ y : Int32, y = z5 + (nI 1) := ⟨_, rfl⟩
            replace hf := lt_of e40 hf
            refine lv_iinc (v := y40) (lv' := [(5, .int y40), (4, .int r24), (0, .ref a_), (1, .ref a_p1), (2, .ref a_p2), (3, .ref a_p3)]) hx hb dX6_take_62 hl (k := 5) rfl (by rw [e40]; rfl) (by decide) rfl (fun ls hl => ?_)
            refine lv_goto (tgt := 15) hx hb dX6_take_65 (by decide) ?_
            exact ih r24 y40 u25 v_open u26 u27 u28 u29 u30 u31 u32 u33 v_p3_present v_p3_steps u34 u35 u36 u37 u38 hf _ _ _ hP (mp_D_of hD rfl) hS (lv_sub hl [2, 3, 4, 5, 1, 0] rfl)

set_option maxHeartbeats 4000000 in
set_option maxRecDepth 100000 in
theorem c_X6_take (l : Launch) (D : va_G) (T : Nat → ClassId) (fu : Nat) (a_ a_open a_p1 a_p1_tape a_p1_keys a_p2 a_p2_cellNames a_p2_secretNames a_p2_pageNames a_p2_speed a_p2_letters a_p2_room a_p2_now a_p2_rounds a_p3 a_p3_code a_p3_one a_p3_other a_p3_mate : Nat) (v_p1_filled : Int32) (v_p2_blind : Int32) (v_p2_rubs : Int32) (v_depth : Int32) (v_open : (Nat → Int32)) (v_p1_end : Int32) (v_p1_at : Int32) (v_p1_kind : Int32) (v_p1_place : Int32) (v_p1_word : Int64) (v_p1_key : Int32) (v_p1_number : Int32) (v_p1_faultKind : Int32) (v_p1_faultPlace : Int32) (v_p1_keys : (Nat → Int64)) (v_p1_tape : (Nat → Int32)) (v_p2_cells : Int32) (v_p2_secrets : Int32) (v_p2_pages : Int32) (v_p2_cellNames : (Nat → Int64)) (v_p2_pageNames : (Nat → Int64)) (v_p2_secretNames : (Nat → Int64)) (v_p3_present : Int32) (v_p3_steps : Int32) (v_p3_size : Int32) (v_p3_code : (Nat → Int32)) (v_p3_mate : (Nat → Int32)) (v_p3_one : (Nat → Int32)) (v_p3_other : (Nat → Int32)) (r_ : Int32) (o_depth : Int32) (o_open : (Nat → Int32)) (o_p1_at : Int32) (o_p1_kind : Int32) (o_p1_place : Int32) (o_p1_word : Int64) (o_p1_key : Int32) (o_p1_number : Int32) (o_p1_faultKind : Int32) (o_p1_faultPlace : Int32) (o_p3_present : Int32) (o_p3_steps : Int32) (o_p3_size : Int32) (o_p3_code : (Nat → Int32)) (o_p3_mate : (Nat → Int32)) (o_p3_one : (Nat → Int32)) (o_p3_other : (Nat → Int32)) (hf : f_X6_take fu v_depth v_open v_p1_end v_p1_at v_p1_kind v_p1_place v_p1_word v_p1_key v_p1_number v_p1_faultKind v_p1_faultPlace v_p1_keys v_p1_tape v_p2_cells v_p2_secrets v_p2_pages v_p2_cellNames v_p2_pageNames v_p2_secretNames v_p3_present v_p3_steps v_p3_size v_p3_code v_p3_mate v_p3_one v_p3_other = some (r_, o_depth, o_open, o_p1_at, o_p1_kind, o_p1_place, o_p1_word, o_p1_key, o_p1_number, o_p1_faultKind, o_p1_faultPlace, o_p3_present, o_p3_steps, o_p3_size, o_p3_code, o_p3_mate, o_p3_one, o_p3_other)) :
    mp_M l D T yX6_take cX6_take 6 (some .boolean) ({ frames := 6, cells := 0, slots := 0, locals := 138 }) 0 0 [.ref a_, .ref a_p1, .ref a_p2, .ref a_p3] (k_X6_take T a_ a_open a_p1 a_p1_tape a_p1_keys a_p2 a_p2_cellNames a_p2_secretNames a_p2_pageNames a_p2_speed a_p2_letters a_p2_room a_p2_now a_p2_rounds a_p3 a_p3_code a_p3_one a_p3_other a_p3_mate v_depth v_open v_p1_filled v_p1_end v_p1_at v_p1_kind v_p1_place v_p1_word v_p1_key v_p1_number v_p1_faultKind v_p1_faultPlace v_p1_keys v_p1_tape v_p2_cells v_p2_secrets v_p2_pages v_p2_blind v_p2_rubs v_p2_cellNames v_p2_pageNames v_p2_secretNames v_p3_present v_p3_steps v_p3_size v_p3_code v_p3_mate v_p3_one v_p3_other) (mp_Qi D r_ (k_X6_take T a_ a_open a_p1 a_p1_tape a_p1_keys a_p2 a_p2_cellNames a_p2_secretNames a_p2_pageNames a_p2_speed a_p2_letters a_p2_room a_p2_now a_p2_rounds a_p3 a_p3_code a_p3_one a_p3_other a_p3_mate o_depth o_open v_p1_filled v_p1_end o_p1_at o_p1_kind o_p1_place o_p1_word o_p1_key o_p1_number o_p1_faultKind o_p1_faultPlace v_p1_keys v_p1_tape v_p2_cells v_p2_secrets v_p2_pages v_p2_blind v_p2_rubs v_p2_cellNames v_p2_pageNames v_p2_secretNames o_p3_present o_p3_steps o_p3_size o_p3_code o_p3_mate o_p3_one o_p3_other)) := by
  refine mp_of (by decide) (Nat.le_of_ble_eq_true rfl) rfl ?_
  intro p e s m args below meth c A ls X hK hP hD hS hA hl
  replace X : mp_X p s m meth c args RX6 "take" cX6_take 6 (some .boolean) := X
  have hx := X.1
  have hb := X.2.1
  have hml := X.2.2.1
  have hown := X.2.2.2.2.1
  have hts := X.2.2.2.2.2.1
  replace hl : lv_has ls 6 [(0, .ref a_), (1, .ref a_p1), (2, .ref a_p2), (3, .ref a_p3)] := hl
  replace hf : bd_ (f_X5_clear v_p3_present v_p3_steps v_p3_size) (fun (z : Int32 × Int32 × Int32) => match z with | (u1, u2, u3) => f_X6_take_15 fu v_p1_end v_p1_keys v_p1_tape v_p2_cells v_p2_secrets v_p2_pages v_p2_cellNames v_p2_pageNames v_p2_secretNames  fu (nI 1) (nI 0) (nI 0) v_open v_p1_at v_p1_kind v_p1_place v_p1_word v_p1_key v_p1_number v_p1_faultKind v_p1_faultPlace u1 u2 u3 v_p3_code v_p3_mate v_p3_one v_p3_other) = some (r_, o_depth, o_open, o_p1_at, o_p1_kind, o_p1_place, o_p1_word, o_p1_key, o_p1_number, o_p1_faultKind, o_p1_faultPlace, o_p3_present, o_p3_steps, o_p3_size, o_p3_code, o_p3_mate, o_p3_one, o_p3_other) := hf
  refine lv_aload_n hx hb dX6_take_0 rfl (lv_at hl 3 rfl) ?_
  obtain ⟨⟨u1, u2, u3⟩, c4, hf⟩ := bd_of hf
  dsimp only at hf
  have hPc := hP.sub (ws' := (k_X5_clear T a_p3 a_p3_code a_p3_one a_p3_other a_p3_mate v_p3_present v_p3_steps v_p3_size)) [9] rfl
  have hDc := (mp_D_of (w1 := (k_X6_take T a_ a_open a_p1 a_p1_tape a_p1_keys a_p2 a_p2_cellNames a_p2_secretNames a_p2_pageNames a_p2_speed a_p2_letters a_p2_room a_p2_now a_p2_rounds a_p3 a_p3_code a_p3_one a_p3_other a_p3_mate v_depth v_open v_p1_filled v_p1_end v_p1_at v_p1_kind v_p1_place v_p1_word v_p1_key v_p1_number v_p1_faultKind v_p1_faultPlace v_p1_keys v_p1_tape v_p2_cells v_p2_secrets v_p2_pages v_p2_blind v_p2_rubs v_p2_cellNames v_p2_pageNames v_p2_secretNames v_p3_present v_p3_steps v_p3_size v_p3_code v_p3_mate v_p3_one v_p3_other)) hD rfl).sub (ws' := (k_X5_clear T a_p3 a_p3_code a_p3_one a_p3_other a_p3_mate v_p3_present v_p3_steps v_p3_size)) [9] rfl rfl
  refine mp_callv (isC := [9]) (wc := (k_X5_clear T a_p3 a_p3_code a_p3_one a_p3_other a_p3_mate v_p3_present v_p3_steps v_p3_size)) (w1 := (k_X5_clear T a_p3 a_p3_code a_p3_one a_p3_other a_p3_mate u1 u2 u3)) hP (mp_D_of hD rfl) hS hA rfl rfl (mp_runV (As := []) (rest := []) X me_X5_clear lk_X6_19 (c_X5_clear l D T a_p3 a_p3_code a_p3_one a_p3_other a_p3_mate v_p3_present v_p3_steps v_p3_size u1 u2 u3 c4) rfl rfl ⟨(Nat.le_of_ble_eq_true rfl), (Nat.le_of_ble_eq_true rfl)⟩ hK hPc hDc rfl rfl rfl rfl hl.1 rfl (Nat.le_of_ble_eq_true rfl) dX6_take_1 ⟨Nat.zero_le _, Nat.zero_le _⟩) (fun H locs hP _ hS => ?_)
  replace hP : va_P D mp_cl (k_X6_take T a_ a_open a_p1 a_p1_tape a_p1_keys a_p2 a_p2_cellNames a_p2_secretNames a_p2_pageNames a_p2_speed a_p2_letters a_p2_room a_p2_now a_p2_rounds a_p3 a_p3_code a_p3_one a_p3_other a_p3_mate v_depth v_open v_p1_filled v_p1_end v_p1_at v_p1_kind v_p1_place v_p1_word v_p1_key v_p1_number v_p1_faultKind v_p1_faultPlace v_p1_keys v_p1_tape v_p2_cells v_p2_secrets v_p2_pages v_p2_blind v_p2_rubs v_p2_cellNames v_p2_pageNames v_p2_secretNames u1 u2 u3 v_p3_code v_p3_mate v_p3_one v_p3_other) H := hP
  refine lv_aload_n hx hb dX6_take_4 rfl (lv_at hl 0 rfl) ?_
  refine lv_iconst (v := (nI 0)) hx hb dX6_take_5 (by decide) ?_
  refine mp_putf X fl_X6_15 fp_X6 rfl hK hP (mp_D_of hD rfl) hS 0 rfl rfl rfl (Nat.le_of_ble_eq_true rfl) dX6_take_6 (fun H locs hP _ hS => ?_)
  replace hP : va_P D mp_cl (k_X6_take T a_ a_open a_p1 a_p1_tape a_p1_keys a_p2 a_p2_cellNames a_p2_secretNames a_p2_pageNames a_p2_speed a_p2_letters a_p2_room a_p2_now a_p2_rounds a_p3 a_p3_code a_p3_one a_p3_other a_p3_mate (nI 0) v_open v_p1_filled v_p1_end v_p1_at v_p1_kind v_p1_place v_p1_word v_p1_key v_p1_number v_p1_faultKind v_p1_faultPlace v_p1_keys v_p1_tape v_p2_cells v_p2_secrets v_p2_pages v_p2_blind v_p2_rubs v_p2_cellNames v_p2_pageNames v_p2_secretNames u1 u2 u3 v_p3_code v_p3_mate v_p3_one v_p3_other) H := hP
  refine lv_iconst (v := (nI 1)) hx hb dX6_take_9 (by decide) ?_
  refine lv_istore (lv' := [(4, .int (nI 1)), (0, .ref a_), (1, .ref a_p1), (2, .ref a_p2), (3, .ref a_p3)]) hx hb dX6_take_10 hl (by decide) rfl (fun ls hl => ?_)
  refine lv_iconst (v := (nI 0)) hx hb dX6_take_12 (by decide) ?_
  refine lv_istore (lv' := [(5, .int (nI 0)), (4, .int (nI 1)), (0, .ref a_), (1, .ref a_p1), (2, .ref a_p2), (3, .ref a_p3)]) hx hb dX6_take_13 hl (by decide) rfl (fun ls hl => ?_)
  exact w_X6_take_15 X hK hA  fu a_ a_open a_p1 a_p1_tape a_p1_keys a_p2 a_p2_cellNames a_p2_secretNames a_p2_pageNames a_p2_speed a_p2_letters a_p2_room a_p2_now a_p2_rounds a_p3 a_p3_code a_p3_one a_p3_other a_p3_mate v_p1_filled v_p2_blind v_p2_rubs v_p1_end v_p1_keys v_p1_tape v_p2_cells v_p2_secrets v_p2_pages v_p2_cellNames v_p2_pageNames v_p2_secretNames r_ o_depth o_open o_p1_at o_p1_kind o_p1_place o_p1_word o_p1_key o_p1_number o_p1_faultKind o_p1_faultPlace o_p3_present o_p3_steps o_p3_size o_p3_code o_p3_mate o_p3_one o_p3_other   fu (nI 1) (nI 0) (nI 0) v_open v_p1_at v_p1_kind v_p1_place v_p1_word v_p1_key v_p1_number v_p1_faultKind v_p1_faultPlace u1 u2 u3 v_p3_code v_p3_mate v_p3_one v_p3_other hf _ _ _ hP (mp_D_of hD rfl) hS (lv_sub hl [2, 3, 4, 5, 1, 0] rfl)


def k_X8_hasRoomFor (T : Nat → ClassId) (a_ a_tape a_keys : Nat) (v_filled : Int32) (v_end : Int32) (v_at : Int32) (v_kind : Int32) (v_place : Int32) (v_word : Int64) (v_key : Int32) (v_number : Int32) (v_faultKind : Int32) (v_faultPlace : Int32) : va_W := [(a_, oX8 a_tape v_filled v_end v_at v_kind v_place v_word v_key v_number v_faultKind v_faultPlace a_keys)]
set_option maxHeartbeats 4000000 in
set_option maxRecDepth 100000 in
theorem c_X8_hasRoomFor (l : Launch) (D : va_G) (T : Nat → ClassId) (a_ a_tape a_keys : Nat) (x1 : Int32) (v_end : Int32) (v_at : Int32) (v_kind : Int32) (v_place : Int32) (v_word : Int64) (v_key : Int32) (v_number : Int32) (v_faultKind : Int32) (v_faultPlace : Int32) (v_filled : Int32) (r_ : Int32) (hf : f_X8_hasRoomFor x1 v_filled = some r_) :
    mp_M l D T yX8_hasRoomFor cX8_hasRoomFor 2 (some .boolean) ({ frames := 0, cells := 0, slots := 0, locals := 0 }) 0 0 [.ref a_, .int x1] (k_X8_hasRoomFor T a_ a_tape a_keys v_filled v_end v_at v_kind v_place v_word v_key v_number v_faultKind v_faultPlace) (mp_Qi D r_ (k_X8_hasRoomFor T a_ a_tape a_keys v_filled v_end v_at v_kind v_place v_word v_key v_number v_faultKind v_faultPlace)) := by
  refine mp_of (by decide) (Nat.le_of_ble_eq_true rfl) rfl ?_
  intro p e s m args below meth c A ls X hK hP hD hS hA hl
  replace X : mp_X p s m meth c args RX8 "hasRoomFor" cX8_hasRoomFor 2 (some .boolean) := X
  have hx := X.1
  have hb := X.2.1
  have hml := X.2.2.1
  have hown := X.2.2.2.2.1
  have hts := X.2.2.2.2.2.1
  replace hl : lv_has ls 2 [(0, .ref a_), (1, .int x1)] := hl
  replace hf : (if (nI 900) < (v_filled + x1) then some ((nI 0)) else some ((nI 1))) = some r_ := hf
  refine lv_aload_n hx hb dX8_hasRoomFor_0 rfl (lv_at hl 0 rfl) ?_
  refine mp_get X fl_X8_15 hK hP 0 rfl rfl dX8_hasRoomFor_1 ?_
  refine lv_iload_n hx hb dX8_hasRoomFor_4 rfl (lv_at hl 1 rfl) ?_
  refine lv_iadd hx hb dX8_hasRoomFor_5 ?_
  refine lv_sipush (v := (nI 900)) hx hb dX8_hasRoomFor_6 (by decide) ?_
  refine lv_icmp_gt (tgt := 16) hx hb dX8_hasRoomFor_9 (by decide) (fun h1 => ?_) (fun h1 => ?_)
  · replace hf := if_t hf h1
    refine lv_iconst (v := (nI 0)) hx hb dX8_hasRoomFor_16 (by decide) ?_
    cases hf
    exact mp_retz X hP hS rfl (Or.inl rfl) dX8_hasRoomFor_17
  · replace hf := if_f hf h1
    refine lv_iconst (v := (nI 1)) hx hb dX8_hasRoomFor_12 (by decide) ?_
    refine lv_goto (tgt := 17) hx hb dX8_hasRoomFor_13 (by decide) ?_
    cases hf
    exact mp_retz X hP hS rfl (Or.inr rfl) dX8_hasRoomFor_17


def k_X8_append (T : Nat → ClassId) (a_ a_tape a_keys : Nat) (v_filled : Int32) (v_end : Int32) (v_at : Int32) (v_kind : Int32) (v_place : Int32) (v_word : Int64) (v_key : Int32) (v_number : Int32) (v_faultKind : Int32) (v_faultPlace : Int32) (v_tape : (Nat → Int32)) : va_W := [(a_, oX8 a_tape v_filled v_end v_at v_kind v_place v_word v_key v_number v_faultKind v_faultPlace a_keys), (a_tape, mp_aB T 900 v_tape)]
set_option maxHeartbeats 4000000 in
set_option maxRecDepth 100000 in
theorem w_X8_append_3 {p : Program} {l : Launch} {e : Env} {s : State} {m : MethodId} {args : Array Value} {below : List Frame} {meth : Method} {c : Code} {D : va_G} {T : Nat → ClassId} {A : Nat → Prop} (X : mp_X p s m meth c args RX8 "append" cX8_append 3 none) (hK : va_K D mp_cl (mp_ty T) s) (hA : ∀ q, s.heap.size ≤ q → A q) (fu : Nat) (a_ a_tape a_keys : Nat) (v_end : Int32) (v_at : Int32) (v_kind : Int32) (v_place : Int32) (v_word : Int64) (v_key : Int32) (v_number : Int32) (v_faultKind : Int32) (v_faultPlace : Int32) (o_filled : Int32) (o_tape : (Nat → Int32)) :
    ∀ (n : Nat) (z1 : Int32) (z2 : Int32) (v_filled : Int32) (v_tape : (Nat → Int32)), f_X8_append_3 fu   n z1 z2 v_filled v_tape = some (o_filled, o_tape) → ∀ (H : Heap) (locs : List Loc) (ls : Array Slot), va_P D mp_cl (k_X8_append T a_ a_tape a_keys v_filled v_end v_at v_kind v_place v_word v_key v_number v_faultKind v_faultPlace v_tape) H → va_D A (k_X8_append T a_ a_tape a_keys v_filled v_end v_at v_kind v_place v_word v_key v_number v_faultKind v_faultPlace v_tape) → va_S A s.heap H locs → lv_has ls 3 [(0, .ref a_), (1, .int z1), (2, .int z2)] → W p l e ({ frames := 0, cells := 0, slots := 0, locals := 0 }) s m args below meth c H locs 0 0 (MQ below ((mp_Qv D (k_X8_append T a_ a_tape a_keys o_filled v_end v_at v_kind v_place v_word v_key v_number v_faultKind v_faultPlace o_tape)) A) args s 0 0 A) (F0 m 3 ls []) := by
  have hx := X.1
  have hb := X.2.1
  have hml := X.2.2.1
  have hown := X.2.2.2.2.1
  have hts := X.2.2.2.2.2.1
  intro n
  induction n with
  | zero => intro z1 z2 v_filled v_tape hf; exact absurd hf (by intro h; cases h)
  | succ n ih =>
    intro z1 z2 v_filled v_tape hf H locs ls hP hD hS hl
    replace hf : (if z2 < 0 then some (v_filled, v_tape) else (if (nI 900) ≤ v_filled then some (v_filled, v_tape) else gi_ v_filled 900 (lt_ (v_filled + (nI 1)) (fun (y4 : Int32) => lt_ (z2 + (-8 : Int32)) (fun (y5 : Int32) => f_X8_append_3 fu   n z1 y5 y4 (upd v_tape (v_filled).toNatClampNeg (vp_nar .byte (z1 >>> (z2 &&& (31 : Int32))).toInt8.toInt32))))))) = some (o_filled, o_tape) := hf
    refine lv_iload_n hx hb dX8_append_3 rfl (lv_at hl 2 rfl) ?_
    refine lv_if_lt (tgt := 46) hx hb dX8_append_4 (by decide) (fun h1 => ?_) (fun h1 => ?_)
    · replace hf := if_t hf h1
      cases hf
      exact mp_retv X hP hS dX8_append_46
    · replace hf := if_f hf h1
      refine lv_aload_n hx hb dX8_append_7 rfl (lv_at hl 0 rfl) ?_
      refine mp_get X fl_X8_15 hK hP 0 rfl rfl dX8_append_8 ?_
      refine lv_sipush (v := (nI 900)) hx hb dX8_append_11 (by decide) ?_
      refine lv_icmp_ge (tgt := 46) hx hb dX8_append_14 (by decide) (fun h2 => ?_) (fun h2 => ?_)
      · replace hf := if_t hf h2
        cases hf
        exact mp_retv X hP hS dX8_append_46
      · replace hf := if_f hf h2
        refine lv_aload_n hx hb dX8_append_17 rfl (lv_at hl 0 rfl) ?_
        refine mp_get X fl_X8_9 hK hP 0 rfl rfl dX8_append_18 ?_
        refine lv_aload_n hx hb dX8_append_21 rfl (lv_at hl 0 rfl) ?_
        refine mp_get X fl_X8_15 hK hP 0 rfl rfl dX8_append_22 ?_
        refine lv_iload_n hx hb dX8_append_25 rfl (lv_at hl 1 rfl) ?_
        refine lv_iload_n hx hb dX8_append_26 rfl (lv_at hl 2 rfl) ?_
        refine lv_ishr hx hb dX8_append_27 ?_
        refine lv_i2b hx hb dX8_append_28 rfl ?_
        obtain ⟨h3, hf⟩ := gi_of hf
        refine va_bast hx hb hK hP (mp_D_of hD rfl) hS 1 2 rfl rfl h3 dX8_append_29 (fun H locs hP _ hS => ?_)
        replace hP : va_P D mp_cl (k_X8_append T a_ a_tape a_keys v_filled v_end v_at v_kind v_place v_word v_key v_number v_faultKind v_faultPlace (upd v_tape (v_filled).toNatClampNeg (vp_nar .byte (z1 >>> (z2 &&& (31 : Int32))).toInt8.toInt32))) H := hP
        refine lv_aload_n hx hb dX8_append_30 rfl (lv_at hl 0 rfl) ?_
        refine lv_dup hx hb dX8_append_31 rfl ?_
        refine mp_get X fl_X8_15 hK hP 0 rfl rfl dX8_append_32 ?_
        refine lv_iconst (v := (nI 1)) hx hb dX8_append_35 (by decide) ?_
        refine lv_iadd hx hb dX8_append_36 ?_
        refine lv_topi (fun y4 e4 => ?_)
        replace hf := lt_of e4 hf
        refine mp_putf X fl_X8_15 fp_X8 rfl hK hP (mp_D_of hD rfl) hS 0 rfl rfl rfl (Nat.le_of_ble_eq_true rfl) dX8_append_37 (fun H locs hP _ hS => ?_)
        replace hP : va_P D mp_cl (k_X8_append T a_ a_tape a_keys y4 v_end v_at v_kind v_place v_word v_key v_number v_faultKind v_faultPlace (upd v_tape (v_filled).toNatClampNeg (vp_nar .byte (z1 >>> (z2 &&& (31 : Int32))).toInt8.toInt32))) H := hP
        obtain ⟨y5, e5⟩ : ∃ y : Int32, y = z2 + (-8 : Int32) := ⟨_, rfl⟩
        replace hf := lt_of e5 hf
        refine lv_iinc (v := y5) (lv' := [(2, .int y5), (0, .ref a_), (1, .int z1)]) hx hb dX8_append_40 hl (k := 2) rfl (by rw [e5]; rfl) (by decide) rfl (fun ls hl => ?_)
        refine lv_goto (tgt := 3) hx hb dX8_append_43 (by decide) ?_
        exact ih z1 y5 y4 (upd v_tape (v_filled).toNatClampNeg (vp_nar .byte (z1 >>> (z2 &&& (31 : Int32))).toInt8.toInt32)) hf _ _ _ hP (mp_D_of hD rfl) hS (lv_sub hl [1, 2, 0] rfl)

set_option maxHeartbeats 4000000 in
set_option maxRecDepth 100000 in
theorem c_X8_append (l : Launch) (D : va_G) (T : Nat → ClassId) (fu : Nat) (a_ a_tape a_keys : Nat) (x1 : Int32) (v_end : Int32) (v_at : Int32) (v_kind : Int32) (v_place : Int32) (v_word : Int64) (v_key : Int32) (v_number : Int32) (v_faultKind : Int32) (v_faultPlace : Int32) (v_filled : Int32) (v_tape : (Nat → Int32)) (o_filled : Int32) (o_tape : (Nat → Int32)) (hf : f_X8_append fu x1 v_filled v_tape = some (o_filled, o_tape)) :
    mp_M l D T yX8_append cX8_append 3 none ({ frames := 0, cells := 0, slots := 0, locals := 0 }) 0 0 [.ref a_, .int x1] (k_X8_append T a_ a_tape a_keys v_filled v_end v_at v_kind v_place v_word v_key v_number v_faultKind v_faultPlace v_tape) (mp_Qv D (k_X8_append T a_ a_tape a_keys o_filled v_end v_at v_kind v_place v_word v_key v_number v_faultKind v_faultPlace o_tape)) := by
  refine mp_of (by decide) (Nat.le_of_ble_eq_true rfl) rfl ?_
  intro p e s m args below meth c A ls X hK hP hD hS hA hl
  replace X : mp_X p s m meth c args RX8 "append" cX8_append 3 none := X
  have hx := X.1
  have hb := X.2.1
  have hml := X.2.2.1
  have hown := X.2.2.2.2.1
  have hts := X.2.2.2.2.2.1
  replace hl : lv_has ls 3 [(0, .ref a_), (1, .int x1)] := hl
  replace hf : f_X8_append_3 fu   fu x1 (nI 24) v_filled v_tape = some (o_filled, o_tape) := hf
  refine lv_bipush (v := (nI 24)) hx hb dX8_append_0 (by decide) ?_
  refine lv_istore_n (lv' := [(2, .int (nI 24)), (0, .ref a_), (1, .int x1)]) hx hb dX8_append_2 rfl hl (by decide) rfl (fun ls hl => ?_)
  exact w_X8_append_3 X hK hA  fu a_ a_tape a_keys v_end v_at v_kind v_place v_word v_key v_number v_faultKind v_faultPlace o_filled o_tape   fu x1 (nI 24) v_filled v_tape hf _ _ _ hP (mp_D_of hD rfl) hS (lv_sub hl [1, 2, 0] rfl)


def k_X8_empty (T : Nat → ClassId) (a_ a_tape a_keys : Nat) (v_filled : Int32) (v_end : Int32) (v_at : Int32) (v_kind : Int32) (v_place : Int32) (v_word : Int64) (v_key : Int32) (v_number : Int32) (v_faultKind : Int32) (v_faultPlace : Int32) : va_W := [(a_, oX8 a_tape v_filled v_end v_at v_kind v_place v_word v_key v_number v_faultKind v_faultPlace a_keys)]
set_option maxHeartbeats 4000000 in
set_option maxRecDepth 100000 in
theorem c_X8_empty (l : Launch) (D : va_G) (T : Nat → ClassId) (a_ a_tape a_keys : Nat) (v_end : Int32) (v_at : Int32) (v_kind : Int32) (v_place : Int32) (v_word : Int64) (v_key : Int32) (v_number : Int32) (v_faultKind : Int32) (v_faultPlace : Int32) (v_filled : Int32) (o_filled : Int32) (hf : f_X8_empty v_filled = some o_filled) :
    mp_M l D T yX8_empty cX8_empty 1 none ({ frames := 0, cells := 0, slots := 0, locals := 0 }) 0 0 [.ref a_] (k_X8_empty T a_ a_tape a_keys v_filled v_end v_at v_kind v_place v_word v_key v_number v_faultKind v_faultPlace) (mp_Qv D (k_X8_empty T a_ a_tape a_keys o_filled v_end v_at v_kind v_place v_word v_key v_number v_faultKind v_faultPlace)) := by
  refine mp_of (by decide) (Nat.le_of_ble_eq_true rfl) rfl ?_
  intro p e s m args below meth c A ls X hK hP hD hS hA hl
  replace X : mp_X p s m meth c args RX8 "empty" cX8_empty 1 none := X
  have hx := X.1
  have hb := X.2.1
  have hml := X.2.2.1
  have hown := X.2.2.2.2.1
  have hts := X.2.2.2.2.2.1
  replace hl : lv_has ls 1 [(0, .ref a_)] := hl
  replace hf : some ((nI 0)) = some o_filled := hf
  refine lv_aload_n hx hb dX8_empty_0 rfl (lv_at hl 0 rfl) ?_
  refine lv_iconst (v := (nI 0)) hx hb dX8_empty_1 (by decide) ?_
  refine mp_putf X fl_X8_15 fp_X8 rfl hK hP (mp_D_of hD rfl) hS 0 rfl rfl rfl (Nat.le_of_ble_eq_true rfl) dX8_empty_2 (fun H locs hP _ hS => ?_)
  replace hP : va_P D mp_cl (k_X8_empty T a_ a_tape a_keys (nI 0) v_end v_at v_kind v_place v_word v_key v_number v_faultKind v_faultPlace) H := hP
  cases hf
  exact mp_retv X hP hS dX8_empty_5


def k_X8_begin (T : Nat → ClassId) (a_ a_tape a_keys : Nat) (v_filled : Int32) (v_end : Int32) (v_at : Int32) (v_kind : Int32) (v_place : Int32) (v_word : Int64) (v_key : Int32) (v_number : Int32) (v_faultKind : Int32) (v_faultPlace : Int32) (v_keys : (Nat → Int64)) (v_tape : (Nat → Int32)) : va_W := [(a_, oX8 a_tape v_filled v_end v_at v_kind v_place v_word v_key v_number v_faultKind v_faultPlace a_keys), (a_keys, mp_aJ T 24 v_keys), (a_tape, mp_aB T 900 v_tape)]
set_option maxHeartbeats 4000000 in
set_option maxRecDepth 100000 in
theorem c_X8_begin (l : Launch) (D : va_G) (T : Nat → ClassId) (fu : Nat) (a_ a_tape a_keys : Nat) (x1 : Int32) (v_filled : Int32) (v_end : Int32) (v_at : Int32) (v_kind : Int32) (v_place : Int32) (v_word : Int64) (v_key : Int32) (v_number : Int32) (v_faultKind : Int32) (v_faultPlace : Int32) (v_keys : (Nat → Int64)) (v_tape : (Nat → Int32)) (r_ : Int32) (o_end : Int32) (o_at : Int32) (o_kind : Int32) (o_place : Int32) (o_word : Int64) (o_key : Int32) (o_number : Int32) (o_faultKind : Int32) (o_faultPlace : Int32) (hf : f_X8_begin fu x1 v_filled v_end v_at v_kind v_place v_word v_key v_number v_faultKind v_faultPlace v_keys v_tape = some (r_, o_end, o_at, o_kind, o_place, o_word, o_key, o_number, o_faultKind, o_faultPlace)) :
    mp_M l D T yX8_begin cX8_begin 2 (some .boolean) ({ frames := 3, cells := 0, slots := 0, locals := 65 }) 0 0 [.ref a_, .int x1] (k_X8_begin T a_ a_tape a_keys v_filled v_end v_at v_kind v_place v_word v_key v_number v_faultKind v_faultPlace v_keys v_tape) (mp_Qi D r_ (k_X8_begin T a_ a_tape a_keys v_filled o_end o_at o_kind o_place o_word o_key o_number o_faultKind o_faultPlace v_keys v_tape)) := by
  refine mp_of (by decide) (Nat.le_of_ble_eq_true rfl) rfl ?_
  intro p e s m args below meth c A ls X hK hP hD hS hA hl
  replace X : mp_X p s m meth c args RX8 "begin" cX8_begin 2 (some .boolean) := X
  have hx := X.1
  have hb := X.2.1
  have hml := X.2.2.1
  have hown := X.2.2.2.2.1
  have hts := X.2.2.2.2.2.1
  replace hl : lv_has ls 2 [(0, .ref a_), (1, .int x1)] := hl
  replace hf : (if x1 < 0 then some ((nI 0), v_end, v_at, v_kind, v_place, v_word, v_key, v_number, v_faultKind, v_faultPlace) else (if x1 ≤ v_filled then bd_ (f_X8_forward fu x1 (nI 0) v_kind v_place v_word v_key v_number v_keys v_tape) (fun (z : Int32 × Int32 × Int32 × Int64 × Int32 × Int32) => match z with | (u3, u4, u5, u6, u7, u8) => some ((nI 1), x1, u3, u4, u5, u6, u7, u8, (nI 0), (-1 : Int32))) else some ((nI 0), v_end, v_at, v_kind, v_place, v_word, v_key, v_number, v_faultKind, v_faultPlace))) = some (r_, o_end, o_at, o_kind, o_place, o_word, o_key, o_number, o_faultKind, o_faultPlace) := hf
  refine lv_iload_n hx hb dX8_begin_0 rfl (lv_at hl 1 rfl) ?_
  refine lv_if_lt (tgt := 12) hx hb dX8_begin_1 (by decide) (fun h1 => ?_) (fun h1 => ?_)
  · replace hf := if_t hf h1
    refine lv_iconst (v := (nI 0)) hx hb dX8_begin_12 (by decide) ?_
    cases hf
    exact mp_retz X hP hS rfl (Or.inl rfl) dX8_begin_13
  · replace hf := if_f hf h1
    refine lv_iload_n hx hb dX8_begin_4 rfl (lv_at hl 1 rfl) ?_
    refine lv_aload_n hx hb dX8_begin_5 rfl (lv_at hl 0 rfl) ?_
    refine mp_get X fl_X8_15 hK hP 0 rfl rfl dX8_begin_6 ?_
    refine lv_icmp_le (tgt := 14) hx hb dX8_begin_9 (by decide) (fun h2 => ?_) (fun h2 => ?_)
    · replace hf := if_t hf h2
      refine lv_aload_n hx hb dX8_begin_14 rfl (lv_at hl 0 rfl) ?_
      refine lv_iload_n hx hb dX8_begin_15 rfl (lv_at hl 1 rfl) ?_
      refine mp_putf X fl_X8_19 fp_X8 rfl hK hP (mp_D_of hD rfl) hS 0 rfl rfl rfl (Nat.le_of_ble_eq_true rfl) dX8_begin_16 (fun H locs hP _ hS => ?_)
      replace hP : va_P D mp_cl (k_X8_begin T a_ a_tape a_keys v_filled x1 v_at v_kind v_place v_word v_key v_number v_faultKind v_faultPlace v_keys v_tape) H := hP
      refine lv_aload_n hx hb dX8_begin_19 rfl (lv_at hl 0 rfl) ?_
      refine lv_iconst (v := (nI 0)) hx hb dX8_begin_20 (by decide) ?_
      refine mp_putf X fl_X8_22 fp_X8 rfl hK hP (mp_D_of hD rfl) hS 0 rfl rfl rfl (Nat.le_of_ble_eq_true rfl) dX8_begin_21 (fun H locs hP _ hS => ?_)
      replace hP : va_P D mp_cl (k_X8_begin T a_ a_tape a_keys v_filled x1 (nI 0) v_kind v_place v_word v_key v_number v_faultKind v_faultPlace v_keys v_tape) H := hP
      refine lv_aload_n hx hb dX8_begin_24 rfl (lv_at hl 0 rfl) ?_
      refine lv_iconst (v := (nI 0)) hx hb dX8_begin_25 (by decide) ?_
      refine mp_putf X fl_X8_43 fp_X8 rfl hK hP (mp_D_of hD rfl) hS 0 rfl rfl rfl (Nat.le_of_ble_eq_true rfl) dX8_begin_26 (fun H locs hP _ hS => ?_)
      replace hP : va_P D mp_cl (k_X8_begin T a_ a_tape a_keys v_filled x1 (nI 0) v_kind v_place v_word v_key v_number (nI 0) v_faultPlace v_keys v_tape) H := hP
      refine lv_aload_n hx hb dX8_begin_29 rfl (lv_at hl 0 rfl) ?_
      refine lv_iconst (v := (-1 : Int32)) hx hb dX8_begin_30 (by decide) ?_
      refine mp_putf X fl_X8_46 fp_X8 rfl hK hP (mp_D_of hD rfl) hS 0 rfl rfl rfl (Nat.le_of_ble_eq_true rfl) dX8_begin_31 (fun H locs hP _ hS => ?_)
      replace hP : va_P D mp_cl (k_X8_begin T a_ a_tape a_keys v_filled x1 (nI 0) v_kind v_place v_word v_key v_number (nI 0) (-1 : Int32) v_keys v_tape) H := hP
      refine lv_aload_n hx hb dX8_begin_34 rfl (lv_at hl 0 rfl) ?_
      obtain ⟨⟨u3, u4, u5, u6, u7, u8⟩, c9, hf⟩ := bd_of hf
      dsimp only at hf
      have hPc := hP.sub (ws' := (k_X8_forward T a_ a_tape a_keys v_filled x1 (nI 0) v_kind v_place v_word v_key v_number (nI 0) (-1 : Int32) v_keys v_tape)) [0, 1, 2] rfl
      have hDc := (mp_D_of (w1 := (k_X8_begin T a_ a_tape a_keys v_filled x1 (nI 0) v_kind v_place v_word v_key v_number (nI 0) (-1 : Int32) v_keys v_tape)) hD rfl).sub (ws' := (k_X8_forward T a_ a_tape a_keys v_filled x1 (nI 0) v_kind v_place v_word v_key v_number (nI 0) (-1 : Int32) v_keys v_tape)) [0, 1, 2] rfl rfl
      refine mp_callv (isC := [0, 1, 2]) (wc := (k_X8_forward T a_ a_tape a_keys v_filled x1 (nI 0) v_kind v_place v_word v_key v_number (nI 0) (-1 : Int32) v_keys v_tape)) (w1 := (k_X8_forward T a_ a_tape a_keys v_filled x1 u3 u4 u5 u6 u7 u8 (nI 0) (-1 : Int32) v_keys v_tape)) hP (mp_D_of hD rfl) hS hA rfl rfl (mp_runV (As := []) (rest := []) X me_X8_forward lk_X8_71 (c_X8_forward l D T fu a_ a_tape a_keys v_filled (nI 0) (-1 : Int32) x1 (nI 0) v_kind v_place v_word v_key v_number v_keys v_tape u3 u4 u5 u6 u7 u8 c9) rfl rfl ⟨(Nat.le_of_ble_eq_true rfl), (Nat.le_of_ble_eq_true rfl)⟩ hK hPc hDc rfl rfl rfl rfl hl.1 rfl (Nat.le_of_ble_eq_true rfl) dX8_begin_35 ⟨Nat.zero_le _, Nat.zero_le _⟩) (fun H locs hP _ hS => ?_)
      replace hP : va_P D mp_cl (k_X8_begin T a_ a_tape a_keys v_filled x1 u3 u4 u5 u6 u7 u8 (nI 0) (-1 : Int32) v_keys v_tape) H := hP
      refine lv_iconst (v := (nI 1)) hx hb dX8_begin_38 (by decide) ?_
      cases hf
      exact mp_retz X hP hS rfl (Or.inr rfl) dX8_begin_39
    · replace hf := if_f hf h2
      refine lv_iconst (v := (nI 0)) hx hb dX8_begin_12 (by decide) ?_
      cases hf
      exact mp_retz X hP hS rfl (Or.inl rfl) dX8_begin_13

