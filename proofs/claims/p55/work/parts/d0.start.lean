/-! the start: the texts, the statics that String's methods read -/
def tk_fl : List Cond := flatC (Jvm.Cond.and given_1 narrow_1)
def tk_t (t : Nat) : Term := Term.string (so t) (si t)
def tk_bs : List Nat := [9, 141, 150, 163, 176, 190, 200, 216, 235, 251, 269, 288, 308, 329]
def tk_len : List Nat := (List.range 14).map sn
def tk_byt : List (List Int32) := (List.range 14).map sr
theorem tk_len_e : ∀ t, t < 14 → tk_len.getD t 0 = sn t := by decide +kernel
theorem tk_byt_e : ∀ t, t < 14 → tk_byt.getD t [] = sr t := by decide +kernel
def tk_k (t : Nat) : List Cond := [Cond.exactly (tk_t t) "java/lang/String", Cond.eq (.field (tk_t t) "java/lang/String" "coder" "B") (.int 0), Cond.arrayOf (.field (tk_t t) "java/lang/String" "value" "[B") .byte, Cond.eq (.length (.field (tk_t t) "java/lang/String" "value" "[B")) (.int (Int32.ofNat (sn t)))] ++ (List.range (sn t)).map (fun j => Cond.eq (.elem (.field (tk_t t) "java/lang/String" "value" "[B") (.int (Int32.ofNat j))) (.int ((sr t).getD j 0))) ++ (List.range t).map (fun u => Cond.not (Cond.eq (tk_t u) (tk_t t)))
set_option maxRecDepth 100000 in
theorem tk_s0 : (tk_fl.drop (tk_bs.getD 0 0)).take (4 + sn 0 + 0) = tk_k 0 := by decide +kernel
set_option maxRecDepth 100000 in
theorem tk_s1 : (tk_fl.drop (tk_bs.getD 1 0)).take (4 + sn 1 + 1) = tk_k 1 := by decide +kernel
set_option maxRecDepth 100000 in
theorem tk_s2 : (tk_fl.drop (tk_bs.getD 2 0)).take (4 + sn 2 + 2) = tk_k 2 := by decide +kernel
set_option maxRecDepth 100000 in
theorem tk_s3 : (tk_fl.drop (tk_bs.getD 3 0)).take (4 + sn 3 + 3) = tk_k 3 := by decide +kernel
set_option maxRecDepth 100000 in
theorem tk_s4 : (tk_fl.drop (tk_bs.getD 4 0)).take (4 + sn 4 + 4) = tk_k 4 := by decide +kernel
set_option maxRecDepth 100000 in
theorem tk_s5 : (tk_fl.drop (tk_bs.getD 5 0)).take (4 + sn 5 + 5) = tk_k 5 := by decide +kernel
set_option maxRecDepth 100000 in
theorem tk_s6 : (tk_fl.drop (tk_bs.getD 6 0)).take (4 + sn 6 + 6) = tk_k 6 := by decide +kernel
set_option maxRecDepth 100000 in
theorem tk_s7 : (tk_fl.drop (tk_bs.getD 7 0)).take (4 + sn 7 + 7) = tk_k 7 := by decide +kernel
set_option maxRecDepth 100000 in
theorem tk_s8 : (tk_fl.drop (tk_bs.getD 8 0)).take (4 + sn 8 + 8) = tk_k 8 := by decide +kernel
set_option maxRecDepth 100000 in
theorem tk_s9 : (tk_fl.drop (tk_bs.getD 9 0)).take (4 + sn 9 + 9) = tk_k 9 := by decide +kernel
set_option maxRecDepth 100000 in
theorem tk_s10 : (tk_fl.drop (tk_bs.getD 10 0)).take (4 + sn 10 + 10) = tk_k 10 := by decide +kernel
set_option maxRecDepth 100000 in
theorem tk_s11 : (tk_fl.drop (tk_bs.getD 11 0)).take (4 + sn 11 + 11) = tk_k 11 := by decide +kernel
set_option maxRecDepth 100000 in
theorem tk_s12 : (tk_fl.drop (tk_bs.getD 12 0)).take (4 + sn 12 + 12) = tk_k 12 := by decide +kernel
set_option maxRecDepth 100000 in
theorem tk_s13 : (tk_fl.drop (tk_bs.getD 13 0)).take (4 + sn 13 + 13) = tk_k 13 := by decide +kernel
theorem tk_s : ∀ t, t < 14 → (tk_fl.drop (tk_bs.getD t 0)).take (4 + sn t + t) = tk_k t := fun t ht => by
  rcases (show t = 0 ∨ t = 1 ∨ t = 2 ∨ t = 3 ∨ t = 4 ∨ t = 5 ∨ t = 6 ∨ t = 7 ∨ t = 8 ∨ t = 9 ∨ t = 10 ∨ t = 11 ∨ t = 12 ∨ t = 13 by omega) with rfl | rfl | rfl | rfl | rfl | rfl | rfl | rfl | rfl | rfl | rfl | rfl | rfl | rfl
  · exact tk_s0
  · exact tk_s1
  · exact tk_s2
  · exact tk_s3
  · exact tk_s4
  · exact tk_s5
  · exact tk_s6
  · exact tk_s7
  · exact tk_s8
  · exact tk_s9
  · exact tk_s10
  · exact tk_s11
  · exact tk_s12
  · exact tk_s13
theorem tk_m {t : Nat} (ht : t < 14) {c : Cond} (h : c ∈ tk_k t) : c ∈ tk_fl := by
  rw [← tk_s t ht] at h
  exact List.mem_of_mem_drop (List.mem_of_mem_take h)
theorem tk_el {t j : Nat} (ht : t < 14) (hj : j < sn t) : Cond.eq (.elem (.field (tk_t t) "java/lang/String" "value" "[B") (.int (Int32.ofNat j))) (.int ((sr t).getD j 0)) ∈ tk_fl :=
  tk_m ht (List.mem_append_left _ (List.mem_append_right _ (List.mem_map.mpr ⟨j, List.mem_range.mpr hj, rfl⟩)))
theorem tk_ne {t u : Nat} (ht : t < 14) (hu : u < t) : Cond.not (Cond.eq (tk_t u) (tk_t t)) ∈ tk_fl :=
  tk_m ht (List.mem_append_right _ (List.mem_map.mpr ⟨u, List.mem_range.mpr hu, rfl⟩))
theorem tk_4 {t k : Nat} (ht : t < 14) {c : Cond} (h : (tk_k t)[k]? = some c) : c ∈ tk_fl := tk_m ht (List.mem_of_getElem? h)
set_option maxRecDepth 100000 in
theorem tk_rf : (List.range 14).all (fun t => decide (Cond.stringRef (so t) (si t) (sx t) ∈ tables_1)) = true := by decide +kernel
theorem tk_at {p : Nat → Bool} (h : (List.range 14).all p = true) {t : Nat} (ht : t < 14) : p t = true := List.all_eq_true.mp h t (List.mem_range.mpr ht)
theorem law_SYK {s : State} {b : Nat} (hgv : (Jvm.Cond.and given_1 narrow_1).before #[Value.ref b] s = true) (hts : ∀ w ∈ lw_tbl, w.before #[Value.ref b] s = true) : ∃ (K V : Nat → Nat) (F : Option Nat), SYK K V F (law_A s) s s.heap := by
  have hg : ∀ w ∈ tk_fl, w.before #[Value.ref b] s = true := flat_of_before _ hgv
  have hA : ∀ a : Nat, a < s.heap.size → ¬ law_A s a := fun a h => Nat.not_le.mpr h
  obtain ⟨adK, adV, hS, hev⟩ := vk_Sof (args := #[Value.ref b]) (s := s) (N := 14) (tm := tk_t) (len := tk_len) (byt := tk_byt) (A := law_A s)
    (fun i hi => by rw [tk_len_e i hi]; have := sn_lt i hi; omega)
    (fun i hi => hg _ (tk_4 (k := 0) hi rfl))
    (fun i hi => hg _ (tk_4 (k := 1) hi rfl))
    (fun i hi => hg _ (tk_4 (k := 2) hi rfl))
    (fun i hi => hg _ (by rw [tk_len_e i hi]; exact tk_4 (k := 3) hi rfl))
    (fun i hi j hj => hg _ (by rw [tk_len_e i hi] at hj; rw [tk_byt_e i hi]; exact tk_el hi hj))
    (fun i j hi hj hne => by
      rcases Nat.lt_or_ge i j with h | h
      · exact Or.inl (hg _ (tk_ne hj h))
      · exact Or.inr (hg _ (tk_ne hi (by omega)))) hA
  have hc := va_Zof (args := #[Value.ref b]) (v := .int 1) (hts (.laysStatic "java/lang/String" "COMPACT_STRINGS" "Z") (List.mem_append_right _ (List.mem_of_getElem? (i := 114) (by decide +kernel)))) (hts (.initialized "java/lang/String") (List.mem_append_right _ (List.mem_of_getElem? (i := 7) (by decide +kernel)))) (va_eqt (hg _ (by decide +kernel))) hA
  obtain ⟨F, hf⟩ : ∃ F : Option Nat, va_Z "jdk/internal/util/Preconditions" "SIOOBE_FORMATTER" "Ljava/util/function/BiFunction;" (swv F) (law_A s) s s.heap := by
    rcases va_Zqof (args := #[Value.ref b]) (hts (.laysStatic "jdk/internal/util/Preconditions" "SIOOBE_FORMATTER" "Ljava/util/function/BiFunction;") (List.mem_append_right _ (List.mem_of_getElem? (i := 130) (by decide +kernel)))) (hts (.initialized "jdk/internal/util/Preconditions") (List.mem_append_right _ (List.mem_of_getElem? (i := 9) (by decide +kernel)))) (hg (.isRef (.static "jdk/internal/util/Preconditions" "SIOOBE_FORMATTER" "Ljava/util/function/BiFunction;")) (by decide +kernel)) hA with h | ⟨t, h⟩
    · exact ⟨none, h⟩
    · exact ⟨some t, h⟩
  refine ⟨adK, adV, F, fun t ht => ⟨vk_R.of (hts _ (List.mem_append_right _ (of_decide_eq_true (tk_at tk_rf ht)))) (hev t ht), ⟨fun i hi => ?_, fun i j hi hj _ => by omega⟩, hc, hf⟩⟩
  obtain rfl : i = 0 := by omega
  have h := hS.1 t ht
  rw [tk_len_e t ht, tk_byt_e t ht] at h
  exact h
set_option maxRecDepth 100000 in
theorem law_Z {s : State} {b : Nat} (hts : ∀ w ∈ lw_tbl, w.before #[Value.ref b] s = true) : mp_Z s := by
  refine ⟨fun w hw => ?_, ?_, ?_⟩
  · have h : mp_nl.all (fun w => decide (w ∈ tables_1)) = true := by decide +kernel
    have hm := of_decide_eq_true (List.all_eq_true.mp h w hw)
    obtain ⟨a, i, x, hh, rfl⟩ := mp_nl_i hw
    exact va_Nw.of rfl (hts _ (List.mem_append_right _ hm))
  · exact hts (.arrayOver (.object "MarginPlan$Book")) (List.mem_append_right _ (by decide +kernel))
  · exact hts (.arrayOver (.array .long)) (List.mem_append_right _ (by decide +kernel))
theorem law_swap {D : va_G} {ws : va_W} {x y : Nat × va_E} {H : Heap} (h : va_P D mp_cl (x :: y :: ws) H) : va_P D mp_cl (y :: x :: ws) H :=
  law_app (Y := [y]) (law_left (Y := [y]) (law_right (Y := [x]) h)) (law_app (Y := [x]) (law_left (Y := [x]) h) (law_right (Y := [y]) (law_right (Y := [x]) h)))
theorem law_swapD {A : Nat → Prop} {ws : va_W} {x y : Nat × va_E} (h : va_D A (x :: y :: ws)) : va_D A (y :: x :: ws) := by
  have hm : ∀ (k : Nat) (q : Nat × va_E), (y :: x :: ws)[k]? = some q → (x :: y :: ws)[if k = 0 then 1 else if k = 1 then 0 else k]? = some q := by
    intro k q hq
    match k with
    | 0 => exact hq
    | 1 => exact hq
    | k + 2 => exact hq
  refine ⟨fun i j p q hp hq e => ?_, fun k q hq => h.2 _ q (hm k q hq)⟩
  have h1 := h.1 _ _ p q (hm i p hp) (hm j q hq) e
  by_cases i0 : i = 0
  · by_cases j0 : j = 0
    · omega
    · rw [if_pos i0, if_neg j0] at h1
      split at h1 <;> omega
  · rw [if_neg i0] at h1
    by_cases j0 : j = 0
    · rw [if_pos j0] at h1
      split at h1 <;> omega
    · rw [if_neg j0] at h1
      split at h1 <;> split at h1 <;> omega
set_option maxHeartbeats 4000000 in
set_option maxRecDepth 100000 in
theorem whole_start {p : Program} {e : Env} {s : State} {m : MethodId} {below : List Frame} {meth : Method} {c : Code} (l : Launch) (hflags : l.flags = flags0) {b L : Nat} {xs : Nat → Int32} (hL : L ≤ 260) (C0 : lw_At p s m meth c b L xs) : W p l e room_1 s m #[Value.ref b] below meth c s.heap [] 0 0 (lw_Z below #[Value.ref b] s) (entryFrame m ([Value.ref b] : List Value).toArray 29) := by
  obtain ⟨hx, hb, hr, hml, hown, hts, hX, hbl, hlocks, hgv⟩ := C0
  have htB : ∀ w ∈ mp_B, w.before #[Value.ref b] s = true := fun w hw => hts w (List.mem_filter.mp hw).1
  have hZ : mp_Z s := law_Z hts
  obtain ⟨K, V, F, hYK⟩ := law_SYK hgv hts
  have hY : mp_SY (law_A s) s s.heap := ⟨K, V, F, hYK⟩
  obtain ⟨D, T, hK⟩ := mp_known htB hZ.2.2 hZ.2.1
  have X : mp_X p s m meth c #[.ref b] RL meth.name cL_law 29 (some .boolean) := ⟨hx, hb, hml, hr, hown, htB, hlocks, rfl⟩
  have hA : ∀ q, s.heap.size ≤ q → law_A s q := fun q h => h
  have hbA : ¬ law_A s b := Nat.not_le.mpr hbl
  have hP : va_P D mp_cl [] s.heap := sw_nil _
  have hD : va_D (law_A s) [] := sw_nilD
  have hS : va_S (law_A s) s.heap s.heap [] := va_S.rf
  have hl := lv_entry [Value.ref b] (n := 29) (Nat.le_of_ble_eq_true rfl)
  rw [lg_entry_eq]
  generalize ((lg_sl [Value.ref b] ++ List.replicate (29 - (lg_sl [Value.ref b]).length) Slot.unset).toArray) = ls at hl ⊢
  replace hl : lv_has ls 29 [(0, .ref b)] := hl
  refine mp_new (ci := 11) (fs := [.int (nI 0), .null, .null, .null, .null, .null, .null, .null, .null, .null, .int (nI 0), .null, .null, .null, .int (nI 0)]) X fp_X11 win_X11 cl_L_18 ins_X11 me_X11_init.2.1 hK hP hD hS hA rfl (by intro j hj; rcases (show j = 0 ∨ j = 1 ∨ j = 2 ∨ j = 3 ∨ j = 4 ∨ j = 5 ∨ j = 6 ∨ j = 7 ∨ j = 8 ∨ j = 9 ∨ j = 10 ∨ j = 11 ∨ j = 12 ∨ j = 13 ∨ j = 14 by omega) with rfl | rfl | rfl | rfl | rfl | rfl | rfl | rfl | rfl | rfl | rfl | rfl | rfl | rfl | rfl <;> rfl) (Nat.le_of_ble_eq_true rfl) (Nat.le_of_ble_eq_true rfl) dL_law_0 (fun x H hP hD hS => ?_)
  replace hP : va_P D mp_cl [(x, .inr (11, [.int (nI 0), .null, .null, .null, .null, .null, .null, .null, .null, .null, .int (nI 0), .null, .null, .null, .int (nI 0)]))] H := hP
  replace hD : va_D (law_A s) [(x, .inr (11, [.int (nI 0), .null, .null, .null, .null, .null, .null, .null, .null, .null, .int (nI 0), .null, .null, .null, .int (nI 0)]))] := hD
  refine lv_dup hx hb dL_law_3 rfl ?_
  refine mp_callc (isC := [0]) (isR := []) (wc := [(x, .inr (11, [.int (nI 0), .null, .null, .null, .null, .null, .null, .null, .null, .null, .int (nI 0), .null, .null, .null, .int (nI 0)]))]) (wr := []) (w1 := w_X11 T x) hP hD hS hA rfl rfl (by decide) (by decide) (mp_runIG (As := []) (rest := [.ref x]) hZ hY hS hA X me_X11_init lk_L_110 (i_Y11 l D T x) rfl rfl ⟨(Nat.le_of_ble_eq_true rfl), (Nat.le_of_ble_eq_true rfl)⟩ hK hP hD rfl hl.1 rfl (Nat.le_of_ble_eq_true rfl) dL_law_4 ⟨(Nat.le_of_ble_eq_true rfl), (Nat.le_of_ble_eq_true rfl)⟩) (fun q H locs hP hD hS => ?_)
  replace hP : va_P D mp_cl (w_X11 T x q) H := hP
  replace hD : va_D (law_A s) (w_X11 T x q) := hD
  rw [aW_start] at hP hD
  generalize hae : a0 x q = a at hP hD
  have ha0 : a 0 = x := by rw [← hae]; rfl
  rw [← ha0]
  refine lv_astore_n (lv' := [(1, .ref (a 0)), (0, .ref b)]) hx hb dL_law_7 rfl hl (by decide) rfl (fun ls hl => ?_)
  refine lv_bipush (v := (nI 24)) hx hb dL_law_8 (by decide) ?_
  refine mp_newI (N := 24) X hK hP hD hS hA (by decide) (by decide) (by decide) (Nat.le_of_ble_eq_true rfl) (Nat.le_of_ble_eq_true rfl) dL_law_10 (fun am H hP hD hS => ?_)
  replace hP := law_rot hP
  replace hD := law_rotD hD
  refine lv_astore_n (lv' := [(2, .ref am), (1, .ref (a 0)), (0, .ref b)]) hx hb dL_law_12 rfl hl (by decide) rfl (fun ls hl => ?_)
  refine lv_bipush (v := (nI 62)) hx hb dL_law_13 (by decide) ?_
  refine mp_newI (N := 62) X hK hP hD hS hA (by decide) (by decide) (by decide) (Nat.le_of_ble_eq_true rfl) (Nat.le_of_ble_eq_true rfl) dL_law_15 (fun ah H hP hD hS => ?_)
  replace hP := law_swap (law_rot hP)
  replace hD := law_swapD (law_rotD hD)
  refine lv_astore_n (lv' := [(3, .ref ah), (2, .ref am), (1, .ref (a 0)), (0, .ref b)]) hx hb dL_law_17 rfl hl (by decide) rfl (fun ls hl => ?_)
  have hf := p55_pure L xs hL
  unfold f_law at hf
  obtain ⟨vh, hd, hf⟩ := bd_of hf
  obtain ⟨⟨rr, σ⟩, hy, hf⟩ := bd_of hf
  dsimp only at hf
  by_cases h0 : rr = 0
  · exact absurd (Option.some.inj (if_t hf h0)) (by decide)
  replace hf := if_f hf h0
  have G : ∀ (ls : Array Slot), lv_has ls 29 [(4, .int (f_lawc L xs)), (3, .ref ah), (2, .ref am), (1, .ref (a 0)), (0, .ref b)] → W p l e room_1 s m #[Value.ref b] below meth c H locs (0 + 1 + 145 + 1 + 1) (0 + 15 + 3658 + 24 + 62) (lw_Z below #[Value.ref b] s) (F0 m 35 ls []) := by
    intro ls hl
    refine lv_aload_n hx hb dL_law_35 rfl (lv_at hl 4 rfl) ?_
    refine lv_iconst (v := (nI 4)) hx hb dL_law_36 (by decide) ?_
    refine lv_aload_n hx hb dL_law_37 rfl (lv_at hl 1 rfl) ?_
    have hPc := hP.sub (ws' := [(ah, mp_aI T 62 (fun _ => nI 0))]) [1] rfl
    have hDc := hD.sub (ws' := [(ah, mp_aI T 62 (fun _ => nI 0))]) [1] (by decide) rfl
    refine mp_callv (isC := [1]) (wc := [(ah, mp_aI T 62 (fun _ => nI 0))]) (w1 := [(ah, mp_aI T 62 vh)]) hP hD hS hA rfl rfl (mp_runSD (As := [.ref b, .int (nI 4), .ref ah]) (rest := []) hX hbl hbA hS X me_L_draw lk_L_111 (c_L_draw l D T b L xs ah 100000 (nI 4) (fun _ => nI 0) vh hd) rfl rfl ⟨(Nat.le_of_ble_eq_true rfl), (Nat.le_of_ble_eq_true rfl)⟩ hK hPc hDc rfl hl.1 rfl (Nat.le_of_ble_eq_true rfl) dL_law_38 ⟨(Nat.le_of_ble_eq_true rfl), (Nat.le_of_ble_eq_true rfl)⟩) (fun H locs hP hD hS => ?_)
    replace hP : va_P D mp_cl (lW T a am ah vh (nI 0) (f0 6) (fun _ => nI 0)) H := hP
    replace hD : va_D (law_A s) (lW T a am ah vh (nI 0) (f0 6) (fun _ => nI 0)) := hD
    refine lv_aload_n hx hb dL_law_41 rfl (lv_at hl 3 rfl) ?_
    refine lv_aload_n hx hb dL_law_42 rfl (lv_at hl 2 rfl) ?_
    refine lv_aload_n hx hb dL_law_43 rfl (lv_at hl 1 rfl) ?_
    have hF := va_free hD hS hA (List.range 148) (wc := lW T a am ah vh (nI 0) (f0 6) (fun _ => nI 0)) rfl
    refine va_calli (mp_runSH (As := [.ref (a 0), .ref am, .ref ah]) (rest := []) hYK hS hA X me_L_lay lk_L_115 (c_L_lay l D T K V F a am ah 100000 vh rr σ hy) rfl rfl ⟨(Nat.le_of_ble_eq_true rfl), (Nat.le_of_ble_eq_true rfl)⟩ hK hP hD rfl hl.1 rfl (Nat.le_of_ble_eq_true rfl) dL_law_44 ⟨(Nat.le_of_ble_eq_true rfl), (Nat.le_of_ble_eq_true rfl)⟩) hS (fun q _ h => hF q h) hF (fun r' u t H locs ht hvm hw hB hz1 hk1 hS => ?_)
    obtain ⟨i, j, f, g, vm, hRel, hP⟩ := hB
    subst hw
    rw [ht] at hP
    replace hD : va_D (law_A s) ((am, mp_aI T 24 vm) :: (ah, mp_aI T 62 vh) :: aW T a i j f g) := mp_D_of hD (by unfold lW; rw [List.map_cons, List.map_cons, List.map_cons, List.map_cons, aW_adr, aW_adr])
    replace hP := law_right (Y := [(am, mp_aI T 24 vm)]) hP
    replace hD := law_rightD (Y := [(am, mp_aI T 24 vm)]) hD
    refine lv_if_ne (tgt := 52) hx hb dL_law_47 (by decide) (fun _ => ?_) (fun q => absurd q h0)
    refine lv_iconst (v := (nI 0)) hx hb dL_law_52 (by decide) ?_
    refine lv_istore (lv' := [(5, .int (nI 0)), (4, .int (f_lawc L xs)), (3, .ref ah), (2, .ref am), (1, .ref (a 0)), (0, .ref b)]) hx hb dL_law_53 hl (by decide) rfl (fun ls hl => ?_)
    exact w_L_law_55 X hK hbl 100000 L xs vh hX 100000 (f_lawc L xs) (nI 0) σ none 0 (fun _ => 0) (lN 0) (lN 1) hf _ _ _ i j f g _ _ hRel hP hD hS (Nat.le_of_ble_eq_true rfl) (Nat.le_of_ble_eq_true rfl) (lv_sub hl [5, 4, 2, 1, 0] rfl)
  refine lv_aload_n hx hb dL_law_18 rfl (lv_at hl 3 rfl) ?_
  refine va_slen hx hb hX hbl hbA hS dL_law_19 ?_
  refine lv_if_ne (tgt := 27) hx hb dL_law_20 (by decide) (fun q => ?_) (fun q => ?_)
  · have hL0 : L ≠ 0 := fun e => q (by rw [e]; rfl)
    have e1 : Int32.ofNat L - nI 1 = nI (L - 1) := pk_sub (show 1 ≤ L by omega)
    refine lv_aload_n hx hb dL_law_27 rfl (lv_at hl 3 rfl) ?_
    refine lv_aload_n hx hb dL_law_28 rfl (lv_at hl 3 rfl) ?_
    refine va_slen hx hb hX hbl hbA hS dL_law_29 ?_
    refine lv_iconst (v := (nI 1)) hx hb dL_law_30 (by decide) ?_
    refine lv_isub hx hb dL_law_31 ?_
    rw [e1]
    refine va_sld hx hb hX hbl hbA hS (vp_in_nI (show L - 1 < L by omega) (by omega)) dL_law_32 ?_
    rw [show xs (nI (L - 1)).toNatClampNeg = f_lawc L xs from by rw [nI_cl (by omega)]; unfold f_lawc; rw [if_neg hL0]]
    refine lv_istore (lv' := [(4, .int (f_lawc L xs)), (3, .ref ah), (2, .ref am), (1, .ref (a 0)), (0, .ref b)]) hx hb dL_law_33 hl (by decide) rfl (fun ls hl => ?_)
    exact G ls hl
  · have hL0 : L = 0 := by
      have e : nI L = nI 0 := q
      rw [nI_eq' (by omega) (by omega)] at e
      exact e
    refine lv_iconst (v := (nI 5)) hx hb dL_law_23 (by decide) ?_
    refine lv_goto (tgt := 33) hx hb dL_law_24 (by decide) ?_
    rw [show nI 5 = f_lawc L xs from by unfold f_lawc; rw [if_pos hL0]]
    refine lv_istore (lv' := [(4, .int (f_lawc L xs)), (3, .ref ah), (2, .ref am), (1, .ref (a 0)), (0, .ref b)]) hx hb dL_law_33 hl (by decide) rfl (fun ls hl => ?_)
    exact G ls hl
set_option maxHeartbeats 4000000 in
theorem lw_walk (l : Launch) (hflags : l.flags = flags0) (b : Addr) (xs : List Int32) : MetFree l x (headSpec (Jvm.Cond.code x code maxLocals ret :: tables_1) room_1) (lw_P b xs) (fun _ _ _ _ _ => True) lw_Q := by
  refine MetFree.of_bodyS (code := code) (maxLocals := maxLocals) (ret := ret) (by decide) ?_ ?_
  · intro args s m h hn
    obtain ⟨meth, c, h1, h2, h3, h4, h5, h6, -, -⟩ := Cond.code_spec hn (atoms_spec (ws := Jvm.Cond.code x code maxLocals ret :: tables_1) h _ List.mem_cons_self)
    exact ⟨meth, c, h1, h2, h3, h4, h5, h6⟩
  · intro p e s m args below meth c s₁ B hml0 hP _
    obtain ⟨rfl, hx, hbd, hgv⟩ := hP
    obtain ⟨scr, harrAt, hlist, hof, hsmall⟩ := hx
    obtain ⟨hcb, hkn, -, -⟩ := State.arrayAt?_spec harrAt
    have hown : s.vm.findClass R_law = some m.cls := findClass_of_methodNamed B.named
    have hts0 : ∀ c ∈ (Jvm.Cond.code x code maxLocals ret :: tables_1), c.before #[Value.ref b] s = true := atoms_spec (ws := Jvm.Cond.code x code maxLocals ret :: tables_1) B.pre
    have hts : ∀ w ∈ lw_tbl, w.before #[Value.ref b] s = true := k2_hts_sels lw_privs (fun w hw => hts0 w (List.mem_cons_of_mem _ hw)) lw_privs_ok
    have hml : c.maxLocals = 29 := B.maxLocals_eq (hts0 _ List.mem_cons_self)
    have X₀ : Stand p l e room_1 s m #[Value.ref b] below meth c s₁ [] 0 0 := Stand.of_body B
    have hh0 : s₁.heap = s.heap := by rw [B.state]; rfl
    have hsz : scr.slots.size = xs.length := by rw [← Array.length_toList, hlist, List.length_map]
    have hval : ∀ j : Nat, j < xs.length → scr.slots[j]? = some (.int (xs.getD j 0)) := fun j hj => by
      rw [← Array.getElem?_toList, hlist]
      simp [hj]
    have hbl : b < s.heap.size := (Array.getElem?_eq_some_iff.mp hcb).1
    have hX : va_X b xs.length (fun j => xs.getD j 0) s s.heap := ⟨scr, hcb, hof, hkn, hsz, hval⟩
    have K : W p l e room_1 s m #[Value.ref b] below meth c s₁.heap [] 0 0 (lw_Z below #[Value.ref b] s) (entryFrame m ([Value.ref b] : List Value).toArray 29) := by
      rw [hh0]
      exact whole_start l hflags hbd ⟨B.exec, B.bytes, B.returns, hml, hown, hts, hX, hbl, B.notSynchronized, hgv⟩
    obtain ⟨t, a1, o, b1, b2, b3⟩ := K s₁ rfl X₀
    exact ⟨t, o, a1, b1, b2, b3⟩
theorem lw_pre_spec {args : Array Value} {s : State} (h : (Jvm.Cond.and given_1 narrow_1).before args s = true) (hr : rest_1_c.before args s = true) : ∃ (b : Addr) (xs : List Int32), lw_P b xs args s := by
  have hs := flat_of_before _ h
  have hq := flat_of_before _ hr
  have hc : (Cond.count 1).before args s = true := hs _ (by decide +kernel)
  have harr : (Cond.arrayOf (.arg 0) .int).before args s = true := hs _ (by decide +kernel)
  have hle : (Cond.le (.length (.arg 0)) (.int 260)).before args s = true := hs _ (by decide +kernel)
  have hlen : (Cond.isInt (.length (.arg 0))).before args s = true := hq _ (by decide +kernel)
  have hall : (Cond.all (.arg 0) (.isInt (.elem (.arg 0) (.index 0)))).before args s = true := hq _ (by decide +kernel)
  obtain ⟨b, xs, hb, hx⟩ := State.ints_of_pre rfl harr hlen hall
  have hsm : xs.length < 2 ^ 31 := hx.choose_spec.2.2.2
  have hev : (Term.length (.arg 0)).eval args s none [] s = some (.int xs.length.toInt32) := hx.length_eval hb
  have hv := Cond.le_ints hev (show (Term.int 260).eval args s none [] s = some (.int 260) from rfl)
  have hd : xs.length.toInt32 ≤ 260 := by
    simpa [Cond.before, Cond.holds, hv] using hle
  have hN : xs.length ≤ 260 := (Int32.ofNat_le_ofNat hsm (by decide)).mp (show Int32.ofNat xs.length ≤ Int32.ofNat 260 from hd)
  exact ⟨b, xs, Cond.one_arg hc (show args[0]? = some (.ref b) from hb), hx, hN, h⟩
theorem lw_comes (l : Launch) (hflags : l.flags = flags0) : Comes l x (Jvm.Cond.code x code maxLocals ret :: tables_1) room_1 (fun tb e args s => Calls_1 tb e args s ∧ rest_1 tb e args s ∧ Pre_1 tb e args s)
    (fun _ _ args s o t => lw_Q args s o t) := by
  intro p e ha hc hk s m args below hf hfit hheap happ hpre
  obtain ⟨b, xs, hP⟩ := lw_pre_spec hpre.2.2 hpre.2.1
  obtain ⟨k, o, h1, h2, h3, hQ⟩ := lw_walk l hflags b xs p e ha hc hk s m args below hf ((Spec.applies_iff_loose hf).mp happ).1 hP trivial
  exact ⟨k, o, h1, h2, h3, hQ⟩
theorem lw_frame {s t : State} {o : Outcome} {args : Array Value} (h : Framed s o t [] 600000 7302250) :
    Framed s o t (fieldLocs frame_1_writes args s ++ arrayLocs frame_1_arrays args s ++ staticLocs frame_1_statics s) 600000 7302250 := h
theorem lw_limb (L : Cond) (hL : ∀ (args : Array Value) (s t : State), L.after args s (.returned (some (.int 1))) t = true) :
    ArmFor flags0 classFile x code maxLocals ret World_1 tables_1 room_1 Calls_1 rest_1 Pre_1
      (fun tb e a s o t => postC L tb e a s o t ∧ Framed s o t (fieldLocs frame_1_writes a s ++ arrayLocs frame_1_arrays a s ++ staticLocs frame_1_statics s) 600000 7302250) := by
  intro l hflags _ _ p e ha hc hk s m args below hf hfit hheap happ hpre
  obtain ⟨k, o, h1, h2, h3, rfl, hF⟩ := lw_comes l hflags p e ha hc hk s m args below hf hfit hheap happ hpre
  exact ⟨k, _, h1, h2, h3, hL args s _, lw_frame hF⟩
theorem i_vc : Claimed_1_1 ∧ Claimed_1_2 := ⟨lw_limb limb_1_1 (fun args s t => by simp [limb_1_1, Cond.after, Cond.holds, Cond.value]), lw_limb limb_1_2 (fun args s t => Cond.after_iff.mpr (by
  first | (rw [show limb_1_2 = Cond.eq .result (.int 1) from rfl, Cond.eq_ints (x := 1) (y := 1) rfl rfl]; simp; done) | (simp [limb_1_2, Cond.value, Term.eval]; done)))⟩
