/-! the law's walk: the loop over the script -/
theorem law_gt {L n : Nat} (hL : L ≤ 3072) (hn : 6 * n ≤ L) (h : L < 6 * n + 6) : Int32.ofNat L - nI 6 < nI (6 * n) := by
  rcases Nat.lt_or_ge L 6 with z | z
  · obtain rfl : n = 0 := by omega
    rcases (show L = 0 ∨ L = 1 ∨ L = 2 ∨ L = 3 ∨ L = 4 ∨ L = 5 by omega) with rfl | rfl | rfl | rfl | rfl | rfl <;> decide
  · have e : Int32.ofNat L - nI 6 = nI (L - 6) := by
      have := nI_add (L - 6) 6
      rw [show L - 6 + 6 = L by omega] at this
      show nI L - nI 6 = nI (L - 6)
      rw [← this, Int32.add_sub_cancel]
    rw [e]
    exact nI_lt (by omega) (by omega)
section LL
variable {p : Program} {l : Launch} {e : Env} {s : State} {m : MethodId} {below : List Frame} {meth : Method} {c : Code} {H : Heap} {locs : List Loc} {Q : State → Prop} {ls : Array Slot} {D : va_G} {T : Nat → ClassId} {nm : String} {b L C S : Nat} {xs : Nat → Int32} {idx : Int32} {a : Nat → Nat} {i : Nat → Int32} {j : Nat → Int64} {f : Nat → Nat → Int32} {g : Nat → Nat → Int64}
variable {n : Nat}
set_option maxHeartbeats 4000000 in
set_option maxRecDepth 100000 in
theorem law_switch (X : mp_X p s m meth c #[.ref b] RL nm cL_law 4 (some .boolean)) (hK : va_K D mp_cl (mp_ty T) s) (hX : va_X b L xs s s.heap) (hbl : b < s.heap.size) (hin : ∀ k, k ≤ 5 → vp_in (idx + nI k) L) (hCS : C + 0 ≤ room_1.cells ∧ S + 0 ≤ room_1.slots) (h : REL i j f g) (hP : va_P D mp_cl (aW T a i j f g) H) (hD : va_D (law_A s) (aW T a i j f g)) (hS : va_S (law_A s) s.heap H locs) (hl : lv_has ls 4 (law_L b a idx)) (kk : law_G p l e s m meth below c D T a b idx C S Q) (hn : n < 64) : W p l e room_1 s m #[.ref b] below meth c H locs C S Q (F0 m 33 ls [.int (nI n)]) := by
  have hx := X.1
  have hb := X.2.1
  rcases (show n = 0 ∨ n = 1 ∨ n = 2 ∨ n = 3 ∨ n = 4 ∨ n = 5 ∨ n = 6 ∨ n = 7 ∨ n = 8 ∨ n = 9 ∨ n = 10 ∨ n = 11 ∨ n = 12 ∨ n = 13 ∨ n = 14 ∨ n = 15 ∨ n = 16 ∨ n = 17 ∨ n = 18 ∨ n = 19 ∨ n = 20 ∨ n = 21 ∨ n = 22 ∨ n = 23 ∨ n = 24 ∨ n = 25 ∨ n = 26 ∨ n = 27 ∨ n = 28 ∨ n = 29 ∨ n = 30 ∨ n = 31 ∨ n = 32 ∨ n = 33 ∨ n = 34 ∨ n = 35 ∨ n = 36 ∨ n = 37 ∨ n = 38 ∨ n = 39 ∨ n = 40 ∨ n = 41 ∨ n = 42 ∨ n = 43 ∨ n = 44 ∨ n = 45 ∨ n = 46 ∨ n = 47 ∨ n = 48 ∨ n = 49 ∨ n = 50 ∨ n = 51 ∨ 52 ≤ n by omega) with rfl | rfl | rfl | rfl | rfl | rfl | rfl | rfl | rfl | rfl | rfl | rfl | rfl | rfl | rfl | rfl | rfl | rfl | rfl | rfl | rfl | rfl | rfl | rfl | rfl | rfl | rfl | rfl | rfl | rfl | rfl | rfl | rfl | rfl | rfl | rfl | rfl | rfl | rfl | rfl | rfl | rfl | rfl | rfl | rfl | rfl | rfl | rfl | rfl | rfl | rfl | rfl | hge
  · refine lv_tableIn (off := 223) (tgt := 256) hx hb dL_law_33 (by decide) (by decide) (by decide) (by decide) ?_
    exact lc_status X hK hX hbl hin hCS h hP hD hS hl kk
  · refine lv_tableIn (off := 236) (tgt := 269) hx hb dL_law_33 (by decide) (by decide) (by decide) (by decide) ?_
    exact lc_top X hK hX hbl hin hCS h hP hD hS hl kk
  · refine lv_tableIn (off := 250) (tgt := 283) hx hb dL_law_33 (by decide) (by decide) (by decide) (by decide) ?_
    exact lc_bottom X hK hX hbl hin hCS h hP hD hS hl kk
  · refine lv_tableIn (off := 264) (tgt := 297) hx hb dL_law_33 (by decide) (by decide) (by decide) (by decide) ?_
    exact lc_tray X hK hX hbl hin hCS h hP hD hS hl kk
  · refine lv_tableIn (off := 307) (tgt := 340) hx hb dL_law_33 (by decide) (by decide) (by decide) (by decide) ?_
    exact lc_write X hK hX hbl hin hCS h hP hD hS hl kk
  · refine lv_tableIn (off := 380) (tgt := 413) hx hb dL_law_33 (by decide) (by decide) (by decide) (by decide) ?_
    exact lc_read X hK hX hbl hin hCS h hP hD hS hl kk
  · refine lv_tableIn (off := 414) (tgt := 447) hx hb dL_law_33 (by decide) (by decide) (by decide) (by decide) ?_
    exact lc_pour X hK hX hbl hin hCS h hP hD hS hl kk
  · refine lv_tableIn (off := 477) (tgt := 510) hx hb dL_law_33 (by decide) (by decide) (by decide) (by decide) ?_
    exact lc_feed X hK hX hbl hin hCS h hP hD hS hl kk
  · refine lv_tableIn (off := 540) (tgt := 573) hx hb dL_law_33 (by decide) (by decide) (by decide) (by decide) ?_
    exact lc_book X hK hX hbl hin hCS h hP hD hS hl kk
  · refine lv_tableIn (off := 563) (tgt := 596) hx hb dL_law_33 (by decide) (by decide) (by decide) (by decide) ?_
    exact lc_rounds X hK hX hbl hin hCS h hP hD hS hl kk
  · refine lv_tableIn (off := 586) (tgt := 619) hx hb dL_law_33 (by decide) (by decide) (by decide) (by decide) ?_
    exact lc_fault X hK hX hbl hin hCS h hP hD hS hl kk
  · refine lv_tableIn (off := 609) (tgt := 642) hx hb dL_law_33 (by decide) (by decide) (by decide) (by decide) ?_
    exact lc_many X hK hX hbl hin hCS h hP hD hS hl kk
  · refine lv_tableIn (off := 632) (tgt := 665) hx hb dL_law_33 (by decide) (by decide) (by decide) (by decide) ?_
    exact lc_cell X hK hX hbl hin hCS h hP hD hS hl kk
  · refine lv_tableIn (off := 665) (tgt := 698) hx hb dL_law_33 (by decide) (by decide) (by decide) (by decide) ?_
    exact lc_secret X hK hX hbl hin hCS h hP hD hS hl kk
  · refine lv_tableIn (off := 688) (tgt := 721) hx hb dL_law_33 (by decide) (by decide) (by decide) (by decide) ?_
    exact lc_page X hK hX hbl hin hCS h hP hD hS hl kk
  · refine lv_tableIn (off := 721) (tgt := 754) hx hb dL_law_33 (by decide) (by decide) (by decide) (by decide) ?_
    exact lc_pricks X hK hX hbl hin hCS h hP hD hS hl kk
  · refine lv_tableIn (off := 754) (tgt := 787) hx hb dL_law_33 (by decide) (by decide) (by decide) (by decide) ?_
    exact lc_orderAt X hK hX hbl hin hCS h hP hD hS hl kk
  · refine lv_tableIn (off := 777) (tgt := 810) hx hb dL_law_33 (by decide) (by decide) (by decide) (by decide) ?_
    exact lc_next X hK hX hbl hin hCS h hP hD hS hl kk
  · refine lv_tableIn (off := 790) (tgt := 823) hx hb dL_law_33 (by decide) (by decide) (by decide) (by decide) ?_
    exact lc_knowers X hK hX hbl hin hCS h hP hD hS hl kk
  · refine lv_tableIn (off := 813) (tgt := 846) hx hb dL_law_33 (by decide) (by decide) (by decide) (by decide) ?_
    exact lc_copyPage X hK hX hbl hin hCS h hP hD hS hl kk
  · refine lv_tableIn (off := 846) (tgt := 879) hx hb dL_law_33 (by decide) (by decide) (by decide) (by decide) ?_
    exact lc_turn X hK hX hbl hin hCS h hP hD hS hl kk
  · refine lv_tableIn (off := 869) (tgt := 902) hx hb dL_law_33 (by decide) (by decide) (by decide) (by decide) ?_
    exact lc_rub X hK hX hbl hin hCS h hP hD hS hl kk
  · refine lv_tableIn (off := 892) (tgt := 925) hx hb dL_law_33 (by decide) (by decide) (by decide) (by decide) ?_
    by_cases hz : (xs (idx + nI 2).toNatClampNeg) = 0
    · exact lc_damp_0 X hK hX hbl hin hCS h hP hD hS hl hz kk
    · exact lc_damp_1 X hK hX hbl hin hCS h hP hD hS hl hz kk
  · refine lv_tableIn (off := 941) (tgt := 974) hx hb dL_law_33 (by decide) (by decide) (by decide) (by decide) ?_
    by_cases hz : (xs (idx + nI 2).toNatClampNeg) = 0
    · exact lc_ill_0 X hK hX hbl hin hCS h hP hD hS hl hz kk
    · exact lc_ill_1 X hK hX hbl hin hCS h hP hD hS hl hz kk
  · refine lv_tableIn (off := 990) (tgt := 1023) hx hb dL_law_33 (by decide) (by decide) (by decide) (by decide) ?_
    exact lc_move X hK hX hbl hin hCS h hP hD hS hl kk
  · refine lv_tableIn (off := 1023) (tgt := 1056) hx hb dL_law_33 (by decide) (by decide) (by decide) (by decide) ?_
    exact lc_tell X hK hX hbl hin hCS h hP hD hS hl kk
  · refine lv_tableIn (off := 1056) (tgt := 1089) hx hb dL_law_33 (by decide) (by decide) (by decide) (by decide) ?_
    exact lc_watch X hK hX hbl hin hCS h hP hD hS hl kk
  · refine lv_tableIn (off := 1089) (tgt := 1122) hx hb dL_law_33 (by decide) (by decide) (by decide) (by decide) ?_
    exact lc_when X hK hX hbl hin hCS h hP hD hS hl kk
  · refine lv_tableIn (off := 1122) (tgt := 1155) hx hb dL_law_33 (by decide) (by decide) (by decide) (by decide) ?_
    exact lc_heard X hK hX hbl hin hCS h hP hD hS hl kk
  · refine lv_tableIn (off := 1145) (tgt := 1178) hx hb dL_law_33 (by decide) (by decide) (by decide) (by decide) ?_
    exact lc_all X hK hX hbl hin hCS h hP hD hS hl kk
  · refine lv_tableIn (off := 1158) (tgt := 1191) hx hb dL_law_33 (by decide) (by decide) (by decide) (by decide) ?_
    exact lc_later X hK hX hbl hin hCS h hP hD hS hl kk
  · refine lv_tableIn (off := 1191) (tgt := 1224) hx hb dL_law_33 (by decide) (by decide) (by decide) (by decide) ?_
    exact lc_roomIn X hK hX hbl hin hCS h hP hD hS hl kk
  · refine lv_tableIn (off := 1224) (tgt := 1257) hx hb dL_law_33 (by decide) (by decide) (by decide) (by decide) ?_
    exact lc_never X hK hX hbl hin hCS h hP hD hS hl kk
  · refine lv_tableIn (off := 1237) (tgt := 1270) hx hb dL_law_33 (by decide) (by decide) (by decide) (by decide) ?_
    exact lc_firstHeard X hK hX hbl hin hCS h hP hD hS hl kk
  · refine lv_tableIn (off := 1250) (tgt := 1283) hx hb dL_law_33 (by decide) (by decide) (by decide) (by decide) ?_
    exact lc_bestOrder X hK hX hbl hin hCS h hP hD hS hl kk
  · refine lv_tableIn (off := 1263) (tgt := 1296) hx hb dL_law_33 (by decide) (by decide) (by decide) (by decide) ?_
    exact lc_bestAt X hK hX hbl hin hCS h hP hD hS hl kk
  · refine lv_tableIn (off := 1286) (tgt := 1319) hx hb dL_law_33 (by decide) (by decide) (by decide) (by decide) ?_
    exact lc_kept X hK hX hbl hin hCS h hP hD hS hl kk
  · refine lv_tableIn (off := 1299) (tgt := 1332) hx hb dL_law_33 (by decide) (by decide) (by decide) (by decide) ?_
    exact lc_fits X hK hX hbl hin hCS h hP hD hS hl kk
  · refine lv_tableIn (off := 1312) (tgt := 1345) hx hb dL_law_33 (by decide) (by decide) (by decide) (by decide) ?_
    exact lc_fitSet X hK hX hbl hin hCS h hP hD hS hl kk
  · refine lv_tableIn (off := 1325) (tgt := 1358) hx hb dL_law_33 (by decide) (by decide) (by decide) (by decide) ?_
    exact lc_caught X hK hX hbl hin hCS h hP hD hS hl kk
  · refine lv_tableIn (off := 1338) (tgt := 1371) hx hb dL_law_33 (by decide) (by decide) (by decide) (by decide) ?_
    exact lc_risk X hK hX hbl hin hCS h hP hD hS hl kk
  · refine lv_tableIn (off := 1361) (tgt := 1394) hx hb dL_law_33 (by decide) (by decide) (by decide) (by decide) ?_
    exact lc_hide X hK hX hbl hin hCS h hP hD hS hl kk
  · refine lv_tableIn (off := 1384) (tgt := 1417) hx hb dL_law_33 (by decide) (by decide) (by decide) (by decide) ?_
    exact lc_game X hK hX hbl hin hCS h hP hD hS hl kk
  · refine lv_tableIn (off := 1397) (tgt := 1430) hx hb dL_law_33 (by decide) (by decide) (by decide) (by decide) ?_
    exact lc_mix X hK hX hbl hin hCS h hP hD hS hl kk
  · refine lv_tableIn (off := 1420) (tgt := 1453) hx hb dL_law_33 (by decide) (by decide) (by decide) (by decide) ?_
    exact lc_pricked X hK hX hbl hin hCS h hP hD hS hl kk
  · refine lv_tableIn (off := 1474) (tgt := 1507) hx hb dL_law_33 (by decide) (by decide) (by decide) (by decide) ?_
    exact lc_prickAt X hK hX hbl hin hCS h hP hD hS hl kk
  · refine lv_tableIn (off := 1537) (tgt := 1570) hx hb dL_law_33 (by decide) (by decide) (by decide) (by decide) ?_
    exact lc_shortest X hK hX hbl hin hCS h hP hD hS hl kk
  · refine lv_tableIn (off := 1590) (tgt := 1623) hx hb dL_law_33 (by decide) (by decide) (by decide) (by decide) ?_
    exact lc_live X hK hX hbl hin hCS h hP hD hS hl kk
  · refine lv_tableIn (off := 1613) (tgt := 1646) hx hb dL_law_33 (by decide) (by decide) (by decide) (by decide) ?_
    exact lc_lived X hK hX hbl hin hCS h hP hD hS hl kk
  · refine lv_tableIn (off := 1636) (tgt := 1669) hx hb dL_law_33 (by decide) (by decide) (by decide) (by decide) ?_
    exact lc_mean X hK hX hbl hin hCS h hP hD hS hl kk
  · refine lv_tableIn (off := 1679) (tgt := 1712) hx hb dL_law_33 (by decide) (by decide) (by decide) (by decide) ?_
    exact lc_mark X hK hX hbl hin hCS h hP hD hS hl kk
  · refine lv_tableIn (off := 1692) (tgt := 1725) hx hb dL_law_33 (by decide) (by decide) (by decide) (by decide) ?_
    exact lc_back X hK hX hbl hin hCS h hP hD hS hl kk
  · refine lv_tableOut (tgt := 1738) hx hb dL_law_33 (Or.inr ?_) (by decide) ?_
    · rw [nI_toInt (by omega)]; omega
    · exact kk _ _ _ _ h _ _ _ hP hD hS hl
set_option maxHeartbeats 4000000 in
set_option maxRecDepth 100000 in
theorem law_loop (X : mp_X p s m meth c #[.ref b] RL nm cL_law 4 (some .boolean)) (hK : va_K D mp_cl (mp_ty T) s) (hX : va_X b L xs s s.heap) (hbl : b < s.heap.size) (hL : L ≤ 3072) (hCS : C + 0 ≤ room_1.cells ∧ S + 0 ≤ room_1.slots)
    (kend : ∀ (H : Heap) (locs : List Loc) (ls : Array Slot), va_S (law_A s) s.heap H locs → W p l e room_1 s m #[.ref b] below meth c H locs C S Q (F0 m 1744 ls [])) :
    ∀ (k n : Nat), 6 * n ≤ L → L < 6 * n + 6 * k + 6 → ∀ (i : Nat → Int32) (j : Nat → Int64) (f : Nat → Nat → Int32) (g : Nat → Nat → Int64), REL i j f g → ∀ (H : Heap) (locs : List Loc) (ls : Array Slot), va_P D mp_cl (aW T a i j f g) H → va_D (law_A s) (aW T a i j f g) → va_S (law_A s) s.heap H locs → lv_has ls 4 (law_L b a (nI (6 * n))) →
    W p l e room_1 s m #[.ref b] below meth c H locs C S Q (F0 m 18 ls []) := by
  have hx := X.1
  have hb := X.2.1
  have hbA : ¬ law_A s b := Nat.not_le.mpr hbl
  intro k
  induction k with
  | zero =>
    intro n hn hlt i j f g h H locs ls hP hD hS hl
    replace hl : lv_has ls 4 [(0, .ref b), (1, .ref (a 0)), (2, .ref (a 146)), (3, .int (nI (6 * n)))] := hl
    refine lv_iload_n hx hb dL_law_18 rfl (lv_at hl 3 rfl) ?_
    refine lv_aload_n hx hb dL_law_19 rfl (lv_at hl 0 rfl) ?_
    refine va_slen hx hb hX hbl hbA hS dL_law_20 ?_
    refine lv_bipush (v := (nI 6)) hx hb dL_law_21 (by decide) ?_
    refine lv_isub hx hb dL_law_23 ?_
    refine lv_icmp_gt (tgt := 1744) hx hb dL_law_24 (by decide) (fun _ => kend _ _ _ hS) (fun q => absurd (law_gt hL hn (by omega)) q)
  | succ k ih =>
    intro n hn hlt i j f g h H locs ls hP hD hS hl
    replace hl : lv_has ls 4 [(0, .ref b), (1, .ref (a 0)), (2, .ref (a 146)), (3, .int (nI (6 * n)))] := hl
    refine lv_iload_n hx hb dL_law_18 rfl (lv_at hl 3 rfl) ?_
    refine lv_aload_n hx hb dL_law_19 rfl (lv_at hl 0 rfl) ?_
    refine va_slen hx hb hX hbl hbA hS dL_law_20 ?_
    refine lv_bipush (v := (nI 6)) hx hb dL_law_21 (by decide) ?_
    refine lv_isub hx hb dL_law_23 ?_
    refine lv_icmp_gt (tgt := 1744) hx hb dL_law_24 (by decide) (fun _ => kend _ _ _ hS) (fun q => ?_)
    have hr : 6 * n + 6 ≤ L := by
      rcases Nat.lt_or_ge L (6 * n + 6) with z | z
      · exact absurd (law_gt hL hn z) q
      · exact z
    refine lv_aload_n hx hb dL_law_27 rfl (lv_at hl 0 rfl) ?_
    refine lv_iload_n hx hb dL_law_28 rfl (lv_at hl 3 rfl) ?_
    refine va_sld hx hb hX hbl hbA hS (vp_in_nI (by omega) (by omega)) dL_law_29 ?_
    refine lv_bipush (v := (63 : Int32)) hx hb dL_law_30 (by decide) ?_
    refine lv_iand hx hb dL_law_32 ?_
    obtain ⟨t, ht, e1⟩ := pk_andE (xs (nI (6 * n)).toNatClampNeg) (m := 63) 6 (by decide)
    rw [e1]
    refine law_switch X hK hX hbl (fun k hk => ?_) hCS h hP hD hS hl ?_ ht
    · rw [nI_add]
      exact vp_in_nI (by omega) (by omega)
    · intro i j f g h H locs ls hP hD hS hl
      replace hl : lv_has ls 4 [(0, .ref b), (1, .ref (a 0)), (2, .ref (a 146)), (3, .int (nI (6 * n)))] := hl
      refine lv_iinc (v := (nI (6 * (n + 1)))) (lv' := [(3, .int (nI (6 * (n + 1)))), (0, .ref b), (1, .ref (a 0)), (2, .ref (a 146))]) hx hb dL_law_1738 hl (k := 3) rfl (nI_add (6 * n) 6) (by decide) rfl (fun ls hl => ?_)
      refine lv_goto (tgt := 18) hx hb dL_law_1741 (by decide) ?_
      exact ih (n + 1) (by omega) (by omega) _ _ _ _ h _ _ _ hP hD hS (lv_sub hl [1, 2, 3, 0] rfl)
end LL
