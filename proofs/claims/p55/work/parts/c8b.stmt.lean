/-! the parts of a BOOK whose text is known -/
def cT (k v : Nat) (b r : Bool) (R : List Nat) : List Nat := tN 99 k ++ (sb 2 ++ (tV v ++ ((if b = true then sb 3 else []) ++ ((if r = true then sb 4 else sb 5) ++ R))))
theorem BL_tV {v : Nat} {R : List Nat} : BL (tV v ++ R) 0 = 32 := by
  unfold tV
  split <;> rfl
section STM
variable {B : Nat → Nat} {E fu a pl nx kd kk : Nat} {tp : Nat → Int32} {K : Nat → Int64} {nu fk fp : Int32} {wd : Int64} {R : List Nat} {cn sn pn : Nat → Int64} {σ : Nat → Nat} {G : Nat → Nat → Nat → Int64 → Nat → Int32 → Prop} {sp lt rm kn xx : Nat → Int32}
/-- what comes behind the pricks of a CELL -/
theorem st_55 (h : TX B E tp tp) (hK : ∀ k, k < 24 → K k = lN (KEY k)) (hR : ∀ a, Txt B E a R → FR fu E K tp a G) (w : WD σ) (h8 : σ 0 < 8) {v : Nat} {b r : Bool} (hv : v ≤ 20) (hT : Txt B E a ((if b = true then sb 3 else []) ++ ((if r = true then sb 4 else sb 5) ++ R))) (hfu : 2000 < fu) (w' : Int64) :
    FR fu E K tp a (fun nx kd pl wd kk nu => ∃ nx' kd' pl' wd' kk' nu', f_X2_takeCell_55 fu (nI E) K tp (nI (σ 1)) (nI (σ 2)) pn sn w' (nI v) (nI nx) (nI kd) (nI pl) wd (kI kk) nu fk fp (nI (σ 0)) (nI (sB σ)) (nI (sR σ)) cn (aP sp σ) = some (nI 1, nI nx', nI kd', nI pl', wd', kI kk', nu', fk, fp, nI (sCl σ v b r 0), nI (sB (sCl σ v b r)), nI (sR (sCl σ v b r)), vp_updL cn (σ 0) w', aP sp (sCl σ v b r)) ∧ G nx' kd' pl' wd' kk' nu') := by
  have hv1 : ¬ nI v = (-1 : Int32) := by rw [nI_ne_m1 (by omega)]; exact id
  have fin : ∀ (b r : Bool), f_X1_addCell w' (nI v) (bI b) (bI r) (nI (σ 0)) (nI (sB σ)) (nI (sR σ)) cn (aP sp σ) = some (nI (sCl σ v b r 0), nI (sB (sCl σ v b r)), nI (sR (sCl σ v b r)), vp_updL cn (σ 0) w', aP sp (sCl σ v b r)) := fun b r => by
    rw [c_addCell h8, sCl_0, sB_cell w h8, sR_cell w h8, aP_cell (b := b) (r := r)]
  intro x1 x2 x3 x4 x5
  cases b with
  | false =>
    cases r with
    | false =>
      obtain ⟨f1, T1, l1, b1⟩ := fw_sm (K := K) h (a := a) (R := R) hT hfu
      obtain ⟨nx', kd', pl', wd', kk', nu', f2, g⟩ := hR _ T1 (nI 3) (nI a) x3 (kI 24) x5
      refine ⟨_, _, _, _, _, _, f1 _ _ _ _ _, nx', kd', pl', wd', kk', nu', ?_, g⟩
      unfold f_X2_takeCell_55
      rw [if_neg hv1, op_skN (by omega) (by omega) (by omega), bd_s]
      dsimp only
      rw [op_skN (by omega) (by omega) (by omega), bd_s]
      dsimp only
      rw [op_cl h l1 b1 f2, bd_s]
      dsimp only
      rw [if_neg (by decide)]
      have := fin false false
      rw [bI_f] at this
      rw [this, bd_s]
    | true =>
      obtain ⟨a1, p1, f1, T1, -⟩ := fw_kw (a := a) h hK (s := [32]) (k := 3) (R := 59 :: R) (Or.inr rfl) (by omega) rfl hT hfu
      obtain ⟨f2, T2, l2, b2⟩ := fw_sm (K := K) h T1 hfu
      obtain ⟨nx', kd', pl', wd', kk', nu', f3, g⟩ := hR _ T2 (nI 3) (nI a1) (lN (KEY 3)) (kI 24) x5
      refine ⟨_, _, _, _, _, _, f1 _ _ _ _ _, nx', kd', pl', wd', kk', nu', ?_, g⟩
      unfold f_X2_takeCell_55
      rw [if_neg hv1, op_skN (by omega) (by omega) (by omega), bd_s]
      dsimp only
      rw [op_skY (by omega) (f2 _ _ _ _ _), bd_s]
      dsimp only
      rw [op_cl h l2 b2 f3, bd_s]
      dsimp only
      rw [if_neg (by decide)]
      have := fin false true
      rw [bI_f, bI_t] at this
      rw [this, bd_s]
  | true =>
    cases r with
    | false =>
      obtain ⟨a1, p1, f1, T1, -⟩ := fw_kw (a := a) h hK (s := [32]) (k := 2) (R := 59 :: R) (Or.inr rfl) (by omega) rfl hT hfu
      obtain ⟨f2, T2, l2, b2⟩ := fw_sm (K := K) h T1 hfu
      obtain ⟨nx', kd', pl', wd', kk', nu', f3, g⟩ := hR _ T2 (nI 3) (nI a1) (lN (KEY 2)) (kI 24) x5
      refine ⟨_, _, _, _, _, _, f1 _ _ _ _ _, nx', kd', pl', wd', kk', nu', ?_, g⟩
      unfold f_X2_takeCell_55
      rw [if_neg hv1, op_skY (by omega) (f2 _ _ _ _ _), bd_s]
      dsimp only
      rw [op_skN (by omega) (by omega) (by omega), bd_s]
      dsimp only
      rw [op_cl h l2 b2 f3, bd_s]
      dsimp only
      rw [if_neg (by decide)]
      have := fin true false
      rw [bI_f, bI_t] at this
      rw [this, bd_s]
    | true =>
      obtain ⟨a1, p1, f1, T1, -⟩ := fw_kw (a := a) h hK (s := [32]) (k := 2) (R := sb 4 ++ R) (Or.inr rfl) (by omega) rfl hT hfu
      obtain ⟨a2, p2, f2, T2, -⟩ := fw_kw (a := a1) h hK (s := [32]) (k := 3) (R := 59 :: R) (Or.inr rfl) (by omega) rfl T1 hfu
      obtain ⟨f3, T3, l3, b3⟩ := fw_sm (K := K) h T2 hfu
      obtain ⟨nx', kd', pl', wd', kk', nu', f4, g⟩ := hR _ T3 (nI 3) (nI a2) (lN (KEY 3)) (kI 24) x5
      refine ⟨_, _, _, _, _, _, f1 _ _ _ _ _, nx', kd', pl', wd', kk', nu', ?_, g⟩
      unfold f_X2_takeCell_55
      rw [if_neg hv1, op_skY (by omega) (f2 _ _ _ _ _), bd_s]
      dsimp only
      rw [op_skY (by omega) (f3 _ _ _ _ _), bd_s]
      dsimp only
      rw [op_cl h l3 b3 f4, bd_s]
      dsimp only
      rw [if_neg (by decide)]
      have := fin true true
      rw [bI_t] at this
      rw [this, bd_s]
theorem st_cell (h : TX B E tp tp) (hK : ∀ k, k < 24 → K k = lN (KEY k)) (hR : ∀ a, Txt B E a R → FR fu E K tp a G) (w : WD σ) (h8 : σ 0 < 8) {v : Nat} {b r : Bool} (hv : v ≤ 20) (hN : NV cn sn pn (σ 0) (σ 1) (σ 2)) (hT : Txt B E nx (cT (σ 0) v b r R)) (hfu : 2000 < fu) (x1 x2 x4 x5 : Int32) (x3 : Int64) :
    ∃ nx' kd' pl' wd' kk' nu', f_X2_takeCell fu (nI E) (nI nx) x1 x2 x3 x4 x5 fk fp K tp (nI (σ 0)) (nI (σ 1)) (nI (σ 2)) (nI (sB σ)) (nI (sR σ)) cn pn sn (aP sp σ) = some (nI 1, nI nx', nI kd', nI pl', wd', kI kk', nu', fk, fp, nI (sCl σ v b r 0), nI (sB (sCl σ v b r)), nI (sR (sCl σ v b r)), vp_updL cn (σ 0) (lN (nmv 99 (σ 0))), aP sp (sCl σ v b r)) ∧ G nx' kd' pl' wd' kk' nu' := by
  obtain ⟨⟨h0, h1, h2, h3⟩, -⟩ := id w
  have hx : nmv 99 (σ 0) < 1056 := by unfold nmv; omega
  obtain ⟨a1, p1, f1, T1, -⟩ := fw_nm (a := nx) h hK (c := 99) (k := σ 0) (by omega) (by omega) rfl hT hfu
  obtain ⟨a2, p2, f2, T2, -⟩ := fw_kw (a := a1) h hK (s := [32]) (k := 1) (Or.inr rfl) (by omega) (by rw [BL_tV]; rfl) T1 hfu
  obtain ⟨a3, p3, f3, T3, -⟩ := fw_nu (K := K) (a := a2) h (v := v) (by omega) (by cases b <;> cases r <;> rfl) T2 hfu
  have q := st_55 (w' := lN (nmv 99 (σ 0))) (fk := fk) (fp := fp) (cn := cn) (sn := sn) (pn := pn) (sp := sp) (v := v) h hK hR w h8 hv T3 hfu
  obtain ⟨b1, b2, b3, b4, b5, b6, f4, nx', kd', pl', wd', kk', nu', f5, g⟩ := q (nI 2) (nI p3) (lN (KEY 1)) (kI 24) (nI v)
  refine ⟨nx', kd', pl', wd', kk', nu', ?_, g⟩
  unfold f_X2_takeCell
  have hcx : ∀ {α : Type} (u v : α), (if lg_cmp (lN (nmv 99 (σ 0))) (-1 : Int64) = 0 then u else v) = v := fun u v => if_neg (by rw [lg_eq0]; exact lN_m1 hx)
  rw [if_pos (by rw [nI_lt' (by omega) (by omega)]; exact h8), f1, bd_s]
  dsimp only
  rw [op_new hN h0 h1 h2 hx (fun k hk => by unfold nmv; omega) (fun k hk => by unfold nmv; omega) (fun k hk => by unfold nmv; omega) (by omega) (f2 _ _ _ _ _), bd_s]
  simp only [hcx]
  rw [op_skY (by omega) (f3 _ _ _ _ _), bd_s]
  dsimp only
  rw [if_neg (by decide), op_num (lo := 0) (Nat.zero_le _) hv (by omega) f4, bd_s]
  exact f5
theorem st_secret (h : TX B E tp tp) (hK : ∀ k, k < 24 → K k = lN (KEY k)) (hR : ∀ a, Txt B E a R → FR fu E K tp a G) (w : WD σ) (h6 : σ 1 < 6) {v : Nat} (hv1 : 1 ≤ v) (hv : v ≤ 20) (hN : NV cn sn pn (σ 0) (σ 1) (σ 2)) (hT : Txt B E nx (tN 115 (σ 1) ++ (sb 7 ++ (tV v ++ (59 :: R))))) (hfu : 2000 < fu) (x1 x2 x4 x5 : Int32) (x3 : Int64) :
    ∃ nx' kd' pl' wd' kk' nu', f_X2_takeSecret fu (nI E) (nI nx) x1 x2 x3 x4 x5 fk fp K tp (nI (σ 0)) (nI (σ 1)) (nI (σ 2)) cn (aL lt σ) pn sn = some (nI 1, nI nx', nI kd', nI pl', wd', kI kk', nu', fk, fp, nI (up (up σ (49 + σ 1) v) 1 (σ 1 + 1) 1), aL lt (up (up σ (49 + σ 1) v) 1 (σ 1 + 1)), vp_updL sn (σ 1) (lN (nmv 115 (σ 1)))) ∧ G nx' kd' pl' wd' kk' nu' := by
  obtain ⟨⟨h0, h1, h2, h3⟩, -⟩ := id w
  have hx : nmv 115 (σ 1) < 1056 := by unfold nmv; omega
  obtain ⟨a1, p1, f1, T1, -⟩ := fw_nm (a := nx) h hK (c := 115) (k := σ 1) (by omega) (by omega) rfl hT hfu
  obtain ⟨a2, p2, f2, T2, -⟩ := fw_kw (a := a1) h hK (s := [32]) (k := 5) (Or.inr rfl) (by omega) (by rw [BL_tV]; rfl) T1 hfu
  obtain ⟨nx', kd', pl', wd', kk', nu', f3, g⟩ := op_last (fk := fk) (fp := fp) (w := 5) (lo := 1) (hi := 20) (x1 := nI 1) (x2 := nI p2) (x3 := lN (KEY 5)) (x5 := x5) h hR (by omega) hv1 hv (by omega) T2 hfu
  refine ⟨nx', kd', pl', wd', kk', nu', ?_, g⟩
  unfold f_X2_takeSecret
  have hcx : ∀ {α : Type} (u v : α), (if lg_cmp (lN (nmv 115 (σ 1))) (-1 : Int64) = 0 then u else v) = v := fun u v => if_neg (by rw [lg_eq0]; exact lN_m1 hx)
  rw [if_pos (by rw [nI_lt' (by omega) (by omega)]; exact h6), f1, bd_s]
  dsimp only
  rw [op_new hN h0 h1 h2 hx (fun k hk => by unfold nmv; omega) (fun k hk => by unfold nmv; omega) (fun k hk => by unfold nmv; omega) (by omega) (f2 _ _ _ _ _), bd_s]
  simp only [hcx]
  rw [f3, bd_s]
  dsimp only
  unfold f_X2_takeSecret_46 f_X1_addSecret
  rw [if_neg (show ¬ nI v = (-1 : Int32) by rw [nI_ne_m1 (by omega)]; exact id)]
  simp (disch := omega) only [gi_n, nI_cl, nI_add, lt_, bd_s, aL_secret, up_s]
theorem st_page (h : TX B E tp tp) (hK : ∀ k, k < 24 → K k = lN (KEY k)) (hR : ∀ a, Txt B E a R → FR fu E K tp a G) (w : WD σ) (h6 : σ 2 < 6) {v : Nat} (hv : v ≤ 60) (hN : NV cn sn pn (σ 0) (σ 1) (σ 2)) (hT : Txt B E nx (tN 112 (σ 2) ++ (sb 9 ++ (tV v ++ (59 :: R))))) (hfu : 2000 < fu) (x1 x2 x4 x5 : Int32) (x3 : Int64) :
    ∃ nx' kd' pl' wd' kk' nu', f_X2_takePage fu (nI E) (nI nx) x1 x2 x3 x4 x5 fk fp K tp (nI (σ 0)) (nI (σ 1)) (nI (σ 2)) cn pn (aR rm σ) sn = some (nI 1, nI nx', nI kd', nI pl', wd', kI kk', nu', fk, fp, nI (up (up σ (55 + σ 2) v) 2 (σ 2 + 1) 2), vp_updL pn (σ 2) (lN (nmv 112 (σ 2))), aR rm (up (up σ (55 + σ 2) v) 2 (σ 2 + 1))) ∧ G nx' kd' pl' wd' kk' nu' := by
  obtain ⟨⟨h0, h1, h2, h3⟩, -⟩ := id w
  have hx : nmv 112 (σ 2) < 1056 := by unfold nmv; omega
  obtain ⟨a1, p1, f1, T1, -⟩ := fw_nm (a := nx) h hK (c := 112) (k := σ 2) (by omega) (by omega) rfl hT hfu
  obtain ⟨a2, p2, f2, T2, -⟩ := fw_kw (a := a1) h hK (s := [32]) (k := 7) (Or.inr rfl) (by omega) (by rw [BL_tV]; rfl) T1 hfu
  obtain ⟨nx', kd', pl', wd', kk', nu', f3, g⟩ := op_last (fk := fk) (fp := fp) (w := 7) (lo := 0) (hi := 60) (x1 := nI 1) (x2 := nI p2) (x3 := lN (KEY 7)) (x5 := x5) h hR (by omega) (Nat.zero_le _) hv (by omega) T2 hfu
  refine ⟨nx', kd', pl', wd', kk', nu', ?_, g⟩
  unfold f_X2_takePage
  have hcx : ∀ {α : Type} (u v : α), (if lg_cmp (lN (nmv 112 (σ 2))) (-1 : Int64) = 0 then u else v) = v := fun u v => if_neg (by rw [lg_eq0]; exact lN_m1 hx)
  rw [if_pos (by rw [nI_lt' (by omega) (by omega)]; exact h6), f1, bd_s]
  dsimp only
  rw [op_new hN h0 h1 h2 hx (fun k hk => by unfold nmv; omega) (fun k hk => by unfold nmv; omega) (fun k hk => by unfold nmv; omega) (by omega) (f2 _ _ _ _ _), bd_s]
  simp only [hcx]
  rw [f3, bd_s]
  dsimp only
  unfold f_X2_takePage_47 f_X1_addPage
  rw [if_neg (show ¬ nI v = (-1 : Int32) by rw [nI_ne_m1 (by omega)]; exact id)]
  simp (disch := omega) only [gi_n, nI_cl, nI_add, lt_, bd_s, aR_page, up_s]
theorem st_read (h : TX B E tp tp) (hK : ∀ k, k < 24 → K k = lN (KEY k)) (hR : ∀ a, Txt B E a R → FR fu E K tp a G) (w : WD σ) {p v : Nat} (hp : p < σ 2) (hv : v ≤ 16) (hN : NV cn sn pn (σ 0) (σ 1) (σ 2)) (hT : Txt B E nx (tN 112 p ++ (sb 11 ++ (tV v ++ (59 :: R))))) (hfu : 2000 < fu) (x1 x2 x4 x5 : Int32) (x3 : Int64) :
    ∃ nx' kd' pl' wd' kk' nu', f_X2_takeRead fu (nI E) (nI nx) x1 x2 x3 x4 x5 fk fp K tp (nI (σ 2)) (aX xx σ) pn = some (nI 1, nI nx', nI kd', nI pl', wd', kI kk', nu', fk, fp, aX xx (up σ (61 + p) v)) ∧ G nx' kd' pl' wd' kk' nu' := by
  obtain ⟨⟨h0, h1, h2, h3⟩, -⟩ := id w
  obtain ⟨a1, p1, f1, T1, -⟩ := fw_nm (a := nx) h hK (c := 112) (k := p) (by omega) (by omega) rfl hT hfu
  obtain ⟨a2, p2, f2, T2, -⟩ := fw_kw (a := a1) h hK (s := [32]) (k := 11) (Or.inr rfl) (by omega) (by rw [BL_tV]; rfl) T1 hfu
  obtain ⟨nx', kd', pl', wd', kk', nu', f3, g⟩ := op_last (fk := fk) (fp := fp) (w := 11) (lo := 0) (hi := 16) (x1 := nI 1) (x2 := nI p2) (x3 := lN (KEY 11)) (x5 := x5) h hR (by omega) (Nat.zero_le _) hv (by omega) T2 hfu
  refine ⟨nx', kd', pl', wd', kk', nu', ?_, g⟩
  unfold f_X2_takeRead
  rw [f1, bd_s]
  dsimp only
  rw [op_one (c := 112) hN.2.2 hp h2 (by omega) (by omega) (by omega) (f2 _ _ _ _ _), bd_s]
  dsimp only
  rw [if_neg (by rw [nI_ne_m1 (by omega)]; exact id), f3, bd_s]
  dsimp only
  unfold f_X2_takeRead_35
  rw [if_neg (show ¬ nI v = (-1 : Int32) by rw [nI_ne_m1 (by omega)]; exact id), gi_n (by omega) (by omega), nI_cl (by omega), aX_up (by omega)]
theorem st_knows (h : TX B E tp tp) (hK : ∀ k, k < 24 → K k = lN (KEY k)) (hR : ∀ a, Txt B E a R → FR fu E K tp a G) (w : WD σ) {c e : Nat} (hc : c < σ 0) (he : e < σ 1) (hN : NV cn sn pn (σ 0) (σ 1) (σ 2)) (hT : Txt B E nx (tN 99 c ++ (tN 115 e ++ (59 :: R)))) (hfu : 2000 < fu) (x1 x2 x4 x5 : Int32) (x3 : Int64) :
    ∃ nx' kd' pl' wd' kk' nu', f_X2_takeKnows fu (nI E) (nI nx) x1 x2 x3 x4 x5 fk fp K tp (nI (σ 0)) (nI (σ 1)) cn (aK kn σ) sn = some (nI 1, nI nx', nI kd', nI pl', wd', kI kk', nu', fk, fp, aK kn (up σ (33 + c) (σ (33 + c) ||| 2 ^ e))) ∧ G nx' kd' pl' wd' kk' nu' := by
  obtain ⟨⟨h0, h1, h2, h3⟩, -⟩ := id w
  obtain ⟨a1, p1, f1, T1, -⟩ := fw_nm (a := nx) h hK (c := 99) (k := c) (by omega) (by omega) rfl hT hfu
  obtain ⟨a2, p2, f2, T2, -⟩ := fw_nm (a := a1) h hK (c := 115) (k := e) (by omega) (by omega) rfl T1 hfu
  obtain ⟨f3, T3, l3, b3⟩ := fw_sm (K := K) h T2 hfu
  obtain ⟨nx', kd', pl', wd', kk', nu', f4, g⟩ := hR _ T3 (nI 3) (nI a2) (lN (nmv 115 e)) (kI 24) x5
  refine ⟨nx', kd', pl', wd', kk', nu', ?_, g⟩
  unfold f_X2_takeKnows
  rw [f1, bd_s]
  dsimp only
  rw [op_one (c := 99) hN.1 hc h0 (by omega) (by omega) (by omega) (f2 _ _ _ _ _), bd_s]
  dsimp only
  rw [if_neg (by rw [nI_ne_m1 (by omega)]; exact id), op_one (c := 115) hN.2.1 he h1 (by omega) (by omega) (by omega) (f3 _ _ _ _ _), bd_s]
  dsimp only
  unfold f_X2_takeKnows_38
  rw [if_neg (show ¬ nI e = (-1 : Int32) by rw [nI_ne_m1 (by omega)]; exact id), op_cl h l3 b3 f4, bd_s]
  dsimp only
  rw [if_neg (by decide), gi_n (by omega) (by omega), nI_cl (by omega), aK_in (by omega), nI_1shl (by omega), nI_or]
  unfold lt_
  dsimp only
  rw [gi_n (by omega) (by omega), aK_up (by omega)]
/-- the names of an ORDER and ; -/
def oTx (f : Nat → Nat) : Nat → Nat → List Nat → List Nat
  | 0, _, R => 59 :: R
  | n + 1, j, R => tN 99 (f j) ++ oTx f n (j + 1) R
theorem BL_oTx {f : Nat → Nat} : ∀ {n j : Nat}, isLt (BL (oTx f n j R) 0) = false
  | 0, _ => rfl
  | _ + 1, _ => rfl
/-- the ORDER as far as place j -/
def sOt (σ : Nat → Nat) (f : Nat → Nat) : Nat → Nat → Nat
  | 0 => σ
  | j + 1 => sPut (sOt σ f j) (f j)
theorem sOt_is {f : Nat → Nat} (h3 : σ 3 = 0) : ∀ j, sOt σ f j 3 = j ∧ (∀ i, i < j → sOt σ f j (67 + i) = f i) ∧ ∀ i, i ≠ 3 → ¬ (67 ≤ i ∧ i < 67 + j) → sOt σ f j i = σ i
  | 0 => ⟨h3, fun i hi => absurd hi (Nat.not_lt_zero i), fun _ _ _ => rfl⟩
  | j + 1 => by
    obtain ⟨a, b, c⟩ := sOt_is (f := f) h3 j
    show sPut (sOt σ f j) (f j) 3 = j + 1 ∧ (∀ i, i < j + 1 → sPut (sOt σ f j) (f j) (67 + i) = f i) ∧ ∀ i, i ≠ 3 → ¬ (67 ≤ i ∧ i < 67 + (j + 1)) → sPut (sOt σ f j) (f j) i = σ i
    refine ⟨by rw [sPut_3, a], fun i hi => ?_, fun i h1 h2 => ?_⟩
    · by_cases e : i = j
      · subst e
        have := sPut_k (ρ := sOt σ f i) (k := f i)
        rw [a] at this
        exact this
      · rw [sPut_n (by omega) (by rw [a]; omega)]
        exact b i (by omega)
    · rw [sPut_n h1 (by rw [a]; omega)]
      exact c i h1 (by omega)
theorem wd_ot {f : Nat → Nat} (w : WD σ) (h3 : σ 3 = 0) {n : Nat} (hn : n ≤ 8) (hf : ∀ i, i < n → f i < σ 0) (hu : ∀ i j, i < n → j < n → f i = f j → i = j) : ∀ j, j ≤ n → WD (sOt σ f j)
  | 0, _ => w
  | j + 1, hj => by
    obtain ⟨a, b, c⟩ := sOt_is (σ := σ) (f := f) h3 j
    refine wd_put (wd_ot w h3 hn hf hu j (by omega)) ?_ (by rw [a]; omega) (fun i hi => ?_)
    · rw [c 0 (by omega) (by omega)]; exact hf j (by omega)
    · rw [a] at hi
      rw [b i hi]
      exact fun e => by have := hu i j (by omega) (by omega) e; omega
theorem st_25 {f : Nat → Nat} {od : Nat → Int32} (h : TX B E tp tp) (hK : ∀ k, k < 24 → K k = lN (KEY k)) (hR : ∀ a, Txt B E a R → FR fu E K tp a G) (w : WD σ) (h3 : σ 3 = 0) {n : Nat} (hn : n ≤ 8) (hf : ∀ i, i < n → f i < σ 0) (hu : ∀ i j, i < n → j < n → f i = f j → i = j) (hN : NV cn sn pn (σ 0) (σ 1) (σ 2)) (hfu : 2000 < fu) : ∀ k j m, j + (k + 1) = n → k + 1 < m → ∀ a, Txt B E a (oTx f (k + 1) j R) →
    FR fu E K tp a (fun nx kd pl wd kk nu => ∃ nx' kd' pl' wd' kk' nu', f_X2_takeOrder_25 fu (nI E) K tp (nI (σ 0)) cn m (nI 1) (nI j) (nI 1) (nI nx) (nI kd) (nI pl) wd (kI kk) nu fk fp (nI j) (aO od (sOt σ f j)) = some (nI 1, nI 1, nI nx', nI kd', nI pl', wd', kI kk', nu', fk, fp, nI n, aO od (sOt σ f n)) ∧ G nx' kd' pl' wd' kk' nu') := by
  obtain ⟨⟨h0, -, -, -⟩, -⟩ := id w
  intro k
  induction k with
  | zero =>
    intro j m hj hm a hT x1 x2 x3 x4 x5
    obtain ⟨m, rfl⟩ : ∃ q, m = q + 2 := ⟨m - 2, by omega⟩
    obtain ⟨qa, qb, qc⟩ := sOt_is (σ := σ) (f := f) h3 j
    have wj := wd_ot w h3 hn hf hu j (by omega)
    have hfj := hf j (by omega)
    obtain ⟨a1, p1, f1, T1, -⟩ := fw_nm (a := a) h hK (c := 99) (k := f j) (by omega) (by omega) (BL_oTx (f := f) (n := 0) (j := j + 1) (R := R)) hT hfu
    obtain ⟨f2, T2, l2, b2⟩ := fw_sm (K := K) h (R := R) T1 hfu
    obtain ⟨nx', kd', pl', wd', kk', nu', f3, g⟩ := hR _ T2 (nI 3) (nI a1) (lN (nmv 99 (f j))) (kI 24) x5
    refine ⟨_, _, _, _, _, _, f1 _ _ _ _ _, nx', kd', pl', wd', kk', nu', ?_, g⟩
    have hpl : sPlace (sOt σ f j) (f j) = none := by
      cases hp : sPlace (sOt σ f j) (f j) with
      | none => rfl
      | some i =>
        obtain ⟨c1, c2⟩ := sPlace_some hp
        rw [qa] at c1
        rw [qb i c1] at c2
        have := hu i j (by omega) (by omega) c2
        omega
    have hcp := c_placeOf (od := od) (fu := fu) wj.wf (k := f j) (by omega) (by omega)
    rw [qa, hpl] at hcp
    have hput := aO_put (ρ := sOt σ f j) (od := od) (k := f j)
    rw [qa] at hput
    have hn1 : n = j + 1 := by omega
    unfold f_X2_takeOrder_25
    rw [if_neg (by rw [nI_lt' (by omega) (by omega)]; omega), if_neg (by decide), op_one (c := 99) hN.1 hfj h0 (by omega) (by omega) (by omega) (f2 _ _ _ _ _), bd_s]
    dsimp only
    rw [if_neg (by rw [nI_ne_m1 (by omega)]; exact id), hcp, bd_s, if_pos (show oI none = (-1 : Int32) from rfl), if_pos (by rw [nI_lt' (by omega) (by omega)]; omega), gi_n (by omega) (by omega), nI_cl (by omega)]
    unfold lt_
    dsimp only
    rw [op_at h l2 b2, bd_s, if_neg (by decide), nI_add]
    unfold f_X2_takeOrder_25
    rw [if_neg (by rw [nI_lt' (by omega) (by omega)]; omega), if_pos (by decide), op_cl h l2 b2 f3, bd_s]
    dsimp only
    rw [gd_1, hput, hn1]
    rfl
  | succ k ih =>
    intro j m hj hm a hT x1 x2 x3 x4 x5
    obtain ⟨m, rfl⟩ : ∃ q, m = q + 1 := ⟨m - 1, by omega⟩
    obtain ⟨qa, qb, qc⟩ := sOt_is (σ := σ) (f := f) h3 j
    have wj := wd_ot w h3 hn hf hu j (by omega)
    have hfj := hf j (by omega)
    obtain ⟨a1, p1, f1, T1, -⟩ := fw_nm (a := a) h hK (c := 99) (k := f j) (by omega) (by omega) (BL_oTx (f := f) (n := k + 1) (j := j + 1) (R := R)) hT hfu
    have hfj1 := hf (j + 1) (by omega)
    obtain ⟨a2, p2, f2, -, -⟩ := fw_nm (a := a1) h hK (c := 99) (k := f (j + 1)) (by omega) (by omega) (BL_oTx (f := f) (n := k) (j := j + 2) (R := R)) T1 hfu
    obtain ⟨y1, y2, y3, y4, y5, y6, f3, nx', kd', pl', wd', kk', nu', f4, g⟩ := ih (j + 1) m (by omega) (by omega) a1 T1 (nI 1) (nI p1) (lN (nmv 99 (f j))) (kI 24) x5
    refine ⟨_, _, _, _, _, _, f1 _ _ _ _ _, nx', kd', pl', wd', kk', nu', ?_, g⟩
    have hpl : sPlace (sOt σ f j) (f j) = none := by
      cases hp : sPlace (sOt σ f j) (f j) with
      | none => rfl
      | some i =>
        obtain ⟨c1, c2⟩ := sPlace_some hp
        rw [qa] at c1
        rw [qb i c1] at c2
        have := hu i j (by omega) (by omega) c2
        omega
    have hcp := c_placeOf (od := od) (fu := fu) wj.wf (k := f j) (by omega) (by omega)
    rw [qa, hpl] at hcp
    have hput := aO_put (ρ := sOt σ f j) (od := od) (k := f j)
    rw [qa] at hput
    have e2 : y2 = 1 ∨ nI y2 = nI 1 := by
      have := f2 (nI 1) (nI p1) (lN (nmv 99 (f j))) (kI 24) x5
      rw [f3] at this
      exact Or.inr (congrArg (fun z => z.2.1) (Option.some.inj this))
    have e3 : nI y2 = nI 1 := by
      rcases e2 with e | e
      · rw [e]
      · exact e
    rw [e3] at f3 f4
    unfold f_X2_takeOrder_25
    rw [if_neg (by rw [nI_lt' (by omega) (by omega)]; omega), if_neg (by decide), op_one (c := 99) hN.1 hfj h0 (by omega) (by omega) (by omega) f3, bd_s]
    dsimp only
    rw [if_neg (by rw [nI_ne_m1 (by omega)]; exact id), hcp, bd_s, if_pos (show oI none = (-1 : Int32) from rfl), if_pos (by rw [nI_lt' (by omega) (by omega)]; omega), gi_n (by omega) (by omega), nI_cl (by omega)]
    unfold lt_
    dsimp only
    rw [op_at1, bd_s, if_pos (by decide), nI_add, hput]
    exact f4
theorem st_order {f : Nat → Nat} {od : Nat → Int32} (h : TX B E tp tp) (hK : ∀ k, k < 24 → K k = lN (KEY k)) (hR : ∀ a, Txt B E a R → FR fu E K tp a G) (w : WD σ) (h3 : σ 3 = 0) {n : Nat} (hn0 : 0 < n) (hn : n ≤ 8) (hf : ∀ i, i < n → f i < σ 0) (hu : ∀ i j, i < n → j < n → f i = f j → i = j) (hN : NV cn sn pn (σ 0) (σ 1) (σ 2)) (hfu : 2000 < fu) (hT : Txt B E nx (oTx f n 0 R)) (x1 x2 x4 x5 o : Int32) (x3 : Int64) :
    ∃ nx' kd' pl' wd' kk' nu', f_X2_takeOrder fu o (nI E) (nI nx) x1 x2 x3 x4 x5 fk fp K tp (nI (σ 0)) cn (nI (σ 3)) (aO od σ) = some (nI 1, nI 1, nI nx', nI kd', nI pl', wd', kI kk', nu', fk, fp, nI n, aO od (sOt σ f n)) ∧ G nx' kd' pl' wd' kk' nu' := by
  obtain ⟨k, rfl⟩ : ∃ k, n = k + 1 := ⟨n - 1, by omega⟩
  obtain ⟨y1, y2, y3, y4, y5, y6, f3, nx', kd', pl', wd', kk', nu', f4, g⟩ := st_25 (fk := fk) (fp := fp) (od := od) h hK hR w h3 hn hf hu hN hfu k 0 fu (by omega) (by omega) nx hT x1 x2 x3 x4 x5
  refine ⟨nx', kd', pl', wd', kk', nu', ?_, g⟩
  unfold f_X2_takeOrder
  rw [f3, bd_s]
  exact f4
end STM
