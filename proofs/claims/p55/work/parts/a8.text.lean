/-! the law's text: what is said comes to the tape, twenty bytes at a time -/
theorem b8_of (v : Nat) : (nI v).toInt8.toInt32 = bx v := by
  unfold bx
  congr 1
  apply Int8.toBitVec_inj.1
  show BitVec.signExtend 8 (BitVec.ofNat 32 v) = BitVec.ofNat 8 v
  rw [BitVec.signExtend_eq_setWidth_of_le _ (by decide)]
  apply BitVec.eq_of_toNat_eq
  rw [BitVec.toNat_setWidth, BitVec.toNat_ofNat, BitVec.toNat_ofNat]
  omega
theorem bx_bx (v : Nat) : (bx v).toInt8.toInt32 = bx v := by
  unfold bx
  rw [Int8.toInt8_toInt32]
theorem bx_add (q r : Nat) : bx (256 * q + r) = bx r := by
  unfold bx
  congr 1
  apply Int8.toBitVec_inj.1
  show BitVec.ofNat 8 (256 * q + r) = BitVec.ofNat 8 r
  apply BitVec.eq_of_toNat_eq
  rw [BitVec.toNat_ofNat, BitVec.toNat_ofNat]
  omega
theorem bx_lo : ∀ n, n < 128 → bx n = nI n := by decide +kernel
/-- four bytes as a number -/
def w4 (n : Nat → Nat) (k : Nat) : Nat := 16777216 * n k + 65536 * n (k + 1) + 256 * n (k + 2) + n (k + 3)
theorem or_add {x y k : Nat} (h : y < 2 ^ k) : 2 ^ k * x ||| y = 2 ^ k * x + y := (Nat.two_pow_add_eq_or_of_lt h x).symm
section TXS
variable {vm tp : Nat → Int32} {n : Nat → Nat} {fu : Nat}
theorem l_four {k : Nat} (hv : ∀ j, j < 20 → vm j = nI (n j)) (hn : ∀ j, j < 20 → n j < 128) (hk : k + 4 ≤ 20) : f_L_four 24 (nI k) vm = some (nI (w4 n k)) := by
  have h0 := hn k (by omega)
  have h1 := hn (k + 1) (by omega)
  have h2 := hn (k + 2) (by omega)
  have h3 := hn (k + 3) (by omega)
  have e0 := hv k (by omega)
  have e1 := hv (k + 1) (by omega)
  have e2 := hv (k + 2) (by omega)
  have e3 := hv (k + 3) (by omega)
  have E : ((n k * 2 ^ 24 ||| n (k + 1) * 2 ^ 16) ||| n (k + 2) * 2 ^ 8) ||| n (k + 3) = w4 n k := by
    rw [show n k * 2 ^ 24 = 2 ^ 24 * n k by omega, or_add (k := 24) (by omega), show 2 ^ 24 * n k + n (k + 1) * 2 ^ 16 = 2 ^ 16 * (256 * n k + n (k + 1)) by omega, or_add (k := 16) (by omega), show 2 ^ 16 * (256 * n k + n (k + 1)) + n (k + 2) * 2 ^ 8 = 2 ^ 8 * (65536 * n k + 256 * n (k + 1) + n (k + 2)) by omega, or_add (k := 8) (by omega)]
    unfold w4
    omega
  unfold f_L_four
  simp (disch := omega) only [gi_n, nI_add, nI_cl, e0, e1, e2, e3, nI_shl, nI_or]
  rw [E]
/-- a tape with so many bytes more -/
def wr (tp : Nat → Int32) (F : Nat) (n : Nat → Nat) (len : Nat) : Nat → Int32 := fun k => if F ≤ k ∧ k < F + len then bx (n (k - F)) else tp k
theorem wr_add {F a b : Nat} : wr (wr tp F n a) (F + a) (fun i => n (a + i)) b = wr tp F n (a + b) := by
  funext k
  unfold wr
  by_cases h : F + a ≤ k ∧ k < F + a + b
  · rw [if_pos h, if_pos (by omega)]
    show bx (n (a + (k - (F + a)))) = bx (n (k - F))
    rw [show a + (k - (F + a)) = k - F by omega]
  · rw [if_neg h]
    by_cases h2 : F ≤ k ∧ k < F + a
    · rw [if_pos h2, if_pos (by omega)]
    · rw [if_neg h2, if_neg (by omega)]
theorem c_append {F k : Nat} (hF : F + 4 ≤ 900) (hn : ∀ j, j < 4 → n (k + j) < 128) (hfu : 100 < fu) : f_X8_append fu (nI (w4 n k)) (nI F) tp = some (nI (F + 4), wr tp F (fun i => n (k + i)) 4) := by
  obtain ⟨m, rfl⟩ : ∃ m, fu = m + 5 := ⟨fu - 5, by omega⟩
  have h0 := hn 0 (by omega)
  have h1 := hn 1 (by omega)
  have h2 := hn 2 (by omega)
  have h3 := hn 3 (by omega)
  rw [Nat.add_zero] at h0
  have c1 : nI 24 + (-8 : Int32) = nI 16 := by decide
  have c2 : nI 16 + (-8 : Int32) = nI 8 := by decide
  have c3 : nI 8 + (-8 : Int32) = nI 0 := by decide
  have c4 : ¬ nI 24 < 0 := by decide
  have c5 : ¬ nI 16 < 0 := by decide
  have c6 : ¬ nI 8 < 0 := by decide
  have c7 : ¬ nI 0 < 0 := by decide
  have c8 : nI 0 + (-8 : Int32) < 0 := by decide
  have hw : w4 n k < 2147483648 := by unfold w4; omega
  have p0 : w4 n k / 2 ^ 24 = n k := by unfold w4; omega
  have p1 : w4 n k / 2 ^ 16 = 256 * n k + n (k + 1) := by unfold w4; omega
  have p2 : w4 n k / 2 ^ 8 = 256 * (256 * n k + n (k + 1)) + n (k + 2) := by unfold w4; omega
  have p3 : w4 n k / 2 ^ 0 = 256 * (256 * (256 * n k + n (k + 1)) + n (k + 2)) + n (k + 3) := by unfold w4; omega
  unfold f_X8_append
  simp (disch := omega) only [f_X8_append_3, c1, c2, c3, if_neg c4, if_neg c5, if_neg c6, if_neg c7, if_pos c8, nI_le', if_neg, gi_n, nI_cl, nI_add, lt_, vp_nar_byte, nI_shr, p0, p1, p2, p3]
  simp only [b8_of, bx_add, bx_bx]
  refine congrArg some (congrArg (fun z => (nI (F + 4), z)) ?_)
  funext j
  unfold wr upd
  by_cases e3 : j = F + 1 + 1 + 1
  · rw [if_pos e3, if_pos (by omega), show (fun i => n (k + i)) (j - F) = n (k + 3) from congrArg n (by omega)]
  · rw [if_neg e3]
    by_cases e2 : j = F + 1 + 1
    · rw [if_pos e2, if_pos (by omega), show (fun i => n (k + i)) (j - F) = n (k + 2) from congrArg n (by omega)]
    · rw [if_neg e2]
      by_cases e1 : j = F + 1
      · rw [if_pos e1, if_pos (by omega), show (fun i => n (k + i)) (j - F) = n (k + 1) from congrArg n (by omega)]
      · rw [if_neg e1]
        by_cases e0 : j = F
        · rw [if_pos e0, if_pos (by omega), show (fun i => n (k + i)) (j - F) = n (k) from congrArg n (by omega)]
        · rw [if_neg e0, if_neg (by omega)]
theorem c_feed {F : Nat} (hF : F + 20 ≤ 900) (hn : ∀ j, j < 20 → n j < 128) (hfu : 100 < fu) : f_X11_feed fu (nI (w4 n 0)) (nI (w4 n 4)) (nI (w4 n 8)) (nI (w4 n 12)) (nI (w4 n 16)) (nI F) tp = some (nI (F + 20), nI (F + 20), wr tp F n 20) := by
  have A : ∀ (a : Nat) (tp : Nat → Int32), a + 4 ≤ 20 → f_X8_append fu (nI (w4 n a)) (nI (F + a)) (wr tp F n a) = some (nI (F + (a + 4)), wr tp F n (a + 4)) := fun a tp ha => by
    rw [c_append (F := F + a) (by omega) (fun j hj => hn _ (by omega)) hfu, wr_add]
    rfl
  have A0 : f_X8_append fu (nI (w4 n 0)) (nI F) tp = some (nI (F + 4), wr tp F n 4) := by
    rw [c_append (F := F) (by omega) (fun j hj => hn _ (by omega)) hfu]
    simp only [Nat.zero_add]
  unfold f_X11_feed f_X8_hasRoomFor
  rw [nI_add, if_neg (show ¬ nI 900 < nI (F + 20) by rw [nI_lt' (by omega) (by omega)]; omega), bd_s, if_neg (show ¬ nI 1 = 0 by decide), A0, bd_s]
  simp only
  rw [A 4 tp (by omega), bd_s]
  simp only
  rw [A 8 tp (by omega), bd_s]
  simp only
  rw [A 12 tp (by omega), bd_s]
  simp only
  rw [A 16 tp (by omega), bd_s]
/-- the row of twenty, filled up with blanks -/
def pad (n : Nat → Nat) (r : Nat) : Nat → Nat := fun k => if k < r then n k else 32
theorem l_feed {F r : Nat} (hv : ∀ j, j < r → vm j = nI (n j)) (h20 : vm 20 = nI r) (hr : r ≤ 20) (hn : ∀ j, j < r → n j < 128) (hF : F + 20 ≤ 900) (hfu : 100 < fu) :
    ∃ vm', f_L_feed fu 24 (nI F) tp vm = some (nI (F + 20), wr tp F (pad n r) 20, vm') ∧ vm' 20 = nI 0 ∧ ∀ k, 20 < k → vm' k = vm k := by
  have hp : ∀ j, j < 20 → pad n r j < 128 := fun j hj => by
    unfold pad
    split
    · rename_i h; exact hn j h
    · decide
  -- what the loop fills
  let V : Nat → Nat → Int32 := fun j k => if r ≤ k ∧ k < j then nI 32 else vm k
  have hV0 : V r = vm := by funext k; exact if_neg (by omega)
  have hVs : ∀ j, r ≤ j → upd (V j) j (nI 32) = V (j + 1) := fun j hj => by
    funext k
    show (if k = j then nI 32 else if r ≤ k ∧ k < j then nI 32 else vm k) = if r ≤ k ∧ k < j + 1 then nI 32 else vm k
    by_cases e : k = j
    · rw [if_pos e, if_pos (by omega)]
    · rw [if_neg e]
      by_cases e2 : r ≤ k ∧ k < j
      · rw [if_pos e2, if_pos (by omega)]
      · rw [if_neg e2, if_neg (by omega)]
  have hVv : ∀ j, j < 20 → V 20 j = nI (pad n r j) := fun j hj => by
    show (if r ≤ j ∧ j < 20 then nI 32 else vm j) = nI (if j < r then n j else 32)
    by_cases e : j < r
    · rw [if_neg (by omega), if_pos e]; exact hv j e
    · rw [if_pos (by omega), if_neg e]
  refine ⟨upd (V 20) 20 (nI 0), ?_, upd_s, fun k hk => ?_⟩
  · unfold f_L_feed
    rw [gi_n (by omega) (by omega), nI_cl (by omega), h20, lt_]
    have key := loop_p (fun m j => f_L_feed_5 fu 24 m (nI (r + j)) (nI F) tp (V (r + j))) (20 - r) (some (nI (F + 20), wr tp F (pad n r) 20, upd (V 20) 20 (nI 0)))
      (fun m j hj => by
        simp (disch := omega) only [f_L_feed_5, nI_le', if_neg, gi_n, nI_cl, lt_, nI_add, hVs (r + j) (Nat.le_add_right _ _)]
        rfl)
      (fun m => by
        rw [show r + (20 - r) = 20 by omega]
        simp (disch := omega) only [f_L_feed_5, nI_le', if_pos, gi_n, nI_cl]
        rw [show f_L_four 24 (nI 0) (V 20) = _ from l_four hVv hp (by omega), bd_s, show f_L_four 24 (nI 4) (V 20) = _ from l_four hVv hp (by omega), bd_s, show f_L_four 24 (nI 8) (V 20) = _ from l_four hVv hp (by omega), bd_s, show f_L_four 24 (nI 12) (V 20) = _ from l_four hVv hp (by omega), bd_s, show f_L_four 24 (nI 16) (V 20) = _ from l_four hVv hp (by omega), bd_s, c_feed hF hp hfu, bd_s])
      (20 - r) 0 fu (by omega) (by omega)
    rw [Nat.add_zero] at key
    rw [hV0] at key
    exact key
  · rw [upd_n (by omega)]
    exact if_neg (by omega)
end TXS
