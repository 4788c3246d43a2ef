/-! the law's calls at numbers -/
section SC
variable {σ : Nat → Nat} {M : Option (Nat → Nat)} {bm : Nat} {bo : Nat → Nat} {fa fb : Int64}
theorem sc_cell3 (w : WF σ) {j : Nat} (hj : j < σ 0) : s_cell (nI j) (nI 3) σ = some (nI (σ (33 + j))) := by
  have := w.c0
  unfold s_cell
  rw [gi_n hj (by omega), if_pos rfl, nI_cl (by omega)]
theorem sc_cell5 (w : WF σ) {j : Nat} (hj : j < σ 0) : s_cell (nI j) (nI 5) σ = some (nI (σ (41 + j))) := by
  have := w.c0
  unfold s_cell
  rw [gi_n hj (by omega), if_neg (by decide), if_pos rfl, nI_cl (by omega)]
theorem sc_page2 (w : WF σ) {p : Nat} (hp : p < σ 2) : s_page (nI p) (nI 2) σ = some (nI (sFree σ p)) := by
  have := w.c2
  unfold s_page
  rw [gi_n hp (by omega), if_pos rfl, nI_cl (by omega)]
theorem sc_page3 (w : WF σ) {p : Nat} (hp : p < σ 2) : s_page (nI p) (nI 3) σ = some (nI (sStg σ p)) := by
  have := w.c2
  unfold s_page
  rw [gi_n hp (by omega), if_neg (by decide), if_pos rfl, nI_cl (by omega)]
theorem sc_pricks (w : WF σ) {p e : Nat} (hp : p < σ 2) (he : e < σ 1) : s_pricks (nI p) (nI e) σ = some (nI (sD σ p e)) := by
  have := w.c2
  have := w.c1
  unfold s_pricks
  rw [gi_n hp (by omega), gi_n he (by omega), nI_cl (by omega), nI_cl (by omega)]
theorem sc_many3 : s_many (nI 3) σ = some (nI (σ 3)) := rfl
theorem sc_many4 : s_many (nI 4) σ = some (nI (σ 4)) := by
  unfold s_many
  rw [if_neg (by decide), if_pos rfl]
theorem sc_many5 : s_many (nI 5) σ = some (nI (sAll6 σ)) := by
  unfold s_many
  rw [if_neg (by decide), if_neg (by decide), if_pos rfl]
theorem sc_many6 : s_many (nI 6) σ = some (nI (σ 5)) := by
  unfold s_many
  rw [if_neg (by decide), if_neg (by decide), if_neg (by decide), if_pos rfl]
theorem sc_many8 : s_many (nI 8) σ = some (nI (σ 7)) := by
  unfold s_many
  rw [if_neg (by decide), if_neg (by decide), if_neg (by decide), if_neg (by decide), if_pos rfl]
theorem sc_when (w : WF σ) {c e : Nat} (hc : c < σ 0) (he : e < σ 1) : s_when (nI c) (nI e) σ = some (oI (sTill σ (2 ^ c) (2 ^ e) 999)) := by
  have := w.c0
  have := w.c1
  unfold s_when
  rw [gi_n hc (by omega), gi_n he (by omega), nI_cl (by omega), nI_cl (by omega)]
theorem sc_heard (w : WF σ) {e : Nat} (he : e < σ 1) : s_heard (nI e) σ = some (oI (sHear σ e)) := by
  have := w.c1
  unfold s_heard
  rw [gi_n he (by omega), nI_cl (by omega)]
  rfl
theorem sc_later (w : WF σ) {c m : Nat} (hc : c < σ 0) (hm : m ≤ 999) : s_later (nI c) (nI m) σ = some (nI (sIt m σ (33 + c))) := by
  have := w.c0
  unfold s_later
  rw [gi_n hc (by omega), gi_n (by omega) (by omega), nI_cl (by omega), nI_cl (by omega)]
theorem sc_turn {m : Nat} (h1 : 1 ≤ m) (hm : m < 100) (h4 : σ 4 + m ≤ 9999) : s_turn (nI m) σ = some (nI (sIt m σ 4), sIt m σ) := by
  unfold s_turn
  rw [gi_n hm (by omega), nI_cl (by omega), if_neg (by omega), if_neg (by omega)]
theorem sc_rub (w : WF σ) {p : Nat} (hp : p < σ 2) : s_rub (nI p) σ = some (sErase σ p) := by
  have := w.c2
  unfold s_rub
  rw [gi_n hp (by omega), nI_cl (by omega)]
theorem sc_damp (w : WF σ) {p : Nat} (hp : p < σ 2) (b : Bool) : ∃ b', s_damp (nI p) (bI b) σ = some (sFlip7 σ p b') := by
  have := w.c2
  unfold s_damp
  rw [gi_n hp (by omega), nI_cl (by omega), gd_bI]
  exact ⟨_, rfl⟩
theorem sc_ill (w : WF σ) {p : Nat} (hp : p < σ 0) (b : Bool) : ∃ b', s_ill (nI p) (bI b) σ = some (sFlip6 σ p b') := by
  have := w.c0
  unfold s_ill
  rw [gi_n hp (by omega), nI_cl (by omega), gd_bI]
  exact ⟨_, rfl⟩
theorem sc_move (w : WF σ) {a b : Nat} (ha : a < σ 0) (hb : b < σ 0) : s_move (nI a) (nI b) σ = some (bI (sMove σ a b).1, (sMove σ a b).2) := by
  have := w.c0
  unfold s_move
  rw [gi_n ha (by omega), gi_n hb (by omega), nI_cl (by omega), nI_cl (by omega)]
theorem sc_hide (w : WF σ) {e : Nat} (he : e < σ 1) : s_hide (nI e) σ = some (oI (sHd σ e (σ 2))) := by
  have := w.c1
  unfold s_hide
  rw [gi_n he (by omega), nI_cl (by omega)]
theorem sc_mix1 (w : WF σ) {p : Nat} (hp : p < σ 2) (hs : sShut σ p = true) : s_mix (nI p) σ fa fb = some (nI 0, fa, fb) := by
  have := w.c2
  unfold s_mix
  rw [gi_n hp (by omega), nI_cl (by omega), if_pos hs]
theorem sc_mix0 (w : WF σ) {p : Nat} (hp : p < σ 2) (hs : sShut σ p = false) : s_mix (nI p) σ fa fb = some (nI 1, lN (sMixT σ p / Nat.gcd (sMixT σ p) (sMixB σ)), lN (sMixB σ / Nat.gcd (sMixT σ p) (sMixB σ))) := by
  have := w.c2
  unfold s_mix
  rw [gi_n hp (by omega), nI_cl (by omega), if_neg (by rw [hs]; decide)]
theorem sc_orderAt (w : WF σ) {k : Nat} (hk : k < σ 3) : s_orderAt (nI k) σ = some (nI (σ (67 + k))) := by
  have := w.c3
  unfold s_orderAt
  rw [gi_n hk (by omega), nI_cl (by omega)]
theorem sc_bestAt {k : Nat} (hk : k < bm) (h : bm ≤ 8) : s_bestAt (nI k) bm bo = some (nI (bo k)) := by
  unfold s_bestAt
  rw [gi_n hk (by omega), nI_cl (by omega)]
/-- bits of a number that is below 2 ^ 31 -/
theorem bit_1 {a k : Nat} (ha : a < 2147483648) (hk : k < 32) (h : a.testBit k = true) : (nI a >>> (nI k &&& (31 : Int32))) &&& nI 1 = nI 1 := by rw [has_n ha hk, h]; rfl
theorem bit_0 {a k : Nat} (ha : a < 2147483648) (hk : k < 32) (h : a.testBit k = false) : (nI a >>> (nI k &&& (31 : Int32))) &&& nI 1 = nI 0 := by rw [has_n ha hk, h]; rfl
theorem and3 (x : Int32) : ∃ q, q < 4 ∧ x &&& nI 3 = nI q := pk_andE x 2 (by decide)
theorem and7 (x : Int32) : ∃ q, q < 8 ∧ x &&& nI 7 = nI q := pk_andE x 3 (by decide)
theorem and15 (x : Int32) : ∃ q, q < 16 ∧ x &&& nI 15 = nI q := pk_andE x 4 (by decide)
theorem and31 (x : Int32) : ∃ q, q < 32 ∧ x &&& nI 31 = nI q := pk_andE x 5 (by decide)
theorem gd_nI {α : Type} {h : Nat} {x : Option α} (h0 : 0 < h) (h1 : h < 2147483648) : gd_ (¬ nI h = 0) x = x := gd_pos (by rw [nI_eq0 h1]; omega)
end SC
def HK (vh : Nat → Int32) (K : Int32 → Int32 → (Nat → Nat) → Option (Nat → Nat) → Nat → (Nat → Nat) → Int64 → Int64 → Option (Int32)) (z4 z5 : Int32) (B : Nat) : Prop := ∀ (τ : Nat → Nat) (bm : Nat) (bo : Nat → Nat) (fa fb : Int64), RI vh τ → τ 4 ≤ B → K z4 (z5 + nI 1) τ none bm bo fa fb = some (nI 1)
section LAW1
variable {fu n1 : Nat} {xs : Nat → Int32} {vh : Nat → Int32} {K : Int32 → Int32 → (Nat → Nat) → Option (Nat → Nat) → Nat → (Nat → Nat) → Int64 → Int64 → Option (Int32)} {z4 z5 z6 z8 : Int32} {σ ρ : Nat → Nat} {bm : Nat} {bo : Nat → Nat} {fa fb : Int64} {B c e : Nat} {va : Nat → Int32}
theorem HV.at (H : HV vh) (k : Nat) (hk : k < 62) : vh (nI k).toNatClampNeg = nI (hN vh k) := by rw [nI_cl (by omega)]; exact H.1 k hk
theorem flip6_4 {p : Nat} {b : Bool} : sFlip6 σ p b 4 = σ 4 := by
  unfold sFlip6
  split
  · rfl
  · exact up_n _ _ (by omega)
theorem flip7_4 {p : Nat} {b : Bool} : sFlip7 σ p b 4 = σ 4 := by
  unfold sFlip7
  split
  · rfl
  · exact up_n _ _ (by omega)
theorem flip7_0 {p : Nat} {b : Bool} : sFlip7 σ p b 0 = σ 0 := by
  unfold sFlip7
  split
  · rfl
  · exact up_n _ _ (by omega)
theorem T1176 (H : HV vh) (hK : HK vh K z4 z5 B) (h : RI vh σ) (hB : σ 4 ≤ B) (hc : c < σ 0) : f_L_law_1176 fu n1 xs vh K z4 z5 z6 (nI c) σ none bm bo fa fb = some (nI 1) := by
  unfold f_L_law_1176
  split
  · split
    · obtain ⟨b, e⟩ := sc_ill h.1 hc true
      rw [bI_t] at e
      rw [e, bd_s]
      exact hK _ _ _ _ _ (h.flip6 H hc) (by rw [flip6_4]; exact hB)
    · obtain ⟨b, e⟩ := sc_ill h.1 hc false
      rw [bI_f] at e
      rw [e, bd_s]
      exact hK _ _ _ _ _ (h.flip6 H hc) (by rw [flip6_4]; exact hB)
  · exact hK _ _ _ _ _ h hB
theorem T1172 (H : HV vh) (hK : HK vh K z4 z5 B) (h : RI vh σ) (hB : σ 4 ≤ B) (hc : c < σ 0) {p : Nat} (hp : p < σ 2) (b : Bool) : f_L_law_1172 fu n1 xs vh K z4 z5 z6 (nI c) (nI p) (bI b) σ none bm bo fa fb = some (nI 1) := by
  obtain ⟨b', e⟩ := sc_damp h.1 hp b
  unfold f_L_law_1172
  rw [e, bd_s]
  exact T1176 H hK (h.flip7 H hp) (by rw [flip7_4]; exact hB) (by rw [flip7_0]; exact hc)
theorem T1134 (H : HV vh) (hK : HK vh K z4 z5 B) (h : RI vh σ) (hB : σ 4 ≤ B) (hc : c < σ 0) : f_L_law_1134 fu n1 xs vh K z4 z5 z6 (nI c) σ none bm bo fa fb = some (nI 1) := by
  have h2 := H.2.1.2.2.1
  have e2 := h.2.1.2.2.1
  unfold f_L_law_1134
  split
  · obtain ⟨q, hq, eq⟩ := and3 (z6 >>> (nI 3 &&& (31 : Int32)))
    rw [gi_n (by decide) (by decide), H.at 2 (by decide), gd_nI (by omega) (by omega), eq, pk_rem (by omega) (by omega) (by omega)]
    have hm : q % hN vh 2 < σ 2 := by rw [e2]; exact Nat.mod_lt _ (by omega)
    split
    · exact T1172 H hK h hB hc hm true
    · exact T1172 H hK h hB hc hm false
  · exact T1176 H hK h hB hc
theorem T1109 (H : HV vh) (hK : HK vh K z4 z5 B) (h : RI vh σ) (hB : σ 4 ≤ B) (hc : c < σ 0) : f_L_law_1109 fu n1 xs vh K z4 z5 z6 (nI c) σ none bm bo fa fb = some (nI 1) := by
  have h2 := H.2.1.2.2.1
  have e2 := h.2.1.2.2.1
  unfold f_L_law_1109
  split
  · obtain ⟨q, hq, eq⟩ := and3 (z6 >>> (nI 3 &&& (31 : Int32)))
    rw [gi_n (by decide) (by decide), H.at 2 (by decide), gd_nI (by omega) (by omega), eq, pk_rem (by omega) (by omega) (by omega)]
    have hm : q % hN vh 2 < σ 2 := by rw [e2]; exact Nat.mod_lt _ (by omega)
    rw [sc_rub h.1 hm, bd_s]
    exact T1134 H hK (h.erase H) (by rw [sErase_lo (by omega)]; exact hB) (by rw [sErase_lo (by omega)]; exact hc)
  · exact T1134 H hK h hB hc
theorem T1031 (H : HV vh) (hK : HK vh K z4 z5 B) (h : RI vh σ) (hB : σ 4 ≤ B) (hc : c < σ 0) (hva : ∀ k, k < hN vh 0 → va k = nI (ρ (33 + k))) (hkm : KM ρ σ) (hbl : ∀ k, k < hN vh 0 → ρ (17 + k) = hN vh (12 + k)) {z20 : Int32} (hz : 0 ≤ z20 ∨ nI (σ 5) = z8) : ∀ k j n, j + k = hN vh 0 → k < n → f_L_law_1031 fu n1 xs vh K n z4 z5 z6 z8 (nI c) z20 (nI j) σ none bm bo fa fb va = some (nI 1) := by
  have w := h.1
  have h0 := H.2.1.1
  have e0 := h.2.1.1
  intro k
  induction k with
  | zero =>
    intro j n hj hn
    obtain ⟨n, rfl⟩ : ∃ m, n = m + 1 := ⟨n - 1, by omega⟩
    unfold f_L_law_1031
    rw [gi_n (by decide) (by decide), H.at 0 (by decide), if_pos (by rw [nI_le' (by omega) (by omega)]; omega)]
    split
    · exact T1109 H hK h hB hc
    · rename_i hneg
      rw [sc_many6, bd_s]
      rw [if_pos (hz.resolve_left hneg)]
      exact T1109 H hK h hB hc
  | succ k ih =>
    intro j n hj hn
    obtain ⟨n, rfl⟩ : ∃ m, n = m + 1 := ⟨n - 1, by omega⟩
    unfold f_L_law_1031
    rw [gi_n (by decide) (by decide), H.at 0 (by decide), if_neg (by rw [nI_le' (by omega) (by omega)]; omega)]
    obtain ⟨km, kb⟩ := hkm j (by omega)
    rw [gi_n (by omega) (by omega), sc_cell3 w (by omega), bd_s, nI_cl (by omega), hva j (by omega), nI_andn, km, if_pos (by decide), bd_s, gi_n (by omega) (by omega)]
    have ih' := ih (j + 1) n (by omega) (by omega)
    rw [← nI_add] at ih'
    split
    · exact ih'
    · rename_i hne
      rw [nI_add 12 j, gi_n (by omega) (by decide), H.at _ (by omega)]
      rw [if_neg (fun he => hne ?_)]
      · exact ih'
      · rw [nI_eq' (by have := (H.2.2.1 j (by omega)).2.1; omega) (by decide)] at he
        rw [kb (by rw [hbl j (by omega)]; omega)]
end LAW1
