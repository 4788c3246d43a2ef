/-! what was said so far: a list of bytes, as the law's row of marks and the tape hold it -/
def BL (L : List Nat) (k : Nat) : Nat := L.getD k 0
theorem BL_app {L M : List Nat} {k : Nat} : BL (L ++ M) k = if k < L.length then BL L k else BL M (k - L.length) := by
  unfold BL
  rw [List.getD_eq_getElem?_getD, List.getD_eq_getElem?_getD, List.getD_eq_getElem?_getD]
  by_cases h : k < L.length
  · rw [if_pos h, List.getElem?_append_left h]
  · rw [if_neg h, List.getElem?_append_right (Nat.not_lt.mp h)]
def SD5 (L : List Nat) (fl : Int32) (tp vm : Nat → Int32) : Prop :=
  L.length ≤ 880 ∧ (∀ k, k < L.length → BL L k < 128) ∧ fl = nI (20 * (L.length / 20)) ∧ vm 20 = nI (L.length % 20) ∧ vm 21 = nI L.length ∧ vm 22 = nI 0 ∧
  (∀ k, k < 20 * (L.length / 20) → tp k = bx (BL L k)) ∧ (∀ k, k < L.length % 20 → vm k = nI (BL L (20 * (L.length / 20) + k)))
section SAI
variable {L : List Nat} {fl : Int32} {tp vm : Nat → Int32} {fu : Nat}
theorem tx5_lt {k : Nat} (h : SD5 L fl tp vm) : BL L k < 128 := by
  by_cases hk : k < L.length
  · exact h.2.1 k hk
  · unfold BL
    rw [List.getD_eq_getElem?_getD, List.getElem?_eq_none (Nat.not_lt.mp hk)]
    decide
theorem p_put {ch : Nat} (h : SD5 L fl tp vm) (hc : ch < 128) (hl : L.length < 880) (hfu : 100 < fu) : ∃ fl' tp' vm', f_L_put fu 24 (nI ch) fl tp vm = some (fl', tp', vm') ∧ SD5 (L ++ [ch]) fl' tp' vm' := by
  obtain ⟨hL, hb, rfl, h20, h21, h22, htp, hvm⟩ := id h
  have hlen : (L ++ [ch]).length = L.length + 1 := by rw [List.length_append]; rfl
  have hB : ∀ k, BL (L ++ [ch]) k = if k = L.length then ch else BL L k := fun k => by
    rw [BL_app]
    by_cases e : k < L.length
    · rw [if_pos e, if_neg (by omega)]
    · rw [if_neg e]
      by_cases e2 : k = L.length
      · rw [if_pos e2, e2, Nat.sub_self]; rfl
      · rw [if_neg e2]
        unfold BL
        rw [List.getD_eq_getElem?_getD, List.getD_eq_getElem?_getD, List.getElem?_eq_none (Nat.not_lt.mp e), List.getElem?_eq_none (show [ch].length ≤ k - L.length by show 1 ≤ _; omega)]
  have hb' : ∀ k, k < (L ++ [ch]).length → BL (L ++ [ch]) k < 128 := fun k hk => by
    rw [hB]
    split
    · exact hc
    · exact tx5_lt h
  have m20 : L.length % 20 < 20 := Nat.mod_lt _ (by decide)
  have k1 : upd vm (L.length % 20) (nI ch) 20 = nI (L.length % 20) := by rw [upd_n (by omega)]; exact h20
  have k2 : upd (upd vm (L.length % 20) (nI ch)) 20 (nI (L.length % 20 + 1)) 21 = nI L.length := by rw [upd_n (by omega), upd_n (by omega)]; exact h21
  have k3 : upd (upd (upd vm (L.length % 20) (nI ch)) 20 (nI (L.length % 20 + 1))) 21 (nI (L.length + 1)) 20 = nI (L.length % 20 + 1) := by rw [upd_n (by omega), upd_s]
  unfold f_L_put
  simp (disch := omega) only [gi_n, nI_cl, h20, k1, lt_, nI_add, k2, k3, nI_eq']
  generalize hV : upd (upd (upd vm (L.length % 20) (nI ch)) 20 (nI (L.length % 20 + 1))) 21 (nI (L.length + 1)) = V
  have v20 : V 20 = nI (L.length % 20 + 1) := by rw [← hV]; exact k3
  have v21 : V 21 = nI (L.length + 1) := by rw [← hV, upd_s]
  have v22 : V 22 = nI 0 := by rw [← hV, upd_n (by omega), upd_n (by omega), upd_n (by omega)]; exact h22
  have vk : ∀ k, k < L.length % 20 + 1 → V k = nI (BL (L ++ [ch]) (20 * (L.length / 20) + k)) := fun k hk => by
    rw [← hV, upd_n (by omega), upd_n (by omega), hB]
    by_cases e : k = L.length % 20
    · rw [if_pos (by omega), e, upd_s]
    · rw [if_neg (by omega), upd_n e]
      exact hvm k (by omega)
  by_cases e : L.length % 20 + 1 = 20
  · rw [if_pos e]
    obtain ⟨vm', e1, e2, e3⟩ := l_feed (tp := tp) (fu := fu) (F := 20 * (L.length / 20)) (r := 20) (n := fun k => BL (L ++ [ch]) (20 * (L.length / 20) + k)) (fun j hj => vk j (by omega)) (by rw [v20, e]) (Nat.le_refl _) (fun j hj => hb' _ (by rw [hlen]; omega)) (by omega) hfu
    rw [e1, bd_s]
    refine ⟨nI (20 * (L.length / 20) + 20), wr tp (20 * (L.length / 20)) (pad (fun k => BL (L ++ [ch]) (20 * (L.length / 20) + k)) 20) 20, vm', rfl, by omega, hb', ?_, ?_, ?_, ?_, fun k hk => ?_, fun k hk => ?_⟩
    · rw [hlen]; congr 1; omega
    · rw [hlen, e2]; congr 1; omega
    · rw [hlen, e3 _ (by omega)]; exact v21
    · rw [e3 _ (by omega)]; exact v22
    · rw [hlen] at hk
      unfold wr
      by_cases c : 20 * (L.length / 20) ≤ k ∧ k < 20 * (L.length / 20) + 20
      · rw [if_pos c]
        unfold pad
        rw [if_pos (by omega)]
        exact congrArg (fun z => bx (BL (L ++ [ch]) z)) (by omega)
      · rw [if_neg c, hB, if_neg (by omega)]
        exact htp k (by omega)
    · rw [hlen] at hk; omega
  · rw [if_neg e]
    refine ⟨_, _, _, rfl, by omega, hb', ?_, ?_, ?_, v22, fun k hk => ?_, fun k hk => ?_⟩
    · rw [hlen]; congr 1; omega
    · rw [hlen, v20]; congr 1; omega
    · rw [hlen]; exact v21
    · rw [hlen] at hk
      rw [hB, if_neg (by omega)]
      exact htp k (by omega)
    · rw [hlen] at hk ⊢
      rw [vk k (by omega)]
      congr 2
      omega
/-- a text of so many bytes, one after the other -/
def f_say (fu : Nat) : List Int32 → Int32 → (Nat → Int32) → (Nat → Int32) → Option (Int32 × (Nat → Int32) × (Nat → Int32))
  | [], fl, tp, vm => some (fl, tp, vm)
  | b :: r, fl, tp, vm => bd_ (f_L_put fu 24 b fl tp vm) (fun z => f_say fu r z.1 z.2.1 z.2.2)
theorem p_say (hfu : 100 < fu) : ∀ (M L : List Nat) (fl : Int32) (tp vm : Nat → Int32), SD5 L fl tp vm → (∀ c, c ∈ M → c < 128) → L.length + M.length ≤ 880 → ∃ fl' tp' vm', f_say fu (M.map nI) fl tp vm = some (fl', tp', vm') ∧ SD5 (L ++ M) fl' tp' vm'
  | [], L, fl, tp, v0, h, _, _ => ⟨fl, tp, v0, rfl, by rw [List.append_nil]; exact h⟩
  | c :: M, L, fl, tp, v0, h, hc, hl => by
    rw [List.length_cons] at hl
    obtain ⟨f1, t1, v1, e1, h1⟩ := p_put (fu := fu) h (hc c List.mem_cons_self) (by omega) hfu
    obtain ⟨f2, t2, v2, e2, h2⟩ := p_say hfu M (L ++ [c]) f1 t1 v1 h1 (fun x hx => hc x (List.mem_cons_of_mem _ hx)) (by rw [List.length_append, List.length_singleton]; omega)
    refine ⟨f2, t2, v2, ?_, by rw [List.append_assoc] at h2; exact h2⟩
    show bd_ (f_L_put fu 24 (nI c) fl tp v0) (fun z => f_say fu (M.map nI) z.1 z.2.1 z.2.2) = _
    rw [e1, bd_s]
    exact e2
/-- a name, a number -/
def tN (c k : Nat) : List Nat := [32, c, 97 + k]
def tV (v : Nat) : List Nat := if v ≤ 9 then [32, 48 + v] else [32, 48 + v / 10, 48 + v % 10]
theorem p_name {c k : Nat} (h : SD5 L fl tp vm) (hc : c < 128) (hk : k < 20) (hl : L.length + 3 ≤ 880) (hfu : 100 < fu) : ∃ fl' tp' vm', f_L_name fu 24 (nI c) (nI k) fl tp vm = some (fl', tp', vm') ∧ SD5 (L ++ tN c k) fl' tp' vm' := by
  obtain ⟨f3, t3, v3, e, h3⟩ := p_say hfu (tN c k) L fl tp vm h (fun x hx => by
    unfold tN at hx
    simp only [List.mem_cons, List.not_mem_nil, or_false] at hx
    omega) (by show L.length + 3 ≤ 880; exact hl)
  refine ⟨f3, t3, v3, ?_, h3⟩
  unfold f_L_name
  rw [nI_add]
  exact e
theorem p_number {v : Nat} (h : SD5 L fl tp vm) (hv : v < 100) (hl : L.length + 3 ≤ 880) (hfu : 100 < fu) : ∃ fl' tp' vm', f_L_number fu 24 (nI v) fl tp vm = some (fl', tp', vm') ∧ SD5 (L ++ tV v) fl' tp' vm' := by
  have hlen : (tV v).length ≤ 3 := by
    unfold tV
    split
    · exact (by decide : 2 ≤ 3)
    · exact (by decide : 3 ≤ 3)
  obtain ⟨f3, t3, v3, e, h3⟩ := p_say hfu (tV v) L fl tp vm h (fun x hx => by
    unfold tV at hx
    split at hx <;> simp only [List.mem_cons, List.not_mem_nil, or_false] at hx <;> omega) (by omega)
  refine ⟨f3, t3, v3, ?_, h3⟩
  have e9 : v / 10 * 10 ≤ v := Nat.div_mul_le_self v 10
  unfold f_L_number f_L_number_25
  rw [pk_div (by omega) (by omega) (by omega), pk_mul, pk_sub e9, nI_add, nI_add]
  simp only [nI_le' (show v < 2147483648 by omega) (show 9 < 2147483648 by omega)]
  unfold tV at e
  by_cases c : v ≤ 9
  · rw [if_pos c] at e
    have e2 : 48 + (v - v / 10 * 10) = 48 + v := by omega
    simp only [if_pos c, e2]
    exact e
  · rw [if_neg c] at e
    have e2 : 48 + (v - v / 10 * 10) = 48 + v % 10 := by omega
    simp only [if_neg c, e2]
    exact e
end SAI
