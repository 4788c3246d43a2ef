/-! by which TURN: both sides -/
theorem mkF_step {b : Nat → Int32} {f : Nat → Nat} {j : Nat} : upd (mkF b j f) j (nI (f j)) = mkF b (j + 1) f := by
  funext i
  unfold upd mkF
  by_cases h : i = j
  · subst h; rw [if_pos rfl, if_pos (by omega)]
  · rw [if_neg h]
    by_cases h2 : i < j
    · rw [if_pos h2, if_pos (by omega)]
    · rw [if_neg h2, if_neg (by omega)]
theorem mkF_0 {b : Nat → Int32} {f : Nat → Nat} : mkF b 0 f = b := rfl
theorem m_keeps {c kp : Nat → Int32} {σ : Nat → Nat} {fu : Nat} (hfu : 200 < fu) : f_X12_keeps fu (mk c σ) kp = some (mk kp σ) := by
  unfold f_X12_keeps
  refine loop_p (fun n j => f_X12_keeps_2 fu (mk c σ) n (nI j) (mkF kp j σ)) 111 _ ?_ ?_ 111 0 fu (by omega) (by omega)
  · intro n j hj
    simp (disch := omega) only [f_X12_keeps_2, nI_le', if_neg, gi_n, nI_cl, lt_, mk_in, nI_add, mkF_step]
  · intro n
    simp (disch := omega) only [f_X12_keeps_2, nI_le', if_pos]
    rfl
theorem m_gives {c kp : Nat → Int32} {σ : Nat → Nat} {fu : Nat} (hfu : 200 < fu) : f_X12_gives fu c (mk kp σ) = some (mk c σ) := by
  unfold f_X12_gives
  refine loop_p (fun n j => f_X12_gives_2 fu (mk kp σ) n (nI j) (mkF c j σ)) 111 _ ?_ ?_ 111 0 fu (by omega) (by omega)
  · intro n j hj
    simp (disch := omega) only [f_X12_gives_2, nI_le', if_neg, gi_n, nI_cl, lt_, mk_in, nI_add, mkF_step]
  · intro n
    simp (disch := omega) only [f_X12_gives_2, nI_le', if_pos]
    rfl
/-- what all who see know -/
def sAllKn (σ : Nat → Nat) : Nat → Nat
  | 0 => 2 ^ σ 1 - 1
  | k + 1 => if σ (17 + k) = 1 then sAllKn σ k else sAllKn σ k &&& σ (33 + k)
def sAllK (σ : Nat → Nat) : Nat := sAllKn σ (σ 0)
theorem ones_bit (n i : Nat) : (2 ^ n - 1).testBit i = decide (i < n) := Nat.testBit_two_pow_sub_one n i
theorem ones_lt (n : Nat) : 2 ^ n - 1 < 2 ^ n := by have := Nat.two_pow_pos n; omega
theorem p6 {n : Nat} (h : n ≤ 6) : 2 ^ n ≤ 64 := Nat.pow_le_pow_right (n := 2) (by decide) h
theorem p8 {n : Nat} (h : n ≤ 8) : 2 ^ n ≤ 256 := Nat.pow_le_pow_right (n := 2) (by decide) h
theorem sAllKn_lt {σ : Nat → Nat} (w : WF σ) : ∀ k, sAllKn σ k < 64
  | 0 => by
    have := p6 w.c1
    have := ones_lt (σ 1)
    unfold sAllKn
    omega
  | k + 1 => by
    unfold sAllKn
    split
    · exact sAllKn_lt w k
    · exact Nat.lt_of_le_of_lt Nat.and_le_left (sAllKn_lt w k)
theorem sAllKn_bit {σ : Nat → Nat} {i : Nat} : ∀ n, (sAllKn σ n).testBit i = true ↔ i < σ 1 ∧ ∀ k, k < n → σ (17 + k) ≠ 1 → (σ (33 + k)).testBit i = true
  | 0 => by
    unfold sAllKn
    rw [ones_bit, decide_eq_true_eq]
    exact ⟨fun h => ⟨h, fun k hk => absurd hk (Nat.not_lt_zero k)⟩, fun h => h.1⟩
  | n + 1 => by
    unfold sAllKn
    split
    · rename_i hb
      rw [sAllKn_bit n]
      refine ⟨fun h => ⟨h.1, fun k hk hne => ?_⟩, fun h => ⟨h.1, fun k hk => h.2 k (by omega)⟩⟩
      by_cases e : k = n
      · subst e; exact absurd hb hne
      · exact h.2 k (by omega) hne
    · rename_i hb
      rw [Nat.testBit_and, Bool.and_eq_true, sAllKn_bit n]
      refine ⟨fun h => ⟨h.1.1, fun k hk hne => ?_⟩, fun h => ⟨⟨h.1, fun k hk => h.2 k (by omega)⟩, h.2 n (by omega) hb⟩⟩
      by_cases e : k = n
      · subst e; exact h.2
      · exact h.1.2 k (by omega) hne
theorem nI_andm1 (a : Nat) : nI a &&& (-1 : Int32) = nI a := by
  apply Int32.toBitVec_inj.1
  show (nI a).toBitVec &&& (-1 : Int32).toBitVec = (nI a).toBitVec
  rw [show (-1 : Int32).toBitVec = BitVec.allOnes 32 from by decide]
  exact BitVec.and_allOnes
theorem nI_ones {n : Nat} (h : n < 31) : (nI 1 <<< (nI n &&& (31 : Int32))) - nI 1 = nI (2 ^ n - 1) := by
  rw [nI_1shl h, pk_sub (Nat.two_pow_pos n)]
theorem m_knownToAll {c : Nat → Int32} {σ : Nat → Nat} {fu : Nat} (w : WF σ) (hfu : 100 < fu) : f_X12_knownToAll fu (mk c σ) = some (nI (sAllK σ)) := by
  have h0 := w.c0
  have h1 := w.c1
  unfold f_X12_knownToAll
  simp (disch := omega) only [gi_n, nI_cl, mk_in, nI_ones, lt_]
  refine loop_p (fun n j => f_X12_knownToAll_13 fu (mk c σ) n (nI (sAllKn σ j)) (nI j)) (σ 0) _ ?_ ?_ (σ 0) 0 fu (by omega) (by omega)
  · intro n j hj
    have hb := w.bl (k := j) (by omega)
    simp (disch := omega) only [f_X12_knownToAll_13, gi_n, nI_cl, mk_in, nI_le', if_neg, nI_add, nI_eq', lt_, nI_andm1, nI_and, sAllKn]
    by_cases e : σ (17 + j) = 1
    · rw [if_pos e, if_pos e]
    · rw [if_neg e, if_neg e]
  · intro n
    simp (disch := omega) only [f_X12_knownToAll_13, gi_n, nI_cl, mk_in, nI_le', if_pos]
    rfl
/-- whether each of these CELLS KNOWS all of these SECRETS -/
def sReachN (σ : Nat → Nat) (C S : Nat) : Nat → Nat → Bool
  | 0, _ => true
  | k + 1, j => if C.testBit j = true ∧ dif S (σ (33 + j)) ≠ 0 then false else sReachN σ C S k (j + 1)
def sReach (σ : Nat → Nat) (C S : Nat) : Bool := sReachN σ C S 8 0
theorem sReachN_iff {σ : Nat → Nat} {C S : Nat} : ∀ {k j : Nat}, sReachN σ C S k j = true ↔ ∀ i, j ≤ i → i < j + k → C.testBit i = true → dif S (σ (33 + i)) = 0
  | 0, j => ⟨fun _ i h1 h2 => absurd h2 (by omega), fun _ => rfl⟩
  | k + 1, j => by
    unfold sReachN
    split
    · rename_i h
      exact ⟨fun q => (by cases q), fun h2 => absurd (h2 j (Nat.le_refl _) (by omega) h.1) h.2⟩
    · rename_i h
      rw [sReachN_iff]
      refine ⟨fun h2 i h3 h4 hc => ?_, fun h2 i h3 h4 => h2 i (by omega) (by omega)⟩
      by_cases e : i = j
      · subst e
        exact Classical.byContradiction (fun q => h ⟨hc, q⟩)
      · exact h2 i (by omega) (by omega) hc
theorem sReach_iff {σ : Nat → Nat} {C S : Nat} : sReach σ C S = true ↔ ∀ i, i < 8 → C.testBit i = true → dif S (σ (33 + i)) = 0 := by
  unfold sReach
  rw [sReachN_iff]
  exact ⟨fun h i hi => h i (Nat.zero_le _) (by omega), fun h i _ hi => h i (by omega)⟩
theorem c_isReached {σ : Nat → Nat} {kn : Nat → Int32} {fu C S : Nat} (w : WF σ) (hC : C < 2147483648) (hS : S < 1073741824) (hfu : 100 < fu) : f_X7_isReached fu (nI C) (nI S) (aK kn σ) = some (bI (sReach σ C S)) := by
  unfold f_X7_isReached sReach
  refine loop_q (fun n j => f_X7_isReached_2 fu (aK kn σ) n (nI C) (nI S) (nI j)) 8 (fun k j => some (bI (sReachN σ C S k j))) ?_ ?_ 8 0 fu (by omega) (by omega)
  · intro n k j hj ih
    have hd : dif S (σ (33 + j)) < 2 ^ 30 := dif_lt (n := 30) hS
    simp (disch := omega) only [f_X7_isReached_2, nI_le', if_neg, has7, bd_s, bI_0, lt_, nI_add, gi_n, nI_cl, aK_in, nI_andn, nI_eq0, sReachN]
    cases hb : C.testBit j
    · rw [if_pos rfl, if_neg (fun h => Bool.false_ne_true h.1)]
      exact ih
    · rw [if_neg (by decide)]
      by_cases e : dif S (σ (33 + j)) = 0
      · rw [if_pos e, if_neg (fun h => h.2 e)]
        exact ih
      · rw [if_neg e, if_pos ⟨rfl, e⟩]
        rfl
  · intro n
    simp (disch := omega) only [f_X7_isReached_2, nI_le', if_pos]
    rfl
def sSee (σ : Nat → Nat) : Nat := dif (2 ^ σ 0 - 1) (sB σ)
theorem sSee_bit {σ : Nat → Nat} {k : Nat} (hk : k < 8) : (sSee σ).testBit k = true ↔ k < σ 0 ∧ σ (17 + k) ≠ 1 := by
  unfold sSee
  rw [dif_bit, ones_bit, sB_bit hk]
  simp
theorem sSee_lt {σ : Nat → Nat} (w : WF σ) : sSee σ < 256 := by
  have := p8 w.c0
  have := ones_lt (σ 0)
  exact dif_lt (n := 8) (by omega)
theorem sSee_B {σ τ : Nat → Nat} (h : sameB σ τ) : sSee τ = sSee σ := by unfold sSee; rw [h.e0, sB_B h]
theorem reach_all {σ : Nat → Nat} (w : WF σ) {S : Nat} (hS : S < 2 ^ σ 1) : (dif S (sAllK σ) = 0) ↔ sReach σ (sSee σ) S = true := by
  have h0 := w.c0
  rw [sReach_iff]
  constructor
  · intro h i hi hc
    have hb := (sSee_bit hi).mp hc
    refine dif_0.mpr (fun j hj => ?_)
    exact ((sAllKn_bit _).mp (dif_0.mp h j hj)).2 i hb.1 hb.2
  · intro h
    refine dif_0.mpr (fun j hj => ?_)
    refine (sAllKn_bit _).mpr ⟨?_, fun k hk hne => ?_⟩
    · rcases Nat.lt_or_ge j (σ 1) with h2 | h2
      · exact h2
      · rw [bit_of_lt hS h2] at hj; cases hj
    · exact dif_0.mp (h k (by omega) ((sSee_bit (by omega)).mpr ⟨hk, hne⟩)) j hj
theorem reach_one {σ : Nat → Nat} {S k : Nat} (hk : k < 8) : (dif S (σ (33 + k)) = 0) ↔ sReach σ (2 ^ k) S = true := by
  rw [sReach_iff]
  constructor
  · intro h i hi hc
    rw [Nat.testBit_two_pow, decide_eq_true_eq] at hc
    subst hc; exact h
  · intro h
    exact h k hk (Nat.testBit_two_pow_self)
def sTillN (C S : Nat) : Nat → Nat → (Nat → Nat) → Option Nat
  | 0, _, _ => none
  | k + 1, t, τ => if sReach τ C S = true then some t else sTillN C S k (t + 1) (sTurn τ)
def sTill (σ : Nat → Nat) (C S most : Nat) : Option Nat := sTillN C S (most + 1) 0 σ
theorem reach_Q {σ τ : Nat → Nat} (h : sameQ σ τ) {C S : Nat} : sReach τ C S = sReach σ C S := by
  rw [Bool.eq_iff_iff, sReach_iff, sReach_iff]
  constructor
  · intro a i hi hc
    have := a i hi hc
    rw [h _ (by omega) (by omega)] at this
    exact this
  · intro a i hi hc
    rw [h _ (by omega) (by omega)]
    exact a i hi hc
theorem till_stuck {C S : Nat} : ∀ (k t : Nat) (σ : Nat → Nat), WF σ → stuck σ → sReach σ C S = false → sTillN C S k t σ = none
  | 0, _, _, _, _, _ => rfl
  | k + 1, t, σ, w, hs, hr => by
    obtain ⟨e, -, h2⟩ := stuck_turn w hs
    unfold sTillN
    rw [hr, if_neg (by decide)]
    refine till_stuck k (t + 1) (sTurn σ) (wf_turn w).1 h2 ?_
    rw [e, reach_Q (adv_Q σ)]
    exact hr
theorem c_probeTill {σ : Nat → Nat} {dt kn md sd us lt rm sp od : Nat → Int32} {fu C S most : Nat} (w : WF σ) (hC : C < 2147483648) (hS : S < 1073741824) (hm : most < 100000) (hfu : 200 + most < fu) :
    ∃ o, f_X0_probeTill fu (nI C) (nI S) (nI most) (nI (σ 3)) (nI (σ 8)) (nI (σ 6)) (nI (σ 7)) (nI (σ 4)) (nI (σ 5)) (aD dt σ) (aK kn σ) (aM md σ) (aO od σ) (aS sd σ) (aU us σ) (nI (σ 1)) (nI (σ 2)) (nI (sB σ)) (nI (sR σ)) (aL lt σ) (aR rm σ) (aP sp σ)
      = some (oI (sTill σ C S most), o) := by
  have h3 := w.c3
  unfold f_X0_probeTill
  have G : ∀ k t s n, t + k = most + 1 → k < n → s ≤ t → (∀ j, t - s ≤ j → j < t → sFlag (sIt j σ) = false) →
      ∃ o, f_X0_probeTill_6 fu (nI (σ 3)) (nI (σ 6)) (nI (σ 7)) (aO od σ) (nI (σ 1)) (nI (σ 2)) (nI (sB σ)) (nI (sR σ)) (aL lt σ) (aR rm σ) (aP sp σ) n (nI C) (nI S) (nI most) (nI s) (nI t) (nI (sIt t σ 8)) (nI (sIt t σ 4)) (nI (sIt t σ 5)) (aD dt (sIt t σ)) (aK kn (sIt t σ)) (aM md (sIt t σ)) (aS sd (sIt t σ)) (aU us (sIt t σ))
        = some (oI (sTillN C S k t (sIt t σ)), o) := by
    intro k
    induction k with
    | zero =>
      intro t s n ht hn hs hf
      obtain ⟨n, rfl⟩ : ∃ q, n = q + 1 := ⟨n - 1, by omega⟩
      simp (disch := omega) only [f_X0_probeTill_6, nI_lt', if_pos]
      exact ⟨_, rfl⟩
    | succ k ih =>
      intro t s n ht hn hs hf
      obtain ⟨n, rfl⟩ : ∃ q, n = q + 1 := ⟨n - 1, by omega⟩
      obtain ⟨wr, hB, h4⟩ := sIt_ok w t
      simp (disch := omega) only [f_X0_probeTill_6, nI_lt', if_neg, c_isReached wr, bd_s, bI_0, sTillN]
      cases hr : sReach (sIt t σ) C S
      · rw [if_pos rfl, if_neg (show ¬ (false = true) by decide)]
        by_cases hst : s < σ 3
        · rw [if_pos hst]
          have hP := c_pass (dt := dt) (kn := kn) (md := md) (sd := sd) (us := us) (lt := lt) (rm := rm) (sp := sp) (od := od) (fu := fu) wr (by omega)
          rw [hB.e3, hB.e6, hB.e7, hB.e1, hB.e2, aO_B hB w, aL_B hB w, aR_B hB w, aP_B hB w, sB_B hB, sR_B hB] at hP
          rw [hP, bd_s]
          simp (disch := omega) only [bI_0, lt_, nI_add]
          rw [← sIt_s]
          cases hfl : sFlag (sIt t σ)
          · rw [if_pos rfl]
            refine ih (t + 1) (s + 1) n (by omega) (by omega) (by omega) (fun j h1 h2 => ?_)
            by_cases e : j = t
            · subst e; exact hfl
            · exact hf j (by omega) (by omega)
          · rw [if_neg (by decide)]
            exact ih (t + 1) 0 n (by omega) (by omega) (by omega) (fun j h1 h2 => by omega)
        · rw [if_neg hst]
          have hk : stuck (sIt (t - s) σ) := by
            refine still_stuck (m := s) (sIt_ok w _).1 (by rw [(sIt_ok w _).2.1.e3]; omega) (fun j hj => ?_)
            rw [← sIt_add]
            exact hf _ (by omega) (by omega)
          have hk2 : stuck (sIt t σ) := by
            have := (stuck_it (sIt_ok w (t - s)).1 hk s).1
            rw [← sIt_add, show t - s + s = t by omega] at this
            exact this
          obtain ⟨e, -, h2⟩ := stuck_turn wr hk2
          rw [till_stuck k (t + 1) _ (wf_turn wr).1 h2 (by rw [e, reach_Q (adv_Q _)]; exact hr)]
          exact ⟨_, rfl⟩
      · rw [if_neg (show ¬ (true = false) by decide), if_pos (show true = true from rfl)]
        exact ⟨_, rfl⟩
  exact G (most + 1) 0 0 fu (by omega) (by omega) (Nat.le_refl 0) (fun j _ h => absurd h (Nat.not_lt_zero j))
theorem m_turnWith_50 {c kp : Nat → Int32} {σ τ : Nat → Nat} {fu most t : Nat} (hm : most < 100000) (ht : t ≤ most + 1) (hfu : 200 < fu) : f_X12_turnWith_50 fu (nI most) (nI t) (mk c τ) (mk kp σ) = some (if t ≤ most then nI t else (-1 : Int32), mk c σ, mk kp σ) := by
  unfold f_X12_turnWith_50
  simp (disch := omega) only [m_gives, bd_s, nI_le', mk_mk]
  split <;> rfl
theorem m_turnWithA {c kp : Nat → Int32} {σ : Nat → Nat} {fu S most : Nat} (w : WF σ) (hS : S < 2 ^ σ 1) (hm : most < 100000) (hfu : 200 + most < fu) :
    f_X12_turnWith fu (-1 : Int32) (nI S) (nI most) (mk c σ) kp = some (oI (sTill σ (sSee σ) S most), mk c σ, mk kp σ) := by
  have h1 := p6 w.c1
  unfold f_X12_turnWith
  rw [m_keeps (by omega), bd_s]
  have G : ∀ k t n, t + k = most + 1 → k < n → f_X12_turnWith_7 fu n (-1 : Int32) (nI S) (nI most) (nI t) (mk c (sIt t σ)) (mk kp σ) = some (oI (sTillN (sSee σ) S k t (sIt t σ)), mk c σ, mk kp σ) := by
    intro k
    induction k with
    | zero =>
      intro t n ht hn
      obtain ⟨n, rfl⟩ : ∃ q, n = q + 1 := ⟨n - 1, by omega⟩
      simp (disch := omega) only [f_X12_turnWith_7, nI_lt', if_pos, m_turnWith_50]
      rw [if_neg (by omega)]
      rfl
    | succ k ih =>
      intro t n ht hn
      obtain ⟨n, rfl⟩ : ∃ q, n = q + 1 := ⟨n - 1, by omega⟩
      obtain ⟨wr, hB, h4⟩ := sIt_ok w t
      have hl := sAllKn_lt wr (sIt t σ 0)
      have hd : dif S (sAllK (sIt t σ)) < 64 := dif_lt (n := 6) (by omega)
      have hr := reach_all wr (S := S) (by rw [hB.e1]; exact hS)
      rw [sSee_B hB] at hr
      have e0 : f_X12_turnWith_7 fu (n + 1) (-1 : Int32) (nI S) (nI most) (nI t) (mk c (sIt t σ)) (mk kp σ) = bd_ (f_X12_knownToAll fu (mk c (sIt t σ))) (fun r4 => f_X12_turnWith_34 fu (f_X12_turnWith_7 fu n) (-1 : Int32) (nI S) (nI most) (nI t) (nI S) r4 (mk c (sIt t σ)) (mk kp σ)) := by
        show (if nI most < nI t then _ else (if (0 : Int32) ≤ (-1 : Int32) then _ else _)) = _
        rw [if_neg (by rw [nI_lt' (by omega) (by omega)]; omega), if_neg (by decide)]
      rw [e0, m_knownToAll wr (by omega), bd_s]
      simp (disch := omega) only [f_X12_turnWith_34, nI_andn, nI_eq0, m_turnWith_50, m_goesTurn wr, bd_s, lt_, nI_add, sTillN]
      by_cases e : dif S (sAllK (sIt t σ)) = 0
      · rw [if_pos e, if_pos (hr.mp e), if_pos (by omega)]
        rfl
      · rw [if_neg e, if_neg (fun q => e (hr.mpr q)), ← sIt_s]
        exact ih (t + 1) n (by omega) (by omega)
  exact G (most + 1) 0 fu (by omega) (by omega)
theorem m_turnWith1 {c kp : Nat → Int32} {σ : Nat → Nat} {fu S most k0 : Nat} (w : WF σ) (hk : k0 < 8) (hS : S < 64) (hm : most < 100000) (hfu : 200 + most < fu) :
    f_X12_turnWith fu (nI k0) (nI S) (nI most) (mk c σ) kp = some (oI (sTill σ (2 ^ k0) S most), mk c σ, mk kp σ) := by
  unfold f_X12_turnWith
  rw [m_keeps (by omega), bd_s]
  have G : ∀ k t n, t + k = most + 1 → k < n → f_X12_turnWith_7 fu n (nI k0) (nI S) (nI most) (nI t) (mk c (sIt t σ)) (mk kp σ) = some (oI (sTillN (2 ^ k0) S k t (sIt t σ)), mk c σ, mk kp σ) := by
    intro k
    induction k with
    | zero =>
      intro t n ht hn
      obtain ⟨n, rfl⟩ : ∃ q, n = q + 1 := ⟨n - 1, by omega⟩
      simp (disch := omega) only [f_X12_turnWith_7, nI_lt', if_pos, m_turnWith_50]
      rw [if_neg (by omega)]
      rfl
    | succ k ih =>
      intro t n ht hn
      obtain ⟨n, rfl⟩ : ∃ q, n = q + 1 := ⟨n - 1, by omega⟩
      obtain ⟨wr, hB, h4⟩ := sIt_ok w t
      have hd : dif S (sIt t σ (33 + k0)) < 64 := dif_lt (n := 6) hS
      have hr := reach_one (σ := sIt t σ) (S := S) hk
      simp (disch := omega) only [f_X12_turnWith_7, f_X12_turnWith_34, nI_lt', if_neg, nI_0le, if_true, gi_n, nI_cl, nI_add, mk_in, nI_andn, nI_eq0, m_turnWith_50, m_goesTurn wr, bd_s, lt_, sTillN]
      by_cases e : dif S (sIt t σ (33 + k0)) = 0
      · rw [if_pos e, if_pos (hr.mp e), if_pos (by omega)]
        rfl
      · rw [if_neg e, if_neg (fun q => e (hr.mpr q)), ← sIt_s]
        exact ih (t + 1) n (by omega) (by omega)
  exact G (most + 1) 0 fu (by omega) (by omega)
