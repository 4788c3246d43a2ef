/-! when nothing came of a whole round of the ORDER, nothing comes of any later TURN -/
def sIt : Nat → (Nat → Nat) → Nat → Nat
  | 0, σ => σ
  | n + 1, σ => sIt n (sTurn σ)
theorem sIt_s : ∀ (n : Nat) (σ : Nat → Nat), sIt (n + 1) σ = sTurn (sIt n σ)
  | 0, _ => rfl
  | n + 1, σ => sIt_s n (sTurn σ)
theorem sIt_add : ∀ (m n : Nat) (σ : Nat → Nat), sIt (m + n) σ = sIt n (sIt m σ)
  | 0, n, σ => by rw [Nat.zero_add]; rfl
  | m + 1, n, σ => by rw [show m + 1 + n = (m + n) + 1 by omega]; exact sIt_add m n (sTurn σ)
theorem sIt_ok {σ : Nat → Nat} (w : WF σ) : ∀ n, WF (sIt n σ) ∧ sameB σ (sIt n σ) ∧ sIt n σ 4 = σ 4 + n
  | 0 => ⟨w, sameB.rf, rfl⟩
  | n + 1 => by
    obtain ⟨a, b, c⟩ := sIt_ok w n
    obtain ⟨d, e, f⟩ := wf_turn a
    rw [sIt_s]
    exact ⟨d, b.tr e, by rw [f, c]; omega⟩
/-- the same but for TURNS and the book's place -/
def sameQ (σ τ : Nat → Nat) : Prop := ∀ i, i ≠ 4 → i ≠ 8 → τ i = σ i
theorem sameQ.tr {σ τ ρ : Nat → Nat} (h : sameQ σ τ) (h2 : sameQ τ ρ) : sameQ σ ρ := fun i a b => (h2 i a b).trans (h i a b)
theorem sameQ.D {σ τ : Nat → Nat} (h : sameQ σ τ) (p s : Nat) : sD τ p s = sD σ p s := h _ (by omega) (by omega)
theorem sameQ.Pr {σ τ : Nat → Nat} (h : sameQ σ τ) (p : Nat) : sPr τ p = sPr σ p := by unfold sPr; simp only [h.D]
theorem sameQ.Free {σ τ : Nat → Nat} (h : sameQ σ τ) (p : Nat) : sFree τ p = sFree σ p := by unfold sFree; rw [h.Pr, h _ (by omega) (by omega)]
theorem sameQ.St {σ τ : Nat → Nat} (h : sameQ σ τ) (p s : Nat) : sSt τ p s = sSt σ p s := by unfold sSt; rw [h.D, h _ (by omega) (by omega)]
theorem sameQ.Stg {σ τ : Nat → Nat} (h : sameQ σ τ) (p : Nat) : sStg τ p = sStg σ p := sStg_same (h 1 (by omega) (by omega)) (fun s _ => h.St p s)
theorem sameQ.Shut {σ τ : Nat → Nat} (h : sameQ σ τ) (p : Nat) : sShut τ p = sShut σ p := by unfold sShut; rw [h 7 (by omega) (by omega)]
theorem sameQ.Open {σ τ : Nat → Nat} (h : sameQ σ τ) : sOpen τ = sOpen σ := by
  have : ∀ k, sOpenN τ k = sOpenN σ k := by
    intro k
    induction k with
    | zero => rfl
    | succ k ih => unfold sOpenN; rw [ih, h.Shut, h.Stg]
  unfold sOpen
  rw [h 2 (by omega) (by omega), this]
theorem sameQ.Pg {σ τ : Nat → Nat} (h : sameQ σ τ) (s : Nat) : sPg τ s = sPg σ s := by
  have : ∀ k, sPgN τ s k = sPgN σ s k := by
    intro k
    induction k with
    | zero => rfl
    | succ k ih => unfold sPgN; rw [ih]; unfold sPgS; simp only [h.Shut, h.Free, h.D]
  unfold sPg
  rw [h 2 (by omega) (by omega), this]
theorem sameQ.Many {σ τ : Nat → Nat} (h : sameQ σ τ) (p s l : Nat) : sMany τ p s l = sMany σ p s l := by unfold sMany; rw [h.Free, h.D, h _ (by omega) (by omega)]
theorem sameQ.Want {σ τ : Nat → Nat} (h : sameQ σ τ) (k s : Nat) : sWant τ k s = sWant σ k s := by unfold sWant; rw [h.Open, h _ (by omega) (by omega)]
/-- nothing comes of it if this CELL has the book -/
def quiet (σ : Nat → Nat) (k : Nat) : Prop :=
  (σ (17 + k) = 0 → dif (sOpen σ) (σ (33 + k)) = 0) ∧ ∀ s, s < σ 1 → sWant σ k s = true → ∀ p, sPg σ s = some p → sMany σ p s (σ (9 + k)) = 0
theorem sameQ.quiet {σ τ : Nat → Nat} (h : sameQ σ τ) {k : Nat} (hk : k < 8) (q : quiet σ k) : quiet τ k := by
  refine ⟨fun h1 => ?_, fun s hs hw p hp => ?_⟩
  · rw [h.Open, h _ (by omega) (by omega)]
    rw [h _ (by omega) (by omega)] at h1
    exact q.1 h1
  · rw [h.Many, h _ (by omega) (by omega)]
    rw [h _ (by omega) (by omega)] at hs
    rw [h.Want] at hw
    rw [h.Pg] at hp
    exact q.2 s hs hw p hp
theorem up_same {f : Nat → Nat} {i v : Nat} (h : f i = v) : up f i v = f := by
  funext j
  unfold up
  split
  · rename_i e; rw [e, h]
  · rfl
theorem or_of_dif {a b : Nat} (h : dif b a = 0) : a ||| b = a := by
  apply Nat.eq_of_testBit_eq
  intro i
  rw [Nat.testBit_or]
  cases hb : b.testBit i
  · simp
  · rw [dif_0.mp h i hb]; rfl
theorem dif_of_or {a b : Nat} (h : a ||| b = a) : dif b a = 0 := by
  refine dif_0.mpr (fun i hi => ?_)
  rw [← h, Nat.testBit_or, hi, Bool.or_true]
theorem stg_in_open {σ : Nat → Nat} {p i : Nat} (hp : p < σ 2) (hs : sShut σ p = false) (h : (sStg σ p).testBit i = true) : (sOpen σ).testBit i = true := by
  rw [b_stg, Bool.and_eq_true, decide_eq_true_eq] at h
  exact sOpen_bit.mpr ⟨p, hp, hs, h.1, h.2⟩
theorem quiet_rub {σ : Nat → Nat} {knew : Nat} (h : dif (sOpen σ) knew = 0) : sRub σ knew = σ := by
  have : sRubP σ knew = none := by
    cases hp : sRubP σ knew with
    | none => rfl
    | some p =>
      exfalso
      have h2 := fnd_some hp
      have h3 := h2.2.2.1
      rw [Bool.and_eq_true] at h3
      have hs : sShut σ p = false := by simpa using h3.1
      have hz : dif (sStg σ p) knew ≠ 0 := by simpa using h3.2
      apply hz
      refine dif_0.mpr (fun i hi => ?_)
      exact dif_0.mp h i (stg_in_open (by omega) hs hi)
  unfold sRub
  rw [this]
theorem quiet_reads {σ : Nat → Nat} {k : Nat} (q : quiet σ k) : sReads σ k = σ := by
  unfold sReads
  split
  · rename_i hb
    have h1 := q.1 hb
    have e : up σ (33 + k) (σ (33 + k) ||| sOpen σ) = σ := up_same (or_of_dif h1).symm
    rw [e]
    split
    · exact quiet_rub h1
    · rfl
  · rfl
theorem quiet_pricks {σ : Nat → Nat} {k : Nat} (q : quiet σ k) : ∀ j, j ≤ σ 1 → sPrickN k (σ, σ (9 + k)) j = (σ, σ (9 + k))
  | 0, _ => rfl
  | j + 1, hj => by
    show sPrick1 k j (sPrickN k (σ, σ (9 + k)) j) = _
    rw [quiet_pricks q j (by omega)]
    unfold sPrick1
    split
    · rename_i hw
      split
      · rfl
      · rename_i p hp
        have := q.2 j (by omega) hw p hp
        simp only at this ⊢
        rw [this, sAdd_0, Nat.sub_zero]
    · rfl
theorem quiet_act {σ : Nat → Nat} {k : Nat} (q : quiet σ k) : sPricks (sReads σ k) k = σ := by
  rw [quiet_reads q]
  unfold sPricks
  rw [quiet_pricks q _ (Nat.le_refl _)]
theorem sPrickN_mono {k : Nat} {q : (Nat → Nat) × Nat} : ∀ j, (sPrickN k q j).2 ≤ q.2
  | 0 => Nat.le_refl _
  | j + 1 => by
    have := sPrickN_mono (k := k) (q := q) j
    show (sPrick1 k j (sPrickN k q j)).2 ≤ q.2
    unfold sPrick1
    split
    · split
      · exact this
      · simp only; omega
    · exact this
/-- no PRICKS made: none could be made of any SECRET -/
theorem pricks_quiet {k : Nat} {σ : Nat → Nat} {l : Nat} : ∀ j, (sPrickN k (σ, l) j).2 = l → sPrickN k (σ, l) j = (σ, l) ∧ ∀ s, s < j → sWant σ k s = true → ∀ p, sPg σ s = some p → sMany σ p s l = 0
  | 0, _ => ⟨rfl, fun s hs => absurd hs (Nat.not_lt_zero s)⟩
  | j + 1, h => by
    have h0 : (sPrickN k (σ, l) j).2 = l := by
      have a := sPrickN_mono (k := k) (q := (σ, l)) j
      have b : (sPrickN k (σ, l) (j + 1)).2 ≤ (sPrickN k (σ, l) j).2 := by
        show (sPrick1 k j (sPrickN k (σ, l) j)).2 ≤ _
        unfold sPrick1
        split
        · split
          · exact Nat.le_refl _
          · simp only; omega
        · exact Nat.le_refl _
      simp only at a
      omega
    obtain ⟨e, h1⟩ := pricks_quiet j h0
    have h2 : (sPrick1 k j (σ, l)).2 = l := by rw [← e]; exact h
    have e3 : sPrickN k (σ, l) (j + 1) = sPrick1 k j (σ, l) := by
      show sPrick1 k j (sPrickN k (σ, l) j) = _
      rw [e]
    have key : ∀ p, sWant σ k j = true → sPg σ j = some p → sMany σ p j l = 0 := by
      intro p hw hp
      unfold sPrick1 at h2
      rw [if_pos hw] at h2
      simp only [hp] at h2
      have := sMany_le (σ := σ) (p := p) (s := j) (left := l)
      omega
    refine ⟨?_, fun s hs hw p hp => ?_⟩
    · rw [e3]
      refine sPrick1_cases (fun r => r = (σ, l)) rfl (fun p hw hp => ?_)
      rw [key p hw hp, sAdd_0, Nat.sub_zero]
    · by_cases es : s = j
      · subst es; exact key p hw hp
      · exact h1 s (by omega) hw p hp
/-- the book alone goes on -/
def adv (σ : Nat → Nat) : Nat → Nat := up (up σ 4 (σ 4 + 1)) 8 (sPl σ)
theorem adv_Q (σ : Nat → Nat) : sameQ σ (adv σ) := fun i a b => by unfold adv; rw [up_n _ _ b, up_n _ _ a]
theorem adv_8 (σ : Nat → Nat) : adv σ 8 = sPl σ := up_s _ _ _
theorem adv_4 (σ : Nat → Nat) : adv σ 4 = σ 4 + 1 := by unfold adv; rw [up_n _ _ (by omega), up_s]
theorem quiet_turn {σ : Nat → Nat} (h : ∀ pl, sNext σ = some pl → σ (67 + pl) < 8 ∧ quiet σ (σ (67 + pl))) : sTurn σ = adv σ := by
  unfold sTurn adv sPl
  cases hn : sNext σ with
  | none => exact (up_same (up_n _ _ (by omega))).symm
  | some pl =>
    obtain ⟨h1, h2⟩ := h pl hn
    have hQ : sameQ σ (up (up σ 4 (σ 4 + 1)) 8 ((pl + 1) % σ 3)) := fun i a b => by rw [up_n _ _ b, up_n _ _ a]
    exact quiet_act (hQ.quiet h1 h2)
theorem quiet_flag {σ : Nat → Nat} (w : WF σ) (h : ∀ pl, sNext σ = some pl → quiet σ (σ (67 + pl))) : sFlag σ = false := by
  have ht := quiet_turn (fun pl hp => ⟨w.or' (sNext_lt hp), h pl hp⟩)
  unfold sFlag
  cases hn : sNext σ with
  | none => rfl
  | some pl =>
    have hk := w.or' (sNext_lt hn)
    rw [ht]
    simp only
    rw [adv_Q σ (33 + σ (67 + pl)) (by omega) (by omega), adv_Q σ 5 (by omega) (by omega)]
    simp
theorem flag_quiet {σ : Nat → Nat} (w : WF σ) (hf : sFlag σ = false) : ∀ pl, sNext σ = some pl → quiet σ (σ (67 + pl)) := by
  intro pl hn
  have hpl := sNext_lt hn
  have hk := w.or' hpl
  have hk0 := w.or hpl
  have h0 := w.c0
  unfold sFlag at hf
  rw [hn] at hf
  simp only [Bool.or_eq_false_iff, decide_eq_false_iff_not, Classical.not_not] at hf
  obtain ⟨hf1, hf2⟩ := hf
  have e4 : sTurn σ = sPricks (sReads (up (up σ 4 (σ 4 + 1)) 8 ((pl + 1) % σ 3)) (σ (67 + pl))) (σ (67 + pl)) := by unfold sTurn; rw [hn]
  have hQ : sameQ σ (up (up σ 4 (σ 4 + 1)) 8 ((pl + 1) % σ 3)) := fun i a b => by rw [up_n _ _ b, up_n _ _ a]
  have hm : (pl + 1) % σ 3 < σ 3 := Nat.mod_lt _ (by omega)
  have wt := wf_8 (wf_4 w (v := σ 4 + 1)) (v := (pl + 1) % σ 3) (by rw [up_n _ _ (by omega)]; exact Or.inl hm)
  rw [e4] at hf1 hf2
  generalize σ (67 + pl) = k at hf1 hf2 hk hk0 ⊢
  generalize up (up σ 4 (σ 4 + 1)) 8 ((pl + 1) % σ 3) = τ at hf1 hf2 hQ wt
  have hQ' : sameQ τ σ := fun i a b => (hQ i a b).symm
  refine hQ'.quiet hk ?_
  obtain ⟨wr, -, -, -⟩ := wf_reads wt (k := k) (by rw [hQ 0 (by omega) (by omega)]; exact hk0)
  obtain ⟨-, -, hp, -⟩ := sPricks_ok wr (k := k) hk
  rw [hp _ (by omega) (by omega), ← hQ (33 + k) (by omega) (by omega)] at hf1
  have r1 : τ (17 + k) = 0 → dif (sOpen τ) (τ (33 + k)) = 0 := by
    intro hb
    apply dif_of_or
    unfold sReads at hf1
    rw [if_pos hb] at hf1
    split at hf1
    · rw [sRub_75 (by omega), up_s] at hf1; exact hf1
    · rw [up_s] at hf1; exact hf1
  have hr : sReads τ k = τ := by
    unfold sReads
    split
    · rename_i hb
      have e : up τ (33 + k) (τ (33 + k) ||| sOpen τ) = τ := up_same (or_of_dif (r1 hb)).symm
      rw [e]
      split
      · exact quiet_rub (r1 hb)
      · rfl
    · rfl
  rw [hr] at hf2
  have hl : (sPrickN k (τ, τ (9 + k)) (τ 1)).2 = τ (9 + k) := by
    obtain ⟨-, e, -, -⟩ := sPrickN_more wt (left := τ (9 + k)) hk _ (Nat.le_refl _)
    have e2 : (sPrickN k (τ, τ (9 + k)) (τ 1)).1 5 = σ 5 := hf2
    rw [e, hQ 5 (by omega) (by omega)] at e2
    have := sPrickN_mono (k := k) (q := (τ, τ (9 + k))) (τ 1)
    simp only at this
    omega
  exact ⟨r1, fun s hs hw p hp => (pricks_quiet _ hl).2 s hs hw p hp⟩
