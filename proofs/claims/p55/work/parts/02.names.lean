/-! ===== BEGIN words of one list among another's, by their places ===== -/
theorem goodIn_r {big : List Cond} (ws : List Cond) (ps : List Nat) (hp : ws = ps.filterMap (fun i => big[i]?)) (h : ws.all goodWord = true) : GoodIn big ws := by
  intro w hw
  have h1 := List.all_eq_true.mp h w hw
  rw [hp] at hw
  obtain ⟨i, -, hi⟩ := List.mem_filterMap.mp hw
  have hm : w ∈ big := by first | exact List.mem_of_getElem? hi | exact List.getElem?_mem hi
  exact ⟨hm, good_of_word h1⟩
theorem goodIn_app {big a b : List Cond} (ha : GoodIn big a) (hb : GoodIn big b) : GoodIn big (a ++ b) := fun w h => (List.mem_append.mp h).elim (ha w) (hb w)
theorem goodIn_ca {big a b : List Cond} {c : Cond} (ha : GoodIn big (c :: a)) (hb : GoodIn big b) : GoodIn big (c :: (a ++ b)) := fun w h => (List.mem_cons.mp h).elim (fun e => ha w (List.mem_cons.mpr (Or.inl e))) (fun h => (List.mem_append.mp h).elim (fun h => ha w (List.mem_cons.mpr (Or.inr h))) (hb w))
theorem goodIn_sub {big ws : List Cond} (hm : ∀ w ∈ ws, w ∈ big) (h : ws.all goodWord = true) : GoodIn big ws := fun w hw => ⟨hm w hw, good_of_word (List.all_eq_true.mp h w hw)⟩
/-! ===== END ===== -/

def RX0 : String := "MarginPlan$Ahead"
def TX0 : u_T := fun k => match k with
  | 0 => ("MarginPlan$Ahead", "probe", "LMarginPlan$State;", true)
  | 1 => ("MarginPlan$Ahead", "trial", "[I", true)
  | 2 => ("MarginPlan$Ahead", "best", "[I", true)
  | _ => ("MarginPlan$Ahead", "bestMany", "I", false)
def tyX0 : Nat → FieldType := fun k => match k with
  | 0 => .object "MarginPlan$State"
  | 1 => .array .int
  | 2 => .array .int
  | _ => .int
abbrev wsX00 : List Cond := u_ws RX0 TX0 4
theorem nmX0 : ∀ a, a < 4 → ∀ b, b < 4 → a ≠ b → (TX0 a).2.1 ≠ (TX0 b).2.1 := by decide +kernel
theorem tyX0_ok : ∀ k, k < 4 → parseFieldDescriptor (TX0 k).2.2.1 = some (tyX0 k) := by decide +kernel
abbrev cX0_init : ByteArray := prog_2_method_1_code
def yX0_init : MethodName := ⟨RX0, "<init>", "()V"⟩
abbrev cX0_turnsTill : ByteArray := prog_2_method_2_code
def yX0_turnsTill : MethodName := ⟨RX0, "turnsTill", "(LMarginPlan$Book;II)I"⟩
abbrev cX0_behind : ByteArray := prog_2_method_3_code
def yX0_behind : MethodName := ⟨RX0, "behind", "(LMarginPlan$Book;I)LMarginPlan$State;"⟩
abbrev cX0_probeTill : ByteArray := prog_2_method_4_code
def yX0_probeTill : MethodName := ⟨RX0, "probeTill", "(LMarginPlan$Book;III)I"⟩
abbrev cX0_seekBest : ByteArray := prog_2_method_5_code
def yX0_seekBest : MethodName := ⟨RX0, "seekBest", "(LMarginPlan$Book;)I"⟩
abbrev cX0_sortInto : ByteArray := prog_2_method_6_code
def yX0_sortInto : MethodName := ⟨RX0, "sortInto", "(LMarginPlan$State;)V"⟩
abbrev cX0_permute : ByteArray := prog_2_method_7_code
def yX0_permute : MethodName := ⟨RX0, "permute", "(I)Z"⟩
abbrev cX0_swap : ByteArray := prog_2_method_8_code
def yX0_swap : MethodName := ⟨RX0, "swap", "(II)V"⟩
def RX1 : String := "MarginPlan$Book"
def TX1 : u_T := fun k => match k with
  | 0 => ("MarginPlan$Book", "cells", "I", false)
  | 1 => ("MarginPlan$Book", "secrets", "I", false)
  | 2 => ("MarginPlan$Book", "pages", "I", false)
  | 3 => ("MarginPlan$Book", "cellNames", "[J", true)
  | 4 => ("MarginPlan$Book", "secretNames", "[J", true)
  | 5 => ("MarginPlan$Book", "pageNames", "[J", true)
  | 6 => ("MarginPlan$Book", "speed", "[I", true)
  | 7 => ("MarginPlan$Book", "blind", "I", false)
  | 8 => ("MarginPlan$Book", "rubs", "I", false)
  | 9 => ("MarginPlan$Book", "letters", "[I", true)
  | 10 => ("MarginPlan$Book", "room", "[I", true)
  | 11 => ("MarginPlan$Book", "now", "LMarginPlan$State;", true)
  | _ => ("MarginPlan$Book", "rounds", "LMarginPlan$Rounds;", true)
def tyX1 : Nat → FieldType := fun k => match k with
  | 0 => .int
  | 1 => .int
  | 2 => .int
  | 3 => .array .long
  | 4 => .array .long
  | 5 => .array .long
  | 6 => .array .int
  | 7 => .int
  | 8 => .int
  | 9 => .array .int
  | 10 => .array .int
  | 11 => .object "MarginPlan$State"
  | _ => .object "MarginPlan$Rounds"
abbrev wsX10 : List Cond := u_ws RX1 TX1 13
theorem nmX1 : ∀ a, a < 13 → ∀ b, b < 13 → a ≠ b → (TX1 a).2.1 ≠ (TX1 b).2.1 := by decide +kernel
theorem tyX1_ok : ∀ k, k < 13 → parseFieldDescriptor (TX1 k).2.2.1 = some (tyX1 k) := by decide +kernel
abbrev cX1_init : ByteArray := prog_3_method_1_code
def yX1_init : MethodName := ⟨RX1, "<init>", "()V"⟩
abbrev cX1_clear : ByteArray := prog_3_method_2_code
def yX1_clear : MethodName := ⟨RX1, "clear", "()V"⟩
abbrev cX1_copyFrom : ByteArray := prog_3_method_3_code
def yX1_copyFrom : MethodName := ⟨RX1, "copyFrom", "(LMarginPlan$Book;)V"⟩
abbrev cX1_indexOf : ByteArray := prog_3_method_4_code
def yX1_indexOf : MethodName := ⟨RX1, "indexOf", "([JIJ)I"⟩
abbrev cX1_isTaken : ByteArray := prog_3_method_5_code
def yX1_isTaken : MethodName := ⟨RX1, "isTaken", "(J)Z"⟩
abbrev cX1_addCell : ByteArray := prog_3_method_6_code
def yX1_addCell : MethodName := ⟨RX1, "addCell", "(JIZZ)V"⟩
abbrev cX1_addSecret : ByteArray := prog_3_method_7_code
def yX1_addSecret : MethodName := ⟨RX1, "addSecret", "(JI)V"⟩
abbrev cX1_addPage : ByteArray := prog_3_method_8_code
def yX1_addPage : MethodName := ⟨RX1, "addPage", "(JI)V"⟩
abbrev cX1_hasCell : ByteArray := prog_3_method_9_code
def yX1_hasCell : MethodName := ⟨RX1, "hasCell", "(I)Z"⟩
abbrev cX1_hasSecret : ByteArray := prog_3_method_10_code
def yX1_hasSecret : MethodName := ⟨RX1, "hasSecret", "(I)Z"⟩
abbrev cX1_hasPage : ByteArray := prog_3_method_11_code
def yX1_hasPage : MethodName := ⟨RX1, "hasPage", "(I)Z"⟩
abbrev cX1_seeing : ByteArray := prog_3_method_12_code
def yX1_seeing : MethodName := ⟨RX1, "seeing", "()I"⟩
abbrev cX1_allSecrets : ByteArray := prog_3_method_13_code
def yX1_allSecrets : MethodName := ⟨RX1, "allSecrets", "()I"⟩
def RX2 : String := "MarginPlan$BookReader"
def TX2 : u_T := fun k => match k with
  | _ => ("MarginPlan$BookReader", "ordered", "Z", false)
def tyX2 : Nat → FieldType := fun k => match k with
  | _ => .boolean
abbrev wsX20 : List Cond := u_ws RX2 TX2 1
theorem nmX2 : ∀ a, a < 1 → ∀ b, b < 1 → a ≠ b → (TX2 a).2.1 ≠ (TX2 b).2.1 := by decide +kernel
theorem tyX2_ok : ∀ k, k < 1 → parseFieldDescriptor (TX2 k).2.2.1 = some (tyX2 k) := by decide +kernel
abbrev cX2_init : ByteArray := prog_4_method_1_code
def yX2_init : MethodName := ⟨RX2, "<init>", "()V"⟩
abbrev cX2_take : ByteArray := prog_4_method_2_code
def yX2_take : MethodName := ⟨RX2, "take", "(LMarginPlan$Tokens;LMarginPlan$Book;)Z"⟩
abbrev cX2_newName : ByteArray := prog_4_method_3_code
def yX2_newName : MethodName := ⟨RX2, "newName", "(LMarginPlan$Tokens;LMarginPlan$Book;)J"⟩
abbrev cX2_takeCell : ByteArray := prog_4_method_4_code
def yX2_takeCell : MethodName := ⟨RX2, "takeCell", "(LMarginPlan$Tokens;LMarginPlan$Book;)Z"⟩
abbrev cX2_takeSecret : ByteArray := prog_4_method_5_code
def yX2_takeSecret : MethodName := ⟨RX2, "takeSecret", "(LMarginPlan$Tokens;LMarginPlan$Book;)Z"⟩
abbrev cX2_takePage : ByteArray := prog_4_method_6_code
def yX2_takePage : MethodName := ⟨RX2, "takePage", "(LMarginPlan$Tokens;LMarginPlan$Book;)Z"⟩
abbrev cX2_lastNumber : ByteArray := prog_4_method_7_code
def yX2_lastNumber : MethodName := ⟨RX2, "lastNumber", "(LMarginPlan$Tokens;III)I"⟩
abbrev cX2_takeKnows : ByteArray := prog_4_method_8_code
def yX2_takeKnows : MethodName := ⟨RX2, "takeKnows", "(LMarginPlan$Tokens;LMarginPlan$Book;)Z"⟩
abbrev cX2_takeOrder : ByteArray := prog_4_method_9_code
def yX2_takeOrder : MethodName := ⟨RX2, "takeOrder", "(LMarginPlan$Tokens;LMarginPlan$Book;)Z"⟩
abbrev cX2_takeRead : ByteArray := prog_4_method_10_code
def yX2_takeRead : MethodName := ⟨RX2, "takeRead", "(LMarginPlan$Tokens;LMarginPlan$Book;)Z"⟩
def RX3 : String := "MarginPlan$Life"
def TX3 : u_T := fun k => match k with
  | 0 => ("MarginPlan$Life", "steps", "I", false)
  | 1 => ("MarginPlan$Life", "missed", "I", false)
  | 2 => ("MarginPlan$Life", "turns", "I", false)
  | 3 => ("MarginPlan$Life", "made", "I", false)
  | 4 => ("MarginPlan$Life", "found", "I", false)
  | 5 => ("MarginPlan$Life", "left", "I", false)
  | 6 => ("MarginPlan$Life", "seed", "I", false)
  | 7 => ("MarginPlan$Life", "loopsLeft", "[I", true)
  | _ => ("MarginPlan$Life", "probe", "LMarginPlan$State;", true)
def tyX3 : Nat → FieldType := fun k => match k with
  | 0 => .int
  | 1 => .int
  | 2 => .int
  | 3 => .int
  | 4 => .int
  | 5 => .int
  | 6 => .int
  | 7 => .array .int
  | _ => .object "MarginPlan$State"
abbrev wsX30 : List Cond := u_ws RX3 TX3 9
theorem nmX3 : ∀ a, a < 9 → ∀ b, b < 9 → a ≠ b → (TX3 a).2.1 ≠ (TX3 b).2.1 := by decide +kernel
theorem tyX3_ok : ∀ k, k < 9 → parseFieldDescriptor (TX3 k).2.2.1 = some (tyX3 k) := by decide +kernel
abbrev cX3_init : ByteArray := prog_5_method_1_code
def yX3_init : MethodName := ⟨RX3, "<init>", "()V"⟩
def RX4 : String := "MarginPlan$Odds"
def TX4 : u_T := fun k => match k with
  | 0 => ("MarginPlan$Odds", "above", "J", false)
  | 1 => ("MarginPlan$Odds", "below", "J", false)
  | 2 => ("MarginPlan$Odds", "holds", "[J", true)
  | _ => ("MarginPlan$Odds", "lettersOf", "[I", true)
def tyX4 : Nat → FieldType := fun k => match k with
  | 0 => .long
  | 1 => .long
  | 2 => .array .long
  | _ => .array .int
abbrev wsX40 : List Cond := u_ws RX4 TX4 4
theorem nmX4 : ∀ a, a < 4 → ∀ b, b < 4 → a ≠ b → (TX4 a).2.1 ≠ (TX4 b).2.1 := by decide +kernel
theorem tyX4_ok : ∀ k, k < 4 → parseFieldDescriptor (TX4 k).2.2.1 = some (tyX4 k) := by decide +kernel
abbrev cX4_init : ByteArray := prog_6_method_1_code
def yX4_init : MethodName := ⟨RX4, "<init>", "()V"⟩
abbrev cX4_keep : ByteArray := prog_6_method_2_code
def yX4_keep : MethodName := ⟨RX4, "keep", "(JJ)V"⟩
abbrev cX4_commonDivisor : ByteArray := prog_6_method_3_code
def yX4_commonDivisor : MethodName := ⟨RX4, "commonDivisor", "(JJ)J"⟩
abbrev cX4_tellMix : ByteArray := prog_6_method_6_code
def yX4_tellMix : MethodName := ⟨RX4, "tellMix", "(LMarginPlan$Book;I)V"⟩
abbrev cX4_firstSafe : ByteArray := prog_6_method_7_code
def yX4_firstSafe : MethodName := ⟨RX4, "firstSafe", "(LMarginPlan$Book;)I"⟩
abbrev cX4_part : ByteArray := prog_6_method_8_code
def yX4_part : MethodName := ⟨RX4, "part", "(LMarginPlan$Book;I)J"⟩
abbrev cX4_sumOfParts : ByteArray := prog_6_method_9_code
def yX4_sumOfParts : MethodName := ⟨RX4, "sumOfParts", "(LMarginPlan$Book;)J"⟩
def RX5 : String := "MarginPlan$Rounds"
def TX5 : u_T := fun k => match k with
  | 0 => ("MarginPlan$Rounds", "present", "Z", false)
  | 1 => ("MarginPlan$Rounds", "steps", "I", false)
  | 2 => ("MarginPlan$Rounds", "size", "I", false)
  | 3 => ("MarginPlan$Rounds", "code", "[I", true)
  | 4 => ("MarginPlan$Rounds", "one", "[I", true)
  | 5 => ("MarginPlan$Rounds", "other", "[I", true)
  | _ => ("MarginPlan$Rounds", "mate", "[I", true)
def tyX5 : Nat → FieldType := fun k => match k with
  | 0 => .boolean
  | 1 => .int
  | 2 => .int
  | 3 => .array .int
  | 4 => .array .int
  | 5 => .array .int
  | _ => .array .int
abbrev wsX50 : List Cond := u_ws RX5 TX5 7
theorem nmX5 : ∀ a, a < 7 → ∀ b, b < 7 → a ≠ b → (TX5 a).2.1 ≠ (TX5 b).2.1 := by decide +kernel
theorem tyX5_ok : ∀ k, k < 7 → parseFieldDescriptor (TX5 k).2.2.1 = some (tyX5 k) := by decide +kernel
abbrev cX5_init : ByteArray := prog_7_method_1_code
def yX5_init : MethodName := ⟨RX5, "<init>", "()V"⟩
abbrev cX5_isTest : ByteArray := prog_7_method_2_code
def yX5_isTest : MethodName := ⟨RX5, "isTest", "(I)Z"⟩
abbrev cX5_clear : ByteArray := prog_7_method_3_code
def yX5_clear : MethodName := ⟨RX5, "clear", "()V"⟩
abbrev cX5_copyFrom : ByteArray := prog_7_method_4_code
def yX5_copyFrom : MethodName := ⟨RX5, "copyFrom", "(LMarginPlan$Rounds;)V"⟩
abbrev cX5_add : ByteArray := prog_7_method_5_code
def yX5_add : MethodName := ⟨RX5, "add", "(III)I"⟩
abbrev cX5_close : ByteArray := prog_7_method_6_code
def yX5_close : MethodName := ⟨RX5, "close", "(I)V"⟩
def RX6 : String := "MarginPlan$RoundsReader"
def TX6 : u_T := fun k => match k with
  | 0 => ("MarginPlan$RoundsReader", "open", "[I", true)
  | _ => ("MarginPlan$RoundsReader", "depth", "I", false)
def tyX6 : Nat → FieldType := fun k => match k with
  | 0 => .array .int
  | _ => .int
abbrev wsX60 : List Cond := u_ws RX6 TX6 2
theorem nmX6 : ∀ a, a < 2 → ∀ b, b < 2 → a ≠ b → (TX6 a).2.1 ≠ (TX6 b).2.1 := by decide +kernel
theorem tyX6_ok : ∀ k, k < 2 → parseFieldDescriptor (TX6 k).2.2.1 = some (tyX6 k) := by decide +kernel
abbrev cX6_init : ByteArray := prog_8_method_1_code
def yX6_init : MethodName := ⟨RX6, "<init>", "()V"⟩
abbrev cX6_take : ByteArray := prog_8_method_2_code
def yX6_take : MethodName := ⟨RX6, "take", "(LMarginPlan$Tokens;LMarginPlan$Book;LMarginPlan$Rounds;)Z"⟩
abbrev cX6_takeEnd : ByteArray := prog_8_method_3_code
def yX6_takeEnd : MethodName := ⟨RX6, "takeEnd", "(LMarginPlan$Tokens;LMarginPlan$Rounds;)Z"⟩
abbrev cX6_takeStep : ByteArray := prog_8_method_4_code
def yX6_takeStep : MethodName := ⟨RX6, "takeStep", "(LMarginPlan$Tokens;LMarginPlan$Book;LMarginPlan$Rounds;)Z"⟩
abbrev cX6_takeOne : ByteArray := prog_8_method_5_code
def yX6_takeOne : MethodName := ⟨RX6, "takeOne", "(LMarginPlan$Tokens;LMarginPlan$Book;I)I"⟩
abbrev cX6_takeOther : ByteArray := prog_8_method_6_code
def yX6_takeOther : MethodName := ⟨RX6, "takeOther", "(LMarginPlan$Tokens;LMarginPlan$Book;I)I"⟩
abbrev cX6_addStep : ByteArray := prog_8_method_7_code
def yX6_addStep : MethodName := ⟨RX6, "addStep", "(LMarginPlan$Rounds;III)V"⟩
def RX7 : String := "MarginPlan$State"
def TX7 : u_T := fun k => match k with
  | 0 => ("MarginPlan$State", "order", "[I", true)
  | 1 => ("MarginPlan$State", "inOrder", "I", false)
  | 2 => ("MarginPlan$State", "place", "I", false)
  | 3 => ("MarginPlan$State", "knows", "[I", true)
  | 4 => ("MarginPlan$State", "made", "[I", true)
  | 5 => ("MarginPlan$State", "sixteenths", "[I", true)
  | 6 => ("MarginPlan$State", "dots", "[I", true)
  | 7 => ("MarginPlan$State", "used", "[I", true)
  | 8 => ("MarginPlan$State", "stands", "[I", true)
  | 9 => ("MarginPlan$State", "ill", "I", false)
  | 10 => ("MarginPlan$State", "shut", "I", false)
  | 11 => ("MarginPlan$State", "turns", "I", false)
  | _ => ("MarginPlan$State", "madeInAll", "I", false)
def tyX7 : Nat → FieldType := fun k => match k with
  | 0 => .array .int
  | 1 => .int
  | 2 => .int
  | 3 => .array .int
  | 4 => .array .int
  | 5 => .array .int
  | 6 => .array .int
  | 7 => .array .int
  | 8 => .array .int
  | 9 => .int
  | 10 => .int
  | 11 => .int
  | _ => .int
abbrev wsX70 : List Cond := u_ws RX7 TX7 13
theorem nmX7 : ∀ a, a < 13 → ∀ b, b < 13 → a ≠ b → (TX7 a).2.1 ≠ (TX7 b).2.1 := by decide +kernel
theorem tyX7_ok : ∀ k, k < 13 → parseFieldDescriptor (TX7 k).2.2.1 = some (tyX7 k) := by decide +kernel
abbrev cX7_init : ByteArray := prog_9_method_1_code
def yX7_init : MethodName := ⟨RX7, "<init>", "()V"⟩
abbrev cX7_has : ByteArray := prog_9_method_2_code
def yX7_has : MethodName := ⟨RX7, "has", "(II)Z"⟩
abbrev cX7_clear : ByteArray := prog_9_method_3_code
def yX7_clear : MethodName := ⟨RX7, "clear", "()V"⟩
abbrev cX7_copyFrom : ByteArray := prog_9_method_4_code
def yX7_copyFrom : MethodName := ⟨RX7, "copyFrom", "(LMarginPlan$State;)V"⟩
abbrev cX7_orderAll : ByteArray := prog_9_method_5_code
def yX7_orderAll : MethodName := ⟨RX7, "orderAll", "(I)V"⟩
abbrev cX7_orderAnew : ByteArray := prog_9_method_6_code
def yX7_orderAnew : MethodName := ⟨RX7, "orderAnew", "([I)V"⟩
abbrev cX7_placeOf : ByteArray := prog_9_method_7_code
def yX7_placeOf : MethodName := ⟨RX7, "placeOf", "(I)I"⟩
abbrev cX7_nextPlace : ByteArray := prog_9_method_8_code
def yX7_nextPlace : MethodName := ⟨RX7, "nextPlace", "()I"⟩
abbrev cX7_usedInAll : ByteArray := prog_9_method_9_code
def yX7_usedInAll : MethodName := ⟨RX7, "usedInAll", "()I"⟩
abbrev cX7_freeOf : ByteArray := prog_9_method_10_code
def yX7_freeOf : MethodName := ⟨RX7, "freeOf", "(LMarginPlan$Book;I)I"⟩
abbrev cX7_isReached : ByteArray := prog_9_method_12_code
def yX7_isReached : MethodName := ⟨RX7, "isReached", "(II)Z"⟩
abbrev cX7_swapPlaces : ByteArray := prog_9_method_13_code
def yX7_swapPlaces : MethodName := ⟨RX7, "swapPlaces", "(II)Z"⟩
abbrev cX7_erasePage : ByteArray := prog_9_method_14_code
def yX7_erasePage : MethodName := ⟨RX7, "erasePage", "(I)I"⟩
abbrev cX7_goOn : ByteArray := prog_9_method_15_code
def yX7_goOn : MethodName := ⟨RX7, "goOn", "()I"⟩
abbrev cX7_pass : ByteArray := prog_9_method_16_code
def yX7_pass : MethodName := ⟨RX7, "pass", "(LMarginPlan$Book;)Z"⟩
abbrev cX7_passMany : ByteArray := prog_9_method_17_code
def yX7_passMany : MethodName := ⟨RX7, "passMany", "(LMarginPlan$Book;I)V"⟩
abbrev cX7_skip : ByteArray := prog_9_method_18_code
def yX7_skip : MethodName := ⟨RX7, "skip", "(I)V"⟩
abbrev cX7_standingInAll : ByteArray := prog_9_method_19_code
def yX7_standingInAll : MethodName := ⟨RX7, "standingInAll", "(LMarginPlan$Book;)I"⟩
abbrev cX7_eraseFirstNew : ByteArray := prog_9_method_20_code
def yX7_eraseFirstNew : MethodName := ⟨RX7, "eraseFirstNew", "(LMarginPlan$Book;I)V"⟩
abbrev cX7_eraseSecret : ByteArray := prog_9_method_21_code
def yX7_eraseSecret : MethodName := ⟨RX7, "eraseSecret", "(II)V"⟩
abbrev cX7_makePricks : ByteArray := prog_9_method_22_code
def yX7_makePricks : MethodName := ⟨RX7, "makePricks", "(LMarginPlan$Book;I)V"⟩
abbrev cX7_pageFor : ByteArray := prog_9_method_23_code
def yX7_pageFor : MethodName := ⟨RX7, "pageFor", "(LMarginPlan$Book;I)I"⟩
abbrev cX7_makeOn : ByteArray := prog_9_method_24_code
def yX7_makeOn : MethodName := ⟨RX7, "makeOn", "(LMarginPlan$Book;III)I"⟩
def RX8 : String := "MarginPlan$Tokens"
def TX8 : u_T := fun k => match k with
  | 0 => ("MarginPlan$Tokens", "tape", "[B", true)
  | 1 => ("MarginPlan$Tokens", "filled", "I", false)
  | 2 => ("MarginPlan$Tokens", "end", "I", false)
  | 3 => ("MarginPlan$Tokens", "at", "I", false)
  | 4 => ("MarginPlan$Tokens", "kind", "I", false)
  | 5 => ("MarginPlan$Tokens", "place", "I", false)
  | 6 => ("MarginPlan$Tokens", "word", "J", false)
  | 7 => ("MarginPlan$Tokens", "key", "I", false)
  | 8 => ("MarginPlan$Tokens", "number", "I", false)
  | 9 => ("MarginPlan$Tokens", "faultKind", "I", false)
  | 10 => ("MarginPlan$Tokens", "faultPlace", "I", false)
  | _ => ("MarginPlan$Tokens", "keys", "[J", true)
def tyX8 : Nat → FieldType := fun k => match k with
  | 0 => .array .byte
  | 1 => .int
  | 2 => .int
  | 3 => .int
  | 4 => .int
  | 5 => .int
  | 6 => .long
  | 7 => .int
  | 8 => .int
  | 9 => .int
  | 10 => .int
  | _ => .array .long
abbrev wsX80 : List Cond := u_ws RX8 TX8 12
theorem nmX8 : ∀ a, a < 12 → ∀ b, b < 12 → a ≠ b → (TX8 a).2.1 ≠ (TX8 b).2.1 := by decide +kernel
theorem tyX8_ok : ∀ k, k < 12 → parseFieldDescriptor (TX8 k).2.2.1 = some (tyX8 k) := by decide +kernel
abbrev cX8_init : ByteArray := prog_10_method_1_code
def yX8_init : MethodName := ⟨RX8, "<init>", "()V"⟩
abbrev cX8_withLetter : ByteArray := prog_10_method_2_code
def yX8_withLetter : MethodName := ⟨RX8, "withLetter", "(JI)J"⟩
abbrev cX8_hasRoomFor : ByteArray := prog_10_method_3_code
def yX8_hasRoomFor : MethodName := ⟨RX8, "hasRoomFor", "(I)Z"⟩
abbrev cX8_append : ByteArray := prog_10_method_4_code
def yX8_append : MethodName := ⟨RX8, "append", "(I)V"⟩
abbrev cX8_empty : ByteArray := prog_10_method_5_code
def yX8_empty : MethodName := ⟨RX8, "empty", "()V"⟩
abbrev cX8_begin : ByteArray := prog_10_method_6_code
def yX8_begin : MethodName := ⟨RX8, "begin", "(I)Z"⟩
abbrev cX8_forward : ByteArray := prog_10_method_7_code
def yX8_forward : MethodName := ⟨RX8, "forward", "()V"⟩
abbrev cX8_isLetter : ByteArray := prog_10_method_8_code
def yX8_isLetter : MethodName := ⟨RX8, "isLetter", "(I)Z"⟩
abbrev cX8_isDigit : ByteArray := prog_10_method_9_code
def yX8_isDigit : MethodName := ⟨RX8, "isDigit", "(I)Z"⟩
abbrev cX8_isSign : ByteArray := prog_10_method_10_code
def yX8_isSign : MethodName := ⟨RX8, "isSign", "(I)Z"⟩
abbrev cX8_takeWord : ByteArray := prog_10_method_11_code
def yX8_takeWord : MethodName := ⟨RX8, "takeWord", "()V"⟩
abbrev cX8_takeNumber : ByteArray := prog_10_method_12_code
def yX8_takeNumber : MethodName := ⟨RX8, "takeNumber", "()V"⟩
abbrev cX8_fail : ByteArray := prog_10_method_13_code
def yX8_fail : MethodName := ⟨RX8, "fail", "(I)Z"⟩
abbrev cX8_failAt : ByteArray := prog_10_method_14_code
def yX8_failAt : MethodName := ⟨RX8, "failAt", "(II)Z"⟩
abbrev cX8_skips : ByteArray := prog_10_method_15_code
def yX8_skips : MethodName := ⟨RX8, "skips", "(I)Z"⟩
abbrev cX8_atSemicolon : ByteArray := prog_10_method_16_code
def yX8_atSemicolon : MethodName := ⟨RX8, "atSemicolon", "()Z"⟩
abbrev cX8_closes : ByteArray := prog_10_method_17_code
def yX8_closes : MethodName := ⟨RX8, "closes", "()Z"⟩
abbrev cX8_numberWithin : ByteArray := prog_10_method_18_code
def yX8_numberWithin : MethodName := ⟨RX8, "numberWithin", "(II)I"⟩
abbrev cX8_nameHere : ByteArray := prog_10_method_19_code
def yX8_nameHere : MethodName := ⟨RX8, "nameHere", "()J"⟩
abbrev cX8_oneOf : ByteArray := prog_10_method_20_code
def yX8_oneOf : MethodName := ⟨RX8, "oneOf", "([JI)I"⟩
def RX9 : String := "MarginPlan$Trays"
def TX9 : u_T := fun k => match k with
  | 0 => ("MarginPlan$Trays", "rows", "[[J", true)
  | 1 => ("MarginPlan$Trays", "sorts", "[I", true)
  | _ => ("MarginPlan$Trays", "lengths", "[I", true)
def tyX9 : Nat → FieldType := fun k => match k with
  | 0 => .array (.array .long)
  | 1 => .array .int
  | _ => .array .int
abbrev wsX90 : List Cond := u_ws RX9 TX9 3
theorem nmX9 : ∀ a, a < 3 → ∀ b, b < 3 → a ≠ b → (TX9 a).2.1 ≠ (TX9 b).2.1 := by decide +kernel
theorem tyX9_ok : ∀ k, k < 3 → parseFieldDescriptor (TX9 k).2.2.1 = some (tyX9 k) := by decide +kernel
abbrev cX9_init : ByteArray := prog_11_method_1_code
def yX9_init : MethodName := ⟨RX9, "<init>", "()V"⟩
def RX10 : String := "MarginPlan$Words"
def TX10 : u_T := fun k => match k with
  | 0 => ("MarginPlan$Words", "word", "[I", true)
  | 1 => ("MarginPlan$Words", "row", "[I", true)
  | 2 => ("MarginPlan$Words", "wordLength", "I", false)
  | 3 => ("MarginPlan$Words", "rowLength", "I", false)
  | 4 => ("MarginPlan$Words", "ways", "[J", true)
  | _ => ("MarginPlan$Words", "places", "[I", true)
def tyX10 : Nat → FieldType := fun k => match k with
  | 0 => .array .int
  | 1 => .array .int
  | 2 => .int
  | 3 => .int
  | 4 => .array .long
  | _ => .array .int
abbrev wsX100 : List Cond := u_ws RX10 TX10 6
theorem nmX10 : ∀ a, a < 6 → ∀ b, b < 6 → a ≠ b → (TX10 a).2.1 ≠ (TX10 b).2.1 := by decide +kernel
theorem tyX10_ok : ∀ k, k < 6 → parseFieldDescriptor (TX10 k).2.2.1 = some (tyX10 k) := by decide +kernel
abbrev cX10_init : ByteArray := prog_12_method_1_code
def yX10_init : MethodName := ⟨RX10, "<init>", "()V"⟩
def RX11 : String := "MarginPlan"
def TX11 : u_T := fun k => match k with
  | 0 => ("MarginPlan", "status", "I", false)
  | 1 => ("MarginPlan", "trays", "LMarginPlan$Trays;", true)
  | 2 => ("MarginPlan", "words", "LMarginPlan$Words;", true)
  | 3 => ("MarginPlan", "odds", "LMarginPlan$Odds;", true)
  | 4 => ("MarginPlan", "tokens", "LMarginPlan$Tokens;", true)
  | 5 => ("MarginPlan", "bookReader", "LMarginPlan$BookReader;", true)
  | 6 => ("MarginPlan", "roundsReader", "LMarginPlan$RoundsReader;", true)
  | 7 => ("MarginPlan", "book", "LMarginPlan$Book;", true)
  | 8 => ("MarginPlan", "draft", "LMarginPlan$Book;", true)
  | 9 => ("MarginPlan", "marks", "[LMarginPlan$Book;", true)
  | 10 => ("MarginPlan", "marked", "I", false)
  | 11 => ("MarginPlan", "ahead", "LMarginPlan$Ahead;", true)
  | 12 => ("MarginPlan", "life", "LMarginPlan$Life;", true)
  | 13 => ("MarginPlan", "lifeTold", "[I", true)
  | _ => ("MarginPlan", "hasLived", "Z", false)
def tyX11 : Nat → FieldType := fun k => match k with
  | 0 => .int
  | 1 => .object "MarginPlan$Trays"
  | 2 => .object "MarginPlan$Words"
  | 3 => .object "MarginPlan$Odds"
  | 4 => .object "MarginPlan$Tokens"
  | 5 => .object "MarginPlan$BookReader"
  | 6 => .object "MarginPlan$RoundsReader"
  | 7 => .object "MarginPlan$Book"
  | 8 => .object "MarginPlan$Book"
  | 9 => .array (.object "MarginPlan$Book")
  | 10 => .int
  | 11 => .object "MarginPlan$Ahead"
  | 12 => .object "MarginPlan$Life"
  | 13 => .array .int
  | _ => .boolean
abbrev wsX110 : List Cond := u_ws RX11 TX11 15
theorem nmX11 : ∀ a, a < 15 → ∀ b, b < 15 → a ≠ b → (TX11 a).2.1 ≠ (TX11 b).2.1 := by decide +kernel
theorem tyX11_ok : ∀ k, k < 15 → parseFieldDescriptor (TX11 k).2.2.1 = some (tyX11 k) := by decide +kernel
abbrev cX11_init : ByteArray := prog_1_method_1_code
def yX11_init : MethodName := ⟨RX11, "<init>", "()V"⟩
abbrev cX11_top : ByteArray := prog_1_method_3_code
def yX11_top : MethodName := ⟨RX11, "top", "()J"⟩
abbrev cX11_bottom : ByteArray := prog_1_method_4_code
def yX11_bottom : MethodName := ⟨RX11, "bottom", "()J"⟩
abbrev cX11_refuse : ByteArray := prog_1_method_5_code
def yX11_refuse : MethodName := ⟨RX11, "refuse", "(I)I"⟩
abbrev cX11_deny : ByteArray := prog_1_method_6_code
def yX11_deny : MethodName := ⟨RX11, "deny", "(I)Z"⟩
abbrev cX11_answer : ByteArray := prog_1_method_7_code
def yX11_answer : MethodName := ⟨RX11, "answer", "(I)I"⟩
abbrev cX11_agree : ByteArray := prog_1_method_8_code
def yX11_agree : MethodName := ⟨RX11, "agree", "()Z"⟩
abbrev cX11_answerIfAny : ByteArray := prog_1_method_9_code
def yX11_answerIfAny : MethodName := ⟨RX11, "answerIfAny", "(I)I"⟩
abbrev cX11_feed : ByteArray := prog_1_method_14_code
def yX11_feed : MethodName := ⟨RX11, "feed", "(IIIII)I"⟩
abbrev cX11_book : ByteArray := prog_1_method_15_code
def yX11_book : MethodName := ⟨RX11, "book", "(I)I"⟩
abbrev cX11_rounds : ByteArray := prog_1_method_16_code
def yX11_rounds : MethodName := ⟨RX11, "rounds", "(I)I"⟩
abbrev cX11_many : ByteArray := prog_1_method_18_code
def yX11_many : MethodName := ⟨RX11, "many", "(I)I"⟩
abbrev cX11_cell : ByteArray := prog_1_method_19_code
def yX11_cell : MethodName := ⟨RX11, "cell", "(II)I"⟩
abbrev cX11_page : ByteArray := prog_1_method_21_code
def yX11_page : MethodName := ⟨RX11, "page", "(II)I"⟩
abbrev cX11_pricks : ByteArray := prog_1_method_22_code
def yX11_pricks : MethodName := ⟨RX11, "pricks", "(II)I"⟩
abbrev cX11_orderAt : ByteArray := prog_1_method_23_code
def yX11_orderAt : MethodName := ⟨RX11, "orderAt", "(I)I"⟩
abbrev cX11_next : ByteArray := prog_1_method_24_code
def yX11_next : MethodName := ⟨RX11, "next", "()I"⟩
abbrev cX11_turn : ByteArray := prog_1_method_27_code
def yX11_turn : MethodName := ⟨RX11, "turn", "(I)I"⟩
abbrev cX11_rub : ByteArray := prog_1_method_28_code
def yX11_rub : MethodName := ⟨RX11, "rub", "(I)I"⟩
abbrev cX11_damp : ByteArray := prog_1_method_29_code
def yX11_damp : MethodName := ⟨RX11, "damp", "(IZ)Z"⟩
abbrev cX11_ill : ByteArray := prog_1_method_30_code
def yX11_ill : MethodName := ⟨RX11, "ill", "(IZ)Z"⟩
abbrev cX11_move : ByteArray := prog_1_method_31_code
def yX11_move : MethodName := ⟨RX11, "move", "(II)Z"⟩
abbrev cX11_when : ByteArray := prog_1_method_34_code
def yX11_when : MethodName := ⟨RX11, "when", "(II)I"⟩
abbrev cX11_heard : ByteArray := prog_1_method_35_code
def yX11_heard : MethodName := ⟨RX11, "heard", "(I)I"⟩
abbrev cX11_all : ByteArray := prog_1_method_36_code
def yX11_all : MethodName := ⟨RX11, "all", "()I"⟩
abbrev cX11_later : ByteArray := prog_1_method_37_code
def yX11_later : MethodName := ⟨RX11, "later", "(II)I"⟩
abbrev cX11_never : ByteArray := prog_1_method_39_code
def yX11_never : MethodName := ⟨RX11, "never", "()I"⟩
abbrev cX11_bestOrder : ByteArray := prog_1_method_41_code
def yX11_bestOrder : MethodName := ⟨RX11, "bestOrder", "()I"⟩
abbrev cX11_bestAt : ByteArray := prog_1_method_42_code
def yX11_bestAt : MethodName := ⟨RX11, "bestAt", "(I)I"⟩
abbrev cX11_kept : ByteArray := prog_1_method_43_code
def yX11_kept : MethodName := ⟨RX11, "kept", "()I"⟩
abbrev cX11_hide : ByteArray := prog_1_method_48_code
def yX11_hide : MethodName := ⟨RX11, "hide", "(I)I"⟩
abbrev cX11_mix : ByteArray := prog_1_method_50_code
def yX11_mix : MethodName := ⟨RX11, "mix", "(I)Z"⟩
abbrev cX11_mark : ByteArray := prog_1_method_57_code
def yX11_mark : MethodName := ⟨RX11, "mark", "()I"⟩
abbrev cX11_back : ByteArray := prog_1_method_58_code
def yX11_back : MethodName := ⟨RX11, "back", "()I"⟩
def RX12 : String := "MarginPlanModel"
def TX12 : u_T := fun k => match k with
  | _ => ("", "", "", false)
def tyX12 : Nat → FieldType := fun k => match k with
  | _ => .int
abbrev wsX120 : List Cond := u_ws RX12 TX12 0
theorem nmX12 : ∀ a, a < 0 → ∀ b, b < 0 → a ≠ b → (TX12 a).2.1 ≠ (TX12 b).2.1 := by decide +kernel
theorem tyX12_ok : ∀ k, k < 0 → parseFieldDescriptor (TX12 k).2.2.1 = some (tyX12 k) := by decide +kernel
def RJx145de : String := "java/io/Serializable"
def TJx145de : u_T := fun k => match k with
  | _ => ("", "", "", false)
def tyJx145de : Nat → FieldType := fun k => match k with
  | _ => .int
abbrev wsJx145de0 : List Cond := u_ws RJx145de TJx145de 0
theorem nmJx145de : ∀ a, a < 0 → ∀ b, b < 0 → a ≠ b → (TJx145de a).2.1 ≠ (TJx145de b).2.1 := by decide +kernel
theorem tyJx145de_ok : ∀ k, k < 0 → parseFieldDescriptor (TJx145de k).2.2.1 = some (tyJx145de k) := by decide +kernel
def RJx9f9b0 : String := "java/lang/CharSequence"
def TJx9f9b0 : u_T := fun k => match k with
  | _ => ("", "", "", false)
def tyJx9f9b0 : Nat → FieldType := fun k => match k with
  | _ => .int
abbrev wsJx9f9b00 : List Cond := u_ws RJx9f9b0 TJx9f9b0 0
theorem nmJx9f9b0 : ∀ a, a < 0 → ∀ b, b < 0 → a ≠ b → (TJx9f9b0 a).2.1 ≠ (TJx9f9b0 b).2.1 := by decide +kernel
theorem tyJx9f9b0_ok : ∀ k, k < 0 → parseFieldDescriptor (TJx9f9b0 k).2.2.1 = some (tyJx9f9b0 k) := by decide +kernel
def RJxb160c : String := "java/lang/Comparable"
def TJxb160c : u_T := fun k => match k with
  | _ => ("", "", "", false)
def tyJxb160c : Nat → FieldType := fun k => match k with
  | _ => .int
abbrev wsJxb160c0 : List Cond := u_ws RJxb160c TJxb160c 0
theorem nmJxb160c : ∀ a, a < 0 → ∀ b, b < 0 → a ≠ b → (TJxb160c a).2.1 ≠ (TJxb160c b).2.1 := by decide +kernel
theorem tyJxb160c_ok : ∀ k, k < 0 → parseFieldDescriptor (TJxb160c k).2.2.1 = some (tyJxb160c k) := by decide +kernel
def RJ9 : String := "java/lang/Math"
def TJ9 : u_T := fun k => match k with
  | _ => ("", "", "", false)
def tyJ9 : Nat → FieldType := fun k => match k with
  | _ => .int
abbrev wsJ90 : List Cond := u_ws RJ9 TJ9 0
theorem nmJ9 : ∀ a, a < 0 → ∀ b, b < 0 → a ≠ b → (TJ9 a).2.1 ≠ (TJ9 b).2.1 := by decide +kernel
theorem tyJ9_ok : ∀ k, k < 0 → parseFieldDescriptor (TJ9 k).2.2.1 = some (tyJ9 k) := by decide +kernel
abbrev cJ9_min_7cf53 : ByteArray := prog_15_method_69_code
def yJ9_min_7cf53 : MethodName := ⟨RJ9, "min", "(II)I"⟩
def RJ0 : String := "java/lang/String"
def TJ0 : u_T := fun k => match k with
  | _ => ("", "", "", false)
def tyJ0 : Nat → FieldType := fun k => match k with
  | _ => .int
abbrev wsJ00 : List Cond := u_ws RJ0 TJ0 0
theorem nmJ0 : ∀ a, a < 0 → ∀ b, b < 0 → a ≠ b → (TJ0 a).2.1 ≠ (TJ0 b).2.1 := by decide +kernel
theorem tyJ0_ok : ∀ k, k < 0 → parseFieldDescriptor (TJ0 k).2.2.1 = some (tyJ0 k) := by decide +kernel
abbrev cJ0_length_8abf5 : ByteArray := prog_16_method_54_code
def yJ0_length_8abf5 : MethodName := ⟨RJ0, "length", "()I"⟩
abbrev cJ0_charAt_5068e : ByteArray := prog_16_method_56_code
def yJ0_charAt_5068e : MethodName := ⟨RJ0, "charAt", "(I)C"⟩
abbrev cJ0_coder_7d493 : ByteArray := prog_16_method_152_code
def yJ0_coder_7d493 : MethodName := ⟨RJ0, "coder", "()B"⟩
abbrev cJ0_isLatin1_aae02 : ByteArray := prog_16_method_154_code
def yJ0_isLatin1_aae02 : MethodName := ⟨RJ0, "isLatin1", "()Z"⟩
abbrev cJ0_checkIndex_df160 : ByteArray := prog_16_method_155_code
def yJ0_checkIndex_df160 : MethodName := ⟨RJ0, "checkIndex", "(II)V"⟩
def RJ1 : String := "java/lang/StringLatin1"
def TJ1 : u_T := fun k => match k with
  | _ => ("", "", "", false)
def tyJ1 : Nat → FieldType := fun k => match k with
  | _ => .int
abbrev wsJ10 : List Cond := u_ws RJ1 TJ1 0
theorem nmJ1 : ∀ a, a < 0 → ∀ b, b < 0 → a ≠ b → (TJ1 a).2.1 ≠ (TJ1 b).2.1 := by decide +kernel
theorem tyJ1_ok : ∀ k, k < 0 → parseFieldDescriptor (TJ1 k).2.2.1 = some (tyJ1 k) := by decide +kernel
abbrev cJ1_charAt_3b067 : ByteArray := prog_17_method_2_code
def yJ1_charAt_3b067 : MethodName := ⟨RJ1, "charAt", "([BI)C"⟩
def RJ2 : String := "java/lang/StringUTF16"
def TJ2 : u_T := fun k => match k with
  | _ => ("", "", "", false)
def tyJ2 : Nat → FieldType := fun k => match k with
  | _ => .int
abbrev wsJ20 : List Cond := u_ws RJ2 TJ2 0
theorem nmJ2 : ∀ a, a < 0 → ∀ b, b < 0 → a ≠ b → (TJ2 a).2.1 ≠ (TJ2 b).2.1 := by decide +kernel
theorem tyJ2_ok : ∀ k, k < 0 → parseFieldDescriptor (TJ2 k).2.2.1 = some (tyJ2 k) := by decide +kernel
abbrev cJ2_getChar_3b067 : ByteArray := prog_18_method_5_code
def yJ2_getChar_3b067 : MethodName := ⟨RJ2, "getChar", "([BI)C"⟩
abbrev cJ2_length_9d52b : ByteArray := prog_18_method_6_code
def yJ2_length_9d52b : MethodName := ⟨RJ2, "length", "([B)I"⟩
abbrev cJ2_charAt_3b067 : ByteArray := prog_18_method_83_code
def yJ2_charAt_3b067 : MethodName := ⟨RJ2, "charAt", "([BI)C"⟩
abbrev cJ2_checkIndex_2214a : ByteArray := prog_18_method_91_code
def yJ2_checkIndex_2214a : MethodName := ⟨RJ2, "checkIndex", "(I[B)V"⟩
def RJ10 : String := "java/lang/System"
def TJ10 : u_T := fun k => match k with
  | _ => ("", "", "", false)
def tyJ10 : Nat → FieldType := fun k => match k with
  | _ => .int
abbrev wsJ100 : List Cond := u_ws RJ10 TJ10 0
theorem nmJ10 : ∀ a, a < 0 → ∀ b, b < 0 → a ≠ b → (TJ10 a).2.1 ≠ (TJ10 b).2.1 := by decide +kernel
theorem tyJ10_ok : ∀ k, k < 0 → parseFieldDescriptor (TJ10 k).2.2.1 = some (tyJ10 k) := by decide +kernel
def RJxfd54e : String := "java/lang/constant/Constable"
def TJxfd54e : u_T := fun k => match k with
  | _ => ("", "", "", false)
def tyJxfd54e : Nat → FieldType := fun k => match k with
  | _ => .int
abbrev wsJxfd54e0 : List Cond := u_ws RJxfd54e TJxfd54e 0
theorem nmJxfd54e : ∀ a, a < 0 → ∀ b, b < 0 → a ≠ b → (TJxfd54e a).2.1 ≠ (TJxfd54e b).2.1 := by decide +kernel
theorem tyJxfd54e_ok : ∀ k, k < 0 → parseFieldDescriptor (TJxfd54e k).2.2.1 = some (tyJxfd54e k) := by decide +kernel
def RJx3cf43 : String := "java/lang/constant/ConstantDesc"
def TJx3cf43 : u_T := fun k => match k with
  | _ => ("", "", "", false)
def tyJx3cf43 : Nat → FieldType := fun k => match k with
  | _ => .int
abbrev wsJx3cf430 : List Cond := u_ws RJx3cf43 TJx3cf43 0
theorem nmJx3cf43 : ∀ a, a < 0 → ∀ b, b < 0 → a ≠ b → (TJx3cf43 a).2.1 ≠ (TJx3cf43 b).2.1 := by decide +kernel
theorem tyJx3cf43_ok : ∀ k, k < 0 → parseFieldDescriptor (TJx3cf43 k).2.2.1 = some (tyJx3cf43 k) := by decide +kernel
def RJ7 : String := "java/util/Arrays"
def TJ7 : u_T := fun k => match k with
  | _ => ("", "", "", false)
def tyJ7 : Nat → FieldType := fun k => match k with
  | _ => .int
abbrev wsJ70 : List Cond := u_ws RJ7 TJ7 0
theorem nmJ7 : ∀ a, a < 0 → ∀ b, b < 0 → a ≠ b → (TJ7 a).2.1 ≠ (TJ7 b).2.1 := by decide +kernel
theorem tyJ7_ok : ∀ k, k < 0 → parseFieldDescriptor (TJ7 k).2.2.1 = some (tyJ7 k) := by decide +kernel
abbrev cJ7_fill_53178 : ByteArray := prog_20_method_103_code
def yJ7_fill_53178 : MethodName := ⟨RJ7, "fill", "([II)V"⟩
def RJ3 : String := "jdk/internal/util/Preconditions"
def TJ3 : u_T := fun k => match k with
  | _ => ("", "", "", false)
def tyJ3 : Nat → FieldType := fun k => match k with
  | _ => .int
abbrev wsJ30 : List Cond := u_ws RJ3 TJ3 0
theorem nmJ3 : ∀ a, a < 0 → ∀ b, b < 0 → a ≠ b → (TJ3 a).2.1 ≠ (TJ3 b).2.1 := by decide +kernel
theorem tyJ3_ok : ∀ k, k < 0 → parseFieldDescriptor (TJ3 k).2.2.1 = some (tyJ3 k) := by decide +kernel
abbrev cJ3_checkIndex_8e157 : ByteArray := prog_21_method_11_code
def yJ3_checkIndex_8e157 : MethodName := ⟨RJ3, "checkIndex", "(IILjava/util/function/BiFunction;)I"⟩
def RL : String := "MarginPlanLaw"
abbrev cL_put : ByteArray := method_2_code
def yL_put : MethodName := ⟨RL, "put", "(LMarginPlan;[II)V"⟩
abbrev cL_feed : ByteArray := method_3_code
def yL_feed : MethodName := ⟨RL, "feed", "(LMarginPlan;[I)V"⟩
abbrev cL_four : ByteArray := method_4_code
def yL_four : MethodName := ⟨RL, "four", "([II)I"⟩
abbrev cL_say : ByteArray := method_5_code
def yL_say : MethodName := ⟨RL, "say", "(LMarginPlan;[ILjava/lang/String;)V"⟩
abbrev cL_load : ByteArray := method_6_code
def yL_load : MethodName := ⟨RL, "load", "(LMarginPlan;[I)I"⟩
abbrev cL_number : ByteArray := method_7_code
def yL_number : MethodName := ⟨RL, "number", "(LMarginPlan;[II)V"⟩
abbrev cL_name : ByteArray := method_8_code
def yL_name : MethodName := ⟨RL, "name", "(LMarginPlan;[III)V"⟩
abbrev cL_lay : ByteArray := method_9_code
def yL_lay : MethodName := ⟨RL, "lay", "(LMarginPlan;[I[I)Z"⟩
abbrev cL_draw : ByteArray := method_10_code
def yL_draw : MethodName := ⟨RL, "draw", "([II[I)V"⟩
abbrev cL_law : ByteArray := code
def yL_law : MethodName := ⟨RL, "law", "([I)Z"⟩
