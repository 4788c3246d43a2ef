/-! the law's walk: which cell stands on which numbers; a call within the law's world -/
def law_dt : List (List Nat × List Nat × List Nat × List Nat) := [([0, 1, 2], [], [], []), ([], [], [], []), ([], [], [], []), ([], [], [], [0]), ([], [], [], [1]), ([], [], [], [2]), ([], [], [], [3]), ([], [], [0], []), ([], [], [1], []), ([3, 4], [], [], []), ([], [], [2], []), ([], [], [3], []), ([], [], [], [4]), ([], [], [4], []), ([], [0, 1], [], []), ([], [], [], [5]), ([], [], [5], []), ([5, 6, 7, 8, 9, 10, 11, 12, 13], [2], [], []), ([], [], [6], []), ([], [], [], [6]), ([14], [], [], []), ([15], [], [], []), ([], [], [7], []), ([16, 17, 18, 19, 20], [], [], []), ([], [], [], [7]), ([], [], [], [8]), ([], [], [], [9]), ([], [], [8], []), ([], [], [9], []), ([], [], [10], []), ([21, 22, 23, 24, 25, 26], [], [], []), ([], [], [11], []), ([], [], [12], []), ([], [], [13], []), ([], [], [14], []), ([], [], [15], []), ([], [], [16], []), ([], [], [17], []), ([27, 28, 29], [], [], []), ([], [], [18], []), ([], [], [19], []), ([], [], [20], []), ([], [], [21], []), ([30, 31, 32, 33, 34], [], [], []), ([], [], [], [10]), ([], [], [], [11]), ([], [], [], [12]), ([], [], [22], []), ([], [], [23], []), ([], [], [24], []), ([35, 36, 37, 38, 39, 40], [], [], []), ([], [], [25], []), ([], [], [26], []), ([], [], [27], []), ([], [], [28], []), ([], [], [29], []), ([], [], [30], []), ([], [], [31], []), ([41, 42, 43], [], [], []), ([], [], [32], []), ([], [], [33], []), ([], [], [34], []), ([], [], [35], []), ([], [], [], []), ([44], [], [], []), ([45, 46, 47, 48, 49, 50], [], [], []), ([], [], [36], []), ([], [], [37], []), ([], [], [38], []), ([], [], [39], []), ([], [], [40], []), ([], [], [41], []), ([], [], [42], []), ([], [], [43], []), ([], [], [44], []), ([51, 52, 53, 54, 55, 56, 57], [], [], []), ([], [], [45], []), ([58, 59, 60, 61, 62, 63], [], [], []), ([], [], [46], []), ([], [], [47], []), ([], [], [48], []), ([], [], [49], []), ([], [], [50], []), ([], [], [51], []), ([], [], [52], []), ([], [], [53], []), ([64, 65, 66, 67, 68], [], [], []), ([], [], [], [13]), ([], [], [], [14]), ([], [], [], [15]), ([], [], [54], []), ([], [], [55], []), ([], [], [56], []), ([69, 70, 71, 72, 73, 74], [], [], []), ([], [], [57], []), ([], [], [58], []), ([], [], [59], []), ([], [], [60], []), ([], [], [61], []), ([], [], [62], []), ([], [], [63], []), ([75, 76, 77], [], [], []), ([], [], [64], []), ([], [], [65], []), ([], [], [66], []), ([], [], [67], []), ([78, 79, 80, 81, 82], [], [], []), ([], [], [], [16]), ([], [], [], [17]), ([], [], [], [18]), ([], [], [68], []), ([], [], [69], []), ([], [], [70], []), ([83, 84, 85, 86, 87, 88], [], [], []), ([], [], [71], []), ([], [], [72], []), ([], [], [73], []), ([], [], [74], []), ([], [], [75], []), ([], [], [76], []), ([], [], [77], []), ([89, 90, 91], [], [], []), ([], [], [78], []), ([], [], [79], []), ([], [], [80], []), ([], [], [81], []), ([92, 93, 94, 95, 96], [], [], []), ([], [], [], [19]), ([], [], [], [20]), ([], [], [], [21]), ([], [], [82], []), ([], [], [83], []), ([], [], [84], []), ([97, 98, 99, 100, 101, 102], [], [], []), ([], [], [85], []), ([], [], [86], []), ([], [], [87], []), ([], [], [88], []), ([], [], [89], []), ([], [], [90], []), ([], [], [91], []), ([103, 104, 105], [], [], []), ([], [], [92], []), ([], [], [93], []), ([], [], [94], []), ([], [], [95], [])]
def law_d (k : Nat) : List Nat × List Nat × List Nat × List Nat := law_dt.getD k ([], [], [], [])
def law_ag {α : Type} (u : List Nat) (F1 F : Nat → α) : Prop := ∀ n, n ∈ u → F1 n = F n
section LB
variable {T : Nat → ClassId} {a : Nat → Nat} {i i' : Nat → Int32} {j j' : Nat → Int64} {f f' : Nat → Nat → Int32} {g g' : Nat → Nat → Int64}
set_option maxRecDepth 100000 in
theorem law_s0 (hi : law_ag [0, 1, 2] i' i) (hj : law_ag [] j' j) (hf : law_ag [] f' f) (hg : law_ag [] g' g) : (aW T a i' j' f' g')[0]? = (aW T a i j f g)[0]? := by
  show some ((a 0, .inr (11, [.int (i' 0), .ref (a 1), .ref (a 9), .ref (a 14), .ref (a 17), .ref (a 20), .ref (a 21), .ref (a 23), .ref (a 43), .ref (a 63), .int (i' 1), .ref (a 64), .ref (a 75), .ref (a 85), .int (i' 2)])) : Nat × va_E) = some (a 0, .inr (11, [.int (i 0), .ref (a 1), .ref (a 9), .ref (a 14), .ref (a 17), .ref (a 20), .ref (a 21), .ref (a 23), .ref (a 43), .ref (a 63), .int (i 1), .ref (a 64), .ref (a 75), .ref (a 85), .int (i 2)]))
  rw [hi 0 (by decide), hi 1 (by decide), hi 2 (by decide)]
set_option maxRecDepth 100000 in
theorem law_s1 (hi : law_ag [] i' i) (hj : law_ag [] j' j) (hf : law_ag [] f' f) (hg : law_ag [] g' g) : (aW T a i' j' f' g')[1]? = (aW T a i j f g)[1]? := by
  show some ((a 1, .inr (9, [.ref (a 2), .ref (a 7), .ref (a 8)])) : Nat × va_E) = some (a 1, .inr (9, [.ref (a 2), .ref (a 7), .ref (a 8)]))
  rfl
set_option maxRecDepth 100000 in
theorem law_s2 (hi : law_ag [] i' i) (hj : law_ag [] j' j) (hf : law_ag [] f' f) (hg : law_ag [] g' g) : (aW T a i' j' f' g')[2]? = (aW T a i j f g)[2]? := by
  show some ((a 2, mp_aR T 3 4 [a 3, a 4, a 5, a 6]) : Nat × va_E) = some (a 2, mp_aR T 3 4 [a 3, a 4, a 5, a 6])
  rfl
set_option maxRecDepth 100000 in
theorem law_s3 (hi : law_ag [] i' i) (hj : law_ag [] j' j) (hf : law_ag [] f' f) (hg : law_ag [0] g' g) : (aW T a i' j' f' g')[3]? = (aW T a i j f g)[3]? := by
  show some ((a 3, mp_aJ T 60 (g' 0)) : Nat × va_E) = some (a 3, mp_aJ T 60 (g 0))
  rw [hg 0 (by decide)]
set_option maxRecDepth 100000 in
theorem law_s4 (hi : law_ag [] i' i) (hj : law_ag [] j' j) (hf : law_ag [] f' f) (hg : law_ag [1] g' g) : (aW T a i' j' f' g')[4]? = (aW T a i j f g)[4]? := by
  show some ((a 4, mp_aJ T 60 (g' 1)) : Nat × va_E) = some (a 4, mp_aJ T 60 (g 1))
  rw [hg 1 (by decide)]
set_option maxRecDepth 100000 in
theorem law_s5 (hi : law_ag [] i' i) (hj : law_ag [] j' j) (hf : law_ag [] f' f) (hg : law_ag [2] g' g) : (aW T a i' j' f' g')[5]? = (aW T a i j f g)[5]? := by
  show some ((a 5, mp_aJ T 60 (g' 2)) : Nat × va_E) = some (a 5, mp_aJ T 60 (g 2))
  rw [hg 2 (by decide)]
set_option maxRecDepth 100000 in
theorem law_s6 (hi : law_ag [] i' i) (hj : law_ag [] j' j) (hf : law_ag [] f' f) (hg : law_ag [3] g' g) : (aW T a i' j' f' g')[6]? = (aW T a i j f g)[6]? := by
  show some ((a 6, mp_aJ T 60 (g' 3)) : Nat × va_E) = some (a 6, mp_aJ T 60 (g 3))
  rw [hg 3 (by decide)]
set_option maxRecDepth 100000 in
theorem law_s7 (hi : law_ag [] i' i) (hj : law_ag [] j' j) (hf : law_ag [0] f' f) (hg : law_ag [] g' g) : (aW T a i' j' f' g')[7]? = (aW T a i j f g)[7]? := by
  show some ((a 7, mp_aI T 4 (f' 0)) : Nat × va_E) = some (a 7, mp_aI T 4 (f 0))
  rw [hf 0 (by decide)]
set_option maxRecDepth 100000 in
theorem law_s8 (hi : law_ag [] i' i) (hj : law_ag [] j' j) (hf : law_ag [1] f' f) (hg : law_ag [] g' g) : (aW T a i' j' f' g')[8]? = (aW T a i j f g)[8]? := by
  show some ((a 8, mp_aI T 4 (f' 1)) : Nat × va_E) = some (a 8, mp_aI T 4 (f 1))
  rw [hf 1 (by decide)]
set_option maxRecDepth 100000 in
theorem law_s9 (hi : law_ag [3, 4] i' i) (hj : law_ag [] j' j) (hf : law_ag [] f' f) (hg : law_ag [] g' g) : (aW T a i' j' f' g')[9]? = (aW T a i j f g)[9]? := by
  show some ((a 9, .inr (10, [.ref (a 10), .ref (a 11), .int (i' 3), .int (i' 4), .ref (a 12), .ref (a 13)])) : Nat × va_E) = some (a 9, .inr (10, [.ref (a 10), .ref (a 11), .int (i 3), .int (i 4), .ref (a 12), .ref (a 13)]))
  rw [hi 3 (by decide), hi 4 (by decide)]
set_option maxRecDepth 100000 in
theorem law_s10 (hi : law_ag [] i' i) (hj : law_ag [] j' j) (hf : law_ag [2] f' f) (hg : law_ag [] g' g) : (aW T a i' j' f' g')[10]? = (aW T a i j f g)[10]? := by
  show some ((a 10, mp_aI T 10 (f' 2)) : Nat × va_E) = some (a 10, mp_aI T 10 (f 2))
  rw [hf 2 (by decide)]
set_option maxRecDepth 100000 in
theorem law_s11 (hi : law_ag [] i' i) (hj : law_ag [] j' j) (hf : law_ag [3] f' f) (hg : law_ag [] g' g) : (aW T a i' j' f' g')[11]? = (aW T a i j f g)[11]? := by
  show some ((a 11, mp_aI T 60 (f' 3)) : Nat × va_E) = some (a 11, mp_aI T 60 (f 3))
  rw [hf 3 (by decide)]
set_option maxRecDepth 100000 in
theorem law_s12 (hi : law_ag [] i' i) (hj : law_ag [] j' j) (hf : law_ag [] f' f) (hg : law_ag [4] g' g) : (aW T a i' j' f' g')[12]? = (aW T a i j f g)[12]? := by
  show some ((a 12, mp_aJ T 11 (g' 4)) : Nat × va_E) = some (a 12, mp_aJ T 11 (g 4))
  rw [hg 4 (by decide)]
set_option maxRecDepth 100000 in
theorem law_s13 (hi : law_ag [] i' i) (hj : law_ag [] j' j) (hf : law_ag [4] f' f) (hg : law_ag [] g' g) : (aW T a i' j' f' g')[13]? = (aW T a i j f g)[13]? := by
  show some ((a 13, mp_aI T 10 (f' 4)) : Nat × va_E) = some (a 13, mp_aI T 10 (f 4))
  rw [hf 4 (by decide)]
set_option maxRecDepth 100000 in
theorem law_s14 (hi : law_ag [] i' i) (hj : law_ag [0, 1] j' j) (hf : law_ag [] f' f) (hg : law_ag [] g' g) : (aW T a i' j' f' g')[14]? = (aW T a i j f g)[14]? := by
  show some ((a 14, .inr (4, [.long (j' 0), .long (j' 1), .ref (a 15), .ref (a 16)])) : Nat × va_E) = some (a 14, .inr (4, [.long (j 0), .long (j 1), .ref (a 15), .ref (a 16)]))
  rw [hj 0 (by decide), hj 1 (by decide)]
set_option maxRecDepth 100000 in
theorem law_s15 (hi : law_ag [] i' i) (hj : law_ag [] j' j) (hf : law_ag [] f' f) (hg : law_ag [5] g' g) : (aW T a i' j' f' g')[15]? = (aW T a i j f g)[15]? := by
  show some ((a 15, mp_aJ T 64 (g' 5)) : Nat × va_E) = some (a 15, mp_aJ T 64 (g 5))
  rw [hg 5 (by decide)]
set_option maxRecDepth 100000 in
theorem law_s16 (hi : law_ag [] i' i) (hj : law_ag [] j' j) (hf : law_ag [5] f' f) (hg : law_ag [] g' g) : (aW T a i' j' f' g')[16]? = (aW T a i j f g)[16]? := by
  show some ((a 16, mp_aI T 64 (f' 5)) : Nat × va_E) = some (a 16, mp_aI T 64 (f 5))
  rw [hf 5 (by decide)]
set_option maxRecDepth 100000 in
theorem law_s17 (hi : law_ag [5, 6, 7, 8, 9, 10, 11, 12, 13] i' i) (hj : law_ag [2] j' j) (hf : law_ag [] f' f) (hg : law_ag [] g' g) : (aW T a i' j' f' g')[17]? = (aW T a i j f g)[17]? := by
  show some ((a 17, .inr (8, [.ref (a 18), .int (i' 5), .int (i' 6), .int (i' 7), .int (i' 8), .int (i' 9), .long (j' 2), .int (i' 10), .int (i' 11), .int (i' 12), .int (i' 13), .ref (a 19)])) : Nat × va_E) = some (a 17, .inr (8, [.ref (a 18), .int (i 5), .int (i 6), .int (i 7), .int (i 8), .int (i 9), .long (j 2), .int (i 10), .int (i 11), .int (i 12), .int (i 13), .ref (a 19)]))
  rw [hi 5 (by decide), hi 6 (by decide), hi 7 (by decide), hi 8 (by decide), hi 9 (by decide), hi 10 (by decide), hi 11 (by decide), hi 12 (by decide), hi 13 (by decide), hj 2 (by decide)]
set_option maxRecDepth 100000 in
theorem law_s18 (hi : law_ag [] i' i) (hj : law_ag [] j' j) (hf : law_ag [6] f' f) (hg : law_ag [] g' g) : (aW T a i' j' f' g')[18]? = (aW T a i j f g)[18]? := by
  show some ((a 18, mp_aB T 900 (f' 6)) : Nat × va_E) = some (a 18, mp_aB T 900 (f 6))
  rw [hf 6 (by decide)]
set_option maxRecDepth 100000 in
theorem law_s19 (hi : law_ag [] i' i) (hj : law_ag [] j' j) (hf : law_ag [] f' f) (hg : law_ag [6] g' g) : (aW T a i' j' f' g')[19]? = (aW T a i j f g)[19]? := by
  show some ((a 19, mp_aJ T 24 (g' 6)) : Nat × va_E) = some (a 19, mp_aJ T 24 (g 6))
  rw [hg 6 (by decide)]
set_option maxRecDepth 100000 in
theorem law_s20 (hi : law_ag [14] i' i) (hj : law_ag [] j' j) (hf : law_ag [] f' f) (hg : law_ag [] g' g) : (aW T a i' j' f' g')[20]? = (aW T a i j f g)[20]? := by
  show some ((a 20, .inr (2, [.int (i' 14)])) : Nat × va_E) = some (a 20, .inr (2, [.int (i 14)]))
  rw [hi 14 (by decide)]
set_option maxRecDepth 100000 in
theorem law_s21 (hi : law_ag [15] i' i) (hj : law_ag [] j' j) (hf : law_ag [] f' f) (hg : law_ag [] g' g) : (aW T a i' j' f' g')[21]? = (aW T a i j f g)[21]? := by
  show some ((a 21, .inr (6, [.ref (a 22), .int (i' 15)])) : Nat × va_E) = some (a 21, .inr (6, [.ref (a 22), .int (i 15)]))
  rw [hi 15 (by decide)]
set_option maxRecDepth 100000 in
theorem law_s22 (hi : law_ag [] i' i) (hj : law_ag [] j' j) (hf : law_ag [7] f' f) (hg : law_ag [] g' g) : (aW T a i' j' f' g')[22]? = (aW T a i j f g)[22]? := by
  show some ((a 22, mp_aI T 3 (f' 7)) : Nat × va_E) = some (a 22, mp_aI T 3 (f 7))
  rw [hf 7 (by decide)]
set_option maxRecDepth 100000 in
theorem law_s23 (hi : law_ag [16, 17, 18, 19, 20] i' i) (hj : law_ag [] j' j) (hf : law_ag [] f' f) (hg : law_ag [] g' g) : (aW T a i' j' f' g')[23]? = (aW T a i j f g)[23]? := by
  show some ((a 23, .inr (1, [.int (i' 16), .int (i' 17), .int (i' 18), .ref (a 24), .ref (a 25), .ref (a 26), .ref (a 27), .int (i' 19), .int (i' 20), .ref (a 28), .ref (a 29), .ref (a 30), .ref (a 38)])) : Nat × va_E) = some (a 23, .inr (1, [.int (i 16), .int (i 17), .int (i 18), .ref (a 24), .ref (a 25), .ref (a 26), .ref (a 27), .int (i 19), .int (i 20), .ref (a 28), .ref (a 29), .ref (a 30), .ref (a 38)]))
  rw [hi 16 (by decide), hi 17 (by decide), hi 18 (by decide), hi 19 (by decide), hi 20 (by decide)]
set_option maxRecDepth 100000 in
theorem law_s24 (hi : law_ag [] i' i) (hj : law_ag [] j' j) (hf : law_ag [] f' f) (hg : law_ag [7] g' g) : (aW T a i' j' f' g')[24]? = (aW T a i j f g)[24]? := by
  show some ((a 24, mp_aJ T 8 (g' 7)) : Nat × va_E) = some (a 24, mp_aJ T 8 (g 7))
  rw [hg 7 (by decide)]
set_option maxRecDepth 100000 in
theorem law_s25 (hi : law_ag [] i' i) (hj : law_ag [] j' j) (hf : law_ag [] f' f) (hg : law_ag [8] g' g) : (aW T a i' j' f' g')[25]? = (aW T a i j f g)[25]? := by
  show some ((a 25, mp_aJ T 6 (g' 8)) : Nat × va_E) = some (a 25, mp_aJ T 6 (g 8))
  rw [hg 8 (by decide)]
set_option maxRecDepth 100000 in
theorem law_s26 (hi : law_ag [] i' i) (hj : law_ag [] j' j) (hf : law_ag [] f' f) (hg : law_ag [9] g' g) : (aW T a i' j' f' g')[26]? = (aW T a i j f g)[26]? := by
  show some ((a 26, mp_aJ T 6 (g' 9)) : Nat × va_E) = some (a 26, mp_aJ T 6 (g 9))
  rw [hg 9 (by decide)]
set_option maxRecDepth 100000 in
theorem law_s27 (hi : law_ag [] i' i) (hj : law_ag [] j' j) (hf : law_ag [8] f' f) (hg : law_ag [] g' g) : (aW T a i' j' f' g')[27]? = (aW T a i j f g)[27]? := by
  show some ((a 27, mp_aI T 8 (f' 8)) : Nat × va_E) = some (a 27, mp_aI T 8 (f 8))
  rw [hf 8 (by decide)]
set_option maxRecDepth 100000 in
theorem law_s28 (hi : law_ag [] i' i) (hj : law_ag [] j' j) (hf : law_ag [9] f' f) (hg : law_ag [] g' g) : (aW T a i' j' f' g')[28]? = (aW T a i j f g)[28]? := by
  show some ((a 28, mp_aI T 6 (f' 9)) : Nat × va_E) = some (a 28, mp_aI T 6 (f 9))
  rw [hf 9 (by decide)]
set_option maxRecDepth 100000 in
theorem law_s29 (hi : law_ag [] i' i) (hj : law_ag [] j' j) (hf : law_ag [10] f' f) (hg : law_ag [] g' g) : (aW T a i' j' f' g')[29]? = (aW T a i j f g)[29]? := by
  show some ((a 29, mp_aI T 6 (f' 10)) : Nat × va_E) = some (a 29, mp_aI T 6 (f 10))
  rw [hf 10 (by decide)]
set_option maxRecDepth 100000 in
theorem law_s30 (hi : law_ag [21, 22, 23, 24, 25, 26] i' i) (hj : law_ag [] j' j) (hf : law_ag [] f' f) (hg : law_ag [] g' g) : (aW T a i' j' f' g')[30]? = (aW T a i j f g)[30]? := by
  show some ((a 30, .inr (7, [.ref (a 31), .int (i' 21), .int (i' 22), .ref (a 32), .ref (a 33), .ref (a 34), .ref (a 35), .ref (a 36), .ref (a 37), .int (i' 23), .int (i' 24), .int (i' 25), .int (i' 26)])) : Nat × va_E) = some (a 30, .inr (7, [.ref (a 31), .int (i 21), .int (i 22), .ref (a 32), .ref (a 33), .ref (a 34), .ref (a 35), .ref (a 36), .ref (a 37), .int (i 23), .int (i 24), .int (i 25), .int (i 26)]))
  rw [hi 21 (by decide), hi 22 (by decide), hi 23 (by decide), hi 24 (by decide), hi 25 (by decide), hi 26 (by decide)]
set_option maxRecDepth 100000 in
theorem law_s31 (hi : law_ag [] i' i) (hj : law_ag [] j' j) (hf : law_ag [11] f' f) (hg : law_ag [] g' g) : (aW T a i' j' f' g')[31]? = (aW T a i j f g)[31]? := by
  show some ((a 31, mp_aI T 8 (f' 11)) : Nat × va_E) = some (a 31, mp_aI T 8 (f 11))
  rw [hf 11 (by decide)]
set_option maxRecDepth 100000 in
theorem law_s32 (hi : law_ag [] i' i) (hj : law_ag [] j' j) (hf : law_ag [12] f' f) (hg : law_ag [] g' g) : (aW T a i' j' f' g')[32]? = (aW T a i j f g)[32]? := by
  show some ((a 32, mp_aI T 8 (f' 12)) : Nat × va_E) = some (a 32, mp_aI T 8 (f 12))
  rw [hf 12 (by decide)]
set_option maxRecDepth 100000 in
theorem law_s33 (hi : law_ag [] i' i) (hj : law_ag [] j' j) (hf : law_ag [13] f' f) (hg : law_ag [] g' g) : (aW T a i' j' f' g')[33]? = (aW T a i j f g)[33]? := by
  show some ((a 33, mp_aI T 8 (f' 13)) : Nat × va_E) = some (a 33, mp_aI T 8 (f 13))
  rw [hf 13 (by decide)]
set_option maxRecDepth 100000 in
theorem law_s34 (hi : law_ag [] i' i) (hj : law_ag [] j' j) (hf : law_ag [14] f' f) (hg : law_ag [] g' g) : (aW T a i' j' f' g')[34]? = (aW T a i j f g)[34]? := by
  show some ((a 34, mp_aI T 6 (f' 14)) : Nat × va_E) = some (a 34, mp_aI T 6 (f 14))
  rw [hf 14 (by decide)]
set_option maxRecDepth 100000 in
theorem law_s35 (hi : law_ag [] i' i) (hj : law_ag [] j' j) (hf : law_ag [15] f' f) (hg : law_ag [] g' g) : (aW T a i' j' f' g')[35]? = (aW T a i j f g)[35]? := by
  show some ((a 35, mp_aI T 36 (f' 15)) : Nat × va_E) = some (a 35, mp_aI T 36 (f 15))
  rw [hf 15 (by decide)]
set_option maxRecDepth 100000 in
theorem law_s36 (hi : law_ag [] i' i) (hj : law_ag [] j' j) (hf : law_ag [16] f' f) (hg : law_ag [] g' g) : (aW T a i' j' f' g')[36]? = (aW T a i j f g)[36]? := by
  show some ((a 36, mp_aI T 6 (f' 16)) : Nat × va_E) = some (a 36, mp_aI T 6 (f 16))
  rw [hf 16 (by decide)]
set_option maxRecDepth 100000 in
theorem law_s37 (hi : law_ag [] i' i) (hj : law_ag [] j' j) (hf : law_ag [17] f' f) (hg : law_ag [] g' g) : (aW T a i' j' f' g')[37]? = (aW T a i j f g)[37]? := by
  show some ((a 37, mp_aI T 6 (f' 17)) : Nat × va_E) = some (a 37, mp_aI T 6 (f 17))
  rw [hf 17 (by decide)]
set_option maxRecDepth 100000 in
theorem law_s38 (hi : law_ag [27, 28, 29] i' i) (hj : law_ag [] j' j) (hf : law_ag [] f' f) (hg : law_ag [] g' g) : (aW T a i' j' f' g')[38]? = (aW T a i j f g)[38]? := by
  show some ((a 38, .inr (5, [.int (i' 27), .int (i' 28), .int (i' 29), .ref (a 39), .ref (a 40), .ref (a 41), .ref (a 42)])) : Nat × va_E) = some (a 38, .inr (5, [.int (i 27), .int (i 28), .int (i 29), .ref (a 39), .ref (a 40), .ref (a 41), .ref (a 42)]))
  rw [hi 27 (by decide), hi 28 (by decide), hi 29 (by decide)]
set_option maxRecDepth 100000 in
theorem law_s39 (hi : law_ag [] i' i) (hj : law_ag [] j' j) (hf : law_ag [18] f' f) (hg : law_ag [] g' g) : (aW T a i' j' f' g')[39]? = (aW T a i j f g)[39]? := by
  show some ((a 39, mp_aI T 60 (f' 18)) : Nat × va_E) = some (a 39, mp_aI T 60 (f 18))
  rw [hf 18 (by decide)]
set_option maxRecDepth 100000 in
theorem law_s40 (hi : law_ag [] i' i) (hj : law_ag [] j' j) (hf : law_ag [19] f' f) (hg : law_ag [] g' g) : (aW T a i' j' f' g')[40]? = (aW T a i j f g)[40]? := by
  show some ((a 40, mp_aI T 60 (f' 19)) : Nat × va_E) = some (a 40, mp_aI T 60 (f 19))
  rw [hf 19 (by decide)]
set_option maxRecDepth 100000 in
theorem law_s41 (hi : law_ag [] i' i) (hj : law_ag [] j' j) (hf : law_ag [20] f' f) (hg : law_ag [] g' g) : (aW T a i' j' f' g')[41]? = (aW T a i j f g)[41]? := by
  show some ((a 41, mp_aI T 60 (f' 20)) : Nat × va_E) = some (a 41, mp_aI T 60 (f 20))
  rw [hf 20 (by decide)]
set_option maxRecDepth 100000 in
theorem law_s42 (hi : law_ag [] i' i) (hj : law_ag [] j' j) (hf : law_ag [21] f' f) (hg : law_ag [] g' g) : (aW T a i' j' f' g')[42]? = (aW T a i j f g)[42]? := by
  show some ((a 42, mp_aI T 60 (f' 21)) : Nat × va_E) = some (a 42, mp_aI T 60 (f 21))
  rw [hf 21 (by decide)]
set_option maxRecDepth 100000 in
theorem law_s43 (hi : law_ag [30, 31, 32, 33, 34] i' i) (hj : law_ag [] j' j) (hf : law_ag [] f' f) (hg : law_ag [] g' g) : (aW T a i' j' f' g')[43]? = (aW T a i j f g)[43]? := by
  show some ((a 43, .inr (1, [.int (i' 30), .int (i' 31), .int (i' 32), .ref (a 44), .ref (a 45), .ref (a 46), .ref (a 47), .int (i' 33), .int (i' 34), .ref (a 48), .ref (a 49), .ref (a 50), .ref (a 58)])) : Nat × va_E) = some (a 43, .inr (1, [.int (i 30), .int (i 31), .int (i 32), .ref (a 44), .ref (a 45), .ref (a 46), .ref (a 47), .int (i 33), .int (i 34), .ref (a 48), .ref (a 49), .ref (a 50), .ref (a 58)]))
  rw [hi 30 (by decide), hi 31 (by decide), hi 32 (by decide), hi 33 (by decide), hi 34 (by decide)]
set_option maxRecDepth 100000 in
theorem law_s44 (hi : law_ag [] i' i) (hj : law_ag [] j' j) (hf : law_ag [] f' f) (hg : law_ag [10] g' g) : (aW T a i' j' f' g')[44]? = (aW T a i j f g)[44]? := by
  show some ((a 44, mp_aJ T 8 (g' 10)) : Nat × va_E) = some (a 44, mp_aJ T 8 (g 10))
  rw [hg 10 (by decide)]
set_option maxRecDepth 100000 in
theorem law_s45 (hi : law_ag [] i' i) (hj : law_ag [] j' j) (hf : law_ag [] f' f) (hg : law_ag [11] g' g) : (aW T a i' j' f' g')[45]? = (aW T a i j f g)[45]? := by
  show some ((a 45, mp_aJ T 6 (g' 11)) : Nat × va_E) = some (a 45, mp_aJ T 6 (g 11))
  rw [hg 11 (by decide)]
set_option maxRecDepth 100000 in
theorem law_s46 (hi : law_ag [] i' i) (hj : law_ag [] j' j) (hf : law_ag [] f' f) (hg : law_ag [12] g' g) : (aW T a i' j' f' g')[46]? = (aW T a i j f g)[46]? := by
  show some ((a 46, mp_aJ T 6 (g' 12)) : Nat × va_E) = some (a 46, mp_aJ T 6 (g 12))
  rw [hg 12 (by decide)]
set_option maxRecDepth 100000 in
theorem law_s47 (hi : law_ag [] i' i) (hj : law_ag [] j' j) (hf : law_ag [22] f' f) (hg : law_ag [] g' g) : (aW T a i' j' f' g')[47]? = (aW T a i j f g)[47]? := by
  show some ((a 47, mp_aI T 8 (f' 22)) : Nat × va_E) = some (a 47, mp_aI T 8 (f 22))
  rw [hf 22 (by decide)]
set_option maxRecDepth 100000 in
theorem law_s48 (hi : law_ag [] i' i) (hj : law_ag [] j' j) (hf : law_ag [23] f' f) (hg : law_ag [] g' g) : (aW T a i' j' f' g')[48]? = (aW T a i j f g)[48]? := by
  show some ((a 48, mp_aI T 6 (f' 23)) : Nat × va_E) = some (a 48, mp_aI T 6 (f 23))
  rw [hf 23 (by decide)]
set_option maxRecDepth 100000 in
theorem law_s49 (hi : law_ag [] i' i) (hj : law_ag [] j' j) (hf : law_ag [24] f' f) (hg : law_ag [] g' g) : (aW T a i' j' f' g')[49]? = (aW T a i j f g)[49]? := by
  show some ((a 49, mp_aI T 6 (f' 24)) : Nat × va_E) = some (a 49, mp_aI T 6 (f 24))
  rw [hf 24 (by decide)]
set_option maxRecDepth 100000 in
theorem law_s50 (hi : law_ag [35, 36, 37, 38, 39, 40] i' i) (hj : law_ag [] j' j) (hf : law_ag [] f' f) (hg : law_ag [] g' g) : (aW T a i' j' f' g')[50]? = (aW T a i j f g)[50]? := by
  show some ((a 50, .inr (7, [.ref (a 51), .int (i' 35), .int (i' 36), .ref (a 52), .ref (a 53), .ref (a 54), .ref (a 55), .ref (a 56), .ref (a 57), .int (i' 37), .int (i' 38), .int (i' 39), .int (i' 40)])) : Nat × va_E) = some (a 50, .inr (7, [.ref (a 51), .int (i 35), .int (i 36), .ref (a 52), .ref (a 53), .ref (a 54), .ref (a 55), .ref (a 56), .ref (a 57), .int (i 37), .int (i 38), .int (i 39), .int (i 40)]))
  rw [hi 35 (by decide), hi 36 (by decide), hi 37 (by decide), hi 38 (by decide), hi 39 (by decide), hi 40 (by decide)]
set_option maxRecDepth 100000 in
theorem law_s51 (hi : law_ag [] i' i) (hj : law_ag [] j' j) (hf : law_ag [25] f' f) (hg : law_ag [] g' g) : (aW T a i' j' f' g')[51]? = (aW T a i j f g)[51]? := by
  show some ((a 51, mp_aI T 8 (f' 25)) : Nat × va_E) = some (a 51, mp_aI T 8 (f 25))
  rw [hf 25 (by decide)]
set_option maxRecDepth 100000 in
theorem law_s52 (hi : law_ag [] i' i) (hj : law_ag [] j' j) (hf : law_ag [26] f' f) (hg : law_ag [] g' g) : (aW T a i' j' f' g')[52]? = (aW T a i j f g)[52]? := by
  show some ((a 52, mp_aI T 8 (f' 26)) : Nat × va_E) = some (a 52, mp_aI T 8 (f 26))
  rw [hf 26 (by decide)]
set_option maxRecDepth 100000 in
theorem law_s53 (hi : law_ag [] i' i) (hj : law_ag [] j' j) (hf : law_ag [27] f' f) (hg : law_ag [] g' g) : (aW T a i' j' f' g')[53]? = (aW T a i j f g)[53]? := by
  show some ((a 53, mp_aI T 8 (f' 27)) : Nat × va_E) = some (a 53, mp_aI T 8 (f 27))
  rw [hf 27 (by decide)]
set_option maxRecDepth 100000 in
theorem law_s54 (hi : law_ag [] i' i) (hj : law_ag [] j' j) (hf : law_ag [28] f' f) (hg : law_ag [] g' g) : (aW T a i' j' f' g')[54]? = (aW T a i j f g)[54]? := by
  show some ((a 54, mp_aI T 6 (f' 28)) : Nat × va_E) = some (a 54, mp_aI T 6 (f 28))
  rw [hf 28 (by decide)]
set_option maxRecDepth 100000 in
theorem law_s55 (hi : law_ag [] i' i) (hj : law_ag [] j' j) (hf : law_ag [29] f' f) (hg : law_ag [] g' g) : (aW T a i' j' f' g')[55]? = (aW T a i j f g)[55]? := by
  show some ((a 55, mp_aI T 36 (f' 29)) : Nat × va_E) = some (a 55, mp_aI T 36 (f 29))
  rw [hf 29 (by decide)]
set_option maxRecDepth 100000 in
theorem law_s56 (hi : law_ag [] i' i) (hj : law_ag [] j' j) (hf : law_ag [30] f' f) (hg : law_ag [] g' g) : (aW T a i' j' f' g')[56]? = (aW T a i j f g)[56]? := by
  show some ((a 56, mp_aI T 6 (f' 30)) : Nat × va_E) = some (a 56, mp_aI T 6 (f 30))
  rw [hf 30 (by decide)]
set_option maxRecDepth 100000 in
theorem law_s57 (hi : law_ag [] i' i) (hj : law_ag [] j' j) (hf : law_ag [31] f' f) (hg : law_ag [] g' g) : (aW T a i' j' f' g')[57]? = (aW T a i j f g)[57]? := by
  show some ((a 57, mp_aI T 6 (f' 31)) : Nat × va_E) = some (a 57, mp_aI T 6 (f 31))
  rw [hf 31 (by decide)]
set_option maxRecDepth 100000 in
theorem law_s58 (hi : law_ag [41, 42, 43] i' i) (hj : law_ag [] j' j) (hf : law_ag [] f' f) (hg : law_ag [] g' g) : (aW T a i' j' f' g')[58]? = (aW T a i j f g)[58]? := by
  show some ((a 58, .inr (5, [.int (i' 41), .int (i' 42), .int (i' 43), .ref (a 59), .ref (a 60), .ref (a 61), .ref (a 62)])) : Nat × va_E) = some (a 58, .inr (5, [.int (i 41), .int (i 42), .int (i 43), .ref (a 59), .ref (a 60), .ref (a 61), .ref (a 62)]))
  rw [hi 41 (by decide), hi 42 (by decide), hi 43 (by decide)]
set_option maxRecDepth 100000 in
theorem law_s59 (hi : law_ag [] i' i) (hj : law_ag [] j' j) (hf : law_ag [32] f' f) (hg : law_ag [] g' g) : (aW T a i' j' f' g')[59]? = (aW T a i j f g)[59]? := by
  show some ((a 59, mp_aI T 60 (f' 32)) : Nat × va_E) = some (a 59, mp_aI T 60 (f 32))
  rw [hf 32 (by decide)]
set_option maxRecDepth 100000 in
theorem law_s60 (hi : law_ag [] i' i) (hj : law_ag [] j' j) (hf : law_ag [33] f' f) (hg : law_ag [] g' g) : (aW T a i' j' f' g')[60]? = (aW T a i j f g)[60]? := by
  show some ((a 60, mp_aI T 60 (f' 33)) : Nat × va_E) = some (a 60, mp_aI T 60 (f 33))
  rw [hf 33 (by decide)]
set_option maxRecDepth 100000 in
theorem law_s61 (hi : law_ag [] i' i) (hj : law_ag [] j' j) (hf : law_ag [34] f' f) (hg : law_ag [] g' g) : (aW T a i' j' f' g')[61]? = (aW T a i j f g)[61]? := by
  show some ((a 61, mp_aI T 60 (f' 34)) : Nat × va_E) = some (a 61, mp_aI T 60 (f 34))
  rw [hf 34 (by decide)]
set_option maxRecDepth 100000 in
theorem law_s62 (hi : law_ag [] i' i) (hj : law_ag [] j' j) (hf : law_ag [35] f' f) (hg : law_ag [] g' g) : (aW T a i' j' f' g')[62]? = (aW T a i j f g)[62]? := by
  show some ((a 62, mp_aI T 60 (f' 35)) : Nat × va_E) = some (a 62, mp_aI T 60 (f 35))
  rw [hf 35 (by decide)]
set_option maxRecDepth 100000 in
theorem law_s63 (hi : law_ag [] i' i) (hj : law_ag [] j' j) (hf : law_ag [] f' f) (hg : law_ag [] g' g) : (aW T a i' j' f' g')[63]? = (aW T a i j f g)[63]? := by
  show some ((a 63, mp_aR T 4 3 [a 86, a 106, a 126]) : Nat × va_E) = some (a 63, mp_aR T 4 3 [a 86, a 106, a 126])
  rfl
set_option maxRecDepth 100000 in
theorem law_s64 (hi : law_ag [44] i' i) (hj : law_ag [] j' j) (hf : law_ag [] f' f) (hg : law_ag [] g' g) : (aW T a i' j' f' g')[64]? = (aW T a i j f g)[64]? := by
  show some ((a 64, .inr (0, [.ref (a 65), .ref (a 73), .ref (a 74), .int (i' 44)])) : Nat × va_E) = some (a 64, .inr (0, [.ref (a 65), .ref (a 73), .ref (a 74), .int (i 44)]))
  rw [hi 44 (by decide)]
set_option maxRecDepth 100000 in
theorem law_s65 (hi : law_ag [45, 46, 47, 48, 49, 50] i' i) (hj : law_ag [] j' j) (hf : law_ag [] f' f) (hg : law_ag [] g' g) : (aW T a i' j' f' g')[65]? = (aW T a i j f g)[65]? := by
  show some ((a 65, .inr (7, [.ref (a 66), .int (i' 45), .int (i' 46), .ref (a 67), .ref (a 68), .ref (a 69), .ref (a 70), .ref (a 71), .ref (a 72), .int (i' 47), .int (i' 48), .int (i' 49), .int (i' 50)])) : Nat × va_E) = some (a 65, .inr (7, [.ref (a 66), .int (i 45), .int (i 46), .ref (a 67), .ref (a 68), .ref (a 69), .ref (a 70), .ref (a 71), .ref (a 72), .int (i 47), .int (i 48), .int (i 49), .int (i 50)]))
  rw [hi 45 (by decide), hi 46 (by decide), hi 47 (by decide), hi 48 (by decide), hi 49 (by decide), hi 50 (by decide)]
set_option maxRecDepth 100000 in
theorem law_s66 (hi : law_ag [] i' i) (hj : law_ag [] j' j) (hf : law_ag [36] f' f) (hg : law_ag [] g' g) : (aW T a i' j' f' g')[66]? = (aW T a i j f g)[66]? := by
  show some ((a 66, mp_aI T 8 (f' 36)) : Nat × va_E) = some (a 66, mp_aI T 8 (f 36))
  rw [hf 36 (by decide)]
set_option maxRecDepth 100000 in
theorem law_s67 (hi : law_ag [] i' i) (hj : law_ag [] j' j) (hf : law_ag [37] f' f) (hg : law_ag [] g' g) : (aW T a i' j' f' g')[67]? = (aW T a i j f g)[67]? := by
  show some ((a 67, mp_aI T 8 (f' 37)) : Nat × va_E) = some (a 67, mp_aI T 8 (f 37))
  rw [hf 37 (by decide)]
set_option maxRecDepth 100000 in
theorem law_s68 (hi : law_ag [] i' i) (hj : law_ag [] j' j) (hf : law_ag [38] f' f) (hg : law_ag [] g' g) : (aW T a i' j' f' g')[68]? = (aW T a i j f g)[68]? := by
  show some ((a 68, mp_aI T 8 (f' 38)) : Nat × va_E) = some (a 68, mp_aI T 8 (f 38))
  rw [hf 38 (by decide)]
set_option maxRecDepth 100000 in
theorem law_s69 (hi : law_ag [] i' i) (hj : law_ag [] j' j) (hf : law_ag [39] f' f) (hg : law_ag [] g' g) : (aW T a i' j' f' g')[69]? = (aW T a i j f g)[69]? := by
  show some ((a 69, mp_aI T 6 (f' 39)) : Nat × va_E) = some (a 69, mp_aI T 6 (f 39))
  rw [hf 39 (by decide)]
set_option maxRecDepth 100000 in
theorem law_s70 (hi : law_ag [] i' i) (hj : law_ag [] j' j) (hf : law_ag [40] f' f) (hg : law_ag [] g' g) : (aW T a i' j' f' g')[70]? = (aW T a i j f g)[70]? := by
  show some ((a 70, mp_aI T 36 (f' 40)) : Nat × va_E) = some (a 70, mp_aI T 36 (f 40))
  rw [hf 40 (by decide)]
set_option maxRecDepth 100000 in
theorem law_s71 (hi : law_ag [] i' i) (hj : law_ag [] j' j) (hf : law_ag [41] f' f) (hg : law_ag [] g' g) : (aW T a i' j' f' g')[71]? = (aW T a i j f g)[71]? := by
  show some ((a 71, mp_aI T 6 (f' 41)) : Nat × va_E) = some (a 71, mp_aI T 6 (f 41))
  rw [hf 41 (by decide)]
set_option maxRecDepth 100000 in
theorem law_s72 (hi : law_ag [] i' i) (hj : law_ag [] j' j) (hf : law_ag [42] f' f) (hg : law_ag [] g' g) : (aW T a i' j' f' g')[72]? = (aW T a i j f g)[72]? := by
  show some ((a 72, mp_aI T 6 (f' 42)) : Nat × va_E) = some (a 72, mp_aI T 6 (f 42))
  rw [hf 42 (by decide)]
set_option maxRecDepth 100000 in
theorem law_s73 (hi : law_ag [] i' i) (hj : law_ag [] j' j) (hf : law_ag [43] f' f) (hg : law_ag [] g' g) : (aW T a i' j' f' g')[73]? = (aW T a i j f g)[73]? := by
  show some ((a 73, mp_aI T 8 (f' 43)) : Nat × va_E) = some (a 73, mp_aI T 8 (f 43))
  rw [hf 43 (by decide)]
set_option maxRecDepth 100000 in
theorem law_s74 (hi : law_ag [] i' i) (hj : law_ag [] j' j) (hf : law_ag [44] f' f) (hg : law_ag [] g' g) : (aW T a i' j' f' g')[74]? = (aW T a i j f g)[74]? := by
  show some ((a 74, mp_aI T 6 (f' 44)) : Nat × va_E) = some (a 74, mp_aI T 6 (f 44))
  rw [hf 44 (by decide)]
set_option maxRecDepth 100000 in
theorem law_s75 (hi : law_ag [51, 52, 53, 54, 55, 56, 57] i' i) (hj : law_ag [] j' j) (hf : law_ag [] f' f) (hg : law_ag [] g' g) : (aW T a i' j' f' g')[75]? = (aW T a i j f g)[75]? := by
  show some ((a 75, .inr (3, [.int (i' 51), .int (i' 52), .int (i' 53), .int (i' 54), .int (i' 55), .int (i' 56), .int (i' 57), .ref (a 76), .ref (a 77)])) : Nat × va_E) = some (a 75, .inr (3, [.int (i 51), .int (i 52), .int (i 53), .int (i 54), .int (i 55), .int (i 56), .int (i 57), .ref (a 76), .ref (a 77)]))
  rw [hi 51 (by decide), hi 52 (by decide), hi 53 (by decide), hi 54 (by decide), hi 55 (by decide), hi 56 (by decide), hi 57 (by decide)]
set_option maxRecDepth 100000 in
theorem law_s76 (hi : law_ag [] i' i) (hj : law_ag [] j' j) (hf : law_ag [45] f' f) (hg : law_ag [] g' g) : (aW T a i' j' f' g')[76]? = (aW T a i j f g)[76]? := by
  show some ((a 76, mp_aI T 60 (f' 45)) : Nat × va_E) = some (a 76, mp_aI T 60 (f 45))
  rw [hf 45 (by decide)]
set_option maxRecDepth 100000 in
theorem law_s77 (hi : law_ag [58, 59, 60, 61, 62, 63] i' i) (hj : law_ag [] j' j) (hf : law_ag [] f' f) (hg : law_ag [] g' g) : (aW T a i' j' f' g')[77]? = (aW T a i j f g)[77]? := by
  show some ((a 77, .inr (7, [.ref (a 78), .int (i' 58), .int (i' 59), .ref (a 79), .ref (a 80), .ref (a 81), .ref (a 82), .ref (a 83), .ref (a 84), .int (i' 60), .int (i' 61), .int (i' 62), .int (i' 63)])) : Nat × va_E) = some (a 77, .inr (7, [.ref (a 78), .int (i 58), .int (i 59), .ref (a 79), .ref (a 80), .ref (a 81), .ref (a 82), .ref (a 83), .ref (a 84), .int (i 60), .int (i 61), .int (i 62), .int (i 63)]))
  rw [hi 58 (by decide), hi 59 (by decide), hi 60 (by decide), hi 61 (by decide), hi 62 (by decide), hi 63 (by decide)]
set_option maxRecDepth 100000 in
theorem law_s78 (hi : law_ag [] i' i) (hj : law_ag [] j' j) (hf : law_ag [46] f' f) (hg : law_ag [] g' g) : (aW T a i' j' f' g')[78]? = (aW T a i j f g)[78]? := by
  show some ((a 78, mp_aI T 8 (f' 46)) : Nat × va_E) = some (a 78, mp_aI T 8 (f 46))
  rw [hf 46 (by decide)]
set_option maxRecDepth 100000 in
theorem law_s79 (hi : law_ag [] i' i) (hj : law_ag [] j' j) (hf : law_ag [47] f' f) (hg : law_ag [] g' g) : (aW T a i' j' f' g')[79]? = (aW T a i j f g)[79]? := by
  show some ((a 79, mp_aI T 8 (f' 47)) : Nat × va_E) = some (a 79, mp_aI T 8 (f 47))
  rw [hf 47 (by decide)]
set_option maxRecDepth 100000 in
theorem law_s80 (hi : law_ag [] i' i) (hj : law_ag [] j' j) (hf : law_ag [48] f' f) (hg : law_ag [] g' g) : (aW T a i' j' f' g')[80]? = (aW T a i j f g)[80]? := by
  show some ((a 80, mp_aI T 8 (f' 48)) : Nat × va_E) = some (a 80, mp_aI T 8 (f 48))
  rw [hf 48 (by decide)]
set_option maxRecDepth 100000 in
theorem law_s81 (hi : law_ag [] i' i) (hj : law_ag [] j' j) (hf : law_ag [49] f' f) (hg : law_ag [] g' g) : (aW T a i' j' f' g')[81]? = (aW T a i j f g)[81]? := by
  show some ((a 81, mp_aI T 6 (f' 49)) : Nat × va_E) = some (a 81, mp_aI T 6 (f 49))
  rw [hf 49 (by decide)]
set_option maxRecDepth 100000 in
theorem law_s82 (hi : law_ag [] i' i) (hj : law_ag [] j' j) (hf : law_ag [50] f' f) (hg : law_ag [] g' g) : (aW T a i' j' f' g')[82]? = (aW T a i j f g)[82]? := by
  show some ((a 82, mp_aI T 36 (f' 50)) : Nat × va_E) = some (a 82, mp_aI T 36 (f 50))
  rw [hf 50 (by decide)]
set_option maxRecDepth 100000 in
theorem law_s83 (hi : law_ag [] i' i) (hj : law_ag [] j' j) (hf : law_ag [51] f' f) (hg : law_ag [] g' g) : (aW T a i' j' f' g')[83]? = (aW T a i j f g)[83]? := by
  show some ((a 83, mp_aI T 6 (f' 51)) : Nat × va_E) = some (a 83, mp_aI T 6 (f 51))
  rw [hf 51 (by decide)]
set_option maxRecDepth 100000 in
theorem law_s84 (hi : law_ag [] i' i) (hj : law_ag [] j' j) (hf : law_ag [52] f' f) (hg : law_ag [] g' g) : (aW T a i' j' f' g')[84]? = (aW T a i j f g)[84]? := by
  show some ((a 84, mp_aI T 6 (f' 52)) : Nat × va_E) = some (a 84, mp_aI T 6 (f 52))
  rw [hf 52 (by decide)]
set_option maxRecDepth 100000 in
theorem law_s85 (hi : law_ag [] i' i) (hj : law_ag [] j' j) (hf : law_ag [53] f' f) (hg : law_ag [] g' g) : (aW T a i' j' f' g')[85]? = (aW T a i j f g)[85]? := by
  show some ((a 85, mp_aI T 5 (f' 53)) : Nat × va_E) = some (a 85, mp_aI T 5 (f 53))
  rw [hf 53 (by decide)]
set_option maxRecDepth 100000 in
theorem law_s86 (hi : law_ag [64, 65, 66, 67, 68] i' i) (hj : law_ag [] j' j) (hf : law_ag [] f' f) (hg : law_ag [] g' g) : (aW T a i' j' f' g')[86]? = (aW T a i j f g)[86]? := by
  show some ((a 86, .inr (1, [.int (i' 64), .int (i' 65), .int (i' 66), .ref (a 87), .ref (a 88), .ref (a 89), .ref (a 90), .int (i' 67), .int (i' 68), .ref (a 91), .ref (a 92), .ref (a 93), .ref (a 101)])) : Nat × va_E) = some (a 86, .inr (1, [.int (i 64), .int (i 65), .int (i 66), .ref (a 87), .ref (a 88), .ref (a 89), .ref (a 90), .int (i 67), .int (i 68), .ref (a 91), .ref (a 92), .ref (a 93), .ref (a 101)]))
  rw [hi 64 (by decide), hi 65 (by decide), hi 66 (by decide), hi 67 (by decide), hi 68 (by decide)]
set_option maxRecDepth 100000 in
theorem law_s87 (hi : law_ag [] i' i) (hj : law_ag [] j' j) (hf : law_ag [] f' f) (hg : law_ag [13] g' g) : (aW T a i' j' f' g')[87]? = (aW T a i j f g)[87]? := by
  show some ((a 87, mp_aJ T 8 (g' 13)) : Nat × va_E) = some (a 87, mp_aJ T 8 (g 13))
  rw [hg 13 (by decide)]
set_option maxRecDepth 100000 in
theorem law_s88 (hi : law_ag [] i' i) (hj : law_ag [] j' j) (hf : law_ag [] f' f) (hg : law_ag [14] g' g) : (aW T a i' j' f' g')[88]? = (aW T a i j f g)[88]? := by
  show some ((a 88, mp_aJ T 6 (g' 14)) : Nat × va_E) = some (a 88, mp_aJ T 6 (g 14))
  rw [hg 14 (by decide)]
set_option maxRecDepth 100000 in
theorem law_s89 (hi : law_ag [] i' i) (hj : law_ag [] j' j) (hf : law_ag [] f' f) (hg : law_ag [15] g' g) : (aW T a i' j' f' g')[89]? = (aW T a i j f g)[89]? := by
  show some ((a 89, mp_aJ T 6 (g' 15)) : Nat × va_E) = some (a 89, mp_aJ T 6 (g 15))
  rw [hg 15 (by decide)]
set_option maxRecDepth 100000 in
theorem law_s90 (hi : law_ag [] i' i) (hj : law_ag [] j' j) (hf : law_ag [54] f' f) (hg : law_ag [] g' g) : (aW T a i' j' f' g')[90]? = (aW T a i j f g)[90]? := by
  show some ((a 90, mp_aI T 8 (f' 54)) : Nat × va_E) = some (a 90, mp_aI T 8 (f 54))
  rw [hf 54 (by decide)]
set_option maxRecDepth 100000 in
theorem law_s91 (hi : law_ag [] i' i) (hj : law_ag [] j' j) (hf : law_ag [55] f' f) (hg : law_ag [] g' g) : (aW T a i' j' f' g')[91]? = (aW T a i j f g)[91]? := by
  show some ((a 91, mp_aI T 6 (f' 55)) : Nat × va_E) = some (a 91, mp_aI T 6 (f 55))
  rw [hf 55 (by decide)]
set_option maxRecDepth 100000 in
theorem law_s92 (hi : law_ag [] i' i) (hj : law_ag [] j' j) (hf : law_ag [56] f' f) (hg : law_ag [] g' g) : (aW T a i' j' f' g')[92]? = (aW T a i j f g)[92]? := by
  show some ((a 92, mp_aI T 6 (f' 56)) : Nat × va_E) = some (a 92, mp_aI T 6 (f 56))
  rw [hf 56 (by decide)]
set_option maxRecDepth 100000 in
theorem law_s93 (hi : law_ag [69, 70, 71, 72, 73, 74] i' i) (hj : law_ag [] j' j) (hf : law_ag [] f' f) (hg : law_ag [] g' g) : (aW T a i' j' f' g')[93]? = (aW T a i j f g)[93]? := by
  show some ((a 93, .inr (7, [.ref (a 94), .int (i' 69), .int (i' 70), .ref (a 95), .ref (a 96), .ref (a 97), .ref (a 98), .ref (a 99), .ref (a 100), .int (i' 71), .int (i' 72), .int (i' 73), .int (i' 74)])) : Nat × va_E) = some (a 93, .inr (7, [.ref (a 94), .int (i 69), .int (i 70), .ref (a 95), .ref (a 96), .ref (a 97), .ref (a 98), .ref (a 99), .ref (a 100), .int (i 71), .int (i 72), .int (i 73), .int (i 74)]))
  rw [hi 69 (by decide), hi 70 (by decide), hi 71 (by decide), hi 72 (by decide), hi 73 (by decide), hi 74 (by decide)]
set_option maxRecDepth 100000 in
theorem law_s94 (hi : law_ag [] i' i) (hj : law_ag [] j' j) (hf : law_ag [57] f' f) (hg : law_ag [] g' g) : (aW T a i' j' f' g')[94]? = (aW T a i j f g)[94]? := by
  show some ((a 94, mp_aI T 8 (f' 57)) : Nat × va_E) = some (a 94, mp_aI T 8 (f 57))
  rw [hf 57 (by decide)]
set_option maxRecDepth 100000 in
theorem law_s95 (hi : law_ag [] i' i) (hj : law_ag [] j' j) (hf : law_ag [58] f' f) (hg : law_ag [] g' g) : (aW T a i' j' f' g')[95]? = (aW T a i j f g)[95]? := by
  show some ((a 95, mp_aI T 8 (f' 58)) : Nat × va_E) = some (a 95, mp_aI T 8 (f 58))
  rw [hf 58 (by decide)]
set_option maxRecDepth 100000 in
theorem law_s96 (hi : law_ag [] i' i) (hj : law_ag [] j' j) (hf : law_ag [59] f' f) (hg : law_ag [] g' g) : (aW T a i' j' f' g')[96]? = (aW T a i j f g)[96]? := by
  show some ((a 96, mp_aI T 8 (f' 59)) : Nat × va_E) = some (a 96, mp_aI T 8 (f 59))
  rw [hf 59 (by decide)]
set_option maxRecDepth 100000 in
theorem law_s97 (hi : law_ag [] i' i) (hj : law_ag [] j' j) (hf : law_ag [60] f' f) (hg : law_ag [] g' g) : (aW T a i' j' f' g')[97]? = (aW T a i j f g)[97]? := by
  show some ((a 97, mp_aI T 6 (f' 60)) : Nat × va_E) = some (a 97, mp_aI T 6 (f 60))
  rw [hf 60 (by decide)]
set_option maxRecDepth 100000 in
theorem law_s98 (hi : law_ag [] i' i) (hj : law_ag [] j' j) (hf : law_ag [61] f' f) (hg : law_ag [] g' g) : (aW T a i' j' f' g')[98]? = (aW T a i j f g)[98]? := by
  show some ((a 98, mp_aI T 36 (f' 61)) : Nat × va_E) = some (a 98, mp_aI T 36 (f 61))
  rw [hf 61 (by decide)]
set_option maxRecDepth 100000 in
theorem law_s99 (hi : law_ag [] i' i) (hj : law_ag [] j' j) (hf : law_ag [62] f' f) (hg : law_ag [] g' g) : (aW T a i' j' f' g')[99]? = (aW T a i j f g)[99]? := by
  show some ((a 99, mp_aI T 6 (f' 62)) : Nat × va_E) = some (a 99, mp_aI T 6 (f 62))
  rw [hf 62 (by decide)]
set_option maxRecDepth 100000 in
theorem law_s100 (hi : law_ag [] i' i) (hj : law_ag [] j' j) (hf : law_ag [63] f' f) (hg : law_ag [] g' g) : (aW T a i' j' f' g')[100]? = (aW T a i j f g)[100]? := by
  show some ((a 100, mp_aI T 6 (f' 63)) : Nat × va_E) = some (a 100, mp_aI T 6 (f 63))
  rw [hf 63 (by decide)]
set_option maxRecDepth 100000 in
theorem law_s101 (hi : law_ag [75, 76, 77] i' i) (hj : law_ag [] j' j) (hf : law_ag [] f' f) (hg : law_ag [] g' g) : (aW T a i' j' f' g')[101]? = (aW T a i j f g)[101]? := by
  show some ((a 101, .inr (5, [.int (i' 75), .int (i' 76), .int (i' 77), .ref (a 102), .ref (a 103), .ref (a 104), .ref (a 105)])) : Nat × va_E) = some (a 101, .inr (5, [.int (i 75), .int (i 76), .int (i 77), .ref (a 102), .ref (a 103), .ref (a 104), .ref (a 105)]))
  rw [hi 75 (by decide), hi 76 (by decide), hi 77 (by decide)]
set_option maxRecDepth 100000 in
theorem law_s102 (hi : law_ag [] i' i) (hj : law_ag [] j' j) (hf : law_ag [64] f' f) (hg : law_ag [] g' g) : (aW T a i' j' f' g')[102]? = (aW T a i j f g)[102]? := by
  show some ((a 102, mp_aI T 60 (f' 64)) : Nat × va_E) = some (a 102, mp_aI T 60 (f 64))
  rw [hf 64 (by decide)]
set_option maxRecDepth 100000 in
theorem law_s103 (hi : law_ag [] i' i) (hj : law_ag [] j' j) (hf : law_ag [65] f' f) (hg : law_ag [] g' g) : (aW T a i' j' f' g')[103]? = (aW T a i j f g)[103]? := by
  show some ((a 103, mp_aI T 60 (f' 65)) : Nat × va_E) = some (a 103, mp_aI T 60 (f 65))
  rw [hf 65 (by decide)]
set_option maxRecDepth 100000 in
theorem law_s104 (hi : law_ag [] i' i) (hj : law_ag [] j' j) (hf : law_ag [66] f' f) (hg : law_ag [] g' g) : (aW T a i' j' f' g')[104]? = (aW T a i j f g)[104]? := by
  show some ((a 104, mp_aI T 60 (f' 66)) : Nat × va_E) = some (a 104, mp_aI T 60 (f 66))
  rw [hf 66 (by decide)]
set_option maxRecDepth 100000 in
theorem law_s105 (hi : law_ag [] i' i) (hj : law_ag [] j' j) (hf : law_ag [67] f' f) (hg : law_ag [] g' g) : (aW T a i' j' f' g')[105]? = (aW T a i j f g)[105]? := by
  show some ((a 105, mp_aI T 60 (f' 67)) : Nat × va_E) = some (a 105, mp_aI T 60 (f 67))
  rw [hf 67 (by decide)]
set_option maxRecDepth 100000 in
theorem law_s106 (hi : law_ag [78, 79, 80, 81, 82] i' i) (hj : law_ag [] j' j) (hf : law_ag [] f' f) (hg : law_ag [] g' g) : (aW T a i' j' f' g')[106]? = (aW T a i j f g)[106]? := by
  show some ((a 106, .inr (1, [.int (i' 78), .int (i' 79), .int (i' 80), .ref (a 107), .ref (a 108), .ref (a 109), .ref (a 110), .int (i' 81), .int (i' 82), .ref (a 111), .ref (a 112), .ref (a 113), .ref (a 121)])) : Nat × va_E) = some (a 106, .inr (1, [.int (i 78), .int (i 79), .int (i 80), .ref (a 107), .ref (a 108), .ref (a 109), .ref (a 110), .int (i 81), .int (i 82), .ref (a 111), .ref (a 112), .ref (a 113), .ref (a 121)]))
  rw [hi 78 (by decide), hi 79 (by decide), hi 80 (by decide), hi 81 (by decide), hi 82 (by decide)]
set_option maxRecDepth 100000 in
theorem law_s107 (hi : law_ag [] i' i) (hj : law_ag [] j' j) (hf : law_ag [] f' f) (hg : law_ag [16] g' g) : (aW T a i' j' f' g')[107]? = (aW T a i j f g)[107]? := by
  show some ((a 107, mp_aJ T 8 (g' 16)) : Nat × va_E) = some (a 107, mp_aJ T 8 (g 16))
  rw [hg 16 (by decide)]
set_option maxRecDepth 100000 in
theorem law_s108 (hi : law_ag [] i' i) (hj : law_ag [] j' j) (hf : law_ag [] f' f) (hg : law_ag [17] g' g) : (aW T a i' j' f' g')[108]? = (aW T a i j f g)[108]? := by
  show some ((a 108, mp_aJ T 6 (g' 17)) : Nat × va_E) = some (a 108, mp_aJ T 6 (g 17))
  rw [hg 17 (by decide)]
set_option maxRecDepth 100000 in
theorem law_s109 (hi : law_ag [] i' i) (hj : law_ag [] j' j) (hf : law_ag [] f' f) (hg : law_ag [18] g' g) : (aW T a i' j' f' g')[109]? = (aW T a i j f g)[109]? := by
  show some ((a 109, mp_aJ T 6 (g' 18)) : Nat × va_E) = some (a 109, mp_aJ T 6 (g 18))
  rw [hg 18 (by decide)]
set_option maxRecDepth 100000 in
theorem law_s110 (hi : law_ag [] i' i) (hj : law_ag [] j' j) (hf : law_ag [68] f' f) (hg : law_ag [] g' g) : (aW T a i' j' f' g')[110]? = (aW T a i j f g)[110]? := by
  show some ((a 110, mp_aI T 8 (f' 68)) : Nat × va_E) = some (a 110, mp_aI T 8 (f 68))
  rw [hf 68 (by decide)]
set_option maxRecDepth 100000 in
theorem law_s111 (hi : law_ag [] i' i) (hj : law_ag [] j' j) (hf : law_ag [69] f' f) (hg : law_ag [] g' g) : (aW T a i' j' f' g')[111]? = (aW T a i j f g)[111]? := by
  show some ((a 111, mp_aI T 6 (f' 69)) : Nat × va_E) = some (a 111, mp_aI T 6 (f 69))
  rw [hf 69 (by decide)]
set_option maxRecDepth 100000 in
theorem law_s112 (hi : law_ag [] i' i) (hj : law_ag [] j' j) (hf : law_ag [70] f' f) (hg : law_ag [] g' g) : (aW T a i' j' f' g')[112]? = (aW T a i j f g)[112]? := by
  show some ((a 112, mp_aI T 6 (f' 70)) : Nat × va_E) = some (a 112, mp_aI T 6 (f 70))
  rw [hf 70 (by decide)]
set_option maxRecDepth 100000 in
theorem law_s113 (hi : law_ag [83, 84, 85, 86, 87, 88] i' i) (hj : law_ag [] j' j) (hf : law_ag [] f' f) (hg : law_ag [] g' g) : (aW T a i' j' f' g')[113]? = (aW T a i j f g)[113]? := by
  show some ((a 113, .inr (7, [.ref (a 114), .int (i' 83), .int (i' 84), .ref (a 115), .ref (a 116), .ref (a 117), .ref (a 118), .ref (a 119), .ref (a 120), .int (i' 85), .int (i' 86), .int (i' 87), .int (i' 88)])) : Nat × va_E) = some (a 113, .inr (7, [.ref (a 114), .int (i 83), .int (i 84), .ref (a 115), .ref (a 116), .ref (a 117), .ref (a 118), .ref (a 119), .ref (a 120), .int (i 85), .int (i 86), .int (i 87), .int (i 88)]))
  rw [hi 83 (by decide), hi 84 (by decide), hi 85 (by decide), hi 86 (by decide), hi 87 (by decide), hi 88 (by decide)]
set_option maxRecDepth 100000 in
theorem law_s114 (hi : law_ag [] i' i) (hj : law_ag [] j' j) (hf : law_ag [71] f' f) (hg : law_ag [] g' g) : (aW T a i' j' f' g')[114]? = (aW T a i j f g)[114]? := by
  show some ((a 114, mp_aI T 8 (f' 71)) : Nat × va_E) = some (a 114, mp_aI T 8 (f 71))
  rw [hf 71 (by decide)]
set_option maxRecDepth 100000 in
theorem law_s115 (hi : law_ag [] i' i) (hj : law_ag [] j' j) (hf : law_ag [72] f' f) (hg : law_ag [] g' g) : (aW T a i' j' f' g')[115]? = (aW T a i j f g)[115]? := by
  show some ((a 115, mp_aI T 8 (f' 72)) : Nat × va_E) = some (a 115, mp_aI T 8 (f 72))
  rw [hf 72 (by decide)]
set_option maxRecDepth 100000 in
theorem law_s116 (hi : law_ag [] i' i) (hj : law_ag [] j' j) (hf : law_ag [73] f' f) (hg : law_ag [] g' g) : (aW T a i' j' f' g')[116]? = (aW T a i j f g)[116]? := by
  show some ((a 116, mp_aI T 8 (f' 73)) : Nat × va_E) = some (a 116, mp_aI T 8 (f 73))
  rw [hf 73 (by decide)]
set_option maxRecDepth 100000 in
theorem law_s117 (hi : law_ag [] i' i) (hj : law_ag [] j' j) (hf : law_ag [74] f' f) (hg : law_ag [] g' g) : (aW T a i' j' f' g')[117]? = (aW T a i j f g)[117]? := by
  show some ((a 117, mp_aI T 6 (f' 74)) : Nat × va_E) = some (a 117, mp_aI T 6 (f 74))
  rw [hf 74 (by decide)]
set_option maxRecDepth 100000 in
theorem law_s118 (hi : law_ag [] i' i) (hj : law_ag [] j' j) (hf : law_ag [75] f' f) (hg : law_ag [] g' g) : (aW T a i' j' f' g')[118]? = (aW T a i j f g)[118]? := by
  show some ((a 118, mp_aI T 36 (f' 75)) : Nat × va_E) = some (a 118, mp_aI T 36 (f 75))
  rw [hf 75 (by decide)]
set_option maxRecDepth 100000 in
theorem law_s119 (hi : law_ag [] i' i) (hj : law_ag [] j' j) (hf : law_ag [76] f' f) (hg : law_ag [] g' g) : (aW T a i' j' f' g')[119]? = (aW T a i j f g)[119]? := by
  show some ((a 119, mp_aI T 6 (f' 76)) : Nat × va_E) = some (a 119, mp_aI T 6 (f 76))
  rw [hf 76 (by decide)]
set_option maxRecDepth 100000 in
theorem law_s120 (hi : law_ag [] i' i) (hj : law_ag [] j' j) (hf : law_ag [77] f' f) (hg : law_ag [] g' g) : (aW T a i' j' f' g')[120]? = (aW T a i j f g)[120]? := by
  show some ((a 120, mp_aI T 6 (f' 77)) : Nat × va_E) = some (a 120, mp_aI T 6 (f 77))
  rw [hf 77 (by decide)]
set_option maxRecDepth 100000 in
theorem law_s121 (hi : law_ag [89, 90, 91] i' i) (hj : law_ag [] j' j) (hf : law_ag [] f' f) (hg : law_ag [] g' g) : (aW T a i' j' f' g')[121]? = (aW T a i j f g)[121]? := by
  show some ((a 121, .inr (5, [.int (i' 89), .int (i' 90), .int (i' 91), .ref (a 122), .ref (a 123), .ref (a 124), .ref (a 125)])) : Nat × va_E) = some (a 121, .inr (5, [.int (i 89), .int (i 90), .int (i 91), .ref (a 122), .ref (a 123), .ref (a 124), .ref (a 125)]))
  rw [hi 89 (by decide), hi 90 (by decide), hi 91 (by decide)]
set_option maxRecDepth 100000 in
theorem law_s122 (hi : law_ag [] i' i) (hj : law_ag [] j' j) (hf : law_ag [78] f' f) (hg : law_ag [] g' g) : (aW T a i' j' f' g')[122]? = (aW T a i j f g)[122]? := by
  show some ((a 122, mp_aI T 60 (f' 78)) : Nat × va_E) = some (a 122, mp_aI T 60 (f 78))
  rw [hf 78 (by decide)]
set_option maxRecDepth 100000 in
theorem law_s123 (hi : law_ag [] i' i) (hj : law_ag [] j' j) (hf : law_ag [79] f' f) (hg : law_ag [] g' g) : (aW T a i' j' f' g')[123]? = (aW T a i j f g)[123]? := by
  show some ((a 123, mp_aI T 60 (f' 79)) : Nat × va_E) = some (a 123, mp_aI T 60 (f 79))
  rw [hf 79 (by decide)]
set_option maxRecDepth 100000 in
theorem law_s124 (hi : law_ag [] i' i) (hj : law_ag [] j' j) (hf : law_ag [80] f' f) (hg : law_ag [] g' g) : (aW T a i' j' f' g')[124]? = (aW T a i j f g)[124]? := by
  show some ((a 124, mp_aI T 60 (f' 80)) : Nat × va_E) = some (a 124, mp_aI T 60 (f 80))
  rw [hf 80 (by decide)]
set_option maxRecDepth 100000 in
theorem law_s125 (hi : law_ag [] i' i) (hj : law_ag [] j' j) (hf : law_ag [81] f' f) (hg : law_ag [] g' g) : (aW T a i' j' f' g')[125]? = (aW T a i j f g)[125]? := by
  show some ((a 125, mp_aI T 60 (f' 81)) : Nat × va_E) = some (a 125, mp_aI T 60 (f 81))
  rw [hf 81 (by decide)]
set_option maxRecDepth 100000 in
theorem law_s126 (hi : law_ag [92, 93, 94, 95, 96] i' i) (hj : law_ag [] j' j) (hf : law_ag [] f' f) (hg : law_ag [] g' g) : (aW T a i' j' f' g')[126]? = (aW T a i j f g)[126]? := by
  show some ((a 126, .inr (1, [.int (i' 92), .int (i' 93), .int (i' 94), .ref (a 127), .ref (a 128), .ref (a 129), .ref (a 130), .int (i' 95), .int (i' 96), .ref (a 131), .ref (a 132), .ref (a 133), .ref (a 141)])) : Nat × va_E) = some (a 126, .inr (1, [.int (i 92), .int (i 93), .int (i 94), .ref (a 127), .ref (a 128), .ref (a 129), .ref (a 130), .int (i 95), .int (i 96), .ref (a 131), .ref (a 132), .ref (a 133), .ref (a 141)]))
  rw [hi 92 (by decide), hi 93 (by decide), hi 94 (by decide), hi 95 (by decide), hi 96 (by decide)]
set_option maxRecDepth 100000 in
theorem law_s127 (hi : law_ag [] i' i) (hj : law_ag [] j' j) (hf : law_ag [] f' f) (hg : law_ag [19] g' g) : (aW T a i' j' f' g')[127]? = (aW T a i j f g)[127]? := by
  show some ((a 127, mp_aJ T 8 (g' 19)) : Nat × va_E) = some (a 127, mp_aJ T 8 (g 19))
  rw [hg 19 (by decide)]
set_option maxRecDepth 100000 in
theorem law_s128 (hi : law_ag [] i' i) (hj : law_ag [] j' j) (hf : law_ag [] f' f) (hg : law_ag [20] g' g) : (aW T a i' j' f' g')[128]? = (aW T a i j f g)[128]? := by
  show some ((a 128, mp_aJ T 6 (g' 20)) : Nat × va_E) = some (a 128, mp_aJ T 6 (g 20))
  rw [hg 20 (by decide)]
set_option maxRecDepth 100000 in
theorem law_s129 (hi : law_ag [] i' i) (hj : law_ag [] j' j) (hf : law_ag [] f' f) (hg : law_ag [21] g' g) : (aW T a i' j' f' g')[129]? = (aW T a i j f g)[129]? := by
  show some ((a 129, mp_aJ T 6 (g' 21)) : Nat × va_E) = some (a 129, mp_aJ T 6 (g 21))
  rw [hg 21 (by decide)]
set_option maxRecDepth 100000 in
theorem law_s130 (hi : law_ag [] i' i) (hj : law_ag [] j' j) (hf : law_ag [82] f' f) (hg : law_ag [] g' g) : (aW T a i' j' f' g')[130]? = (aW T a i j f g)[130]? := by
  show some ((a 130, mp_aI T 8 (f' 82)) : Nat × va_E) = some (a 130, mp_aI T 8 (f 82))
  rw [hf 82 (by decide)]
set_option maxRecDepth 100000 in
theorem law_s131 (hi : law_ag [] i' i) (hj : law_ag [] j' j) (hf : law_ag [83] f' f) (hg : law_ag [] g' g) : (aW T a i' j' f' g')[131]? = (aW T a i j f g)[131]? := by
  show some ((a 131, mp_aI T 6 (f' 83)) : Nat × va_E) = some (a 131, mp_aI T 6 (f 83))
  rw [hf 83 (by decide)]
set_option maxRecDepth 100000 in
theorem law_s132 (hi : law_ag [] i' i) (hj : law_ag [] j' j) (hf : law_ag [84] f' f) (hg : law_ag [] g' g) : (aW T a i' j' f' g')[132]? = (aW T a i j f g)[132]? := by
  show some ((a 132, mp_aI T 6 (f' 84)) : Nat × va_E) = some (a 132, mp_aI T 6 (f 84))
  rw [hf 84 (by decide)]
set_option maxRecDepth 100000 in
theorem law_s133 (hi : law_ag [97, 98, 99, 100, 101, 102] i' i) (hj : law_ag [] j' j) (hf : law_ag [] f' f) (hg : law_ag [] g' g) : (aW T a i' j' f' g')[133]? = (aW T a i j f g)[133]? := by
  show some ((a 133, .inr (7, [.ref (a 134), .int (i' 97), .int (i' 98), .ref (a 135), .ref (a 136), .ref (a 137), .ref (a 138), .ref (a 139), .ref (a 140), .int (i' 99), .int (i' 100), .int (i' 101), .int (i' 102)])) : Nat × va_E) = some (a 133, .inr (7, [.ref (a 134), .int (i 97), .int (i 98), .ref (a 135), .ref (a 136), .ref (a 137), .ref (a 138), .ref (a 139), .ref (a 140), .int (i 99), .int (i 100), .int (i 101), .int (i 102)]))
  rw [hi 97 (by decide), hi 98 (by decide), hi 99 (by decide), hi 100 (by decide), hi 101 (by decide), hi 102 (by decide)]
set_option maxRecDepth 100000 in
theorem law_s134 (hi : law_ag [] i' i) (hj : law_ag [] j' j) (hf : law_ag [85] f' f) (hg : law_ag [] g' g) : (aW T a i' j' f' g')[134]? = (aW T a i j f g)[134]? := by
  show some ((a 134, mp_aI T 8 (f' 85)) : Nat × va_E) = some (a 134, mp_aI T 8 (f 85))
  rw [hf 85 (by decide)]
set_option maxRecDepth 100000 in
theorem law_s135 (hi : law_ag [] i' i) (hj : law_ag [] j' j) (hf : law_ag [86] f' f) (hg : law_ag [] g' g) : (aW T a i' j' f' g')[135]? = (aW T a i j f g)[135]? := by
  show some ((a 135, mp_aI T 8 (f' 86)) : Nat × va_E) = some (a 135, mp_aI T 8 (f 86))
  rw [hf 86 (by decide)]
set_option maxRecDepth 100000 in
theorem law_s136 (hi : law_ag [] i' i) (hj : law_ag [] j' j) (hf : law_ag [87] f' f) (hg : law_ag [] g' g) : (aW T a i' j' f' g')[136]? = (aW T a i j f g)[136]? := by
  show some ((a 136, mp_aI T 8 (f' 87)) : Nat × va_E) = some (a 136, mp_aI T 8 (f 87))
  rw [hf 87 (by decide)]
set_option maxRecDepth 100000 in
theorem law_s137 (hi : law_ag [] i' i) (hj : law_ag [] j' j) (hf : law_ag [88] f' f) (hg : law_ag [] g' g) : (aW T a i' j' f' g')[137]? = (aW T a i j f g)[137]? := by
  show some ((a 137, mp_aI T 6 (f' 88)) : Nat × va_E) = some (a 137, mp_aI T 6 (f 88))
  rw [hf 88 (by decide)]
set_option maxRecDepth 100000 in
theorem law_s138 (hi : law_ag [] i' i) (hj : law_ag [] j' j) (hf : law_ag [89] f' f) (hg : law_ag [] g' g) : (aW T a i' j' f' g')[138]? = (aW T a i j f g)[138]? := by
  show some ((a 138, mp_aI T 36 (f' 89)) : Nat × va_E) = some (a 138, mp_aI T 36 (f 89))
  rw [hf 89 (by decide)]
set_option maxRecDepth 100000 in
theorem law_s139 (hi : law_ag [] i' i) (hj : law_ag [] j' j) (hf : law_ag [90] f' f) (hg : law_ag [] g' g) : (aW T a i' j' f' g')[139]? = (aW T a i j f g)[139]? := by
  show some ((a 139, mp_aI T 6 (f' 90)) : Nat × va_E) = some (a 139, mp_aI T 6 (f 90))
  rw [hf 90 (by decide)]
set_option maxRecDepth 100000 in
theorem law_s140 (hi : law_ag [] i' i) (hj : law_ag [] j' j) (hf : law_ag [91] f' f) (hg : law_ag [] g' g) : (aW T a i' j' f' g')[140]? = (aW T a i j f g)[140]? := by
  show some ((a 140, mp_aI T 6 (f' 91)) : Nat × va_E) = some (a 140, mp_aI T 6 (f 91))
  rw [hf 91 (by decide)]
set_option maxRecDepth 100000 in
theorem law_s141 (hi : law_ag [103, 104, 105] i' i) (hj : law_ag [] j' j) (hf : law_ag [] f' f) (hg : law_ag [] g' g) : (aW T a i' j' f' g')[141]? = (aW T a i j f g)[141]? := by
  show some ((a 141, .inr (5, [.int (i' 103), .int (i' 104), .int (i' 105), .ref (a 142), .ref (a 143), .ref (a 144), .ref (a 145)])) : Nat × va_E) = some (a 141, .inr (5, [.int (i 103), .int (i 104), .int (i 105), .ref (a 142), .ref (a 143), .ref (a 144), .ref (a 145)]))
  rw [hi 103 (by decide), hi 104 (by decide), hi 105 (by decide)]
set_option maxRecDepth 100000 in
theorem law_s142 (hi : law_ag [] i' i) (hj : law_ag [] j' j) (hf : law_ag [92] f' f) (hg : law_ag [] g' g) : (aW T a i' j' f' g')[142]? = (aW T a i j f g)[142]? := by
  show some ((a 142, mp_aI T 60 (f' 92)) : Nat × va_E) = some (a 142, mp_aI T 60 (f 92))
  rw [hf 92 (by decide)]
set_option maxRecDepth 100000 in
theorem law_s143 (hi : law_ag [] i' i) (hj : law_ag [] j' j) (hf : law_ag [93] f' f) (hg : law_ag [] g' g) : (aW T a i' j' f' g')[143]? = (aW T a i j f g)[143]? := by
  show some ((a 143, mp_aI T 60 (f' 93)) : Nat × va_E) = some (a 143, mp_aI T 60 (f 93))
  rw [hf 93 (by decide)]
set_option maxRecDepth 100000 in
theorem law_s144 (hi : law_ag [] i' i) (hj : law_ag [] j' j) (hf : law_ag [94] f' f) (hg : law_ag [] g' g) : (aW T a i' j' f' g')[144]? = (aW T a i j f g)[144]? := by
  show some ((a 144, mp_aI T 60 (f' 94)) : Nat × va_E) = some (a 144, mp_aI T 60 (f 94))
  rw [hf 94 (by decide)]
set_option maxRecDepth 100000 in
theorem law_s145 (hi : law_ag [] i' i) (hj : law_ag [] j' j) (hf : law_ag [95] f' f) (hg : law_ag [] g' g) : (aW T a i' j' f' g')[145]? = (aW T a i j f g)[145]? := by
  show some ((a 145, mp_aI T 60 (f' 95)) : Nat × va_E) = some (a 145, mp_aI T 60 (f 95))
  rw [hf 95 (by decide)]
def law_P (T : Nat → ClassId) (a : Nat → Nat) (i i' : Nat → Int32) (j j' : Nat → Int64) (f f' : Nat → Nat → Int32) (g g' : Nat → Nat → Int64) (k : Nat) : Prop := law_ag (law_d k).1 i' i → law_ag (law_d k).2.1 j' j → law_ag (law_d k).2.2.1 f' f → law_ag (law_d k).2.2.2 g' g → (aW T a i' j' f' g')[k]? = (aW T a i j f g)[k]?
set_option maxRecDepth 100000 in
theorem law_b0 : ∀ k ∈ [0, 1, 2, 3, 4, 5, 6, 7, 8, 9, 10, 11, 12, 13, 14, 15, 16, 17, 18, 19], law_P T a i i' j j' f f' g g' k := List.forall_mem_cons.mpr ⟨law_s0, List.forall_mem_cons.mpr ⟨law_s1, List.forall_mem_cons.mpr ⟨law_s2, List.forall_mem_cons.mpr ⟨law_s3, List.forall_mem_cons.mpr ⟨law_s4, List.forall_mem_cons.mpr ⟨law_s5, List.forall_mem_cons.mpr ⟨law_s6, List.forall_mem_cons.mpr ⟨law_s7, List.forall_mem_cons.mpr ⟨law_s8, List.forall_mem_cons.mpr ⟨law_s9, List.forall_mem_cons.mpr ⟨law_s10, List.forall_mem_cons.mpr ⟨law_s11, List.forall_mem_cons.mpr ⟨law_s12, List.forall_mem_cons.mpr ⟨law_s13, List.forall_mem_cons.mpr ⟨law_s14, List.forall_mem_cons.mpr ⟨law_s15, List.forall_mem_cons.mpr ⟨law_s16, List.forall_mem_cons.mpr ⟨law_s17, List.forall_mem_cons.mpr ⟨law_s18, List.forall_mem_cons.mpr ⟨law_s19, fun _ h => absurd h List.not_mem_nil⟩⟩⟩⟩⟩⟩⟩⟩⟩⟩⟩⟩⟩⟩⟩⟩⟩⟩⟩⟩
set_option maxRecDepth 100000 in
theorem law_b1 : ∀ k ∈ [20, 21, 22, 23, 24, 25, 26, 27, 28, 29, 30, 31, 32, 33, 34, 35, 36, 37, 38, 39], law_P T a i i' j j' f f' g g' k := List.forall_mem_cons.mpr ⟨law_s20, List.forall_mem_cons.mpr ⟨law_s21, List.forall_mem_cons.mpr ⟨law_s22, List.forall_mem_cons.mpr ⟨law_s23, List.forall_mem_cons.mpr ⟨law_s24, List.forall_mem_cons.mpr ⟨law_s25, List.forall_mem_cons.mpr ⟨law_s26, List.forall_mem_cons.mpr ⟨law_s27, List.forall_mem_cons.mpr ⟨law_s28, List.forall_mem_cons.mpr ⟨law_s29, List.forall_mem_cons.mpr ⟨law_s30, List.forall_mem_cons.mpr ⟨law_s31, List.forall_mem_cons.mpr ⟨law_s32, List.forall_mem_cons.mpr ⟨law_s33, List.forall_mem_cons.mpr ⟨law_s34, List.forall_mem_cons.mpr ⟨law_s35, List.forall_mem_cons.mpr ⟨law_s36, List.forall_mem_cons.mpr ⟨law_s37, List.forall_mem_cons.mpr ⟨law_s38, List.forall_mem_cons.mpr ⟨law_s39, fun _ h => absurd h List.not_mem_nil⟩⟩⟩⟩⟩⟩⟩⟩⟩⟩⟩⟩⟩⟩⟩⟩⟩⟩⟩⟩
set_option maxRecDepth 100000 in
theorem law_b2 : ∀ k ∈ [40, 41, 42, 43, 44, 45, 46, 47, 48, 49, 50, 51, 52, 53, 54, 55, 56, 57, 58, 59], law_P T a i i' j j' f f' g g' k := List.forall_mem_cons.mpr ⟨law_s40, List.forall_mem_cons.mpr ⟨law_s41, List.forall_mem_cons.mpr ⟨law_s42, List.forall_mem_cons.mpr ⟨law_s43, List.forall_mem_cons.mpr ⟨law_s44, List.forall_mem_cons.mpr ⟨law_s45, List.forall_mem_cons.mpr ⟨law_s46, List.forall_mem_cons.mpr ⟨law_s47, List.forall_mem_cons.mpr ⟨law_s48, List.forall_mem_cons.mpr ⟨law_s49, List.forall_mem_cons.mpr ⟨law_s50, List.forall_mem_cons.mpr ⟨law_s51, List.forall_mem_cons.mpr ⟨law_s52, List.forall_mem_cons.mpr ⟨law_s53, List.forall_mem_cons.mpr ⟨law_s54, List.forall_mem_cons.mpr ⟨law_s55, List.forall_mem_cons.mpr ⟨law_s56, List.forall_mem_cons.mpr ⟨law_s57, List.forall_mem_cons.mpr ⟨law_s58, List.forall_mem_cons.mpr ⟨law_s59, fun _ h => absurd h List.not_mem_nil⟩⟩⟩⟩⟩⟩⟩⟩⟩⟩⟩⟩⟩⟩⟩⟩⟩⟩⟩⟩
set_option maxRecDepth 100000 in
theorem law_b3 : ∀ k ∈ [60, 61, 62, 63, 64, 65, 66, 67, 68, 69, 70, 71, 72, 73, 74, 75, 76, 77, 78, 79], law_P T a i i' j j' f f' g g' k := List.forall_mem_cons.mpr ⟨law_s60, List.forall_mem_cons.mpr ⟨law_s61, List.forall_mem_cons.mpr ⟨law_s62, List.forall_mem_cons.mpr ⟨law_s63, List.forall_mem_cons.mpr ⟨law_s64, List.forall_mem_cons.mpr ⟨law_s65, List.forall_mem_cons.mpr ⟨law_s66, List.forall_mem_cons.mpr ⟨law_s67, List.forall_mem_cons.mpr ⟨law_s68, List.forall_mem_cons.mpr ⟨law_s69, List.forall_mem_cons.mpr ⟨law_s70, List.forall_mem_cons.mpr ⟨law_s71, List.forall_mem_cons.mpr ⟨law_s72, List.forall_mem_cons.mpr ⟨law_s73, List.forall_mem_cons.mpr ⟨law_s74, List.forall_mem_cons.mpr ⟨law_s75, List.forall_mem_cons.mpr ⟨law_s76, List.forall_mem_cons.mpr ⟨law_s77, List.forall_mem_cons.mpr ⟨law_s78, List.forall_mem_cons.mpr ⟨law_s79, fun _ h => absurd h List.not_mem_nil⟩⟩⟩⟩⟩⟩⟩⟩⟩⟩⟩⟩⟩⟩⟩⟩⟩⟩⟩⟩
set_option maxRecDepth 100000 in
theorem law_b4 : ∀ k ∈ [80, 81, 82, 83, 84, 85, 86, 87, 88, 89, 90, 91, 92, 93, 94, 95, 96, 97, 98, 99], law_P T a i i' j j' f f' g g' k := List.forall_mem_cons.mpr ⟨law_s80, List.forall_mem_cons.mpr ⟨law_s81, List.forall_mem_cons.mpr ⟨law_s82, List.forall_mem_cons.mpr ⟨law_s83, List.forall_mem_cons.mpr ⟨law_s84, List.forall_mem_cons.mpr ⟨law_s85, List.forall_mem_cons.mpr ⟨law_s86, List.forall_mem_cons.mpr ⟨law_s87, List.forall_mem_cons.mpr ⟨law_s88, List.forall_mem_cons.mpr ⟨law_s89, List.forall_mem_cons.mpr ⟨law_s90, List.forall_mem_cons.mpr ⟨law_s91, List.forall_mem_cons.mpr ⟨law_s92, List.forall_mem_cons.mpr ⟨law_s93, List.forall_mem_cons.mpr ⟨law_s94, List.forall_mem_cons.mpr ⟨law_s95, List.forall_mem_cons.mpr ⟨law_s96, List.forall_mem_cons.mpr ⟨law_s97, List.forall_mem_cons.mpr ⟨law_s98, List.forall_mem_cons.mpr ⟨law_s99, fun _ h => absurd h List.not_mem_nil⟩⟩⟩⟩⟩⟩⟩⟩⟩⟩⟩⟩⟩⟩⟩⟩⟩⟩⟩⟩
set_option maxRecDepth 100000 in
theorem law_b5 : ∀ k ∈ [100, 101, 102, 103, 104, 105, 106, 107, 108, 109, 110, 111, 112, 113, 114, 115, 116, 117, 118, 119], law_P T a i i' j j' f f' g g' k := List.forall_mem_cons.mpr ⟨law_s100, List.forall_mem_cons.mpr ⟨law_s101, List.forall_mem_cons.mpr ⟨law_s102, List.forall_mem_cons.mpr ⟨law_s103, List.forall_mem_cons.mpr ⟨law_s104, List.forall_mem_cons.mpr ⟨law_s105, List.forall_mem_cons.mpr ⟨law_s106, List.forall_mem_cons.mpr ⟨law_s107, List.forall_mem_cons.mpr ⟨law_s108, List.forall_mem_cons.mpr ⟨law_s109, List.forall_mem_cons.mpr ⟨law_s110, List.forall_mem_cons.mpr ⟨law_s111, List.forall_mem_cons.mpr ⟨law_s112, List.forall_mem_cons.mpr ⟨law_s113, List.forall_mem_cons.mpr ⟨law_s114, List.forall_mem_cons.mpr ⟨law_s115, List.forall_mem_cons.mpr ⟨law_s116, List.forall_mem_cons.mpr ⟨law_s117, List.forall_mem_cons.mpr ⟨law_s118, List.forall_mem_cons.mpr ⟨law_s119, fun _ h => absurd h List.not_mem_nil⟩⟩⟩⟩⟩⟩⟩⟩⟩⟩⟩⟩⟩⟩⟩⟩⟩⟩⟩⟩
set_option maxRecDepth 100000 in
theorem law_b6 : ∀ k ∈ [120, 121, 122, 123, 124, 125, 126, 127, 128, 129, 130, 131, 132, 133, 134, 135, 136, 137, 138, 139], law_P T a i i' j j' f f' g g' k := List.forall_mem_cons.mpr ⟨law_s120, List.forall_mem_cons.mpr ⟨law_s121, List.forall_mem_cons.mpr ⟨law_s122, List.forall_mem_cons.mpr ⟨law_s123, List.forall_mem_cons.mpr ⟨law_s124, List.forall_mem_cons.mpr ⟨law_s125, List.forall_mem_cons.mpr ⟨law_s126, List.forall_mem_cons.mpr ⟨law_s127, List.forall_mem_cons.mpr ⟨law_s128, List.forall_mem_cons.mpr ⟨law_s129, List.forall_mem_cons.mpr ⟨law_s130, List.forall_mem_cons.mpr ⟨law_s131, List.forall_mem_cons.mpr ⟨law_s132, List.forall_mem_cons.mpr ⟨law_s133, List.forall_mem_cons.mpr ⟨law_s134, List.forall_mem_cons.mpr ⟨law_s135, List.forall_mem_cons.mpr ⟨law_s136, List.forall_mem_cons.mpr ⟨law_s137, List.forall_mem_cons.mpr ⟨law_s138, List.forall_mem_cons.mpr ⟨law_s139, fun _ h => absurd h List.not_mem_nil⟩⟩⟩⟩⟩⟩⟩⟩⟩⟩⟩⟩⟩⟩⟩⟩⟩⟩⟩⟩
set_option maxRecDepth 100000 in
theorem law_b7 : ∀ k ∈ [140, 141, 142, 143, 144, 145], law_P T a i i' j j' f f' g g' k := List.forall_mem_cons.mpr ⟨law_s140, List.forall_mem_cons.mpr ⟨law_s141, List.forall_mem_cons.mpr ⟨law_s142, List.forall_mem_cons.mpr ⟨law_s143, List.forall_mem_cons.mpr ⟨law_s144, List.forall_mem_cons.mpr ⟨law_s145, fun _ h => absurd h List.not_mem_nil⟩⟩⟩⟩⟩⟩
set_option maxRecDepth 100000 in
theorem law_all (k : Nat) (hk : k < 146) : law_P T a i i' j j' f f' g g' k := by
  have hm : k ∈ [0, 1, 2, 3, 4, 5, 6, 7, 8, 9, 10, 11, 12, 13, 14, 15, 16, 17, 18, 19] ++ ([20, 21, 22, 23, 24, 25, 26, 27, 28, 29, 30, 31, 32, 33, 34, 35, 36, 37, 38, 39] ++ ([40, 41, 42, 43, 44, 45, 46, 47, 48, 49, 50, 51, 52, 53, 54, 55, 56, 57, 58, 59] ++ ([60, 61, 62, 63, 64, 65, 66, 67, 68, 69, 70, 71, 72, 73, 74, 75, 76, 77, 78, 79] ++ ([80, 81, 82, 83, 84, 85, 86, 87, 88, 89, 90, 91, 92, 93, 94, 95, 96, 97, 98, 99] ++ ([100, 101, 102, 103, 104, 105, 106, 107, 108, 109, 110, 111, 112, 113, 114, 115, 116, 117, 118, 119] ++ ([120, 121, 122, 123, 124, 125, 126, 127, 128, 129, 130, 131, 132, 133, 134, 135, 136, 137, 138, 139] ++ ([140, 141, 142, 143, 144, 145]))))))) := by
    have := List.mem_range.mpr hk
    exact this
  exact (List.forall_mem_append.mpr ⟨law_b0, List.forall_mem_append.mpr ⟨law_b1, List.forall_mem_append.mpr ⟨law_b2, List.forall_mem_append.mpr ⟨law_b3, List.forall_mem_append.mpr ⟨law_b4, List.forall_mem_append.mpr ⟨law_b5, List.forall_mem_append.mpr ⟨law_b6, law_b7⟩⟩⟩⟩⟩⟩⟩ : ∀ k ∈ [0, 1, 2, 3, 4, 5, 6, 7, 8, 9, 10, 11, 12, 13, 14, 15, 16, 17, 18, 19] ++ ([20, 21, 22, 23, 24, 25, 26, 27, 28, 29, 30, 31, 32, 33, 34, 35, 36, 37, 38, 39] ++ ([40, 41, 42, 43, 44, 45, 46, 47, 48, 49, 50, 51, 52, 53, 54, 55, 56, 57, 58, 59] ++ ([60, 61, 62, 63, 64, 65, 66, 67, 68, 69, 70, 71, 72, 73, 74, 75, 76, 77, 78, 79] ++ ([80, 81, 82, 83, 84, 85, 86, 87, 88, 89, 90, 91, 92, 93, 94, 95, 96, 97, 98, 99] ++ ([100, 101, 102, 103, 104, 105, 106, 107, 108, 109, 110, 111, 112, 113, 114, 115, 116, 117, 118, 119] ++ ([120, 121, 122, 123, 124, 125, 126, 127, 128, 129, 130, 131, 132, 133, 134, 135, 136, 137, 138, 139] ++ ([140, 141, 142, 143, 144, 145]))))))), law_P T a i i' j j' f f' g g' k) k hm
def law_free (u w : List Nat) : Bool := u.all (fun n => !w.contains n)
def law_ok (isC uI uJ uF uG : List Nat) (k : Nat) : Bool := isC.contains k || (law_free (law_d k).1 uI && law_free (law_d k).2.1 uJ && law_free (law_d k).2.2.1 uF && law_free (law_d k).2.2.2 uG)
def law_off (isC uI uJ uF uG : List Nat) : Bool := (List.range 146).all (law_ok isC uI uJ uF uG)
theorem law_free_ag {α : Type} {u w : List Nat} {F1 F : Nat → α} (h : law_free u w = true) (hF : ∀ n, n ∉ w → F1 n = F n) : law_ag u F1 F := by
  intro n hn
  have h1 := List.all_eq_true.mp h n hn
  refine hF n (fun hw => ?_)
  rw [List.contains_iff_mem.mpr hw] at h1
  cases h1
theorem law_ok_ag {isC uI uJ uF uG : List Nat} {k : Nat} (h : law_ok isC uI uJ uF uG k = true) (hn : k ∉ isC) (hi : ∀ n, n ∉ uI → i' n = i n) (hj : ∀ n, n ∉ uJ → j' n = j n) (hf : ∀ n, n ∉ uF → f' n = f n) (hg : ∀ n, n ∉ uG → g' n = g n) (hk : k < 146) : (aW T a i' j' f' g')[k]? = (aW T a i j f g)[k]? := by
  unfold law_ok at h
  rw [Bool.or_eq_true] at h
  rcases h with h | h
  · exact absurd (List.contains_iff_mem.mp h) hn
  · rw [Bool.and_eq_true, Bool.and_eq_true, Bool.and_eq_true] at h
    exact law_all k hk (law_free_ag h.1.1.1 hi) (law_free_ag h.1.1.2 hj) (law_free_ag h.1.2 hf) (law_free_ag h.2 hg)
theorem va_off_n {α : Type} (F : Nat → α) : ∀ n : Nat, n ∉ ([] : List Nat) → F n = F n := fun _ _ => rfl
theorem va_off_c {α : Type} {F1 F : Nat → α} {k : Nat} {v : α} {u : List Nat} (h : ∀ n : Nat, n ∉ u → F1 n = F n) : ∀ n : Nat, n ∉ (k :: u) → va_up F1 k v n = F n := by
  intro n hn
  have h1 : ¬ n = k := fun e => hn (List.mem_cons.mpr (Or.inl e))
  have h2 : n ∉ u := fun e => hn (List.mem_cons.mpr (Or.inr e))
  show (if n = k then v else F1 n) = F n
  rw [if_neg h1]
  exact h n h2
set_option maxRecDepth 100000 in
theorem aW_len : (aW T a i j f g).length = 146 := rfl
set_option maxRecDepth 100000 in
theorem aW_adr : (aW T a i j f g).map Prod.fst = [a 0, a 1, a 2, a 3, a 4, a 5, a 6, a 7, a 8, a 9, a 10, a 11, a 12, a 13, a 14, a 15, a 16, a 17, a 18, a 19, a 20, a 21, a 22, a 23, a 24, a 25, a 26, a 27, a 28, a 29, a 30, a 31, a 32, a 33, a 34, a 35, a 36, a 37, a 38, a 39, a 40, a 41, a 42, a 43, a 44, a 45, a 46, a 47, a 48, a 49, a 50, a 51, a 52, a 53, a 54, a 55, a 56, a 57, a 58, a 59, a 60, a 61, a 62, a 63, a 64, a 65, a 66, a 67, a 68, a 69, a 70, a 71, a 72, a 73, a 74, a 75, a 76, a 77, a 78, a 79, a 80, a 81, a 82, a 83, a 84, a 85, a 86, a 87, a 88, a 89, a 90, a 91, a 92, a 93, a 94, a 95, a 96, a 97, a 98, a 99, a 100, a 101, a 102, a 103, a 104, a 105, a 106, a 107, a 108, a 109, a 110, a 111, a 112, a 113, a 114, a 115, a 116, a 117, a 118, a 119, a 120, a 121, a 122, a 123, a 124, a 125, a 126, a 127, a 128, a 129, a 130, a 131, a 132, a 133, a 134, a 135, a 136, a 137, a 138, a 139, a 140, a 141, a 142, a 143, a 144, a 145] := rfl
theorem law_joined {A0 : Nat → Prop} {D : va_G} {wc w1 : va_W} {H H1 : Heap} {isC uI uJ uF uG : List Nat} (hP : va_P D mp_cl (aW T a i j f g) H) (hD : va_D A0 (aW T a i j f g)) (hC : isC.map (fun k => (aW T a i j f g)[k]?) = wc.map some)
    (h1 : isC.map (fun k => (aW T a i' j' f' g')[k]?) = w1.map some) (hi : ∀ n, n ∉ uI → i' n = i n) (hj : ∀ n, n ∉ uJ → j' n = j n) (hf : ∀ n, n ∉ uF → f' n = f n) (hg : ∀ n, n ∉ uG → g' n = g n) (hoff : law_off isC uI uJ uF uG = true)
    (hk : ∀ q : Nat, q < H.size → ¬ va_A wc H.size q → H1[q]? = H[q]?) (hP1 : va_P D mp_cl w1 H1) : va_P D mp_cl (aW T a i' j' f' g') H1 ∧ va_D A0 (aW T a i' j' f' g') := by
  refine ⟨fun k q hq => ?_, mp_D_of hD (aW_adr.trans aW_adr.symm)⟩
  have hkn : k < 146 := by
    rw [← aW_len (T := T) (a := a) (i := i') (j := j') (f := f') (g := g')]
    exact (List.getElem?_eq_some_iff.mp hq).1
  by_cases hin : k ∈ isC
  · obtain ⟨t, ht⟩ := List.getElem?_of_mem hin
    have e : (isC.map (fun k => (aW T a i' j' f' g')[k]?))[t]? = some (some q) := by rw [List.getElem?_map, ht]; exact congrArg some hq
    rw [h1, List.getElem?_map] at e
    cases hw : w1[t]? with
    | none => rw [hw] at e; cases e
    | some q' =>
      rw [hw] at e
      have e2 : q' = q := Option.some.inj (Option.some.inj e)
      subst e2
      exact hP1 t q' hw
  · have h2 : (aW T a i j f g)[k]? = some q := by
      rw [← hq]
      exact (law_ok_ag (List.all_eq_true.mp hoff k (List.mem_range.mpr hkn)) hin hi hj hf hg hkn).symm
    have hl := (hP k q h2).lt
    refine (hP k q h2).kept (hk q.1 hl (fun h => ?_))
    rcases h with ⟨k2, e, h⟩ | h
    · have h3 : (isC.map (fun k => (aW T a i j f g)[k]?))[k2]? = some (some (q.1, e)) := by rw [hC, List.getElem?_map, h]; rfl
      rw [List.getElem?_map] at h3
      cases hi : isC[k2]? with
      | none => rw [hi] at h3; cases h3
      | some t =>
        rw [hi] at h3
        have h4 : (aW T a i j f g)[t]? = some (q.1, e) := Option.some.inj h3
        have h5 := hD.1 k t q (q.1, e) h2 h4 rfl
        subst h5
        exact hin (List.mem_of_getElem? hi)
    · exact absurd hl (Nat.not_lt.mpr h)
end LB
def law_A (s : State) : Nat → Prop := fun q => s.heap.size ≤ q
theorem law_sub {D : va_G} {ws wc : va_W} {H : Heap} {isC : List Nat} (hP : va_P D mp_cl ws H) (hC : isC.map (fun k => ws[k]?) = wc.map some) : va_P D mp_cl wc H := by
  intro k q hq
  have e : (isC.map (fun k => ws[k]?))[k]? = some (some q) := by rw [hC, List.getElem?_map, hq]; rfl
  rw [List.getElem?_map] at e
  cases hi : isC[k]? with
  | none => rw [hi] at e; cases e
  | some t =>
    rw [hi] at e
    exact hP t q (Option.some.inj e)
/-! cells beside the class's: a list Y ahead of them -/
theorem law_app {D : va_G} {ws Y : va_W} {H : Heap} (h1 : va_P D mp_cl Y H) (h2 : va_P D mp_cl ws H) : va_P D mp_cl (Y ++ ws) H := by
  intro k q hq
  by_cases hk : k < Y.length
  · rw [List.getElem?_append_left hk] at hq
    exact h1 k q hq
  · rw [List.getElem?_append_right (Nat.not_lt.mp hk)] at hq
    exact h2 _ q hq
theorem law_left {D : va_G} {ws Y : va_W} {H : Heap} (h : va_P D mp_cl (Y ++ ws) H) : va_P D mp_cl Y H := by
  intro k q hq
  exact h k q (by rw [List.getElem?_append_left (List.getElem?_eq_some_iff.mp hq).1]; exact hq)
theorem law_right {D : va_G} {ws Y : va_W} {H : Heap} (h : va_P D mp_cl (Y ++ ws) H) : va_P D mp_cl ws H := by
  intro k q hq
  exact h (Y.length + k) q (by rw [List.getElem?_append_right (Nat.le_add_right _ _), Nat.add_sub_cancel_left]; exact hq)
theorem law_rightD {A : Nat → Prop} {ws Y : va_W} (h : va_D A (Y ++ ws)) : va_D A ws := by
  refine ⟨fun i j p q hp hq e => ?_, fun k q hq => ?_⟩
  · have := h.1 (Y.length + i) (Y.length + j) p q (by rw [List.getElem?_append_right (Nat.le_add_right _ _), Nat.add_sub_cancel_left]; exact hp) (by rw [List.getElem?_append_right (Nat.le_add_right _ _), Nat.add_sub_cancel_left]; exact hq) e
    omega
  · exact h.2 (Y.length + k) q (by rw [List.getElem?_append_right (Nat.le_add_right _ _), Nat.add_sub_cancel_left]; exact hq)
/-- a new cell comes to the front -/
theorem law_rot {D : va_G} {ws : va_W} {x : Nat × va_E} {H : Heap} (h : va_P D mp_cl (ws ++ [x]) H) : va_P D mp_cl (x :: ws) H := law_app (Y := [x]) (law_right h) (law_left h)
theorem law_rotD {A : Nat → Prop} {ws : va_W} {x : Nat × va_E} (h : va_D A (ws ++ [x])) : va_D A (x :: ws) := by
  have hm : ∀ (k : Nat) (q : Nat × va_E), (x :: ws)[k]? = some q → (ws ++ [x])[if k = 0 then ws.length else k - 1]? = some q := by
    intro k q hq
    cases k with
    | zero =>
      rw [if_pos rfl, List.getElem?_append_right (Nat.le_refl _), Nat.sub_self]
      exact hq
    | succ k =>
      have hq2 : ws[k]? = some q := hq
      rw [if_neg (Nat.succ_ne_zero k), Nat.add_sub_cancel, List.getElem?_append_left (List.getElem?_eq_some_iff.mp hq2).1]
      exact hq2
  refine ⟨fun i j p q hp hq e => ?_, fun k q hq => h.2 _ q (hm k q hq)⟩
  have h1 := h.1 _ _ p q (hm i p hp) (hm j q hq) e
  have hi : i < (x :: ws).length := (List.getElem?_eq_some_iff.mp hp).1
  have hj : j < (x :: ws).length := (List.getElem?_eq_some_iff.mp hq).1
  rw [List.length_cons] at hi hj
  split at h1 <;> split at h1 <;> omega
theorem law_joinedX {A0 : Nat → Prop} {T : Nat → ClassId} {a : Nat → Nat} {i i' : Nat → Int32} {j j' : Nat → Int64} {f f' : Nat → Nat → Int32} {g g' : Nat → Nat → Int64} {D : va_G} {Y wc w1 : va_W} {H H1 : Heap} {isC uI uJ uF uG : List Nat} (hP : va_P D mp_cl (Y ++ aW T a i j f g) H) (hD : va_D A0 (Y ++ aW T a i j f g)) (hC : isC.map (fun k => (aW T a i j f g)[k]?) = wc.map some)
    (h1 : isC.map (fun k => (aW T a i' j' f' g')[k]?) = w1.map some) (hi : ∀ n, n ∉ uI → i' n = i n) (hj : ∀ n, n ∉ uJ → j' n = j n) (hf : ∀ n, n ∉ uF → f' n = f n) (hg : ∀ n, n ∉ uG → g' n = g n) (hoff : law_off isC uI uJ uF uG = true)
    (hk : ∀ q : Nat, q < H.size → ¬ va_A wc H.size q → H1[q]? = H[q]?) (hP1 : va_P D mp_cl w1 H1) : va_P D mp_cl (Y ++ aW T a i' j' f' g') H1 ∧ va_D A0 (Y ++ aW T a i' j' f' g') := by
  obtain ⟨x, -⟩ := law_joined (law_right hP) (law_rightD hD) hC h1 hi hj hf hg hoff hk hP1
  refine ⟨law_app (fun k q hq => ?_) x, mp_D_of hD (by rw [List.map_append, List.map_append, aW_adr, aW_adr])⟩
  have hl := (law_left hP k q hq).lt
  have hkl : k < Y.length := (List.getElem?_eq_some_iff.mp hq).1
  refine (law_left hP k q hq).kept (hk q.1 hl (fun h => ?_))
  rcases h with ⟨k2, e, h⟩ | h
  · have h3 : (isC.map (fun k => (aW T a i j f g)[k]?))[k2]? = some (some (q.1, e)) := by rw [hC, List.getElem?_map, h]; rfl
    rw [List.getElem?_map] at h3
    cases hi : isC[k2]? with
    | none => rw [hi] at h3; cases h3
    | some t =>
      rw [hi] at h3
      have h4 : (aW T a i j f g)[t]? = some (q.1, e) := Option.some.inj h3
      have h5 := hD.1 k (Y.length + t) q (q.1, e) (by rw [List.getElem?_append_left hkl]; exact hq) (by rw [List.getElem?_append_right (Nat.le_add_right _ _), Nat.add_sub_cancel_left]; exact h4) rfl
      omega
  · exact absurd hl (Nat.not_lt.mpr h)
section LC0
variable {p : Program} {l : Launch} {e : Env} {R : Room} {s : State} {m : MethodId} {args : Array Value} {below : List Frame} {meth : Method} {c : Code} {H : Heap} {locs : List Loc} {cells slots : Nat} {Q : State → Prop}
variable {pc : Nat} {ls : Array Slot} {rest st : List Value} {D : va_G} {T : Nat → ClassId} {a : Nat → Nat} {i i' : Nat → Int32} {j j' : Nat → Int64} {f f' : Nat → Nat → Int32} {g g' : Nat → Nat → Int64} {Y wc w1 : va_W} {isC uI uJ uF uG : List Nat} {arr : Array Value} {A : Nat → Prop}
theorem law_calli {r : Int32} (hP : va_P D mp_cl (Y ++ aW T a i j f g) H) (hD : va_D A (Y ++ aW T a i j f g)) (hS : va_S A s.heap H locs) (hA : ∀ q, s.heap.size ≤ q → A q) (hC : isC.map (fun k => (aW T a i j f g)[k]?) = wc.map some) (hnd : va_nd isC = true) (h1 : isC.map (fun k => (aW T a i' j' f' g')[k]?) = w1.map some)
    (hi : ∀ n, n ∉ uI → i' n = i n) (hj : ∀ n, n ∉ uJ → j' n = j n) (hf : ∀ n, n ∉ uF → f' n = f n) (hg : ∀ n, n ∉ uG → g' n = g n) (hoff : law_off isC uI uJ uF uG = true)
    (hr : va_P D mp_cl wc H → va_D A wc → va_Run p l e R s m args below meth c H locs cells slots 0 0 (F0 m pc ls st) rest (mp_Qi D r w1 (va_A wc H.size) arr) (va_A wc H.size))
    (kk : ∀ (H1 : Heap) (locs1 : List Loc), va_P D mp_cl (Y ++ aW T a i' j' f' g') H1 → va_D A (Y ++ aW T a i' j' f' g') → va_S A s.heap H1 locs1 → W p l e R s m args below meth c H1 locs1 cells slots Q (F0 m (pc + 3) ls (.int r :: rest))) : W p l e R s m args below meth c H locs cells slots Q (F0 m pc ls st) := by
  have hF := va_free (law_rightD hD) hS hA isC hC
  refine va_calli (hr (law_sub (law_right hP) hC) ((law_rightD hD).sub isC hnd hC)) hS (fun q _ h => hF q h) hF (fun r' u t H1 locs1 ht hvm hw hB hz1 hk1 hS1 => ?_)
  subst hw; subst ht
  obtain ⟨x, y⟩ := law_joinedX hP hD hC h1 hi hj hf hg hoff hk1 hB
  exact kk _ _ x y hS1
theorem law_calll {r : Int64} (hP : va_P D mp_cl (Y ++ aW T a i j f g) H) (hD : va_D A (Y ++ aW T a i j f g)) (hS : va_S A s.heap H locs) (hA : ∀ q, s.heap.size ≤ q → A q) (hC : isC.map (fun k => (aW T a i j f g)[k]?) = wc.map some) (hnd : va_nd isC = true) (h1 : isC.map (fun k => (aW T a i' j' f' g')[k]?) = w1.map some)
    (hi : ∀ n, n ∉ uI → i' n = i n) (hj : ∀ n, n ∉ uJ → j' n = j n) (hf : ∀ n, n ∉ uF → f' n = f n) (hg : ∀ n, n ∉ uG → g' n = g n) (hoff : law_off isC uI uJ uF uG = true)
    (hr : va_P D mp_cl wc H → va_D A wc → va_Run p l e R s m args below meth c H locs cells slots 0 0 (F0 m pc ls st) rest (mp_Ql D r w1 (va_A wc H.size) arr) (va_A wc H.size))
    (kk : ∀ (H1 : Heap) (locs1 : List Loc), va_P D mp_cl (Y ++ aW T a i' j' f' g') H1 → va_D A (Y ++ aW T a i' j' f' g') → va_S A s.heap H1 locs1 → W p l e R s m args below meth c H1 locs1 cells slots Q (F0 m (pc + 3) ls (.long r :: rest))) : W p l e R s m args below meth c H locs cells slots Q (F0 m pc ls st) := by
  have hF := va_free (law_rightD hD) hS hA isC hC
  refine va_calll (hr (law_sub (law_right hP) hC) ((law_rightD hD).sub isC hnd hC)) hS (fun q _ h => hF q h) hF (fun r' u t H1 locs1 ht hvm hw hB hz1 hk1 hS1 => ?_)
  subst hw; subst ht
  obtain ⟨x, y⟩ := law_joinedX hP hD hC h1 hi hj hf hg hoff hk1 hB
  exact kk _ _ x y hS1
end LC0
