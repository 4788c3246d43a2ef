/-! ORDERS, one behind the other -/
def lvs (c : Nat) : Nat → Nat → List (List Nat)
  | 0, _ => [[]]
  | n + 1, M => (List.range c).flatMap (fun k => cond (M.testBit k) ((lvs c n (dif M (2 ^ k))).map (fun L => k :: L)) [])
def upb (f : Nat → Nat) (i v j : Nat) : Nat := cond (Nat.beq j i) v (f j)
def swp (p : Nat → Nat) (i j : Nat) : Nat → Nat := upb (upb p i (p j)) j (p i)
/-- the last place that is below the next one -/
def piv (p : Nat → Nat) : Nat → Option Nat
  | 0 => none
  | i + 1 => cond (Nat.ble (p i) (p (i + 1))) (some i) (piv p i)
def jv (p : Nat → Nat) (i : Nat) : Nat → Nat
  | 0 => i + 1
  | k + 1 => cond (Nat.ble (p i) (p (i + 1 + (k + 1)))) (i + 1 + (k + 1)) (jv p i k)
def rv : Nat → (Nat → Nat) → Nat → Nat → Nat → Nat
  | 0, p, _, _ => p
  | f + 1, p, a, b => cond (Nat.ble b a) p (rv f (swp p a b) (a + 1) (b - 1))
def nxt (n : Nat) (p : Nat → Nat) : Option (Nat → Nat) := match piv p (n - 1) with
  | none => none
  | some i => some (rv 8 (swp p i (jv p i (n - 1 - (i + 1)))) (i + 1) (n - 1))
def el : List Nat → Nat → Nat
  | [], _ => 0
  | x :: r, i => match i with
    | 0 => x
    | i + 1 => el r i
/-- q is L, place by place -/
def same : (Nat → Nat) → Nat → List Nat → Bool
  | _, _, [] => true
  | q, i, x :: r => cond (Nat.beq (q i) x) (same q (i + 1) r) false
def lk (n : Nat) (L L' : List Nat) : Bool := match nxt n (el L) with
  | none => false
  | some q => same q 0 L'
def lst (n : Nat) (L : List Nat) : Bool := match nxt n (el L) with
  | none => true
  | some _ => false
def chn (n : Nat) : List (List Nat) → Bool
  | [] => true
  | L :: r => match r with
    | [] => lst n L
    | L' :: _ => cond (lk n L L') (chn n r) false
def asc (M : Nat) : List Nat := (List.range 8).filter (fun k => M.testBit k)
def hd0 : List (List Nat) → List Nat → Bool
  | [], _ => false
  | L :: _, A => same (el L) 0 A
def chk (M : Nat) : Bool := cond (Nat.ble 7 (sz M)) true (cond (chn (sz M) (lvs 8 (sz M) M)) (cond (hd0 (lvs 8 (sz M) M) (asc M)) (Nat.ble (lvs 8 (sz M) M).length 720) false) false)
def chks : Nat → Bool
  | 0 => true
  | M + 1 => cond (chk M) (chks M) false
