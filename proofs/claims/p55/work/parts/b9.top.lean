/-! the law, as a function of the script -/
def f_lawc (L : Nat) (xs : Nat → Int32) : Int32 := if L = 0 then nI 5 else xs (L - 1)
noncomputable def f_law (L : Nat) (xs : Nat → Int32) : Option Int32 :=
  bd_ (f_L_draw_0 100000 L xs (nI 4) (fun _ => nI 0)) (fun vh => bd_ (f_L_lay_0 100000 vh []) (fun z => if z.1 = 0 then some (nI 0) else f_L_law_55 100000 L xs vh 100000 (f_lawc L xs) (nI 0) z.2 none 0 (fun _ => 0) (lN 0) (lN 1)))
