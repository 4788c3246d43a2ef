/-! a name of the rest of the library: so that every round is read over the whole of it -/
theorem wd_one : True := (fun _ => trivial) (@arrayOver_alikeB)
