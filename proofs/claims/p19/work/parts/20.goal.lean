-- what is left: the law as a predicate
def lawEnd (Z : Nat → ClassId) (x2 : Nat) (u : WX) : Prop := rc3 u.2.2 x2 ∧ w_X3_isSame Z x2 (fun _ => True) u
def h00 : PH := ([], fun _ => .inr (0, []))
