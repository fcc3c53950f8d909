-- the law, all of it, on numbers
theorem law_pure (Z : Nat → ClassId) (L : Nat) (xs : Nat → Int32) (hL : L ≤ 260) : wf_L_law Z L xs (lawEnd Z) rI0 rI0 h00 :=
  law_all (by omega) (fun _ _ _ _ _ I => law_last I)
