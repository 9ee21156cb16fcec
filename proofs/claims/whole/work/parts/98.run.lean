theorem law_run (L : Nat) (xs : Nat → Int32) (hL : L ≤ 320) : Rn (P_law L xs) (fun _ _ => True) 18 [(0, .ref 4000), (1, .ref 0), (2, .ref 57), (3, .int 0)] [] SM0 := by
  sorry
