theorem pure_law (L : Nat) (xs : Nat → Int32) : Law L xs M0 := sorry
