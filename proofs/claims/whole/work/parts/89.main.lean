theorem main_p (L : Nat) (xs : Nat → Int32) (hL : L ≤ 3584) : p_L_law (h_in L xs) (fun r _ => r = 1) := sorry
