theorem am_law {L : Nat} {xs : Nat → Int32} (hL : L ≤ 2560) : WP mL_law 0 (am_ent 7 [.ref 1000000]) [] (am_h0 L xs) 0 0 am_Q1 := sorry
