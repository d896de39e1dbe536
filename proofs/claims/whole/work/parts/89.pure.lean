theorem main_pure (L : Nat) (xs : Nat → Int32) (hL : L ≤ 3072) : wp_L_law L xs ([], fun _ => .inr (0, [])) := sorry
