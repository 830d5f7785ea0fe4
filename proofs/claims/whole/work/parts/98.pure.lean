theorem lw_pure (xs : Nat → Int32) (L : Nat) (hL : L ≤ 2560) : ∃ n : Nat, n ≤ 600000 ∧ L_La_law_28 rs_SF.2.2 xs L n 1 281 320 321 0 rs_MF := by
  sorry
