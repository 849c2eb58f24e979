/-- WHAT IS LEFT: on every script of at most 2048 ints the law's pure picture answers 1 -/
theorem pure_law (B0 L : Nat) (xs : Nat → Int32) (hL : L ≤ 2048) : F_L_law L xs (fun _ => none, B0) (fun v _ => v = 1) := by
  sorry
