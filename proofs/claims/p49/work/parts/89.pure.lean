/-! what is owed: the law's pure function answers 1 -/
theorem pure_law {L : Nat} {xs : Nat → Int32} (hL : L ≤ 260) : q_L_law_8 L xs 0 sc_d0 sx_0 = some 1 := by
  sorry
