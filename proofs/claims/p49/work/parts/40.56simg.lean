/-! bestStart *** by hand -/
theorem ne10 : ¬ (1 : Int32) = 0 := by decide
