/-! digest *** by hand -/
theorem isFa {j : Nat} (hj : j < 8) (d : sk_D) : q_X8_isFamily d (nI j) = some 1 := by
  have w := (wi_in j (a := nI j) (lo := 0) (hi := 7) 0 7 rfl rfl rfl (by omega) (by omega) (by omega)).1 d
  simp only [q_X8_isFamily, q_X8_isFamily_0, w, nb1, Option.bind_some, ↓reduceIte]
