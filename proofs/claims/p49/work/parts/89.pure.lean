/-! what was owed: the law's pure function answers 1 *** by hand -/
theorem zz_0 (Pf Gf : Nat → Int32) : ZZ sc_d0 0 0 0 Pf Gf := by
  have h37 : ∀ k, k < 20 → sc_d0.1 37 k 0 = b01 (decide (k < 0)) := by decide +kernel
  have h39 : ∀ g, g < 4 → sc_d0.1 39 g 0 = b01 (decide (g < 0)) := by decide +kernel
  have h5 : ∀ f, f < 8 → sc_d0.1 5 0 f = b01 (decide (f < 2) && tbit 0 f) := by decide +kernel
  have h39b : ∀ g, g < 4 → sc_d0.1 39 g 9 = 0 ∧ sc_d0.1 39 g 10 = 0 := by decide +kernel
  have h42 : ∀ i, i < 8 → sc_d0.1 42 i 0 = 0 := by decide +kernel
  have h0 : sc_d0.1 0 0 9 = 0 := by decide +kernel
  have h43 : ∀ l, l < 3 → sc_d0.1 43 l 3 = 0 ∧ sc_d0.1 43 l 4 = 0 := by decide +kernel
  exact ⟨⟨by omega, by omega, h37, fun k hk => absurd hk (Nat.not_lt_zero _), h39, fun k hk => absurd hk (Nat.not_lt_zero _), h5⟩, fun k hk => absurd hk (Nat.not_lt_zero _), fun k hk => absurd hk (Nat.not_lt_zero _), h39b, h42, h0, h43⟩
theorem pure_law {L : Nat} {xs : Nat → Int32} (hL : L ≤ 260) : q_L_law_8 L xs 0 sc_d0 sx_0 = some 1 := by
  have l1 := lw_lt (cv L xs 0) (n := 6) (by omega)
  have l2 := lw_lt (cv L xs 1) (n := 3) (by omega)
  have l3 := lw_lt (cv L xs 2) (n := 4) (by omega)
  have c0 : q_L_cell L xs 0 = some (cv L xs 0) := cell_q hL xs (k := 0) (by omega)
  have c1 : q_L_cell L xs 1 = some (cv L xs 1) := cell_q hL xs (k := 1) (by omega)
  have c2 : q_L_cell L xs 2 = some (cv L xs 2) := cell_q hL xs (k := 2) (by omega)
  have n0 : q_L_low (cv L xs 0) 6 = some (nI (lw (cv L xs 0) 6)) := low_q _ (n := 6) (by omega) (by omega)
  have n1 : q_L_low (cv L xs 1) 3 = some (nI (lw (cv L xs 1) 3)) := low_q _ (n := 3) (by omega) (by omega)
  have n2 : q_L_low (cv L xs 2) 4 = some (nI (lw (cv L xs 2) 4)) := low_q _ (n := 4) (by omega) (by omega)
  have a1 : (1 : Int32) + nI (lw (cv L xs 0) 6) = nI (1 + lw (cv L xs 0) 6) := nI_add 1 _
  have a2 : (1 : Int32) + nI (lw (cv L xs 1) 3) = nI (1 + lw (cv L xs 1) 3) := nI_add 1 _
  unfold q_L_law_8
  rw [c0, Option.bind_some, n0, Option.bind_some, c1, Option.bind_some, n1, Option.bind_some, c2, Option.bind_some, n2, Option.bind_some, a1, a2]
  rw [if_pos (by decide), if_pos (by decide), if_pos (by decide), if_pos (by decide), if_pos (by decide)]
  have X1 : AX (xn (xn (xn (xn (xn sx_0 24) 16) 8) 8) 8) 0 24 (fun _ => 0) := ⟨by decide, rfl, fun _ _ => rfl⟩
  have X2 : AX (xn (xn (xn (xn (xn sx_0 24) 16) 8) 8) 8) 1 16 (fun _ => 0) := ⟨by decide, rfl, fun _ _ => rfl⟩
  have X3 : AX (xn (xn (xn (xn (xn sx_0 24) 16) 8) 8) 8) 3 8 (fun _ => 0) := ⟨by decide, rfl, fun _ _ => rfl⟩
  exact lb77 (X := xn (xn (xn (xn (xn sx_0 24) 16) 8) 8) 8) (pu := 0) (gr := 1) (b := 2) (sz := 3) (pe := 4) (zz_0 _ _) (by omega) (by omega) (by omega) l3 X1 X2 (by decide) rfl X3 (by decide) rfl (by decide) (by decide) (by decide) (by decide) (by decide) (by decide) (by decide) hL (x0 := 0) (by decide)
