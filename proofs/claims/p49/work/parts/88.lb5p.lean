/-! THE LAW's body: the pupils *** by hand -/
def fmy0 (L : Nat) (xs : Nat → Int32) (p : Nat) : Int32 := if 2 ≤ lw (cv L xs (3 + p) >>> ((5 : Int32) &&& 31)) 4 then 8 else nI (lw (cv L xs (3 + p) >>> ((5 : Int32) &&& 31)) 4)
def Pf0 (L : Nat) (xs : Nat → Int32) (n j : Nat) : Int32 := if j < 3 * n then (if j % 3 = 0 then nI (lw (cv L xs (3 + j / 3)) 4) else if j % 3 = 1 then nI (1 + lw (cv L xs (3 + j / 3) >>> ((2 : Int32) &&& 31)) 7) else fmy0 L xs (j / 3)) else 0
theorem pf_e (L : Nat) (xs : Nat → Int32) {n p : Nat} (hp : p < n) : Pf0 L xs n (3 * p) = nI (lw (cv L xs (3 + p)) 4) ∧ Pf0 L xs n (3 * p + 1) = nI (1 + lw (cv L xs (3 + p) >>> ((2 : Int32) &&& 31)) 7) ∧ Pf0 L xs n (3 * p + 2) = fmy0 L xs p := by
  unfold Pf0
  refine ⟨?_, ?_, ?_⟩
  · rw [if_pos (by omega), if_pos (by omega), show 3 * p / 3 = p by omega]
  · rw [if_pos (by omega), if_neg (by omega), if_pos (by omega), show (3 * p + 1) / 3 = p by omega]
  · rw [if_pos (by omega), if_neg (by omega), if_neg (by omega), show (3 * p + 2) / 3 = p by omega]
theorem fm_8 (L : Nat) (xs : Nat → Int32) (p : Nat) : fmy0 L xs p = nI 8 ∨ ∃ f, f < 2 ∧ fmy0 L xs p = nI f := by
  unfold fmy0
  by_cases q : 2 ≤ lw (cv L xs (3 + p) >>> ((5 : Int32) &&& 31)) 4
  · rw [if_pos q]
    exact .inl rfl
  · rw [if_neg q]
    exact .inr ⟨_, by omega, rfl⟩
theorem pf_DP (L : Nat) (xs : Nat → Int32) (n : Nat) : DP n (Pf0 L xs n) := fun p hp => by
  obtain ⟨e1, e2, _⟩ := pf_e L xs hp
  have h1 := lw_lt (cv L xs (3 + p)) (n := 4) (by omega)
  have h2 := lw_lt (cv L xs (3 + p) >>> ((2 : Int32) &&& 31)) (n := 7) (by omega)
  exact ⟨⟨_, by omega, e1⟩, _, by omega, by omega, e2⟩
