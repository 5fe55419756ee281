/-! THE PLANNER: splitGain *** by hand -/
theorem w5_4 {d e : sk_D} {f : Nat} {v : Int32} (hP : rP d e) (hV : vP d) (hG : rG d e) (hW : vG d) : rP (sk_wi d 5 0 f v) e ∧ vP (sk_wi d 5 0 f v) ∧ rG (sk_wi d 5 0 f v) e ∧ vG (sk_wi d 5 0 f v) := by
  have a (s k' f' : Nat) (hs : s ≠ 5) : (sk_wi d 5 0 f v).1 s k' f' = d.1 s k' f' := wi_o (by omega)
  refine ⟨?_, ?_, ?_, ?_⟩
  · unfold rP at hP ⊢
    simp only [a 37 _ _ (by omega), a 38 _ _ (by omega)]
    exact hP
  · unfold vP at hV ⊢
    simp only [a 37 _ _ (by omega), a 38 _ _ (by omega), a 39 _ _ (by omega)]
    exact hV
  · unfold rG at hG ⊢
    simp only [a 39 _ _ (by omega), a 40 _ _ (by omega), a 41 _ _ (by omega)]
    exact hG
  · unfold vG at hW ⊢
    simp only [a 39 _ _ (by omega), a 40 _ _ (by omega), a 41 _ _ (by omega), a 42 _ _ (by omega), a 0 _ _ (by omega)]
    exact hW
