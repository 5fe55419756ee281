/-! THE PLANNER: the reference's units, inner loops *** by hand -/
def FR (e e' : sk_D) (u : Nat) : Prop := ∀ s k f, ¬ (s = 78 ∧ k = 0 ∧ 4 * u ≤ f ∧ f < 4 * u + 4) → e'.1 s k f = e.1 s k f
/-- the members of a family before are of one unit -/
theorem uo_eq {P : Nat → Nat → Int32} {T : Nat → Int32} {n j : Nat} (ht : tk P T n = true) (hj : j < n) (hs : sf P n j = true) : uo P T j = uo P T n ∧ ix (sf P n) n ≤ j := by
  have hd : ldr P T n = ix (sf P n) n := if_pos ht
  have h3 : P j 3 = P n 3 := by
    unfold sf at hs
    rw [Bool.and_eq_true, decide_eq_true_eq] at hs
    exact hs.2
  have htj : tk P T j = true := by
    have : tk P T j = tk P T n := by
      unfold tk
      rw [h3]
    rw [this]
    exact ht
  have hsf : sf P j = sf P n := by
    funext i
    unfold sf
    rw [h3]
  have hdj : ldr P T j = ix (sf P n) j := by
    rw [← hsf]
    exact if_pos htj
  rcases ix_or (sf P n) n with ⟨h1, h2, h4⟩ | ⟨_, h4⟩
  · have hle : ix (sf P n) n ≤ j := by
      rcases Nat.lt_or_ge j (ix (sf P n) n) with q | q
      · have := h4 j q
        rw [hs] at this
        cases this
      · exact q
    refine ⟨?_, hle⟩
    unfold uo
    rw [hd, hdj]
    rcases Nat.lt_or_eq_of_le hle with q | q
    · rw [ix_of q h2 h4]
    · rcases ix_or (sf P n) j with ⟨g1, g2, _⟩ | ⟨g1, _⟩
      · have := h4 _ (Nat.lt_of_lt_of_eq g1 q.symm)
        rw [g2] at this
        cases this
      · rw [g1, q]
  · have := h4 j hj
    rw [hs] at this
    cases this
