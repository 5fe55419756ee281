/-! staff, the call *** by hand -/
def sw8 (d : sk_D) : Nat → sk_D
  | 0 => d
  | n + 1 => sk_wi (sw8 d n) 20 0 n (bI (acb d n))
theorem sw8_o (d : sk_D) : ∀ (n s k f : Nat), ¬ (s = 20 ∧ f < n) → (sw8 d n).1 s k f = d.1 s k f
  | 0, _, _, _, _ => rfl
  | n + 1, s, k, f, h => by
    show (sk_wi (sw8 d n) 20 0 n _).1 s k f = _
    rw [wi_o (by omega), sw8_o d n s k f (by omega)]
theorem sw8_g (d : sk_D) : ∀ (n k : Nat), k < n → (sw8 d n).1 20 0 k = bI (acb d k)
  | 0, k, h => absurd h (Nat.not_lt_zero _)
  | n + 1, k, h => by
    show (sk_wi (sw8 d n) 20 0 n (bI (acb d n))).1 20 0 k = _
    by_cases e : k = n
    · subst e
      exact wi_e
    · rw [wi_o (by omega), sw8_g d n k (by omega)]
theorem sw8_F (d : sk_D) : ∀ n, sk_F8 d (sw8 d n)
  | 0 => sk_F8.rf d
  | n + 1 => (sw8_F d n).wi _ _ _ _ (by omega)
theorem sd8.ne {d d' : sk_D} (h : ∀ s k f, (s = 0 ∨ s = 5 ∨ 35 ≤ s ∧ s ≤ 43) → d'.1 s k f = d.1 s k f) : sd8 d d' := ⟨fun s hs => by
    funext k f
    exact h s k f (by omega), h 35 0 1 (by omega)⟩
theorem nar_b (b : Bool) : vp_nar .boolean (bI b) = bI b := by cases b <;> decide
