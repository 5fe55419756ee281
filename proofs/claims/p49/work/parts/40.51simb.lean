/-! THE SIMULATION: a departure *** by hand -/
def shq8 (d : sk_D) (l : Nat) : Nat → sk_D
  | 0 => d
  | n + 1 => sk_wi (shq8 d l n) 33 l n (d.1 33 l (n + 1))
def shq9 (e : sk_D) (l : Nat) : Nat → sk_D
  | 0 => e
  | n + 1 => sk_wi (shq9 e l n) 88 0 (4 * l + n) (e.1 88 0 (4 * l + n + 1))
theorem shq8_o (d : sk_D) (l : Nat) : ∀ (n s k f : Nat), ¬ (s = 33 ∧ k = l ∧ f < n) → (shq8 d l n).1 s k f = d.1 s k f
  | 0, _, _, _, _ => rfl
  | n + 1, s, k, f, h => by
    show (sk_wi (shq8 d l n) 33 l n _).1 s k f = _
    rw [wi_o (by omega), shq8_o d l n s k f (by omega)]
theorem shq8_g (d : sk_D) (l : Nat) : ∀ (n k : Nat), k < n → (shq8 d l n).1 33 l k = d.1 33 l (k + 1)
  | 0, k, h => absurd h (Nat.not_lt_zero _)
  | n + 1, k, h => by
    show (sk_wi (shq8 d l n) 33 l n (d.1 33 l (n + 1))).1 33 l k = _
    by_cases e : k = n
    · subst e
      exact wi_e
    · rw [wi_o (by omega), shq8_g d l n k (by omega)]
theorem shq9_o (e : sk_D) (l : Nat) : ∀ (n s k f : Nat), ¬ (s = 88 ∧ 4 * l ≤ f ∧ f < 4 * l + n) → (shq9 e l n).1 s k f = e.1 s k f
  | 0, _, _, _, _ => rfl
  | n + 1, s, k, f, h => by
    show (sk_wi (shq9 e l n) 88 0 (4 * l + n) _).1 s k f = _
    rw [wi_o (by omega), shq9_o e l n s k f (by omega)]
theorem shq9_g (e : sk_D) (l : Nat) : ∀ (n k : Nat), k < n → (shq9 e l n).1 88 0 (4 * l + k) = e.1 88 0 (4 * l + k + 1)
  | 0, k, h => absurd h (Nat.not_lt_zero _)
  | n + 1, k, h => by
    show (sk_wi (shq9 e l n) 88 0 (4 * l + n) (e.1 88 0 (4 * l + n + 1))).1 88 0 (4 * l + k) = _
    by_cases e1 : k = n
    · subst e1
      exact wi_e
    · rw [wi_o (by omega), shq9_g e l n k (by omega)]
theorem leave8 {d : sk_D} {l q : Nat} (hl : l < 3) (hq1 : 1 ≤ q) (hq : q ≤ 4) (h34 : d.1 34 0 l = nI q) : q_X6_leaveQueue d (nI l) = some (sk_wi (shq8 d l (q - 1)) 34 0 l (nI (q - 1))) := by
  have el := nI_clamp (n := l) (by omega)
  have bl : sk_bi (nI l) 3 = true := bi_nI (by omega) (by omega)
  refine it_for0 (F := fun rec a => q_X6_leaveQueue_2 rec a.1 a.2.1 a.2.2) (fun i => (shq8 d l i, nI l, nI (i + 1))) (q - 1) (fun j hj rec => ?_) (fun rec => ?_) (by omega)
  · show q_X6_leaveQueue_2 rec (shq8 d l j) (nI l) (nI (j + 1)) = rec (shq8 d l (j + 1), nI l, nI (j + 1 + 1))
    have o34 : (shq8 d l j).1 34 0 l = nI q := (shq8_o d l j 34 0 l (by omega)).trans h34
    have l1 : ¬ nI q ≤ nI (j + 1) := nI_ge (by omega) (by omega)
    have l2 : ¬ (4 : Int32) ≤ nI (j + 1) := le_nI (n := 4) rfl (by omega) (by omega)
    have b1 : sk_bi (nI (j + 1)) 4 = true := bi_nI (by omega) (by omega)
    have e1 := nI_clamp (n := j + 1) (by omega)
    have b0 : sk_bi (nI j) 4 = true := bi_nI (by omega) (by omega)
    have e0 := nI_clamp (n := j) (by omega)
    have o33 : (shq8 d l j).1 33 l (j + 1) = d.1 33 l (j + 1) := shq8_o d l j 33 l (j + 1) (by omega)
    simp only [q_X6_leaveQueue_2, bl, el, o34, l1, l2, b1, e1, nI_pred, b0, e0, o33, s1_nI, shq8, ↓reduceIte]
  · show q_X6_leaveQueue_2 rec (shq8 d l (q - 1)) (nI l) (nI (q - 1 + 1)) = _
    have o34 : (shq8 d l (q - 1)).1 34 0 l = nI (q - 1 + 1) := by
      rw [shq8_o d l (q - 1) 34 0 l (by omega), h34]
      congr 1
      omega
    have l1 : nI (q - 1 + 1) ≤ nI (q - 1 + 1) := nI_le (by omega) (by omega)
    simp only [q_X6_leaveQueue_2, q_X6_leaveQueue_41, bl, el, o34, l1, nI_pred, ↓reduceIte]
theorem nI_min (a b : Nat) (ha : a < 2 ^ 31) (hb : b < 2 ^ 31) : (if nI a < nI b then nI a else nI b) = nI (min a b) ∧ (if nI b ≤ nI a then nI b else nI a) = nI (min a b) := by
  simp only [nI_ltI ha hb, nI_leI hb ha]
  constructor <;> split <;> congr 1 <;> omega
/-- what stays of the other lifts -/
def OL (l : Nat) (W L : Nat → Nat) (Q : Nat → Nat → Nat) (W' L' : Nat → Nat) (Q' : Nat → Nat → Nat) : Prop := ∀ x, x < 3 → x ≠ l → L' x = L x ∧ (∀ k, Q' x k = Q x k) ∧ ∀ k, k < L x → W' (Q x k) = W (Q x k)
theorem OL.tr {l : Nat} {W L W' L' W2 L2 : Nat → Nat} {Q Q' Q2 : Nat → Nat → Nat} (h : OL l W L Q W' L' Q') (h2 : OL l W' L' Q' W2 L2 Q2) : OL l W L Q W2 L2 Q2 := by
  intro x hx hn
  obtain ⟨a1, a2, a3⟩ := h x hx hn
  obtain ⟨b1, b2, b3⟩ := h2 x hx hn
  refine ⟨b1.trans a1, fun k => (b2 k).trans (a2 k), fun k hk => ?_⟩
  have := b3 k (by rw [a1]; exact hk)
  rw [a2 k] at this
  exact this.trans (a3 k hk)
