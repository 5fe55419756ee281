/-! THE PLANNER, pure: states of mixed radix *** by hand -/
def en (s c : Nat → Nat) : Nat → Nat
  | 0 => 0
  | g + 1 => en s c g + c g * stg s g
theorem en_s (s c : Nat → Nat) (g : Nat) : en s c (g + 1) = en s c g + c g * stg s g := rfl
theorem stg_s (s : Nat → Nat) (g : Nat) : stg s (g + 1) = stg s g * (s g + 1) := rfl
theorem stg_p (s : Nat → Nat) : ∀ g, 1 ≤ stg s g
  | 0 => Nat.le_refl _
  | g + 1 => by
    rw [stg_s]
    exact Nat.mul_pos (stg_p s g) (by omega)
theorem en_lt {s c : Nat → Nat} : ∀ {n : Nat}, (∀ j, j < n → c j ≤ s j) → en s c n < stg s n
  | 0, _ => Nat.lt_succ_self 0
  | n + 1, h => by
    have ih := en_lt (s := s) (c := c) (n := n) (fun j hj => h j (by omega))
    have h1 : c n * stg s n ≤ s n * stg s n := Nat.mul_le_mul_right _ (h n (by omega))
    rw [en_s, stg_s, Nat.mul_succ, Nat.mul_comm (stg s n) (s n)]
    omega
theorem en_congr {s c c' : Nat → Nat} : ∀ {n : Nat}, (∀ j, j < n → c j = c' j) → en s c n = en s c' n
  | 0, _ => rfl
  | n + 1, h => by rw [en_s, en_s, en_congr (n := n) (fun j hj => h j (by omega)), h n (by omega)]
theorem en_inj {s c c' : Nat → Nat} : ∀ {n : Nat}, (∀ j, j < n → c j ≤ s j) → (∀ j, j < n → c' j ≤ s j) → en s c n = en s c' n → ∀ j, j < n → c j = c' j
  | 0, _, _, _, j, hj => absurd hj (Nat.not_lt_zero j)
  | n + 1, h, h', he, j, hj => by
    have l1 := en_lt (s := s) (c := c) (n := n) (fun j hj => h j (by omega))
    have l2 := en_lt (s := s) (c := c') (n := n) (fun j hj => h' j (by omega))
    rw [en_s, en_s] at he
    have hp := stg_p s n
    have q : c n = c' n := by
      have e1 : (en s c n + c n * stg s n) / stg s n = c n := by
        rw [Nat.add_mul_div_right _ _ hp, Nat.div_eq_of_lt l1, Nat.zero_add]
      have e2 : (en s c' n + c' n * stg s n) / stg s n = c' n := by
        rw [Nat.add_mul_div_right _ _ hp, Nat.div_eq_of_lt l2, Nat.zero_add]
      rw [← e1, he, e2]
    by_cases e : j = n
    · rw [e]
      exact q
    · rw [q] at he
      exact en_inj (n := n) (fun j hj => h j (by omega)) (fun j hj => h' j (by omega)) (Nat.add_right_cancel he) j (by omega)
theorem en_rd {s c : Nat → Nat} {g v : Nat} (hv : v ≤ c g) : ∀ {n : Nat}, g < n → en s (rd c g v) n + v * stg s g = en s c n
  | 0, hg => absurd hg (Nat.not_lt_zero g)
  | n + 1, hg => by
    rw [en_s, en_s]
    by_cases e : g = n
    · subst e
      have e1 : rd c g v g = c g - v := if_pos rfl
      have e2 : en s (rd c g v) g = en s c g := en_congr (fun j hj => if_neg (by omega))
      have e3 : (c g - v) * stg s g + v * stg s g = c g * stg s g := by
        rw [← Nat.add_mul, Nat.sub_add_cancel hv]
      rw [e1, e2]
      omega
    · have ih := en_rd (s := s) hv (n := n) (by omega)
      have e1 : rd c g v n = c n := if_neg (by omega)
      rw [e1]
      omega
theorem en_full (s : Nat → Nat) : ∀ n, en s s n + 1 = stg s n
  | 0 => rfl
  | n + 1 => by
    have ih := en_full s n
    rw [en_s, stg_s, Nat.mul_succ, Nat.mul_comm (stg s n) (s n)]
    omega
/-- a state less one: below i all was used up -/
def cdn (s c : Nat → Nat) (i : Nat) : Nat → Nat := fun j => if j < i then s j else if j = i then c j - 1 else c j
theorem en_zero {s c : Nat → Nat} : ∀ {n : Nat}, (∀ j, j < n → c j = 0) → en s c n = 0
  | 0, _ => rfl
  | n + 1, h => by rw [en_s, en_zero (n := n) (fun j hj => h j (by omega)), h n (by omega), Nat.zero_mul]
theorem en_cdn {s c : Nat → Nat} {i : Nat} (h0 : ∀ j, j < i → c j = 0) (hi : 1 ≤ c i) : ∀ {n : Nat}, i < n → en s (cdn s c i) n + 1 = en s c n
  | 0, hn => absurd hn (Nat.not_lt_zero i)
  | n + 1, hn => by
    rw [en_s, en_s]
    by_cases e : i = n
    · subst e
      have e1 : cdn s c i i = c i - 1 := by
        unfold cdn
        rw [if_neg (Nat.lt_irrefl i), if_pos rfl]
      have e2 : en s (cdn s c i) i = en s s i := en_congr (fun j hj => if_pos hj)
      have e3 := en_full s i
      have e4 : en s c i = 0 := en_zero h0
      have e5 : (c i - 1) * stg s i + 1 * stg s i = c i * stg s i := by
        rw [← Nat.add_mul, Nat.sub_add_cancel hi]
      rw [e1, e2, e4]
      omega
    · have ih := en_cdn (s := s) h0 hi (n := n) (by omega)
      have e1 : cdn s c i n = c n := by
        unfold cdn
        rw [if_neg (by omega), if_neg (by omega)]
      rw [e1]
      omega
