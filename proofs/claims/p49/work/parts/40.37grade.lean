/-! grade *** by hand -/
def ftb (lp la lg ll : Int32) : Bool := !decide ((1 : Int32) < (if 0 ≤ lg - lp then lg - lp else 0 - (lg - lp))) && decide ((la >>> (ll &&& 31)) &&& (1 : Int32) = 1)
theorem suits8 (d : sk_D) (g k : Nat) : q_X0_suits d g k = some (bI (ftb (d.1 37 k 1) (d.1 37 k 2) (d.1 39 g 1) (d.1 39 g 2))) := by
  unfold ftb
  simp only [q_X0_suits, q_X0_suits_0]
  by_cases h1 : (1 : Int32) < (if 0 ≤ ((d.1 39 g 1) - (d.1 37 k 1)) then ((d.1 39 g 1) - (d.1 37 k 1)) else 0 - ((d.1 39 g 1) - (d.1 37 k 1)))
  · rw [if_pos h1, decide_eq_true h1]
    rfl
  · rw [if_neg h1, decide_eq_false h1]
    by_cases h2 : (((d.1 37 k 2) >>> ((d.1 39 g 2) &&& 31)) &&& (1 : Int32)) = (1 : Int32)
    · rw [if_pos h2, decide_eq_true h2]
      rfl
    · rw [if_neg h2, decide_eq_false h2]
      rfl
theorem fit_dec : ∀ a, a < 8 → ∀ b, b < 8 → ((nI a - nI b : Int32) < -1 ∨ (1 : Int32) < nI a - nI b ↔ (1 : Int32) < (if 0 ≤ nI b - nI a then nI b - nI a else 0 - (nI b - nI a))) := by decide +kernel
/-- sum, lowest, all good: of the first n scores -/
def ssm (d : sk_D) (k : Nat) : Nat → Int32
  | 0 => 0
  | n + 1 => ssm d k n + d.1 38 k n
def slw (d : sk_D) (k : Nat) : Nat → Int32
  | 0 => 10
  | n + 1 => if d.1 38 k n < slw d k n then d.1 38 k n else slw d k n
def sgd (d : sk_D) (m : Int32) (k : Nat) : Nat → Bool
  | 0 => true
  | n + 1 => sgd d m k n && !decide (d.1 38 k n < m)
theorem slw_gd (d : sk_D) (m : Int32) (k : Nat) (hm : ¬ (10 : Int32) < m) : ∀ n, slw d k n < m ↔ sgd d m k n = false
  | 0 => ⟨fun h => absurd h hm, fun h => by cases h⟩
  | n + 1 => by
    have ih := slw_gd d m k hm n
    show (if d.1 38 k n < slw d k n then d.1 38 k n else slw d k n) < m ↔ (sgd d m k n && !decide (d.1 38 k n < m)) = false
    by_cases h1 : d.1 38 k n < m
    · rw [decide_eq_true h1]
      refine ⟨fun _ => Bool.and_false _, fun _ => ?_⟩
      split
      · exact h1
      · rename_i c
        rw [Int32.lt_iff_toInt_lt] at *
        omega
    · rw [decide_eq_false h1, Bool.not_false, Bool.and_true, ← ih]
      split
      · rename_i c
        rw [Int32.lt_iff_toInt_lt] at *
        rw [Int32.lt_iff_toInt_lt]
        omega
      · exact Iff.rfl
/-- the level after the test -/
def nlv (S pass drop : Int32) (good : Bool) (lv : Int32) : Int32 := if good = true ∧ ¬ S < pass then (if (7 : Int32) ≤ lv then 7 else lv + 1) else if drop ≤ S then lv else if lv ≤ 0 then 0 else lv - 1
theorem up_dec : ∀ a, a < 8 → (if (7 : Int32) < nI a + 1 then (7 : Int32) else nI a + 1) = (if (7 : Int32) ≤ nI a then 7 else nI a + 1) := by decide +kernel
theorem dn_dec : ∀ a, a < 8 → (if nI a - (1 : Int32) < 0 then (0 : Int32) else nI a - 1) = (if nI a ≤ 0 then 0 else nI a - 1) := by decide +kernel
theorem nlv_ok (S pass drop : Int32) (good : Bool) : ∀ a, a < 8 → ∃ b, b < 8 ∧ nlv S pass drop good (nI a) = nI b := by
  intro a ha
  have h1 : ∀ a, a < 8 → ∃ b, b < 8 ∧ (if (7 : Int32) ≤ nI a then (7 : Int32) else nI a + 1) = nI b := by decide +kernel
  have h2 : ∀ a, a < 8 → ∃ b, b < 8 ∧ (if nI a ≤ (0 : Int32) then (0 : Int32) else nI a - 1) = nI b := by decide +kernel
  unfold nlv
  split
  · exact h1 a ha
  · split
    · exact ⟨a, ha, rfl⟩
    · exact h2 a ha
theorem sgd_t {d : sk_D} {m : Int32} {k n : Nat} : sgd d m k (n + 1) = true ↔ sgd d m k n = true ∧ ¬ d.1 38 k n < m := by
  show (sgd d m k n && !decide (d.1 38 k n < m)) = true ↔ _
  rw [Bool.and_eq_true, Bool.not_eq_true', decide_eq_false_iff_not]
