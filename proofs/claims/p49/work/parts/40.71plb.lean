/-! THE PLANNER: the reference's table, one unit in one state *** by hand -/
def dgs (s : Nat) : Nat → Nat := fun g => s / 7 ^ g % 7
theorem dgs_rd {s n g : Nat} (hs : s < 2401) (hg : g < 4) (hn : n ≤ dgs s g) : ∀ j, j < 4 → dgs (s - n * 7 ^ g) j = rd (dgs s) g n j := by
  intro j hj
  unfold rd
  unfold dgs at hn ⊢
  rcases (show g = 0 ∨ g = 1 ∨ g = 2 ∨ g = 3 by omega) with rfl | rfl | rfl | rfl <;> rcases (show j = 0 ∨ j = 1 ∨ j = 2 ∨ j = 3 by omega) with rfl | rfl | rfl | rfl <;> simp only [Nat.reducePow, Nat.reduceEqDiff, ↓reduceIte] at hn ⊢ <;> omega
theorem dgs_le {s n g : Nat} (hg : g < 4) (hn : n ≤ dgs s g) : n * 7 ^ g ≤ s := by
  unfold dgs at hn
  rcases (show g = 0 ∨ g = 1 ∨ g = 2 ∨ g = 3 by omega) with rfl | rfl | rfl | rfl <;> simp only [Nat.reducePow] at hn ⊢ <;> omega
theorem pw_b {g : Nat} (hg : g < 4) : 0 < 7 ^ g ∧ 7 ^ g ≤ 343 := by
  rcases (show g = 0 ∨ g = 1 ∨ g = 2 ∨ g = 3 by omega) with rfl | rfl | rfl | rfl <;> decide
def UD (e : sk_D) (U : Nat) (h : Nat → Nat) (x : Nat → Nat → Bool) (o : Nat → Nat → Nat) : Prop := U ≤ 20 ∧ e.1 44 0 37 = nI U ∧ (∀ u, u < U → e.1 76 0 u = nI (h u) ∧ 1 ≤ h u ∧ h u ≤ 20 ∧ ∀ g, g < 4 → e.1 78 0 (4 * u + g) = if x u g = true then nI (o u g) else -9) ∧ (∀ u g, o u g ≤ h u) ∧ ∀ m u, m + u = U → sh h m u ≤ 20
theorem UD.mv {e e' : sk_D} {U : Nat} {h : Nat → Nat} {x : Nat → Nat → Bool} {o : Nat → Nat → Nat} (hU : UD e U h x o) (h1 : e'.1 44 0 37 = e.1 44 0 37) (h2 : ∀ f, e'.1 76 0 f = e.1 76 0 f) (h3 : ∀ f, e'.1 78 0 f = e.1 78 0 f) : UD e' U h x o := by
  obtain ⟨q1, q2, q3, q4⟩ := hU
  refine ⟨q1, h1.trans q2, fun u hu => ?_, q4⟩
  obtain ⟨a1, a2, a3, a4⟩ := q3 u hu
  exact ⟨(h2 u).trans a1, a2, a3, fun g hg => (h3 _).trans (a4 g hg)⟩
