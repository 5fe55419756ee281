/-! THE PLANNER: the reference's units, all pupils *** by hand -/
def FU (e e' : sk_D) : Prop := ∀ s k f, s ≠ 76 → s ≠ 77 → s ≠ 78 → ¬ (s = 44 ∧ f = 37) → e'.1 s k f = e.1 s k f
theorem FU.tr {a b c : sk_D} (h : FU a b) (g : FU b c) : FU a c := fun s k f h1 h2 h3 h4 => (g s k f h1 h2 h3 h4).trans (h s k f h1 h2 h3 h4)
/-- n pupils seen, N units, the heads of n -/
def FI (P : Nat → Nat → Int32) (T : Nat → Int32) (su lv : Nat → Nat → Bool) (n N : Nat) (e e' : sk_D) : Prop := FU e e' ∧ e'.1 44 0 37 = nI N ∧ (∀ k, k < n → pp P k = true → e'.1 77 0 k = nI (uo P T k)) ∧ ∀ u, u < N → e'.1 76 0 u = nI (hdn P T n u) ∧ ∀ g, g < 4 → e'.1 78 0 (4 * u + g) = vl9 P T su lv n u g
theorem un_le (P : Nat → Nat → Int32) (T : Nat → Int32) (n : Nat) : un P T n ≤ n := kn_le _ n
theorem hdn_s {P : Nat → Nat → Int32} {T : Nat → Int32} {n u : Nat} (hi : inu P T u n = true) : hdn P T (n + 1) u = hdn P T n u + 1 := by
  show kn (inu P T u) (n + 1) = _
  rw [kn_sc, if_pos hi]
  rfl
theorem hdn_o {P : Nat → Nat → Int32} {T : Nat → Int32} {n u : Nat} (hi : inu P T u n = false) : hdn P T (n + 1) u = hdn P T n u := by
  show kn (inu P T u) (n + 1) = _
  rw [kn_sc, hi, if_neg (by decide)]
  rfl
theorem hdn_n {P : Nat → Nat → Int32} {T : Nat → Int32} {n u : Nat} (hu : un P T n ≤ u) : hdn P T n u = 0 := kn_none (inu_new hu)
