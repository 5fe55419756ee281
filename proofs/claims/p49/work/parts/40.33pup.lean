/-! PUPILS: counts, members, families kept together, tests *** by hand -/
def bI (b : Bool) : Int32 := if b then 1 else 0
theorem bI_t : bI true = 1 := rfl
theorem bI_f : bI false = 0 := rfl
theorem iff_w {α : Type} (b : Bool) (x y : α) : (if bI b = 0 then x else y) = if b = true then y else x := by cases b <;> rfl
def pb (d : sk_D) (k : Nat) : Bool := decide (d.1 37 k 0 = 1)
def mb (d : sk_D) (f : Int32) (k : Nat) : Bool := pb d k && decide (d.1 37 k 3 = f)
def gb (d : sk_D) (g : Int32) (k : Nat) : Bool := pb d k && decide (d.1 37 k 4 = g)
theorem rP.p0 {d e : sk_D} (h : rP d e) {k : Nat} (hk : k < 20) (hp : pb d k = false) : d.1 37 k 0 = 0 ∧ e.1 45 0 k = 0 := by
  obtain ⟨h1, h2, _⟩ := h k hk
  rcases h1 with h1 | h1
  · exact ⟨h1, h2.trans h1⟩
  · unfold pb at hp
    rw [h1] at hp
    cases hp
theorem rP.p1 {d e : sk_D} (h : rP d e) {k : Nat} (hk : k < 20) (hp : pb d k = true) : d.1 37 k 0 = 1 ∧ e.1 45 0 k = 1 := by
  have h1 : d.1 37 k 0 = 1 := of_decide_eq_true hp
  exact ⟨h1, (h k hk).2.1.trans h1⟩
/-! families -/
theorem m8 {d e : sk_D} (h : rP d e) (f : Int32) {k : Nat} (hk : k < 20) : q_X4_isMember d k f = some (bI (mb d f k)) := by
  unfold mb
  cases hp : pb d k with
  | false => simp only [q_X4_isMember, q_X4_isMember_0, (h.p0 hk hp).1, ↓reduceIte, Bool.false_and, bI_f]
  | true =>
    by_cases hf : d.1 37 k 3 = f
    · simp only [q_X4_isMember, q_X4_isMember_0, (h.p1 hk hp).1, i10, hf, ↓reduceIte, Bool.true_and, decide_true, bI_t]
    · simp only [q_X4_isMember, q_X4_isMember_0, (h.p1 hk hp).1, i10, hf, ↓reduceIte, Bool.true_and, decide_false, bI_f]
theorem i8 {d e : sk_D} (h : rP d e) (g : Int32) {k : Nat} (hk : k < 20) : q_X4_isIn d k g = some (bI (gb d g k)) := by
  unfold gb
  cases hp : pb d k with
  | false => simp only [q_X4_isIn, q_X4_isIn_0, (h.p0 hk hp).1, ↓reduceIte, Bool.false_and, bI_f]
  | true =>
    by_cases hf : d.1 37 k 4 = g
    · simp only [q_X4_isIn, q_X4_isIn_0, (h.p1 hk hp).1, i10, hf, ↓reduceIte, Bool.true_and, decide_true, bI_t]
    · simp only [q_X4_isIn, q_X4_isIn_0, (h.p1 hk hp).1, i10, hf, ↓reduceIte, Bool.true_and, decide_false, bI_f]
