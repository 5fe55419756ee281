/-! THE PLANNER: the reference's plan by the class's numbers *** by hand -/
theorem cpt_z {G : Nat → Nat → Int32} {g : Nat} (h : G g 0 = 0) : cpt G g = 0 := if_pos h
theorem cpt_o {G : Nat → Nat → Int32} {g c : Nat} (h : ¬ G g 0 = 0) (h3 : G g 3 = nI c) (hc : c < 2 ^ 31) : cpt G g = c := by
  unfold cpt
  rw [if_neg h, h3, nI_clamp hc]
def GE (G : Nat → Nat → Int32) (e : sk_D) : Prop := ∀ g, g < 4 → e.1 82 0 g = nI (cpt G g) ∧ cpt G g ≤ 6 ∧ (¬ G g 0 = 0 → sp_n (G g 1) 8 ∧ e.1 80 0 g = G g 1 ∧ e.1 81 0 g = G g 2)
def FRg (e e' : sk_D) : Prop := ∀ s k f, ¬ (80 ≤ s ∧ s ≤ 82) → e'.1 s k f = e.1 s k f
/-- what a plan leaves -/
theorem FD.sd {d d' : sk_D} (h : FD d d') : sd8 d d' := ⟨fun s hs => by
  funext k f
  exact h s k f (by omega), h 35 0 1 (by omega)⟩
theorem FD.f8 {d d' : sk_D} (h : FD d d') : sk_F8 d d' := fun s hs => by
  funext k f
  exact h s k f (by omega)
def FQ (e e' : sk_D) : Prop := ∀ s k f, s < 76 → ¬ (s = 44 ∧ f = 37) → e'.1 s k f = e.1 s k f
theorem FP.q {e e' : sk_D} (h : FP e e') : FQ e e' := fun s k f h1 h2 => h s k f (by omega) (by omega) h2
theorem FRg.q {e e' : sk_D} (h : FRg e e') : FQ e e' := fun s k f h1 _ => h s k f (by omega)
theorem FQ.tr {a b c : sk_D} (h : FQ a b) (g : FQ b c) : FQ a c := fun s k f h1 h2 => (g s k f h1 h2).trans (h s k f h1 h2)
theorem FQ.se {e e' : sk_D} (h : FQ e e') : se9 e e' := ⟨fun s h1 h2 => by
  funext k f
  exact h s k f (by omega) (by omega), fun f hf => h 44 0 f (by omega) (by omega)⟩
theorem FQ.f9 {e e' : sk_D} (h : FQ e e') : sk_F9 e e' := fun s hs => by
  funext k f
  exact h s k f (by omega) (by omega)
theorem rP.q {d e e' : sk_D} (hP : rP d e) (h : FQ e e') : rP d e' := fun k hk => by
  obtain ⟨q1, q2, q3⟩ := hP k hk
  have a (s f : Nat) (hs : 45 ≤ s ∧ s < 76) : e'.1 s 0 f = e.1 s 0 f := h s 0 f (by omega) (by omega)
  refine ⟨q1, (a 45 k (by omega)).trans q2, fun hp => ?_⟩
  obtain ⟨p1, p2, p3, p4, p5, p6⟩ := q3 hp
  exact ⟨(a 46 k (by omega)).trans p1, (a 47 k (by omega)).trans p2, (a 48 k (by omega)).trans p3, (a 49 k (by omega)).trans p4, (a 51 k (by omega)).trans p5, fun j hj => (a 50 _ (by omega)).trans (p6 j hj)⟩
/-- the families that count -/
theorem hTn {d e : sk_D} (hF : rF d e) : ∀ f, f < 8 → ((e.1 52 0 f = 1 ∧ ¬ nI f = (-9 : Int32)) ↔ ¬ d.1 5 0 f = 0) := fun f hf => by
  obtain ⟨h1, h2⟩ := hF f hf
  rw [h2]
  rcases h1 with h1 | h1 <;> rw [h1]
  · exact ⟨fun z => absurd z.1 (by decide), fun z => absurd rfl z⟩
  · exact ⟨fun _ => by decide, fun _ => ⟨rfl, nI_n9 (by omega)⟩⟩
theorem hTs {d e : sk_D} (hF : rF d e) {a : Nat} (ha : a < 8) : ∀ f, f < 8 → ((e.1 52 0 f = 1 ∧ ¬ nI f = nI a) ↔ ¬ (if f = a then (0 : Int32) else d.1 5 0 f) = 0) := fun f hf => by
  obtain ⟨h1, h2⟩ := hF f hf
  rw [h2]
  by_cases e1 : f = a
  · rw [if_pos e1, e1]
    exact ⟨fun z => absurd rfl z.2, fun z => absurd rfl z⟩
  · rw [if_neg e1]
    have n1 : ¬ nI f = nI a := fun z => e1 ((nI_eq (by omega) (by omega)).mp z)
    rcases h1 with h1 | h1 <;> rw [h1]
    · exact ⟨fun z => absurd z.1 (by decide), fun z => absurd rfl z⟩
    · exact ⟨fun _ => by decide, fun _ => ⟨rfl, n1⟩⟩
