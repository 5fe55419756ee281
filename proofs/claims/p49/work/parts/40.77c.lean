/-! THE PLANNER: extraPlaced *** by hand -/
theorem rF.q {d e e' : sk_D} (hF : rF d e) (h : FQ e e') : rF d e' := fun f hf => by
  obtain ⟨h1, h2⟩ := hF f hf
  exact ⟨h1, (h 52 0 f (by omega) (by omega)).trans h2⟩
theorem og8_G {d : sk_D} {g : Nat} {a b c : Int32} (g' f : Nat) (h : g' ≠ g) : (og8 d g a b c).1 39 g' f = d.1 39 g' f := by
  unfold og8
  rw [wi_o (by omega), wi_o (by omega), wi_o (by omega), wi_o (by omega), wi_o (by omega), wi_o (by omega), wi_o (by omega)]
theorem og8_o {d : sk_D} {g : Nat} {a b c : Int32} (s k f : Nat) (h : s ≠ 39) : (og8 d g a b c).1 s k f = d.1 s k f := by
  unfold og8
  rw [wi_o (by omega), wi_o (by omega), wi_o (by omega), wi_o (by omega), wi_o (by omega), wi_o (by omega), wi_o (by omega)]
theorem og8_g {d : sk_D} {g : Nat} {a b c : Int32} : (og8 d g a b c).1 39 g 0 = 1 ∧ (og8 d g a b c).1 39 g 1 = a ∧ (og8 d g a b c).1 39 g 2 = b ∧ (og8 d g a b c).1 39 g 3 = c := by
  refine ⟨by simp [og8, sk_wi, sk_up], by simp [og8, sk_wi, sk_up], by simp [og8, sk_wi, sk_up], by simp [og8, sk_wi, sk_up]⟩
def cl8 (d : sk_D) (g : Nat) : sk_D := sk_wi (sk_wi (sk_wi (sk_wi d 39 g 0 (0 : Int32)) 39 g 4 (-9 : Int32)) 39 g 9 (0 : Int32)) 39 g 10 (0 : Int32)
theorem cl8_o {d : sk_D} {g : Nat} (s k f : Nat) (h : ¬ (s = 39 ∧ k = g)) : (cl8 d g).1 s k f = d.1 s k f := by
  unfold cl8
  rw [wi_o (by omega), wi_o (by omega), wi_o (by omega), wi_o (by omega)]
theorem cl8_g {d : sk_D} {g : Nat} : (cl8 d g).1 39 g 0 = 0 ∧ (cl8 d g).1 39 g 4 = -9 ∧ (cl8 d g).1 39 g 9 = 0 ∧ (cl8 d g).1 39 g 10 = 0 := by
  refine ⟨by simp [cl8, sk_wi, sk_up], by simp [cl8, sk_wi, sk_up], by simp [cl8, sk_wi, sk_up], by simp [cl8, sk_wi, sk_up]⟩
/-- a group that was not open, begun and ended again -/
theorem R2_cl {d e d' : sk_D} (hR : sk_R2 d e) {g : Nat} (hg : g < 4) (h0 : d.1 39 g 0 = 0) (hd : ∀ s k f, ¬ (6 ≤ s ∧ s ≤ 18) → ¬ (s = 39 ∧ k = g) → d'.1 s k f = d.1 s k f) : sk_R2 (cl8 d' g) e := by
  have hc : ∀ s k f, ¬ (6 ≤ s ∧ s ≤ 18) → ¬ (s = 39 ∧ k = g) → (cl8 d' g).1 s k f = d.1 s k f := fun s k f h1 h2 => (cl8_o s k f h2).trans (hd s k f h1 h2)
  have hs : sd8 d (sk_wf (cl8 d' g) 39 g (d.1 39 g)) := ⟨fun s hs => by
    funext k f
    by_cases q : s = 39 ∧ k = g
    · obtain ⟨rfl, rfl⟩ := q
      exact wf_e
    · rw [wf_o q]
      exact hc s k f (by omega) q, by
    rw [wf_o (by omega)]
    exact hc 35 0 1 (by omega) (by omega)⟩
  have hR1 := R2_d hR hs
  obtain ⟨c0, c4, c9, c10⟩ := cl8_g (d := d') (g := g)
  obtain ⟨r1, r2, r3, r4, _⟩ := hR.2.2.1.1 g hg
  obtain ⟨v9, v10⟩ := (hR.2.2.1.2.1 g hg).1 h0
  have n01 : ¬ (0 : Int32) = 1 := by decide
  refine R2_gr hR1 g (fun s k f _ n => (wf_o (by omega)).symm) (fun _ _ _ _ _ => rfl) (fun _ => ⟨.inl c0, ?_, ?_, ?_, fun h => ?_⟩) (fun _ => ⟨fun _ => ⟨c9, c10⟩, fun h => ?_⟩) (.inl c4) (fun k hk hp h4 => ?_)
  · rw [c0, r2, h0]
  · rw [c9, r3, v9]
  · rw [c10, r4, v10]
  · rw [c0] at h
    exact absurd h n01
  · rw [c0] at h
    exact absurd h n01
  · exfalso
    have a37 : ∀ f, (sk_wf (cl8 d' g) 39 g (d.1 39 g)).1 37 k f = d.1 37 k f := fun f => (wf_o (by omega)).trans (hc 37 k f (by omega) (by omega))
    rw [a37] at hp h4
    rcases (hR.1.2 k hk hp).2.2.2.1 with h9 | ⟨g', hg', e1, e2⟩
    · rw [h4] at h9
      exact nI_n9 (by omega) h9
    · rw [h4] at e1
      have : g = g' := (nI_eq (by omega) (by omega)).mp e1
      subst this
      rw [h0] at e2
      exact n01 e2
