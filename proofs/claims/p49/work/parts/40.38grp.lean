/-! GROUPS, STOPS, LIFTS, TEXT *** by hand -/
def og8 (d : sk_D) (g : Nat) (v1 v2 v3 : Int32) : sk_D := sk_wi (sk_wi (sk_wi (sk_wi (sk_wi (sk_wi (sk_wi d 39 g 0 (1 : Int32)) 39 g 1 v1) 39 g 2 v2) 39 g 3 v3) 39 g 4 (-9 : Int32)) 39 g 5 (0 : Int32)) 39 g 6 (0 : Int32)
def og9 (e : sk_D) (g : Nat) (v1 v2 v3 : Int32) : sk_D := sk_wi (sk_wi (sk_wi (sk_wi (sk_wi (sk_wi (sk_wi e 53 0 g (1 : Int32)) 54 0 g v1) 55 0 g v2) 56 0 g v3) 57 0 g (-9 : Int32)) 58 0 g (0 : Int32)) 59 0 g (0 : Int32)
theorem og_R {d e : sk_D} (hR : sk_R2 d e) {g l k p : Nat} (hg : g < 4) (hl : l < 8) (hk : k < 6) (hp1 : 1 ≤ p) (hp : p ≤ 6) : sk_R2 (og8 d g (nI l) (nI k) (nI p)) (og9 e g (nI l) (nI k) (nI p)) := by
  refine R2_gr hR g (fun s k' f hs n => ?_) (fun s f hs n1 n2 => ?_) (fun _ => ?_) (fun _ => ?_) (.inl ?_) (fun _ _ _ _ => ?_)
  · unfold og8
    rw [wi_o (by omega), wi_o (by omega), wi_o (by omega), wi_o (by omega), wi_o (by omega), wi_o (by omega), wi_o (by omega)]
  · unfold og9
    rw [wi_o (by omega), wi_o (by omega), wi_o (by omega), wi_o (by omega), wi_o (by omega), wi_o (by omega), wi_o (by omega)]
  · obtain ⟨_, _, r3, r4, _⟩ := hR.2.2.1.1 g hg
    refine ⟨.inr (by simp [og8, sk_wi, sk_up]), by simp [og8, og9, sk_wi, sk_up], ?_, ?_, fun _ => ⟨by simp [og8, og9, sk_wi, sk_up], by simp [og8, og9, sk_wi, sk_up], by simp [og8, og9, sk_wi, sk_up], by simp [og8, og9, sk_wi, sk_up], by simp [og8, og9, sk_wi, sk_up], by simp [og8, og9, sk_wi, sk_up], fun j _ hj => ?_⟩⟩
    · simp [og8, og9, sk_wi, sk_up, r3]
    · simp [og8, og9, sk_wi, sk_up, r4]
    · have : (og8 d g (nI l) (nI k) (nI p)).1 39 g 6 = 0 := by simp [og8, sk_wi, sk_up]
      rw [this] at hj
      exact absurd hj (nI_pos (by omega))
  · have q0 : (og8 d g (nI l) (nI k) (nI p)).1 39 g 0 = 1 := by simp [og8, sk_wi, sk_up]
    have q1 : (og8 d g (nI l) (nI k) (nI p)).1 39 g 1 = nI l := by simp [og8, sk_wi, sk_up]
    have q2 : (og8 d g (nI l) (nI k) (nI p)).1 39 g 2 = nI k := by simp [og8, sk_wi, sk_up]
    have q3 : (og8 d g (nI l) (nI k) (nI p)).1 39 g 3 = nI p := by simp [og8, sk_wi, sk_up]
    have q4 : (og8 d g (nI l) (nI k) (nI p)).1 39 g 4 = -9 := by simp [og8, sk_wi, sk_up]
    have q5 : (og8 d g (nI l) (nI k) (nI p)).1 39 g 5 = 0 := by simp [og8, sk_wi, sk_up]
    have q6 : (og8 d g (nI l) (nI k) (nI p)).1 39 g 6 = 0 := by simp [og8, sk_wi, sk_up]
    refine ⟨fun h => absurd (q0.symm.trans h) (by decide), fun _ => ?_⟩
    rw [q1, q2, q3, q4, q5, q6]
    exact ⟨⟨l, hl, rfl⟩, ⟨k, hk, rfl⟩, ⟨p, hp1, hp, rfl⟩, .inl rfl, ⟨0, by omega, rfl⟩, 0, by omega, rfl, fun j hj => absurd hj (Nat.not_lt_zero _)⟩
  · simp [og8, sk_wi, sk_up]
  · simp [og8, sk_wi, sk_up]
