/-! ONE PUPIL, ONE GROUP, ALL PUPILS' GROUPS CHANGED: the relation afterwards *** by hand -/
def rP1 (d e : sk_D) (k : Nat) : Prop := (d.1 37 k 0 = 0 ∨ d.1 37 k 0 = 1) ∧ e.1 45 0 k = d.1 37 k 0 ∧ (d.1 37 k 0 = 1 → e.1 46 0 k = d.1 37 k 1 ∧ e.1 47 0 k = d.1 37 k 2 ∧ e.1 48 0 k = d.1 37 k 3 ∧ e.1 49 0 k = d.1 37 k 4 ∧ e.1 51 0 k = d.1 37 k 5 ∧ ∀ j, j < 4 → e.1 50 0 (4 * k + j) = d.1 38 k j)
def vP1 (d : sk_D) (k : Nat) : Prop := d.1 37 k 0 = 1 → sp_n (d.1 37 k 1) 8 ∧ sp_n (d.1 37 k 2) 64 ∧ (d.1 37 k 3 = -9 ∨ sp_n (d.1 37 k 3) 8) ∧ (d.1 37 k 4 = -9 ∨ ∃ g, g < 4 ∧ d.1 37 k 4 = nI g ∧ d.1 39 g 0 = 1) ∧ ∀ j, j < 4 → d.1 38 k j = -9 ∨ sp_n (d.1 38 k j) 11
theorem R2_pup {d e d' e' : sk_D} (hR : sk_R2 d e) (k : Nat) (hd : ∀ s k' f, s < 44 → ¬ (s = 37 ∧ k' = k) → ¬ (s = 38 ∧ k' = k) → d'.1 s k' f = d.1 s k' f)
    (he : ∀ s f, 44 ≤ s → ¬ (45 ≤ s ∧ s ≤ 51 ∧ s ≠ 50 ∧ f = k) → ¬ (s = 50 ∧ 4 * k ≤ f ∧ f < 4 * k + 4) → e'.1 s 0 f = e.1 s 0 f) (h1 : k < 20 → rP1 d' e' k) (h2 : k < 20 → vP1 d' k) : sk_R2 d' e' := by
  obtain ⟨⟨hP, wP⟩, hF, ⟨hG, wG, wD⟩, ⟨hI, wI⟩, hL, hM, hT⟩ := hR
  refine ⟨⟨fun j hj => ?_, fun j hj => ?_⟩, ?_, ⟨?_, ?_, ?_⟩, ⟨?_, ?_⟩, ?_, ?_, ?_⟩
  · by_cases e : j = k
    · subst e
      exact h1 hj
    · have a (f : Nat) : d'.1 37 j f = d.1 37 j f := hd 37 j f (by omega) (by omega) (by omega)
      have a2 (f : Nat) : d'.1 38 j f = d.1 38 j f := hd 38 j f (by omega) (by omega) (by omega)
      rw [a, a, a, a, a, a, he 45 j (by omega) (by omega) (by omega), he 46 j (by omega) (by omega) (by omega), he 47 j (by omega) (by omega) (by omega), he 48 j (by omega) (by omega) (by omega), he 49 j (by omega) (by omega) (by omega), he 51 j (by omega) (by omega) (by omega)]
      obtain ⟨q1, q2, q3⟩ := hP j hj
      refine ⟨q1, q2, fun hp => ?_⟩
      obtain ⟨p1, p2, p3, p4, p5, p6⟩ := q3 hp
      refine ⟨p1, p2, p3, p4, p5, fun i hi => ?_⟩
      rw [a2, he 50 (4 * j + i) (by omega) (by omega) (by omega)]
      exact p6 i hi
  · by_cases e : j = k
    · subst e
      exact h2 hj
    · have a (f : Nat) : d'.1 37 j f = d.1 37 j f := hd 37 j f (by omega) (by omega) (by omega)
      have a2 (f : Nat) : d'.1 38 j f = d.1 38 j f := hd 38 j f (by omega) (by omega) (by omega)
      have a3 (g f : Nat) : d'.1 39 g f = d.1 39 g f := hd 39 g f (by omega) (by omega) (by omega)
      rw [a, a, a, a, a]
      simp only [a2, a3]
      exact wP j hj
  all_goals
    have a0 (k' f : Nat) : d'.1 0 k' f = d.1 0 k' f := hd 0 k' f (by omega) (by omega) (by omega)
    have a5 (k' f : Nat) : d'.1 5 k' f = d.1 5 k' f := hd 5 k' f (by omega) (by omega) (by omega)
    have a35 (k' f : Nat) : d'.1 35 k' f = d.1 35 k' f := hd 35 k' f (by omega) (by omega) (by omega)
    have a36 (k' f : Nat) : d'.1 36 k' f = d.1 36 k' f := hd 36 k' f (by omega) (by omega) (by omega)
    have a39 (k' f : Nat) : d'.1 39 k' f = d.1 39 k' f := hd 39 k' f (by omega) (by omega) (by omega)
    have a40 (k' f : Nat) : d'.1 40 k' f = d.1 40 k' f := hd 40 k' f (by omega) (by omega) (by omega)
    have a41 (k' f : Nat) : d'.1 41 k' f = d.1 41 k' f := hd 41 k' f (by omega) (by omega) (by omega)
    have a42 (k' f : Nat) : d'.1 42 k' f = d.1 42 k' f := hd 42 k' f (by omega) (by omega) (by omega)
    have a43 (k' f : Nat) : d'.1 43 k' f = d.1 43 k' f := hd 43 k' f (by omega) (by omega) (by omega)
    have b44 (f : Nat) : e'.1 44 0 f = e.1 44 0 f := he 44 f (by omega) (by omega) (by omega)
    have b52 (s f : Nat) (hs : 52 ≤ s) : e'.1 s 0 f = e.1 s 0 f := he s f (by omega) (by omega) (by omega)
  · unfold rF at hF ⊢
    simp only [a5, b52 52 _ (by omega)]
    exact hF
  · unfold rG at hG ⊢
    simp only [a39, a40, a41, b52 53 _ (by omega), b52 54 _ (by omega), b52 55 _ (by omega), b52 56 _ (by omega), b52 57 _ (by omega), b52 58 _ (by omega), b52 59 _ (by omega), b52 60 _ (by omega), b52 61 _ (by omega), b52 71 _ (by omega), b52 72 _ (by omega)]
    exact hG
  · unfold vG at wG ⊢
    simp only [a39, a40, a41, a42, a0]
    exact wG
  · unfold vD at wD ⊢
    simp only [a39]
    exact wD
  · unfold rI at hI ⊢
    simp only [a42, b52 62 _ (by omega), b52 63 _ (by omega), b52 64 _ (by omega), b52 65 _ (by omega), b52 66 _ (by omega), b52 67 _ (by omega)]
    exact hI
  · unfold vI at wI ⊢
    simp only [a42]
    exact wI
  · unfold rL at hL ⊢
    simp only [a43, a0, b44, b52 68 _ (by omega), b52 69 _ (by omega), b52 70 _ (by omega), b52 73 _ (by omega), b52 74 _ (by omega)]
    exact hL
  · unfold rM at hM ⊢
    simp only [a0, b44]
    exact hM
  · unfold rT at hT ⊢
    simp only [a35, a36, b44, b52 75 _ (by omega)]
    exact hT
def rG1 (d e : sk_D) (g : Nat) : Prop := (d.1 39 g 0 = 0 ∨ d.1 39 g 0 = 1) ∧ e.1 53 0 g = d.1 39 g 0 ∧ e.1 71 0 g = d.1 39 g 9 ∧ e.1 72 0 g = d.1 39 g 10 ∧ (d.1 39 g 0 = 1 → e.1 54 0 g = d.1 39 g 1 ∧ e.1 55 0 g = d.1 39 g 2 ∧ e.1 56 0 g = d.1 39 g 3 ∧ e.1 57 0 g = d.1 39 g 4 ∧ e.1 58 0 g = d.1 39 g 5 ∧ e.1 59 0 g = d.1 39 g 6 ∧ ∀ j, j < 4 → nI j < d.1 39 g 6 → e.1 60 0 (4 * g + j) = d.1 40 g j ∧ e.1 61 0 (4 * g + j) = d.1 41 g j)
def vG1 (d : sk_D) (g : Nat) : Prop := (d.1 39 g 0 = 0 → d.1 39 g 9 = 0 ∧ d.1 39 g 10 = 0) ∧ (d.1 39 g 0 = 1 → sp_n (d.1 39 g 1) 8 ∧ sp_n (d.1 39 g 2) 6 ∧ (∃ c, 1 ≤ c ∧ c ≤ 6 ∧ d.1 39 g 3 = nI c) ∧ (d.1 39 g 4 = -9 ∨ ∃ i, i < 8 ∧ d.1 39 g 4 = nI i ∧ d.1 42 i 0 = 1) ∧ sp_n (d.1 39 g 5) 61 ∧ ∃ s, s ≤ 4 ∧ d.1 39 g 6 = nI s ∧ ∀ j, j < s → (∃ l, l < 3 ∧ d.1 40 g j = nI l ∧ nI l < d.1 0 0 9) ∧ ∃ w, 1 ≤ w ∧ w ≤ 20 ∧ d.1 41 g j = nI w)
theorem R2_gr {d e d' e' : sk_D} (hR : sk_R2 d e) (g : Nat) (hd : ∀ s k f, s < 44 → ¬ (39 ≤ s ∧ s ≤ 41 ∧ k = g) → d'.1 s k f = d.1 s k f)
    (he : ∀ s f, 44 ≤ s → ¬ ((53 ≤ s ∧ s ≤ 59 ∨ s = 71 ∨ s = 72) ∧ f = g) → ¬ ((s = 60 ∨ s = 61) ∧ 4 * g ≤ f ∧ f < 4 * g + 4) → e'.1 s 0 f = e.1 s 0 f) (h1 : g < 4 → rG1 d' e' g) (h2 : g < 4 → vG1 d' g)
    (h3 : d'.1 39 g 4 = -9 ∨ d'.1 39 g 4 = d.1 39 g 4 ∧ d.1 39 g 0 = 1) (h4 : ∀ k, k < 20 → d.1 37 k 0 = 1 → d.1 37 k 4 = nI g → d'.1 39 g 0 = 1) : sk_R2 d' e' := by
  obtain ⟨⟨hP, wP⟩, hF, ⟨hG, wG, wD⟩, ⟨hI, wI⟩, hL, hM, hT⟩ := hR
  have a0 (k' f : Nat) : d'.1 0 k' f = d.1 0 k' f := hd 0 k' f (by omega) (by omega)
  have a5 (k' f : Nat) : d'.1 5 k' f = d.1 5 k' f := hd 5 k' f (by omega) (by omega)
  have a35 (k' f : Nat) : d'.1 35 k' f = d.1 35 k' f := hd 35 k' f (by omega) (by omega)
  have a36 (k' f : Nat) : d'.1 36 k' f = d.1 36 k' f := hd 36 k' f (by omega) (by omega)
  have a37 (k' f : Nat) : d'.1 37 k' f = d.1 37 k' f := hd 37 k' f (by omega) (by omega)
  have a38 (k' f : Nat) : d'.1 38 k' f = d.1 38 k' f := hd 38 k' f (by omega) (by omega)
  have a42 (k' f : Nat) : d'.1 42 k' f = d.1 42 k' f := hd 42 k' f (by omega) (by omega)
  have a43 (k' f : Nat) : d'.1 43 k' f = d.1 43 k' f := hd 43 k' f (by omega) (by omega)
  have b (s f : Nat) (hs : 44 ≤ s ∧ s ≤ 52 ∨ 62 ≤ s ∧ s ≤ 70 ∨ 73 ≤ s) : e'.1 s 0 f = e.1 s 0 f := he s f (by omega) (by omega) (by omega)
  refine ⟨⟨?_, fun k hk hp => ?_⟩, ?_, ⟨fun h hh => ?_, fun h hh => ?_, fun i j hi hj hij oi oj ni => ?_⟩, ⟨?_, ?_⟩, ?_, ?_, ?_⟩
  · unfold rP at hP ⊢
    simp only [a37, a38, b 45 _ (by omega), b 46 _ (by omega), b 47 _ (by omega), b 48 _ (by omega), b 49 _ (by omega), b 50 _ (by omega), b 51 _ (by omega)]
    exact hP
  · rw [a37] at hp
    simp only [a37, a38]
    obtain ⟨p1, p2, p3, p4, p5⟩ := wP k hk hp
    refine ⟨p1, p2, p3, ?_, p5⟩
    rcases p4 with p4 | ⟨j, q1, q2, q3⟩
    · exact .inl p4
    · refine .inr ⟨j, q1, q2, ?_⟩
      by_cases ej : j = g
      · subst ej
        exact h4 k hk hp q2
      · rw [hd 39 j 0 (by omega) (by omega)]
        exact q3
  · unfold rF at hF ⊢
    simp only [a5, b 52 _ (by omega)]
    exact hF
  · by_cases eh : h = g
    · subst eh
      exact h1 hh
    · have c (f : Nat) : d'.1 39 h f = d.1 39 h f := hd 39 h f (by omega) (by omega)
      have c2 (f : Nat) : d'.1 40 h f = d.1 40 h f := hd 40 h f (by omega) (by omega)
      have c3 (f : Nat) : d'.1 41 h f = d.1 41 h f := hd 41 h f (by omega) (by omega)
      have u (s : Nat) (hs : 53 ≤ s ∧ s ≤ 59 ∨ s = 71 ∨ s = 72) : e'.1 s 0 h = e.1 s 0 h := he s h (by omega) (by omega) (by omega)
      have u2 (s j : Nat) (hs : s = 60 ∨ s = 61) (hj : j < 4) : e'.1 s 0 (4 * h + j) = e.1 s 0 (4 * h + j) := he s _ (by omega) (by omega) (by omega)
      simp only [c, c2, c3, u 53 (by omega), u 54 (by omega), u 55 (by omega), u 56 (by omega), u 57 (by omega), u 58 (by omega), u 59 (by omega), u 71 (by omega), u 72 (by omega)]
      obtain ⟨q1, q2, q3, q4, q5⟩ := hG h hh
      refine ⟨q1, q2, q3, q4, fun ho => ?_⟩
      obtain ⟨p1, p2, p3, p4, p5, p6, p7⟩ := q5 ho
      refine ⟨p1, p2, p3, p4, p5, p6, fun j hj hj2 => ?_⟩
      rw [u2 60 j (by omega) hj, u2 61 j (by omega) hj]
      exact p7 j hj hj2
  · by_cases eh : h = g
    · subst eh
      exact h2 hh
    · have c (f : Nat) : d'.1 39 h f = d.1 39 h f := hd 39 h f (by omega) (by omega)
      have c2 (f : Nat) : d'.1 40 h f = d.1 40 h f := hd 40 h f (by omega) (by omega)
      have c3 (f : Nat) : d'.1 41 h f = d.1 41 h f := hd 41 h f (by omega) (by omega)
      simp only [c, c2, c3, a42, a0]
      exact wG h hh
  · by_cases ei : i = g
    · subst ei
      have cj (f : Nat) : d'.1 39 j f = d.1 39 j f := hd 39 j f (by omega) (by omega)
      rcases h3 with h3 | ⟨h3, h5⟩
      · exact absurd h3 ni
      · rw [h3] at ni ⊢
        rw [cj] at oj ⊢
        exact wD i j hi hj hij h5 oj ni
    · have ci (f : Nat) : d'.1 39 i f = d.1 39 i f := hd 39 i f (by omega) (by omega)
      rw [ci] at oi ni ⊢
      by_cases ej : j = g
      · subst ej
        rcases h3 with h3 | ⟨h3, h5⟩
        · rw [h3]
          exact ni
        · rw [h3]
          exact wD i j hi hj hij oi h5 ni
      · have cj (f : Nat) : d'.1 39 j f = d.1 39 j f := hd 39 j f (by omega) (by omega)
        rw [cj] at oj ⊢
        exact wD i j hi hj hij oi oj ni
  · unfold rI at hI ⊢
    simp only [a42, b 62 _ (by omega), b 63 _ (by omega), b 64 _ (by omega), b 65 _ (by omega), b 66 _ (by omega), b 67 _ (by omega)]
    exact hI
  · unfold vI at wI ⊢
    simp only [a42]
    exact wI
  · unfold rL at hL ⊢
    simp only [a43, a0, b 44 _ (by omega), b 68 _ (by omega), b 69 _ (by omega), b 70 _ (by omega), b 73 _ (by omega), b 74 _ (by omega)]
    exact hL
  · unfold rM at hM ⊢
    simp only [a0, b 44 _ (by omega)]
    exact hM
  · unfold rT at hT ⊢
    simp only [a35, a36, b 44 _ (by omega), b 75 _ (by omega)]
    exact hT
/-- the groups of all pupils -/
theorem R2_grp {d e d' e' : sk_D} (hR : sk_R2 d e) (hd : ∀ s k f, s < 44 → ¬ (s = 37 ∧ f = 4) → d'.1 s k f = d.1 s k f) (he : ∀ s f, 44 ≤ s → s ≠ 49 → e'.1 s 0 f = e.1 s 0 f)
    (h : ∀ k, k < 20 → d.1 37 k 0 = 1 → e'.1 49 0 k = d'.1 37 k 4 ∧ (d'.1 37 k 4 = -9 ∨ ∃ g, g < 4 ∧ d'.1 37 k 4 = nI g ∧ d.1 39 g 0 = 1)) : sk_R2 d' e' := by
  obtain ⟨⟨hP, wP⟩, hF, ⟨hG, wG, wD⟩, ⟨hI, wI⟩, hL, hM, hT⟩ := hR
  have a (s k' f : Nat) (hs : s < 37 ∨ 38 ≤ s ∧ s < 44) : d'.1 s k' f = d.1 s k' f := hd s k' f (by omega) (by omega)
  have b (s f : Nat) (hs : 44 ≤ s ∧ s ≠ 49) : e'.1 s 0 f = e.1 s 0 f := he s f (by omega) (by omega)
  have c (k f : Nat) (hf : f ≠ 4) : d'.1 37 k f = d.1 37 k f := hd 37 k f (by omega) (by omega)
  refine ⟨⟨fun k hk => ?_, fun k hk hp => ?_⟩, ?_, ⟨?_, ?_, ?_⟩, ⟨?_, ?_⟩, ?_, ?_, ?_⟩
  · obtain ⟨q1, q2, q3⟩ := hP k hk
    rw [c k 0 (by omega), b 45 _ (by omega)]
    refine ⟨q1, q2, fun hp => ?_⟩
    obtain ⟨p1, p2, p3, p4, p5, p6⟩ := q3 hp
    rw [b 46 _ (by omega), b 47 _ (by omega), b 48 _ (by omega), b 51 _ (by omega), c k 1 (by omega), c k 2 (by omega), c k 3 (by omega), c k 5 (by omega)]
    refine ⟨p1, p2, p3, (h k hk hp).1, p5, fun j hj => ?_⟩
    rw [b 50 _ (by omega), a 38 _ _ (by omega)]
    exact p6 j hj
  · rw [c k 0 (by omega)] at hp
    obtain ⟨p1, p2, p3, p4, p5⟩ := wP k hk hp
    rw [c k 1 (by omega), c k 2 (by omega), c k 3 (by omega)]
    simp only [a 38 _ _ (by omega), a 39 _ _ (by omega)]
    exact ⟨p1, p2, p3, (h k hk hp).2, p5⟩
  · unfold rF at hF ⊢
    simp only [a 5 _ _ (by omega), b 52 _ (by omega)]
    exact hF
  · unfold rG at hG ⊢
    simp only [a 39 _ _ (by omega), a 40 _ _ (by omega), a 41 _ _ (by omega), b 53 _ (by omega), b 54 _ (by omega), b 55 _ (by omega), b 56 _ (by omega), b 57 _ (by omega), b 58 _ (by omega), b 59 _ (by omega), b 60 _ (by omega), b 61 _ (by omega), b 71 _ (by omega), b 72 _ (by omega)]
    exact hG
  · unfold vG at wG ⊢
    simp only [a 39 _ _ (by omega), a 40 _ _ (by omega), a 41 _ _ (by omega), a 42 _ _ (by omega), a 0 _ _ (by omega)]
    exact wG
  · unfold vD at wD ⊢
    simp only [a 39 _ _ (by omega)]
    exact wD
  · unfold rI at hI ⊢
    simp only [a 42 _ _ (by omega), b 62 _ (by omega), b 63 _ (by omega), b 64 _ (by omega), b 65 _ (by omega), b 66 _ (by omega), b 67 _ (by omega)]
    exact hI
  · unfold vI at wI ⊢
    simp only [a 42 _ _ (by omega)]
    exact wI
  · unfold rL at hL ⊢
    simp only [a 43 _ _ (by omega), a 0 _ _ (by omega), b 44 _ (by omega), b 68 _ (by omega), b 69 _ (by omega), b 70 _ (by omega), b 73 _ (by omega), b 74 _ (by omega)]
    exact hL
  · unfold rM at hM ⊢
    simp only [a 0 _ _ (by omega), b 44 _ (by omega)]
    exact hM
  · unfold rT at hT ⊢
    simp only [a 35 _ _ (by omega), a 36 _ _ (by omega), b 44 _ (by omega), b 75 _ (by omega)]
    exact hT
