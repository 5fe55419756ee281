/-! THE PLANNER: the class counts down *** by hand -/
theorem cd8 {d : sk_D} {s c : Nat → Nat} (hs : ∀ g, g < 4 → d.1 13 0 g = nI (s g) ∧ s g ≤ 6) (hc : ∀ g, g < 4 → c g ≤ s g ∧ d.1 15 0 g = nI (c g)) :
    ∃ d', ((∀ s k f, s ≠ 15 → d'.1 s k f = d.1 s k f) ∧ d'.2 = d.2 ∧ (1 ≤ en s c 4 → ∃ c', (∀ g, g < 4 → c' g ≤ s g ∧ d'.1 15 0 g = nI (c' g)) ∧ en s c' 4 + 1 = en s c 4)) ∧ q_X3_countDown d = some d' := by
  have main := it_if0 (ι := Unit) (F := fun _ rec2 a => q_X3_countDown_2 rec2 a.1 a.2) (fun _ r => some r) (fun i a => ∃ d', a = (d', nI i) ∧ i ≤ 4 ∧ (∀ s k f, s ≠ 15 → d'.1 s k f = d.1 s k f) ∧ d'.2 = d.2 ∧ (∀ j, j < i → c j = 0 ∧ d'.1 15 0 j = nI (s j)) ∧ ∀ j, i ≤ j → j < 4 → d'.1 15 0 j = nI (c j)) (fun d' => (∀ s k f, s ≠ 15 → d'.1 s k f = d.1 s k f) ∧ d'.2 = d.2 ∧ (1 ≤ en s c 4 → ∃ c', (∀ g, g < 4 → c' g ≤ s g ∧ d'.1 15 0 g = nI (c' g)) ∧ en s c' 4 + 1 = en s c 4)) 4 (fun i a hp => ?_) (by omega) (d, 0) ⟨d, rfl, Nat.zero_le _, fun _ _ _ _ => rfl, rfl, fun j hj => absurd hj (Nat.not_lt_zero j), fun j _ hj => (hc j hj).2⟩
  · obtain ⟨d', h1, h2⟩ := main
    exact ⟨d', h1, h2 ()⟩
  · obtain ⟨d', rfl, hi, hF, h2, hz, hr⟩ := hp
    by_cases q : i = 4
    · subst q
      refine .inl ⟨d', ⟨hF, h2, fun h1 => ?_⟩, fun _ rec => ?_⟩
      · have := en_zero (s := s) (c := c) (n := 4) (fun j hj => (hz j hj).1)
        omega
      · show q_X3_countDown_2 rec d' (nI 4) = _
        unfold q_X3_countDown_2
        rw [if_pos (show (4 : Int32) ≤ nI 4 by decide)]
    · have hi4 : i < 4 := by omega
      have l4 : ¬ (4 : Int32) ≤ nI i := le_nI (n := 4) rfl hi4 (by omega)
      have bi : sk_bi (nI i) 4 = true := bi_nI (by omega) (by omega)
      have ei := nI_clamp (n := i) (by omega)
      obtain ⟨c1, c2⟩ := hs i hi4
      have c3 := (hc i hi4).1
      by_cases h0 : c i = 0
      · refine .inr ⟨hi4, (sk_wi d' 15 0 i (nI (s i)), nI (i + 1)), ⟨_, rfl, by omega, fun s k f hs => (wi_o (by omega)).trans (hF s k f hs), h2, fun j hj => ?_, fun j h3 h4 => (wi_o (by omega)).trans (hr j (by omega) h4)⟩, fun _ rec => ?_⟩
        · by_cases e : j = i
          · subst e
            exact ⟨h0, wi_e⟩
          · obtain ⟨b1, b2⟩ := hz j (by omega)
            exact ⟨b1, (wi_o (by omega)).trans b2⟩
        · show q_X3_countDown_2 rec d' (nI i) = _
          unfold q_X3_countDown_2
          rw [if_neg l4, if_pos bi, ei, hr i (Nat.le_refl _) hi4, h0, if_pos (show nI 0 ≤ (0 : Int32) by decide), if_pos bi, if_pos bi, hF 13 0 i (by omega), c1, nI_1]
      · obtain ⟨k, hk⟩ : ∃ k, c i = k + 1 := ⟨c i - 1, by omega⟩
        have hcd := en_cdn (s := s) (c := c) (i := i) (fun j hj => (hz j hj).1) (by omega) (n := 4) hi4
        refine .inl ⟨sk_wi d' 15 0 i (nI k), ⟨fun s k f hs => (wi_o (by omega)).trans (hF s k f hs), h2, fun _ => ⟨cdn s c i, fun g hg => ?_, hcd⟩⟩, fun _ rec => ?_⟩
        · unfold cdn
          by_cases e1 : g < i
          · rw [if_pos e1, wi_o (by omega)]
            exact ⟨Nat.le_refl _, (hz g e1).2⟩
          · rw [if_neg e1]
            by_cases e2 : g = i
            · subst e2
              rw [if_pos rfl, wi_e, hk, Nat.add_sub_cancel]
              exact ⟨by omega, rfl⟩
            · rw [if_neg e2, wi_o (by omega)]
              exact ⟨(hc g hg).1, hr g (by omega) hg⟩
        · show q_X3_countDown_2 rec d' (nI i) = _
          unfold q_X3_countDown_2
          rw [if_neg l4, if_pos bi, ei, hr i (Nat.le_refl _) hi4, hk, if_neg (nI_nle (by omega) (by omega)), if_pos bi, if_pos bi, nI_pred]
