/-! THE PLANNER: the reference's groups for the plan *** by hand -/
theorem pg9 (e : sk_D) : ∃ e', ((∀ s k f, ¬ (80 ≤ s ∧ s ≤ 82) → e'.1 s k f = e.1 s k f) ∧ ∀ g, g < 4 → e'.1 80 0 g = e.1 54 0 g ∧ e'.1 81 0 g = e.1 55 0 g ∧ e'.1 82 0 g = if e.1 53 0 g = 1 then e.1 56 0 g else 0) ∧ q_X9_planGroups e = some e' := by
  have main := it_cn (ι := Unit) (F := fun _ rec2 a => q_X9_planGroups_2 rec2 a.1 a.2) (fun _ e' => some e') (fun j a => ∃ e', a = (e', nI j) ∧ (∀ s k f, ¬ (80 ≤ s ∧ s ≤ 82) → e'.1 s k f = e.1 s k f) ∧ ∀ g, g < j → e'.1 80 0 g = e.1 54 0 g ∧ e'.1 81 0 g = e.1 55 0 g ∧ e'.1 82 0 g = if e.1 53 0 g = 1 then e.1 56 0 g else 0) (fun e' => (∀ s k f, ¬ (80 ≤ s ∧ s ≤ 82) → e'.1 s k f = e.1 s k f) ∧ ∀ g, g < 4 → e'.1 80 0 g = e.1 54 0 g ∧ e'.1 81 0 g = e.1 55 0 g ∧ e'.1 82 0 g = if e.1 53 0 g = 1 then e.1 56 0 g else 0) 4 (fun j a hj hp => ?_) (fun a hp => ?_) (by omega) (e, 0) ⟨e, rfl, fun _ _ _ _ => rfl, fun g hg => absurd hg (Nat.not_lt_zero g)⟩
  · obtain ⟨e', h1, h2⟩ := main
    exact ⟨e', h1, h2 ()⟩
  · obtain ⟨e', rfl, hF, hv⟩ := hp
    have l4 : ¬ (4 : Int32) ≤ nI j := le_nI (n := 4) rfl hj (by omega)
    have bj : sk_bi (nI j) 4 = true := bi_nI (by omega) (by omega)
    have ej := nI_clamp (n := j) (by omega)
    refine ⟨(sk_wi (sk_wi (sk_wi e' 80 0 j (e.1 54 0 j)) 81 0 j (e.1 55 0 j)) 82 0 j (if e.1 53 0 j = 1 then e.1 56 0 j else 0), nI (j + 1)), ⟨_, rfl, fun s k f hs => ?_, fun g hg => ?_⟩, fun _ rec => ?_⟩
    · rw [wi_o (by omega), wi_o (by omega), wi_o (by omega)]
      exact hF s k f hs
    · by_cases q : g = j
      · subst q
        refine ⟨?_, ?_, wi_e⟩
        · rw [wi_o (by omega), wi_o (by omega), wi_e]
        · rw [wi_o (by omega), wi_e]
      · obtain ⟨a1, a2, a3⟩ := hv g (by omega)
        refine ⟨?_, ?_, ?_⟩
        · rw [wi_o (by omega), wi_o (by omega), wi_o (by omega)]
          exact a1
        · rw [wi_o (by omega), wi_o (by omega), wi_o (by omega)]
          exact a2
        · rw [wi_o (by omega), wi_o (by omega), wi_o (by omega)]
          exact a3
    · show q_X9_planGroups_2 rec e' (nI j) = _
      unfold q_X9_planGroups_2
      rw [if_neg l4, if_pos bj, if_pos bj, ej, hF 54 0 j (by omega)]
      unfold q_X9_planGroups_29
      rw [if_pos bj, if_pos bj, ej, wi_o (by omega), hF 55 0 j (by omega)]
      unfold q_X9_planGroups_41 q_X9_planGroups_56
      rw [if_pos bj, ej, wi_o (by omega), wi_o (by omega), wi_o (by omega), wi_o (by omega), hF 53 0 j (by omega), hF 56 0 j (by omega), if_pos bj, if_pos bj, if_pos bj, nI_1]
      by_cases q : e.1 53 0 j = 1
      · rw [if_pos q, if_pos q]
      · rw [if_neg q, if_neg q]
  · obtain ⟨e', rfl, hF, hv⟩ := hp
    refine ⟨e', ⟨hF, hv⟩, fun _ rec => ?_⟩
    show q_X9_planGroups_2 rec e' (nI 4) = _
    unfold q_X9_planGroups_2
    rw [if_pos (show (4 : Int32) ≤ nI 4 by decide)]
