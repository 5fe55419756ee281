/-! THE PLANNER: the reference's table, its loops *** by hand -/
theorem p49 {e : sk_D} {U : Nat} {h : Nat → Nat} {x : Nat → Nat → Bool} {o : Nat → Nat → Nat} (hU : UD e U h x o) {m u : Nat} (hu : m + 1 + u = U) (hT : TA e U h x o (u + 1)) :
    ∃ e', (O79 e e' ∧ TA e' U h x o u) ∧ ∀ r43, l_X9_plan_49 r43 sk_fu (e, nI u, 0) = r43 (e', nI u + (-1 : Int32)) := by
  refine it_cn (F := fun r43 rec49 a => q_X9_plan_49 r43 rec49 a.1 a.2.1 a.2.2) (fun r43 x => r43 (x, nI u + (-1 : Int32))) (fun s a => ∃ e', a = (e', nI u, nI s) ∧ O79 e e' ∧ TA e' U h x o (u + 1) ∧ ∀ s', s' < s → e'.1 79 0 (2401 * u + s') = nI (kw 100 (bs h x o (m + 1) u (dgs s')))) (fun e' => O79 e e' ∧ TA e' U h x o u) 2401 (fun s a hs hP => ?_) (fun a hP => ?_) (by omega) (e, nI u, 0) ⟨e, rfl, O79.rf e, hT, fun s' h0 => absurd h0 (Nat.not_lt_zero s')⟩
  · obtain ⟨e', rfl, hO, hT', hr⟩ := hP
    refine ⟨_, ⟨sk_wi e' 79 0 (2401 * u + s) (nI (kw 100 (bs h x o (m + 1) u (dgs s)))), rfl, hO.tr (O79.w _ _ _), fun v h1 h2 s' hs' => ?_, fun s' hs' => ?_⟩, fun r43 rec => ?_⟩
    · rw [wi_o (by omega)]
      exact hT' v h1 h2 s' hs'
    · by_cases q : s' = s
      · subst q
        exact wi_e
      · rw [wi_o (by omega)]
        exact hr s' (by omega)
    · refine p75 (hU.o hO) hu hs (fun s' hs' => ?_) r43 rec
      have := hT' (u + 1) (Nat.le_refl _) (by omega) s' hs'
      rw [show U - (u + 1) = m by omega] at this
      exact this
  · obtain ⟨e', rfl, hO, hT', hr⟩ := hP
    refine ⟨e', ⟨hO, fun v h1 h2 s' hs' => ?_⟩, fun r43 rec => ?_⟩
    · by_cases q : v = u
      · subst q
        rw [show U - v = m + 1 by omega]
        exact hr s' hs'
      · exact hT' v (by omega) h2 s' hs'
    · show q_X9_plan_49 r43 rec e' (nI u) (nI 2401) = _
      unfold q_X9_plan_49
      rw [if_pos (show (2401 : Int32) ≤ nI 2401 by decide)]
theorem p43 {e : sk_D} {U : Nat} {h : Nat → Nat} {x : Nat → Nat → Bool} {o : Nat → Nat → Nat} (hU : UD e U h x o) (hT : TA e U h x o U) :
    ∃ e', (O79 e e' ∧ TA e' U h x o 0) ∧ l_X9_plan_43 sk_fu (e, nI U - 1) = l_X9_plan_158 sk_fu (e', 0, 0) := by
  have hU20 := hU.1
  have main := it_cn (ι := Unit) (F := fun _ rec43 a => q_X9_plan_43 rec43 a.1 a.2) (fun _ x => l_X9_plan_158 sk_fu (x, 0, 0)) (fun j a => ∃ e', a = (e', nI (U - j) - 1) ∧ O79 e e' ∧ TA e' U h x o (U - j)) (fun e' => O79 e e' ∧ TA e' U h x o 0) U (fun j a hj hP => ?_) (fun a hP => ?_) (by omega) (e, nI U - 1) ⟨e, rfl, O79.rf e, hT⟩
  · obtain ⟨e', h1, h2⟩ := main
    exact ⟨e', h1, h2 ()⟩
  · obtain ⟨e', rfl, hO, hT'⟩ := hP
    obtain ⟨u, hu⟩ : ∃ u, U - j = u + 1 := ⟨U - j - 1, by omega⟩
    rw [hu] at hT' ⊢
    obtain ⟨e2, ⟨hO2, hT2⟩, hr⟩ := p49 (hU.o hO) (m := j) (u := u) (by omega) hT'
    refine ⟨(e2, nI (U - (j + 1)) - 1), ⟨e2, rfl, hO.tr hO2, ?_⟩, fun _ rec => ?_⟩
    · rw [show U - (j + 1) = u by omega]
      exact hT2
    · show q_X9_plan_43 rec e' (nI (u + 1) - 1) = _
      rw [nI_pred]
      unfold q_X9_plan_43
      rw [if_neg (nI_pos (by omega)), hr rec, show U - (j + 1) = u by omega, Int32.sub_eq_add_neg]
  · obtain ⟨e', rfl, hO, hT'⟩ := hP
    rw [Nat.sub_self] at hT' ⊢
    refine ⟨e', ⟨hO, hT'⟩, fun _ rec => ?_⟩
    show q_X9_plan_43 rec e' (nI 0 - 1) = _
    unfold q_X9_plan_43
    rw [if_pos (show nI 0 - 1 < (0 : Int32) by decide)]
theorem p7 {e : sk_D} {U : Nat} {h : Nat → Nat} {x : Nat → Nat → Bool} {o : Nat → Nat → Nat} (hU : UD e U h x o) :
    ∃ e', (O79 e e' ∧ TA e' U h x o 0) ∧ l_X9_plan_7 sk_fu (e, 0) = l_X9_plan_158 sk_fu (e', 0, 0) := by
  have hU20 := hU.1
  have main := it_cn (ι := Unit) (F := fun _ rec7 a => q_X9_plan_7 rec7 a.1 a.2) (fun _ x => l_X9_plan_43 sk_fu (x, nI U - 1)) (fun s a => ∃ e', a = (e', nI s) ∧ O79 e e' ∧ ∀ s', s' < s → e'.1 79 0 (2401 * U + s') = 0) (fun e' => O79 e e' ∧ TA e' U h x o U) 2401 (fun s a hs hP => ?_) (fun a hP => ?_) (by omega) (e, 0) ⟨e, rfl, O79.rf e, fun s' h0 => absurd h0 (Nat.not_lt_zero s')⟩
  · obtain ⟨e1, ⟨hO1, hT1⟩, h2⟩ := main
    obtain ⟨e2, ⟨hO2, hT2⟩, h3⟩ := p43 (hU.o hO1) hT1
    exact ⟨e2, ⟨hO1.tr hO2, hT2⟩, (h2 ()).trans h3⟩
  · obtain ⟨e', rfl, hO, hr⟩ := hP
    have l1 : ¬ (2401 : Int32) ≤ nI s := le_nI (n := 2401) rfl hs (by omega)
    have e1 : (2401 : Int32) * nI U + nI s = nI (2401 * U + s) := by
      rw [show (2401 : Int32) = nI 2401 from rfl, pk_mul, nI_add]
    have b1 : sk_bi (nI (2401 * U + s)) 50421 = true := bi_nI (by omega) (by omega)
    have c1 := nI_clamp (n := 2401 * U + s) (by omega)
    refine ⟨(sk_wi e' 79 0 (2401 * U + s) 0, nI (s + 1)), ⟨_, rfl, hO.tr (O79.w _ _ _), fun s' hs' => ?_⟩, fun _ rec => ?_⟩
    · by_cases q : s' = s
      · subst q
        exact wi_e
      · rw [wi_o (by omega)]
        exact hr s' (by omega)
    · show q_X9_plan_7 rec e' (nI s) = _
      unfold q_X9_plan_7
      rw [if_neg l1, (hU.o hO).2.1, e1, if_pos b1, c1, nI_1]
  · obtain ⟨e', rfl, hO, hr⟩ := hP
    refine ⟨e', ⟨hO, fun v h1 h2 s' hs' => ?_⟩, fun _ rec => ?_⟩
    · obtain rfl : v = U := by omega
      rw [Nat.sub_self, hr s' hs']
      rfl
    · show q_X9_plan_7 rec e' (nI 2401) = _
      unfold q_X9_plan_7
      rw [if_pos (show (2401 : Int32) ≤ nI 2401 by decide), (hU.o hO).2.1]
