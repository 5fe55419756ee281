/-! THE PLANNER: the class's seats and strides *** by hand -/
theorem stg_b {s : Nat → Nat} (hs : ∀ g, g < 4 → s g ≤ 6) : ∀ g, g ≤ 4 → 1 ≤ stg s g ∧ stg s g ≤ 7 ^ g
  | 0, _ => ⟨Nat.le_refl _, Nat.le_refl _⟩
  | g + 1, hg => by
    obtain ⟨h1, h2⟩ := stg_b hs g (by omega)
    have h3 := hs g (by omega)
    have e : stg s (g + 1) = stg s g * (s g + 1) := rfl
    rw [e, Nat.pow_succ]
    exact ⟨Nat.mul_pos h1 (by omega), Nat.mul_le_mul h2 (by omega)⟩
def FS (d d' : sk_D) : Prop := ∀ s k f, s ≠ 13 → s ≠ 14 → ¬ (s = 6 ∧ f = 1) → d'.1 s k f = d.1 s k f
theorem ls8 {d e : sk_D} (hG : rG d e) (hV : vG d) {d1 : sk_D} (h39 : d1.1 39 = d.1 39) {U : Nat} {h : Nat → Nat} {x : Nat → Nat → Bool} {o : Nat → Nat → Nat} (hU : UC d1 U h x o) :
    ∃ d', (FS d1 d' ∧ d'.1 6 0 1 = nI (stg (sea h x U (cpt (d.1 39))) 4) ∧ ∀ g, g < 4 → d'.1 13 0 g = nI (sea h x U (cpt (d.1 39)) g) ∧ d'.1 14 0 g = nI (stg (sea h x U (cpt (d.1 39))) g)) ∧ (∀ g, g < 4 → cpt (d.1 39) g ≤ 6) ∧ q_X3_limitSeats d1 = some d' := by
  have hcp : ∀ g, g < 4 → cpt (d.1 39) g ≤ 6 ∧ (d.1 39 g 0 = 0 → cpt (d.1 39) g = 0) ∧ (¬ d.1 39 g 0 = 0 → d.1 39 g 3 = nI (cpt (d.1 39) g)) := fun g hg => by
    unfold cpt
    rcases (hG g hg).1 with h0 | h0
    · rw [if_pos h0]
      exact ⟨Nat.zero_le _, fun _ => rfl, fun z => absurd h0 z⟩
    · have n0 : ¬ d.1 39 g 0 = 0 := by rw [h0]; decide
      obtain ⟨c, c1, c2, c3⟩ := ((hV g hg).2 h0).2.2.1
      rw [if_neg n0, c3, nI_clamp (by omega)]
      exact ⟨c2, fun z => absurd z n0, fun _ => rfl⟩
  have hse : ∀ g, g < 4 → sea h x U (cpt (d.1 39)) g ≤ 6 := fun g hg => Nat.le_trans (Nat.min_le_left _ _) (hcp g hg).1
  have main := it_cn (ι := Unit) (F := fun _ rec7 a => q_X3_limitSeats_7 rec7 a.1 a.2) (fun _ d' => some d') (fun g a => ∃ d', a = (d', nI g) ∧ FS d1 d' ∧ d'.1 6 0 1 = nI (stg (sea h x U (cpt (d.1 39))) g) ∧ ∀ j, j < g → d'.1 13 0 j = nI (sea h x U (cpt (d.1 39)) j) ∧ d'.1 14 0 j = nI (stg (sea h x U (cpt (d.1 39))) j)) (fun d' => FS d1 d' ∧ d'.1 6 0 1 = nI (stg (sea h x U (cpt (d.1 39))) 4) ∧ ∀ g, g < 4 → d'.1 13 0 g = nI (sea h x U (cpt (d.1 39)) g) ∧ d'.1 14 0 g = nI (stg (sea h x U (cpt (d.1 39))) g)) 4 (fun g a hg hp => ?_) (fun a hp => ?_) (by omega) (sk_wi d1 6 0 1 1, 0) ⟨_, rfl, fun s k f a1 a2 a3 => wi_o (by omega), wi_e, fun j hj => absurd hj (Nat.not_lt_zero j)⟩
  · obtain ⟨d', h1, h2⟩ := main
    exact ⟨d', h1, fun g hg => (hcp g hg).1, h2 ()⟩
  · obtain ⟨d', rfl, hF, h61, hv⟩ := hp
    have l4 : ¬ (4 : Int32) ≤ nI g := le_nI (n := 4) rfl hg (by omega)
    have bg : sk_bi (nI g) 4 = true := bi_nI (by omega) (by omega)
    have eg := nI_clamp (n := g) (by omega)
    have hU' : UC d' U h x o := hU.mv (hF 6 0 0 (by omega) (by omega) (by omega)) (fun f => hF 8 0 f (by omega) (by omega) (by omega)) (fun k f => hF 10 k f (by omega) (by omega) (by omega))
    have o39 : ∀ f, d'.1 39 g f = d.1 39 g f := fun f => (hF 39 g f (by omega) (by omega) (by omega)).trans (by rw [h39])
    have hw : wt h x g U 0 ≤ 20 := Nat.le_trans (wt_le h x g U 0) (hU.2.2.2.2 U 0 rfl)
    have hcg := hcp g hg
    have hsg := hse g hg
    have hst := stg_b hse g (by omega)
    have hpw := (pw_b hg).2
    have z79 : ∀ r7 : (sk_D × Int32) → Option sk_D, q_X3_limitSeats_86 r7 d' (nI g) (nI (wt h x g U 0)) (nI (cpt (d.1 39) g)) = r7 (sk_wi (sk_wi (sk_wi d' 13 0 g (nI (sea h x U (cpt (d.1 39)) g))) 14 0 g (nI (stg (sea h x U (cpt (d.1 39))) g))) 6 0 1 (nI (stg (sea h x U (cpt (d.1 39))) (g + 1))), nI (g + 1)) := fun r7 => by
      unfold q_X3_limitSeats_86
      rw [(nI_min _ _ (by omega) (by omega)).1, if_pos bg, eg]
      unfold q_X3_limitSeats_106
      rw [if_pos bg, eg, wi_o (by omega), h61]
      unfold q_X3_limitSeats_112
      rw [if_pos bg, eg, wi_o (by omega), wi_o (by omega), h61, wi_o (by omega), wi_e, nI_1, nI_1, pk_mul]
      rfl
    refine ⟨_, ⟨sk_wi (sk_wi (sk_wi d' 13 0 g (nI (sea h x U (cpt (d.1 39)) g))) 14 0 g (nI (stg (sea h x U (cpt (d.1 39))) g))) 6 0 1 (nI (stg (sea h x U (cpt (d.1 39))) (g + 1))), rfl, fun s k f a1 a2 a3 => ?_, wi_e, fun j hj => ?_⟩, fun _ rec => ?_⟩
    · rw [wi_o (by omega), wi_o (by omega), wi_o (by omega)]
      exact hF s k f a1 a2 a3
    · by_cases q : j = g
      · subst q
        refine ⟨?_, ?_⟩
        · rw [wi_o (by omega), wi_o (by omega), wi_e]
        · rw [wi_o (by omega), wi_e]
      · obtain ⟨b1, b2⟩ := hv j (by omega)
        refine ⟨?_, ?_⟩
        · rw [wi_o (by omega), wi_o (by omega), wi_o (by omega)]
          exact b1
        · rw [wi_o (by omega), wi_o (by omega), wi_o (by omega)]
          exact b2
    · show q_X3_limitSeats_7 rec d' (nI g) = _
      unfold q_X3_limitSeats_7
      rw [if_neg l4, l17 hU' hg rec]
      unfold q_X3_limitSeats_62
      rw [if_pos bg, eg, o39, o39]
      by_cases q : d.1 39 g 0 = 0
      · have := z79 rec
        rw [hcg.2.1 q] at this
        rw [if_pos q]
        exact this
      · have n6 : ¬ (6 : Int32) < nI (cpt (d.1 39) g) := nI_nlt (a := 6) hcg.1 (by omega)
        rw [if_neg q, if_pos bg, hcg.2.2 q, if_neg n6]
        exact z79 rec
  · obtain ⟨d', rfl, hF, h61, hv⟩ := hp
    refine ⟨d', ⟨hF, h61, hv⟩, fun _ rec => ?_⟩
    show q_X3_limitSeats_7 rec d' (nI 4) = _
    unfold q_X3_limitSeats_7
    have hst := stg_b hse 4 (Nat.le_refl _)
    have h74 : 7 ^ 4 = 2401 := by decide
    have c1 : ¬ (2401 : Int32) < d'.1 6 0 1 := by
      rw [h61]
      exact nI_nlt (a := 2401) (by omega) (by omega)
    have c2 : (if (1 : Int32) < d'.1 6 0 1 then d'.1 6 0 1 else 1) = d'.1 6 0 1 := by
      by_cases q : stg (sea h x U (cpt (d.1 39))) 4 = 1
      · rw [h61, q]
        decide
      · rw [if_pos (by rw [h61]; exact nI_lt (a := 1) (by omega) (by omega))]
    rw [if_pos (show (4 : Int32) ≤ nI 4 by decide), if_neg c1, c2, wi_same]
