/-! THE PLANNER: splitGain *** by hand -/
theorem w5_4 {d e : sk_D} {f : Nat} {v : Int32} (hP : rP d e) (hV : vP d) (hG : rG d e) (hW : vG d) : rP (sk_wi d 5 0 f v) e ∧ vP (sk_wi d 5 0 f v) ∧ rG (sk_wi d 5 0 f v) e ∧ vG (sk_wi d 5 0 f v) := by
  have a (s k' f' : Nat) (hs : s ≠ 5) : (sk_wi d 5 0 f v).1 s k' f' = d.1 s k' f' := wi_o (by omega)
  refine ⟨?_, ?_, ?_, ?_⟩
  · unfold rP at hP ⊢
    simp only [a 37 _ _ (by omega), a 38 _ _ (by omega)]
    exact hP
  · unfold vP at hV ⊢
    simp only [a 37 _ _ (by omega), a 38 _ _ (by omega), a 39 _ _ (by omega)]
    exact hV
  · unfold rG at hG ⊢
    simp only [a 39 _ _ (by omega), a 40 _ _ (by omega), a 41 _ _ (by omega)]
    exact hG
  · unfold vG at hW ⊢
    simp only [a 39 _ _ (by omega), a 40 _ _ (by omega), a 41 _ _ (by omega), a 42 _ _ (by omega), a 0 _ _ (by omega)]
    exact hW
theorem px_splitGain (a : Int32) (d e : sk_D) (hR : sk_R2 d e) : ∃ (r : Int32) (d' e' : sk_D), q_X8_splitGain d a = some (r, d') ∧ q_X9_splitGain e a = some (r, e') ∧ sk_R2 d' e' ∧ sk_F8 d d' ∧ sk_F9 e e' := by
  rcases cF a with ⟨h8, h9⟩ | ⟨f, _, hf, rfl, h8, h9⟩
  · exact ⟨-1, d, e, by simp only [q_X8_splitGain, q_X8_splitGain_0, h8, Option.bind_some, ↓reduceIte], by simp only [q_X9_splitGain, q_X9_splitGain_0, h9, Option.bind_some, ↓reduceIte], hR, sk_F8.rf d, sk_F9.rf e⟩
  have ef := nI_clamp (n := f) (by omega)
  have bf : sk_bi (nI f) 8 = true := bi_nI (by omega) (by omega)
  obtain ⟨e1, hp1, hF1, hG1⟩ := gp9 hR.2.2.1.1 hR.2.2.1.2.1
  have hR1 : sk_R2 d e1 := R2_e hR hF1.q.se
  obtain ⟨e2, hp2, hF2, _, _⟩ := rp9 hR1.1.1 hR1.1.2 (hTn hR1.2.1) hG1
  have hR2 : sk_R2 d e2 := R2_e hR1 hF2.q.se
  have hG2 : GE (d.1 39) e2 := fun g hg => by
    rw [hF2 82 0 g (by omega) (by omega) (by omega), hF2 80 0 g (by omega) (by omega) (by omega), hF2 81 0 g (by omega) (by omega) (by omega)]
    exact hG1 g hg
  obtain ⟨e3, hp3, hF3, _, _⟩ := rp9 hR2.1.1 hR2.1.2 (T := fun f' => if f' = f then (0 : Int32) else d.1 5 0 f') (hTs hR2.2.1 (show f < 8 by omega)) hG2
  have hR3 : sk_R2 d e3 := R2_e hR2 hF3.q.se
  have hQ : FQ e e3 := (hF1.q.tr hF2.q).tr hF3.q
  have x9 : q_X9_splitGain e (nI f) = some (nI (plc (d.1 37) (fun f' => if f' = f then (0 : Int32) else d.1 5 0 f') (su8 (d.1 37) (d.1 39)) (lv8d (d.1 37) (d.1 39)) (cpt (d.1 39))) - nI (plc (d.1 37) (d.1 5 0) (su8 (d.1 37) (d.1 39)) (lv8d (d.1 37) (d.1 39)) (cpt (d.1 39))), e3) := by
    unfold q_X9_splitGain q_X9_splitGain_0
    rw [h9, Option.bind_some, if_neg ne10, hp1, Option.bind_some, hp2, Option.bind_some, hp3, Option.bind_some]
  by_cases h0 : d.1 5 0 f = 0
  · have hT : (fun f' => if f' = f then (0 : Int32) else d.1 5 0 f') = d.1 5 0 := by
      funext f'
      by_cases q : f' = f
      · rw [if_pos q, q, h0]
      · rw [if_neg q]
    rw [hT, Int32.sub_self] at x9
    refine ⟨0, d, e3, ?_, x9, hR3, sk_F8.rf d, hQ.f9⟩
    unfold q_X8_splitGain q_X8_splitGain_0
    rw [h8, Option.bind_some, if_neg ne10, if_pos bf, ef, if_pos h0]
  · have h1 : d.1 5 0 f = 1 := by
      rcases (hR.2.1 f (by omega)).1 with h | h
      · exact absurd h h0
      · exact h
    obtain ⟨d1, ⟨hD, _, _⟩, hb⟩ := fb8 hR.1.1 hR.1.2 hR.2.2.1.1 hR.2.2.1.2.1
    have hRd : sk_R2 d1 e := R2_d hR hD.sd
    obtain ⟨k1, k2, k3, k4⟩ := w5_4 (f := f) (v := 0) hRd.1.1 hRd.1.2 hRd.2.2.1.1 hRd.2.2.1.2.1
    obtain ⟨d2, ⟨hD2, _, _⟩, hb2⟩ := fb8 k1 k2 k3 k4
    have a37 : (sk_wi d1 5 0 f 0).1 37 = d.1 37 := by
      funext k' f'
      exact (wi_o (by omega)).trans (hD 37 k' f' (by omega))
    have a39 : (sk_wi d1 5 0 f 0).1 39 = d.1 39 := by
      funext k' f'
      exact (wi_o (by omega)).trans (hD 39 k' f' (by omega))
    have a5 : (sk_wi d1 5 0 f 0).1 5 0 = fun f' => if f' = f then (0 : Int32) else d.1 5 0 f' := by
      funext f'
      by_cases q : f' = f
      · subst q
        rw [wi_e, if_pos rfl]
      · rw [wi_o (by omega), if_neg q]
        exact hD 5 0 f' (by omega)
    rw [a37, a39, a5] at hb2
    have hall : ∀ s k' f', ¬ (6 ≤ s ∧ s ≤ 18) → (sk_wi d2 5 0 f 1).1 s k' f' = d.1 s k' f' := fun s k' f' hs => by
      by_cases q : s = 5 ∧ k' = 0 ∧ f' = f
      · obtain ⟨rfl, rfl, rfl⟩ := q
        rw [wi_e, h1]
      · rw [wi_o q, hD2 s k' f' hs, wi_o q]
        exact hD s k' f' hs
    refine ⟨_, sk_wi d2 5 0 f 1, e3, ?_, x9, R2_d hR3 (FD.sd hall), FD.f8 hall, hQ.f9⟩
    have n0 : vp_nar .boolean (0 : Int32) = 0 := by decide
    have n1 : vp_nar .boolean (1 : Int32) = 1 := by decide
    unfold q_X8_splitGain q_X8_splitGain_0
    rw [h8, Option.bind_some, if_neg ne10, if_pos bf, ef, if_neg h0, hb, Option.bind_some, if_pos bf, n0]
    unfold q_X8_splitGain_63
    rw [hb2, Option.bind_some, if_pos bf, n1, ef]
