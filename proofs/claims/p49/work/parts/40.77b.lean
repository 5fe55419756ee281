/-! THE PLANNER: assign *** by hand -/
theorem gof8 {d : sk_D} {k v : Nat} (hk : k < 20) (hv : v < 20) (h7 : d.1 7 0 k = nI v) : q_X3_groupOf d (nI k) = some (d.1 11 0 v) := by
  have w1 := (wi_in k (a := nI k) (lo := 0) (hi := 19) 0 19 rfl rfl rfl (by omega) (by omega) (by omega)).1 d
  have w2 := (wi_in v (a := nI v) (lo := 0) (hi := 19) 0 19 rfl rfl rfl (by omega) (by omega) (by omega)).1 d
  have bk : sk_bi (nI k) 20 = true := bi_nI (by omega) (by omega)
  have bv : sk_bi (nI v) 20 = true := bi_nI (by omega) (by omega)
  have ek := nI_clamp (n := k) (by omega)
  have ev := nI_clamp (n := v) (by omega)
  unfold q_X3_groupOf q_X3_groupOf_0
  rw [w1, Option.bind_some, if_neg ne10, if_pos bk, ek, h7]
  unfold q_X3_groupOf_21
  rw [isu8 hv, Option.bind_some, if_neg ne10, if_pos bv, ev]
theorem as8 {d e : sk_D} (hP : rP d e) (R : Int32) {y : Nat → Int32} (hy : ∀ k, k < 20 → pp (d.1 37) k = true → ∃ v, v < 20 ∧ d.1 7 0 k = nI v ∧ d.1 11 0 v = y k) :
    ∃ d', ((∀ s k f, ¬ (s = 37 ∧ f = 4) → d'.1 s k f = d.1 s k f) ∧ ∀ k, k < 20 → pp (d.1 37) k = true → d'.1 37 k 4 = y k) ∧ l_X8_assign_22 sk_fu (d, R, 0) = some (R, d') := by
  have main := it_cn (ι := Unit) (F := fun _ rec22 a => q_X8_assign_22 rec22 a.1 a.2.1 a.2.2) (fun _ d' => some (R, d')) (fun n a => ∃ d', a = (d', R, nI n) ∧ (∀ s k f, ¬ (s = 37 ∧ f = 4) → d'.1 s k f = d.1 s k f) ∧ ∀ k, k < n → pp (d.1 37) k = true → d'.1 37 k 4 = y k) (fun d' => (∀ s k f, ¬ (s = 37 ∧ f = 4) → d'.1 s k f = d.1 s k f) ∧ ∀ k, k < 20 → pp (d.1 37) k = true → d'.1 37 k 4 = y k) 20 (fun n a hn hp => ?_) (fun a hp => ?_) (by omega) (d, R, 0) ⟨d, rfl, fun _ _ _ _ => rfl, fun k hk => absurd hk (Nat.not_lt_zero k)⟩
  · obtain ⟨d', h1, h2⟩ := main
    exact ⟨d', h1, h2 ()⟩
  · obtain ⟨d', rfl, hF, hv⟩ := hp
    have l1 : ¬ (20 : Int32) ≤ nI n := le_nI (n := 20) rfl hn (by omega)
    have bn : sk_bi (nI n) 20 = true := bi_nI (by omega) (by omega)
    have en := nI_clamp (n := n) (by omega)
    by_cases hpr : pp (d.1 37) n = true
    · have h0 : ¬ d.1 37 n 0 = 0 := by
        have h1 : d.1 37 n 0 = 1 := of_decide_eq_true hpr
        rw [h1]
        decide
      obtain ⟨v, v1, v2, v3⟩ := hy n hn hpr
      have hg := gof8 (d := d') hn v1 ((hF 7 0 n (by omega)).trans v2)
      rw [hF 11 0 v (by omega), v3] at hg
      refine ⟨_, ⟨sk_wi d' 37 n 4 (y n), rfl, fun s k f hs => (wi_o (by omega)).trans (hF s k f hs), fun k hk hpk => ?_⟩, fun _ rec => ?_⟩
      · by_cases q : k = n
        · subst q
          exact wi_e
        · rw [wi_o (by omega)]
          exact hv k (by omega) hpk
      · show q_X8_assign_22 rec d' R (nI n) = _
        unfold q_X8_assign_22
        rw [if_neg l1, if_pos bn, en, hF 37 n 0 (by omega), if_neg h0, if_pos bn, hg, Option.bind_some]
        unfold q_X8_assign_57
        rw [nI_1]
    · have h0 : d.1 37 n 0 = 0 := by
        rcases (hP n hn).1 with h | h
        · exact h
        · exact absurd (decide_eq_true h) hpr
      refine ⟨_, ⟨d', rfl, hF, fun k hk hpk => ?_⟩, fun _ rec => ?_⟩
      · by_cases q : k = n
        · subst q
          exact absurd hpk hpr
        · exact hv k (by omega) hpk
      · show q_X8_assign_22 rec d' R (nI n) = _
        unfold q_X8_assign_22
        rw [if_neg l1, if_pos bn, en, hF 37 n 0 (by omega), if_pos h0]
        unfold q_X8_assign_57
        rw [nI_1]
  · obtain ⟨d', rfl, hF, hv⟩ := hp
    refine ⟨d', ⟨hF, hv⟩, fun _ rec => ?_⟩
    show q_X8_assign_22 rec d' R (nI 20) = _
    unfold q_X8_assign_22
    rw [if_pos (show (20 : Int32) ≤ nI 20 by decide)]
