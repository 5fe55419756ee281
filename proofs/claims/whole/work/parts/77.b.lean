/-! THE PLANNER: assign *** by hand -/
theorem gof8 {d : sk_D} {k v : Nat} (hk : k < 20) (hv : v < 20) (h7 : d.1 7 0 k = nI v) : q_X3_groupOf d (nI k) = some (d.1 11 0 v) := by
  have w1 := (wi_in k (a := nI k) (lo := 0) (hi := 19) 0 19 rfl rfl rfl (by omega) (by omega) (by omega)).1 d
  have w2 := (wi_in v (a := nI v) (lo := 0) (hi := 19) 0 19 rfl rfl rfl (by omega) (by omega) (by omega)).1 d
  have bk : sk_bi (nI k) 20 = true := bi_nI (by omega) (by omega)
  have bv : sk_bi (nI v) 20 = true := bi_nI (by omega) (by omega)
  have ek := nI_clamp (n := k) (by omega)
  have ev := nI_clamp (n := v) (by omega)
  unfold q_X3_groupOf q_X3_groupOf_0
  rw [w1, Option.bind_some, if_neg ne10, if_pos bk, ek, h7]
  unfold q_X3_groupOf_21
  rw [isu8 hv, Option.bind_some, if_neg ne10, if_pos bv, ev]
theorem as8 {d e : sk_D} (hP : rP d e) (R : Int32) {y : Nat → Int32} (hy : ∀ k, k < 20 → pp (d.1 37) k = true → ∃ v, v < 20 ∧ d.1 7 0 k = nI v ∧ d.1 11 0 v = y k) :
    ∃ d', ((∀ s k f, ¬ (s = 37 ∧ f = 4) → d'.1 s k f = d.1 s k f) ∧ ∀ k, k < 20 → pp (d.1 37) k = true → d'.1 37 k 4 = y k) ∧ l_X8_assign_22 sk_fu (d, R, 0) = some (R, d') := by
  have main := it_cn (ι := Unit) (F := fun _ rec22 a => q_X8_assign_22 rec22 a.1 a.2.1 a.2.2) (fun _ d' => some (R, d')) (fun n a => ∃ d', a = (d', R, nI n) ∧ (∀ s k f, ¬ (s = 37 ∧ f = 4) → d'.1 s k f = d.1 s k f) ∧ ∀ k, k < n → pp (d.1 37) k = true → d'.1 37 k 4 = y k) (fun d' => (∀ s k f, ¬ (s = 37 ∧ f = 4) → d'.1 s k f = d.1 s k f) ∧ ∀ k, k < 20 → pp (d.1 37) k = true → d'.1 37 k 4 = y k) 20 (fun n a hn hp => ?_) (fun a hp => ?_) (by omega) (d, R, 0) ⟨d, rfl, fun _ _ _ _ => rfl, fun k hk => absurd hk (Nat.not_lt_zero k)⟩
  · obtain ⟨d', h1, h2⟩ := main
    exact ⟨d', h1, h2 ()⟩
  · obtain ⟨d', rfl, hF, hv⟩ := hp
    have l1 : ¬ (20 : Int32) ≤ nI n := le_nI (n := 20) rfl hn (by omega)
    have bn : sk_bi (nI n) 20 = true := bi_nI (by omega) (by omega)
    have en := nI_clamp (n := n) (by omega)
    by_cases hpr : pp (d.1 37) n = true
    · have h0 : ¬ d.1 37 n 0 = 0 := by
        have h1 : d.1 37 n 0 = 1 := of_decide_eq_true hpr
        rw [h1]
        decide
      obtain ⟨v, v1, v2, v3⟩ := hy n hn hpr
      have hg := gof8 (d := d') hn v1 ((hF 7 0 n (by omega)).trans v2)
      rw [hF 11 0 v (by omega), v3] at hg
      refine ⟨_, ⟨sk_wi d' 37 n 4 (y n), rfl, fun s k f hs => (wi_o (by omega)).trans (hF s k f hs), fun k hk hpk => ?_⟩, fun _ rec => ?_⟩
      · by_cases q : k = n
        · subst q
          exact wi_e
        · rw [wi_o (by omega)]
          exact hv k (by omega) hpk
      · show q_X8_assign_22 rec d' R (nI n) = _
        unfold q_X8_assign_22
        rw [if_neg l1, if_pos bn, en, hF 37 n 0 (by omega), if_neg h0, if_pos bn, hg, Option.bind_some]
        unfold q_X8_assign_57
        rw [nI_1]
    · have h0 : d.1 37 n 0 = 0 := by
        rcases (hP n hn).1 with h | h
        · exact h
        · exact absurd (decide_eq_true h) hpr
      refine ⟨_, ⟨d', rfl, hF, fun k hk hpk => ?_⟩, fun _ rec => ?_⟩
      · by_cases q : k = n
        · subst q
          exact absurd hpk hpr
        · exact hv k (by omega) hpk
      · show q_X8_assign_22 rec d' R (nI n) = _
        unfold q_X8_assign_22
        rw [if_neg l1, if_pos bn, en, hF 37 n 0 (by omega), if_pos h0]
        unfold q_X8_assign_57
        rw [nI_1]
  · obtain ⟨d', rfl, hF, hv⟩ := hp
    refine ⟨d', ⟨hF, hv⟩, fun _ rec => ?_⟩
    show q_X8_assign_22 rec d' R (nI 20) = _
    unfold q_X8_assign_22
    rw [if_pos (show (20 : Int32) ≤ nI 20 by decide)]
theorem as9 {d e : sk_D} (hP : rP d e) (R : Int32) {y : Nat → Int32} (hy : ∀ k, k < 20 → pp (d.1 37) k = true → ∃ v, v < 20 ∧ e.1 77 0 k = nI v ∧ e.1 83 0 v = y k) :
    ∃ e', ((∀ s k f, s ≠ 49 → e'.1 s k f = e.1 s k f) ∧ ∀ k, k < 20 → pp (d.1 37) k = true → e'.1 49 0 k = y k) ∧ l_X9_assign_13 sk_fu (e, R, 0) = some (R, e') := by
  have main := it_cn (ι := Unit) (F := fun _ rec13 a => q_X9_assign_13 rec13 a.1 a.2.1 a.2.2) (fun _ e' => some (R, e')) (fun n a => ∃ e', a = (e', R, nI n) ∧ (∀ s k f, s ≠ 49 → e'.1 s k f = e.1 s k f) ∧ ∀ k, k < n → pp (d.1 37) k = true → e'.1 49 0 k = y k) (fun e' => (∀ s k f, s ≠ 49 → e'.1 s k f = e.1 s k f) ∧ ∀ k, k < 20 → pp (d.1 37) k = true → e'.1 49 0 k = y k) 20 (fun n a hn hp => ?_) (fun a hp => ?_) (by omega) (e, R, 0) ⟨e, rfl, fun _ _ _ _ => rfl, fun k hk => absurd hk (Nat.not_lt_zero k)⟩
  · obtain ⟨e', h1, h2⟩ := main
    exact ⟨e', h1, h2 ()⟩
  · obtain ⟨e', rfl, hF, hv⟩ := hp
    have l1 : ¬ (20 : Int32) ≤ nI n := le_nI (n := 20) rfl hn (by omega)
    have bn : sk_bi (nI n) 20 = true := bi_nI (by omega) (by omega)
    have en := nI_clamp (n := n) (by omega)
    have e45 : e'.1 45 0 n = d.1 37 n 0 := (hF 45 0 n (by omega)).trans (hP n hn).2.1
    have e50 : ∀ (rec : (sk_D × Int32 × Int32) → Option (Int32 × sk_D)) (w : Int32), q_X9_assign_50 rec e' R (nI n) (nI n) w = rec (sk_wi e' 49 0 n w, R, nI (n + 1)) := fun rec w => by
      unfold q_X9_assign_50
      rw [if_pos bn, en, nI_1]
    by_cases hpr : pp (d.1 37) n = true
    · have h1 : d.1 37 n 0 = 1 := of_decide_eq_true hpr
      obtain ⟨v, v1, v2, v3⟩ := hy n hn hpr
      have bv : sk_bi (nI v) 20 = true := bi_nI (by omega) (by omega)
      have ev := nI_clamp (n := v) (by omega)
      refine ⟨_, ⟨sk_wi e' 49 0 n (y n), rfl, fun s k f hs => (wi_o (by omega)).trans (hF s k f hs), fun k hk hpk => ?_⟩, fun _ rec => ?_⟩
      · by_cases q : k = n
        · subst q
          exact wi_e
        · rw [wi_o (by omega)]
          exact hv k (by omega) hpk
      · show q_X9_assign_13 rec e' R (nI n) = _
        unfold q_X9_assign_13
        rw [if_neg l1, if_pos bn, en, e45, if_pos h1, if_pos bn, hF 77 0 n (by omega), v2, if_pos bv, ev, hF 83 0 v (by omega), v3, e50]
    · have h1 : ¬ d.1 37 n 0 = 1 := fun z => hpr (decide_eq_true z)
      refine ⟨_, ⟨sk_wi e' 49 0 n (-9), rfl, fun s k f hs => (wi_o (by omega)).trans (hF s k f hs), fun k hk hpk => ?_⟩, fun _ rec => ?_⟩
      · by_cases q : k = n
        · subst q
          exact absurd hpk hpr
        · rw [wi_o (by omega)]
          exact hv k (by omega) hpk
      · show q_X9_assign_13 rec e' R (nI n) = _
        unfold q_X9_assign_13
        rw [if_neg l1, if_pos bn, en, e45, if_neg h1, e50]
  · obtain ⟨e', rfl, hF, hv⟩ := hp
    refine ⟨e', ⟨hF, hv⟩, fun _ rec => ?_⟩
    show q_X9_assign_13 rec e' R (nI 20) = _
    unfold q_X9_assign_13
    rw [if_pos (show (20 : Int32) ≤ nI 20 by decide)]
theorem px_assign (d e : sk_D) (hR : sk_R2 d e) : ∃ (r : Int32) (d' e' : sk_D), q_X8_assign d = some (r, d') ∧ q_X9_assign e = some (r, e') ∧ sk_R2 d' e' ∧ sk_F8 d d' ∧ sk_F9 e e' := by
  obtain ⟨d1, ⟨hD, h7, h11⟩, hb⟩ := fb8 hR.1.1 hR.1.2 hR.2.2.1.1 hR.2.2.1.2.1
  obtain ⟨e1, hp1, hF1, hG1⟩ := gp9 hR.2.2.1.1 hR.2.2.1.2.1
  have hR1 : sk_R2 d e1 := R2_e hR hF1.q.se
  obtain ⟨e2, hp2, hF2, h77, h83⟩ := rp9 hR1.1.1 hR1.1.2 (hTn hR1.2.1) hG1
  have hR2 : sk_R2 d e2 := R2_e hR1 hF2.q.se
  have hR3 : sk_R2 d1 e2 := R2_d hR2 hD.sd
  have a37 : d1.1 37 = d.1 37 := by
    funext k f
    exact hD 37 k f (by omega)
  have hun := un_le (d.1 37) (d.1 5 0) 20
  have hlt : ∀ k, k < 20 → pp (d.1 37) k = true → uo (d.1 37) (d.1 5 0) k < un (d.1 37) (d.1 5 0) 20 := fun k hk hp => uo_lt hp hk
  obtain ⟨d2, ⟨hD2, hd4⟩, hl8⟩ := as8 (d := d1) (e := e2) hR3.1.1 (nI (plc (d.1 37) (d.1 5 0) (su8 (d.1 37) (d.1 39)) (lv8d (d.1 37) (d.1 39)) (cpt (d.1 39)))) (y := fun k => nv (plg (d.1 37) (d.1 5 0) (su8 (d.1 37) (d.1 39)) (lv8d (d.1 37) (d.1 39)) (cpt (d.1 39)) (uo (d.1 37) (d.1 5 0) k))) (fun k hk hp => by
    rw [a37] at hp
    have := hlt k hk hp
    exact ⟨uo (d.1 37) (d.1 5 0) k, by omega, by rw [h7 k hk, if_pos hp], h11 _ this⟩)
  obtain ⟨e3, ⟨hE3, he49⟩, hl9⟩ := as9 (d := d1) (e := e2) hR3.1.1 (nI (plc (d.1 37) (d.1 5 0) (su8 (d.1 37) (d.1 39)) (lv8d (d.1 37) (d.1 39)) (cpt (d.1 39)))) (y := fun k => nv (plg (d.1 37) (d.1 5 0) (su8 (d.1 37) (d.1 39)) (lv8d (d.1 37) (d.1 39)) (cpt (d.1 39)) (uo (d.1 37) (d.1 5 0) k))) (fun k hk hp => by
    rw [a37] at hp
    have := hlt k hk hp
    exact ⟨uo (d.1 37) (d.1 5 0) k, by omega, h77 k hk hp, h83 _ this⟩)
  refine ⟨nI (plc (d.1 37) (d.1 5 0) (su8 (d.1 37) (d.1 39)) (lv8d (d.1 37) (d.1 39)) (cpt (d.1 39))), d2, e3, ?_, ?_, R2_grp hR3 (fun s k f _ hs => hD2 s k f hs) (fun s f _ hs => hE3 s 0 f hs) (fun k hk hp => ?_), ?_, ?_⟩
  · unfold q_X8_assign q_X8_assign_0
    rw [hb, Option.bind_some]
    exact hl8
  · unfold q_X9_assign q_X9_assign_0
    rw [hp1, Option.bind_some, hp2, Option.bind_some]
    exact hl9
  · have hpp : pp (d1.1 37) k = true := decide_eq_true hp
    rw [he49 k hk hpp, hd4 k hk hpp]
    refine ⟨rfl, ?_⟩
    rw [a37] at hpp
    have hu := hlt k hk hpp
    rcases gv_ok (h := hdn (d.1 37) (d.1 5 0) 20) (x := pxx (d.1 37) (d.1 5 0) (su8 (d.1 37) (d.1 39))) (o := ocn (d.1 37) (d.1 5 0) (lv8d (d.1 37) (d.1 39)) 20) (U := un (d.1 37) (d.1 5 0) 20) (cap := cpt (d.1 39)) (u := uo (d.1 37) (d.1 5 0) k) with g0 | ⟨g, hg4, g1, g2⟩
    · left
      have g0 : plg (d.1 37) (d.1 5 0) (su8 (d.1 37) (d.1 39)) (lv8d (d.1 37) (d.1 39)) (cpt (d.1 39)) (uo (d.1 37) (d.1 5 0) k) = 0 := g0
      rw [g0]
      rfl
    · right
      have g1 : plg (d.1 37) (d.1 5 0) (su8 (d.1 37) (d.1 39)) (lv8d (d.1 37) (d.1 39)) (cpt (d.1 39)) (uo (d.1 37) (d.1 5 0) k) = g + 1 := g1
      refine ⟨g, hg4, ?_, ?_⟩
      · rw [g1]
        unfold nv
        rw [if_neg (by omega), Nat.add_sub_cancel]
      · have hle := (okc.le g2).2
        have hpc := pc_le (hdn (d.1 37) (d.1 5 0) 20) (pxx (d.1 37) (d.1 5 0) (su8 (d.1 37) (d.1 39))) (ocn (d.1 37) (d.1 5 0) (lv8d (d.1 37) (d.1 39)) 20) (un (d.1 37) (d.1 5 0) 20) (cpt (d.1 39)) g (uo (d.1 37) (d.1 5 0) k)
        have hpos : 1 ≤ hdn (d.1 37) (d.1 5 0) 20 (uo (d.1 37) (d.1 5 0) k) := hdn_pos hu
        rw [hD 39 g 0 (by omega)]
        rcases (hR.2.2.1.1 g hg4).1 with r | r
        · have := cpt_z r
          omega
        · exact r
  · exact hD.f8.tr (fun s hs => by
      funext k f
      exact hD2 s k f (by omega))
  · exact (hF1.q.tr hF2.q).f9.tr (fun s hs => by
      funext k f
      exact hE3 s k f (by omega))
