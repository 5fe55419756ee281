/-! THE PLANNER: the class's units, all pupils *** by hand -/
theorem GI.w7 {P : Nat → Nat → Int32} {T : Nat → Int32} {su lv : Nat → Nat → Bool} {n N m : Nat} {d d' : sk_D} (hI : GI P T su lv n N m d d') (v : Int32) : GI P T su lv n N m d (sk_wi d' 7 0 n v) := by
  obtain ⟨hF, h6, h7, hW, h8⟩ := hI
  exact ⟨fun s k f a1 a2 a3 a4 a5 => (wi_o (by omega)).trans (hF s k f a1 a2 a3 a4 a5), (wi_o (by omega)).trans h6, fun k hk => (wi_o (by omega)).trans (h7 k hk), fun f hf ht => (wi_o (by omega)).trans (hW f hf ht), fun u hu => ⟨(wi_o (by omega)).trans (h8 u hu).1, fun g hg => (wi_o (by omega)).trans ((h8 u hu).2 g hg)⟩⟩
theorem ga8 {d e : sk_D} (hP : rP d e) (hV : vP d) : ∃ d', GI (d.1 37) (d.1 5 0) (su8 (d.1 37) (d.1 39)) (lv8d (d.1 37) (d.1 39)) 20 (un (d.1 37) (d.1 5 0) 20) 20 d d' ∧ q_X3_gatherUnits d = some d' := by
  have main := it_cn (ι := Unit) (F := fun _ rec17 a => q_X3_gatherUnits_17 rec17 a.1 a.2) (fun _ d' => some d') (fun n a => ∃ d', a = (d', nI n) ∧ GI (d.1 37) (d.1 5 0) (su8 (d.1 37) (d.1 39)) (lv8d (d.1 37) (d.1 39)) n (un (d.1 37) (d.1 5 0) n) n d d') (fun d' => GI (d.1 37) (d.1 5 0) (su8 (d.1 37) (d.1 39)) (lv8d (d.1 37) (d.1 39)) 20 (un (d.1 37) (d.1 5 0) 20) 20 d d') 20 (fun n a hn hp => ?_) (fun a hp => ?_) (by omega) (sk_fi (sk_wi d 6 0 0 0) 12 0 8 (-9), 0) ⟨_, rfl, fun s k f a1 a2 a3 a4 a5 => (fi_o (by omega)).trans (wi_o (by omega)), (fi_o (by omega)).trans wi_e, fun k hk => absurd hk (Nat.not_lt_zero k), fun f hf ht => (fi_e hf).trans (if_neg (Nat.not_lt_zero _)).symm, fun u hu => absurd hu (Nat.not_lt_zero u)⟩
  · obtain ⟨d', h1, h2⟩ := main
    exact ⟨d', h1, h2 ()⟩
  · obtain ⟨d', rfl, hI⟩ := hp
    have l1 : ¬ (20 : Int32) ≤ nI n := le_nI (n := 20) rfl hn (by omega)
    have bn : sk_bi (nI n) 20 = true := bi_nI (by omega) (by omega)
    have en := nI_clamp (n := n) (by omega)
    have hI7 := hI.w7 (-9)
    have o37 : ∀ f, (sk_wi d' 7 0 n (-9)).1 37 n f = d.1 37 n f := fun f => hI7.1 37 n f (by omega) (by omega) (by omega) (by omega) (by omega)
    by_cases hpr : d.1 37 n 0 = 1
    · have hp : pp (d.1 37) n = true := decide_eq_true hpr
      have h3 : d.1 37 n 3 = -9 ∨ ∃ f, f < 8 ∧ d.1 37 n 3 = nI f := by
        rcases (hV n hn hpr).2.2.1 with h | ⟨f, h1, h2⟩
        · exact .inl h
        · exact .inr ⟨f, h1, h2⟩
      obtain ⟨d2, hI2, hu⟩ := uf8 hn (fun _ _ => rfl) hI7 hp h3
      have hI3 := hI2.w7 (nI (uo (d.1 37) (d.1 5 0) n))
      have hlt : uo (d.1 37) (d.1 5 0) n < un (d.1 37) (d.1 5 0) (n + 1) := uo_lt hp (by omega)
      have hun := un_le (d.1 37) (d.1 5 0) (n + 1)
      have hi : inu (d.1 37) (d.1 5 0) (uo (d.1 37) (d.1 5 0) n) n = true := inu_iff.mpr ⟨hp, rfl⟩
      have e37 : (sk_wi d2 7 0 n (nI (uo (d.1 37) (d.1 5 0) n))).1 37 = d.1 37 := by
        funext k f
        exact hI3.1 37 k f (by omega) (by omega) (by omega) (by omega) (by omega)
      have e39 : (sk_wi d2 7 0 n (nI (uo (d.1 37) (d.1 5 0) n))).1 39 = d.1 39 := by
        funext k f
        exact hI3.1 39 k f (by omega) (by omega) (by omega) (by omega) (by omega)
      obtain ⟨a1, a2⟩ := hI3.2.2.2.2 _ hlt
      have st := g8a (d := sk_wi d2 7 0 n (nI (uo (d.1 37) (d.1 5 0) n))) (T := d.1 5 0) hn (u := uo (d.1 37) (d.1 5 0) n) (by omega) (by rw [e37]; exact hi) (by rw [e37]; exact a1) (by rw [e37, e39]; exact a2)
      rw [e37, e39] at st
      obtain ⟨d3, ⟨hK, b1, b2⟩, hr⟩ := st
      refine ⟨(d3, nI (n + 1)), ⟨d3, rfl, fun s k f c1 c2 c3 c4 c5 => (hK s k f (by omega) (by omega)).trans (hI3.1 s k f c1 c2 c3 c4 c5), (hK 6 0 0 (by omega) (by omega)).trans hI3.2.1, fun k hk => ?_, fun f hf ht => (hK 12 0 f (by omega) (by omega)).trans (hI3.2.2.2.1 f hf ht), fun u hu => ?_⟩, fun _ rec => ?_⟩
      · rw [hK 7 0 k (by omega) (by omega)]
        by_cases q : k = n
        · subst q
          rw [wi_e, if_pos hp]
        · exact hI3.2.2.1 k (by omega)
      · by_cases q : u = uo (d.1 37) (d.1 5 0) n
        · subst q
          exact ⟨b1, b2⟩
        · have hi2 : inu (d.1 37) (d.1 5 0) u n = false := by
            cases h : inu (d.1 37) (d.1 5 0) u n
            · rfl
            · exact absurd (inu_iff.mp h).2.symm q
          obtain ⟨c1, c2⟩ := hI3.2.2.2.2 u hu
          refine ⟨?_, fun g hg => ?_⟩
          · rw [hdn_o hi2, hK 8 0 u (by omega) (by omega)]
            exact c1
          · rw [vl8_o hi2, hK 10 u g (by omega) (by omega)]
            exact c2 g hg
      · show q_X3_gatherUnits_17 rec d' (nI n) = _
        unfold q_X3_gatherUnits_17
        rw [if_neg l1, if_pos bn, if_pos bn, en]
        unfold q_X3_gatherUnits_37
        rw [o37, if_neg (show ¬ d.1 37 n 0 = 0 by rw [hpr]; decide), if_pos bn, en, o37, hu, Option.bind_some, if_pos bn]
        unfold q_X3_gatherUnits_69
        rw [if_pos bn, if_pos bn, en, wi_e, hr, Option.bind_some]
        unfold q_X3_gatherUnits_78
        rw [nI_1]
    · have h0 : d.1 37 n 0 = 0 := by
        rcases (hP n hn).1 with h | h
        · exact h
        · exact absurd h hpr
      have hp : pp (d.1 37) n = false := decide_eq_false hpr
      have hN : nw (d.1 37) (d.1 5 0) n = false := by
        unfold nw
        rw [hp, Bool.false_and]
      have hi : ∀ u, inu (d.1 37) (d.1 5 0) u n = false := fun u => by
        unfold inu
        rw [hp, Bool.false_and]
      have h1 : un (d.1 37) (d.1 5 0) (n + 1) = un (d.1 37) (d.1 5 0) n := by
        show kn (nw (d.1 37) (d.1 5 0)) (n + 1) = _
        rw [kn_sc, hN, if_neg (by decide)]
        rfl
      refine ⟨(sk_wi d' 7 0 n (-9), nI (n + 1)), ⟨_, rfl, hI7.1, ?_, fun k hk => ?_, sff_up hI7.2.2.2.1 (fun f _ _ hs => ?_), fun u hu => ⟨?_, fun g hg => ?_⟩⟩, fun _ rec => ?_⟩
      · rw [h1]
        exact hI7.2.1
      · by_cases q : k = n
        · subst q
          rw [wi_e, hp, if_neg (by decide)]
        · exact hI7.2.2.1 k (by omega)
      · unfold sff at hs
        rw [hp, Bool.false_and] at hs
        cases hs
      · rw [h1] at hu
        rw [hdn_o (hi u)]
        exact (hI7.2.2.2.2 u hu).1
      · rw [h1] at hu
        rw [vl8_o (hi u)]
        exact (hI7.2.2.2.2 u hu).2 g hg
      · show q_X3_gatherUnits_17 rec d' (nI n) = _
        unfold q_X3_gatherUnits_17
        rw [if_neg l1, if_pos bn, if_pos bn, en]
        unfold q_X3_gatherUnits_37 q_X3_gatherUnits_78
        rw [o37, if_pos h0, nI_1]
  · obtain ⟨d', rfl, hI⟩ := hp
    refine ⟨d', hI, fun _ rec => ?_⟩
    show q_X3_gatherUnits_17 rec d' (nI 20) = _
    unfold q_X3_gatherUnits_17
    rw [if_pos (show (20 : Int32) ≤ nI 20 by decide)]
