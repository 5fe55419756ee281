/-! bestStart *** by hand -/
theorem ne10 : ¬ (1 : Int32) = 0 := by decide
theorem px_bestStart (a b : Int32) (d e : sk_D) (hR : sk_R2 d e) : ∃ (r : Int32) (d' e' : sk_D), q_X8_bestStart d a b = some (r, d') ∧ q_X9_bestStart e a b = some (r, e') ∧ sk_R2 d' e' ∧ sk_F8 d d' ∧ sk_F9 e e' := by
  rcases hG hR.2.2.1.1 a with ⟨h8, h9⟩ | ⟨g, hg, rfl, h1, h8, h9⟩
  · exact ⟨-1, d, e, by simp only [q_X8_bestStart, q_X8_bestStart_0, h8, Option.bind_some, ↓reduceIte], by simp only [q_X9_bestStart, q_X9_bestStart_0, h9, Option.bind_some, ↓reduceIte], hR, sk_F8.rf d, sk_F9.rf e⟩
  rcases wi_cases b 1 180 1 180 rfl rfl (by omega) with ⟨g8, g9⟩ | ⟨M, hM1, hM, rfl, g8, g9⟩
  · exact ⟨-1, d, e, by simp only [q_X8_bestStart, q_X8_bestStart_0, h8, g8, i10, Option.bind_some, ↓reduceIte], by simp only [q_X9_bestStart, q_X9_bestStart_0, q_X9_isTime, q_X9_isTime_0, h9, g9, i10, nb0, Option.bind_some, ↓reduceIte], hR, sk_F8.rf d, sk_F9.rf e⟩
  have t8 := tp8 hR hg
  have t9 := tp9 hR hg
  cases ht : tpb d g with
  | false =>
    rw [ht] at t8 t9
    exact ⟨-2, d, e, by simp only [q_X8_bestStart, q_X8_bestStart_0, h8, g8, t8, bI_f, i10, Option.bind_some, ↓reduceIte], by simp only [q_X9_bestStart, q_X9_bestStart_0, q_X9_isTime, q_X9_isTime_0, h9, g9, t9, bI_f, i10, nb1, Option.bind_some, ↓reduceIte], hR, sk_F8.rf d, sk_F9.rf e⟩
  | true =>
    rw [ht, bI_t] at t8 t9
    have eg := nI_clamp (n := g) (by omega)
    have bg : sk_bi (nI g) 4 = true := bi_nI (by omega) (by omega)
    have st5 : ∀ h, h < 4 → prs d h ≠ 0 → ∃ s, s ≤ 60 ∧ d.1 39 h 5 = nI s ∧ e.1 58 0 h = nI s := by
      intro h hh hp
      have htp : tpb d h = true := by
        cases q : tpb d h with
        | true => rfl
        | false => exact absurd (prs_0.mpr q) hp
      obtain ⟨ho, _⟩ := tpb_o hR hh htp
      obtain ⟨_, _, _, _, ⟨s, hs, es⟩, _⟩ := (hR.2.2.1.2.1 h hh).2 ho
      exact ⟨s, by omega, es, (((hR.2.2.1.1 h hh).2.2.2.2 ho).2.2.2.2.1).trans es⟩
    -- one trial
    have trial : ∀ (t : Nat) (D E : sk_D), t ≤ 30 → (∀ s k f, s < 24 ∨ 34 < s → D.1 s k f = d.1 s k f) → (∀ h, h < 4 → D.1 24 0 h = nI (prs d h)) → (∀ s k f, s < 84 → ¬ (s = 58 ∧ k = 0 ∧ f = g) → E.1 s k f = e.1 s k f) →
        ∃ D' E' w, q_X6_run (sk_wi (bg8 D) 25 0 g (nI t)) ((sk_wi (bg8 D) 25 0 g (nI t)).1 0 0 9) (nI M) = some D' ∧ q_X9_goThrough (sk_wi E 58 0 g (nI t)) (nI M) = some E' ∧ (∀ s k f, s < 24 ∨ 34 < s → D'.1 s k f = d.1 s k f) ∧ (∀ h, h < 4 → D'.1 24 0 h = nI (prs d h)) ∧ (∀ s k f, s < 84 → ¬ (s = 58 ∧ k = 0 ∧ f = g) → E'.1 s k f = e.1 s k f) ∧ w ≤ 3780 ∧ D'.1 26 0 g = nI w ∧ E'.1 90 0 g = nI w := by
      intro t D E htt hD hD24 hE
      obtain ⟨b1, b2, b3⟩ := bg8_v D
      obtain ⟨r1, r2, r3, r4, r5⟩ := hR.2.2.1.1 g hg
      obtain ⟨p1, p2, p3, p4, p5, p6, p7⟩ := r5 h1
      obtain ⟨s1, s2, s3, s4, s5, s6⟩ := (hR.2.2.1.2.1 g hg).2 h1
      have c (s f : Nat) (hf : ¬ (s = 39 ∧ f = 5)) (k : Nat) : (sk_wi d 39 g 5 (nI t)).1 s k f = d.1 s k f := wi_o (by omega)
      have u (s f : Nat) (hs : ¬ (s = 58)) : (sk_wi e 58 0 g (nI t)).1 s 0 f = e.1 s 0 f := wi_o (by omega)
      have hRs0 : sk_R2 (sk_wi d 39 g 5 (nI t)) (sk_wi e 58 0 g (nI t)) := by
        refine R2_gr hR g (fun s k' f hs n => wi_o (by omega)) (fun s f hs n1 n2 => wi_o (by omega)) (fun _ => ?_) (fun _ => ?_) (.inr ⟨wi_o (by omega), h1⟩) (fun _ _ _ _ => (wi_o (by omega)).trans h1)
        · unfold rG1
          simp only [c 39 0 (by omega), c 39 1 (by omega), c 39 2 (by omega), c 39 3 (by omega), c 39 4 (by omega), c 39 6 (by omega), c 39 9 (by omega), c 39 10 (by omega), u 53 _ (by omega), u 54 _ (by omega), u 55 _ (by omega), u 56 _ (by omega), u 57 _ (by omega), u 59 _ (by omega), u 71 _ (by omega), u 72 _ (by omega), u 60 _ (by omega), u 61 _ (by omega), c 40 _ (by omega), c 41 _ (by omega), c 42 _ (by omega), c 0 _ (by omega)]
          exact ⟨r1, r2, r3, r4, fun _ => ⟨p1, p2, p3, p4, wi_e.trans wi_e.symm, p6, p7⟩⟩
        · unfold vG1
          simp only [c 39 0 (by omega), c 39 1 (by omega), c 39 2 (by omega), c 39 3 (by omega), c 39 4 (by omega), c 39 6 (by omega), c 39 9 (by omega), c 39 10 (by omega), c 40 _ (by omega), c 41 _ (by omega), c 42 _ (by omega), c 0 _ (by omega)]
          exact ⟨fun h => absurd (h1.symm.trans h) (by decide), fun _ => ⟨s1, s2, s3, s4, ⟨t, by omega, wi_e⟩, s6⟩⟩
      have hEs : ∀ s k f, s < 84 → (sk_wi E 58 0 g (nI t)).1 s k f = (sk_wi e 58 0 g (nI t)).1 s k f := by
        intro s k f hs
        by_cases q : s = 58 ∧ k = 0 ∧ f = g
        · obtain ⟨rfl, rfl, rfl⟩ := q
          rw [wi_e, wi_e]
        · rw [wi_o q, wi_o q]
          exact hE s k f hs q
      have hRs : sk_R2 (sk_wi d 39 g 5 (nI t)) (sk_wi E 58 0 g (nI t)) := R2_e hRs0 ⟨fun s h1 h2 => by
        funext k f
        exact hEs s k f (by omega), fun f _ => hEs 44 0 f (by omega)⟩
      have ss (h : Nat) := sites_same (d := d) (d' := sk_wi d 39 g 5 (nI t)) (fun k f => wi_o (by omega)) (fun k f hf => wi_o (by omega)) h
      obtain ⟨D', E', q1, q2, q3, q4, q5, q6⟩ := whole_run (D := sk_wi (bg8 D) 25 0 g (nI t)) hR hRs hM (fun h => if h = g then t else (d.1 39 h 5).toNatClampNeg) (fun h hh hp => by
          by_cases eh : h = g
          · subst eh
            rw [if_pos rfl, wi_e, wi_e]
            exact ⟨by omega, rfl, rfl⟩
          · obtain ⟨s, hs, e1, e2⟩ := st5 h hh hp
            have cc : (d.1 39 h 5).toNatClampNeg = s := by rw [e1, nI_clamp (by omega)]
            rw [if_neg eh, wi_o (by omega), wi_o (by omega), (b1 h hh).1, hD 39 h 5 (by omega), cc, hE 58 0 h (by omega) (by omega)]
            exact ⟨hs, e1, e2⟩) (fun h => ⟨(ss h).2.2, (ss h).1⟩) (fun s k f h58 hs => by
          rw [wi_o (by omega)]
          exact hE s k f hs (by omega)) (fun h hh => by
          obtain ⟨_, v2, v3, v4, v5⟩ := b1 h hh
          rw [wi_o (by omega), wi_o (by omega), wi_o (by omega), wi_o (by omega), wi_o (by omega), b3 24 0 h (by omega)]
          exact ⟨hD24 h hh, v2, v3, v4, v5⟩) (fun l hl => by
          rw [wi_o (by omega), wi_o (by omega), wi_o (by omega)]
          exact b2 l hl) (fun s k f hs => by
          rw [wi_o (by omega), b3 s k f (by omega)]
          exact hD s k f hs)
      obtain ⟨z1, _, _, w, z4, z5⟩ := q5 g hg
      refine ⟨D', E', w, q1, q2, fun s k f hs => ?_, fun h hh => ?_, fun s k f hs hn => ?_, z4, z5, z1.trans z5⟩
      · rw [q3 s k f (by omega), wi_o (by omega), b3 s k f (by omega)]
        exact hD s k f hs
      · rw [q3 24 0 h (by omega), wi_o (by omega), b3 24 0 h (by omega)]
        exact hD24 h hh
      · rw [q4 s k f hs, wi_o hn]
        exact hE s k f hs hn
    have it1 : q_X9_isTime e (nI M) = some 1 := by
      unfold q_X9_isTime q_X9_isTime_0
      rw [g9, Option.bind_some, if_pos nb1]
    have hhd : q_X9_bestStart e (nI g) (nI M) = l_X9_bestStart_44 sk_fu (e, nI g, nI M, e.1 58 0 g, (0 : Int32), (-1 : Int32), (0 : Int32)) := by
      unfold q_X9_bestStart q_X9_bestStart_0
      rw [h9, Option.bind_some, if_neg ne10, it1, Option.bind_some, if_neg ne10, t9, Option.bind_some, if_neg ne10, if_pos bg, eg]
    have hhd8 : q_X8_bestStart d (nI g) (nI M) = l_X8_bestStart_45 sk_fu (cp8 d 4, nI g, nI M, (0 : Int32), (-9 : Int32), (0 : Int32)) := by
      unfold q_X8_bestStart q_X8_bestStart_0
      rw [h8, Option.bind_some, if_neg ne10, g8, Option.bind_some, if_neg ne10, t8, Option.bind_some, if_neg ne10, count8 hR, Option.bind_some]
    have key := it_pr0 (F := fun rec a => q_X8_bestStart_45 rec a.1 a.2.1 a.2.2.1 a.2.2.2.1 a.2.2.2.2.1 a.2.2.2.2.2) (F' := fun rec a => q_X9_bestStart_44 rec a.1 a.2.1 a.2.2.1 a.2.2.2.1 a.2.2.2.2.1 a.2.2.2.2.2.1 a.2.2.2.2.2.2) (fun x => some x) (fun x => some x)
      (fun j a a' => ∃ D E best l8 l9, j ≤ 31 ∧ a = (D, nI g, nI M, best, l8, nI j) ∧ a' = (E, nI g, nI M, e.1 58 0 g, best, l9, nI j) ∧ ((l8 = -9 ∧ l9 = -1) ∨ ∃ w, w ≤ 3780 ∧ l8 = nI w ∧ l9 = nI w) ∧ (∀ s k f, s < 24 ∨ 34 < s → D.1 s k f = d.1 s k f) ∧ (∀ h, h < 4 → D.1 24 0 h = nI (prs d h)) ∧ (∀ s k f, s < 84 → ¬ (s = 58 ∧ k = 0 ∧ f = g) → E.1 s k f = e.1 s k f))
      (fun x x' => x.1 = x'.1 ∧ (∀ s k f, s < 24 ∨ 34 < s → x.2.1 s k f = d.1 s k f) ∧ ∀ s k f, s < 84 → x'.2.1 s k f = e.1 s k f) 31 (by
        rintro j a a' ⟨D, E, best, l8, l9, hj, rfl, rfl, hl, hD, hD24, hE⟩
        by_cases c : j = 31
        · subst c
          left
          have l : (30 : Int32) < nI 31 := by decide
          refine ⟨(best, D), (best, sk_wi E 58 0 g (e.1 58 0 g)), ⟨rfl, hD, fun s k f hs => ?_⟩, fun rec => ?_, fun rec => ?_⟩
          · by_cases q : s = 58 ∧ k = 0 ∧ f = g
            · obtain ⟨rfl, rfl, rfl⟩ := q
              exact wi_e
            · exact (wi_o q).trans (hE s k f hs q)
          · show q_X8_bestStart_45 rec D (nI g) (nI M) best l8 (nI 31) = _
            simp only [q_X8_bestStart_45, l, ↓reduceIte]
          · show q_X9_bestStart_44 rec E (nI g) (nI M) (e.1 58 0 g) best l9 (nI 31) = _
            simp only [q_X9_bestStart_44, l, bg, eg, ↓reduceIte]
        · right
          refine ⟨by omega, ?_⟩
          have hlt : ¬ (30 : Int32) < nI j := by
            rw [show (30 : Int32) = nI 30 from rfl, nI_ltI (by omega) (by omega)]
            omega
          obtain ⟨D', E', w, q1, q2, q3, q4, q5, q6, q7, q8⟩ := trial j D E (by omega) hD hD24 hE
          rcases hl with ⟨rfl, rfl⟩ | ⟨v, hv, rfl, rfl⟩
          · refine ⟨(D', nI g, nI M, nI j, nI w, nI (j + 1)), (E', nI g, nI M, e.1 58 0 g, nI j, nI w, nI (j + 1)), ⟨D', E', nI j, nI w, nI w, by omega, rfl, rfl, .inr ⟨w, q6, rfl, rfl⟩, q3, q4, q5⟩, fun rec => ?_, fun rec => ?_⟩
            · show q_X8_bestStart_45 rec D (nI g) (nI M) best (-9) (nI j) = _
              simp only [q_X8_bestStart_45, q_X8_bestStart_87, q_X8_bestStart_115, q_X8_bestStart_129, hlt, begin8, bg, eg, q1, q7, s1_nI, Option.bind_some, ↓reduceIte]
            · show q_X9_bestStart_44 rec E (nI g) (nI M) (e.1 58 0 g) best (-1) (nI j) = _
              have n1 : ((-1 : Int32) < 0) = True := eq_true (by decide)
              simp only [q_X9_bestStart_44, q_X9_bestStart_61, q_X9_bestStart_80, q_X9_bestStart_85, q_X9_bestStart_99, q_X9_bestStart_117, hlt, bg, eg, q2, n1, i10, q8, s1_nI, Option.bind_some, ↓reduceIte]
          · have n9 := nm_nI (j := v) (by omega)
            have n0 := nI_pos (n := v) (by omega)
            by_cases hc : v ≤ w
            · have hle : nI v ≤ nI w := nI_le hc (by omega)
              refine ⟨(D', nI g, nI M, best, nI v, nI (j + 1)), (E', nI g, nI M, e.1 58 0 g, best, nI v, nI (j + 1)), ⟨D', E', best, nI v, nI v, by omega, rfl, rfl, .inr ⟨v, hv, rfl, rfl⟩, q3, q4, q5⟩, fun rec => ?_, fun rec => ?_⟩
              · show q_X8_bestStart_45 rec D (nI g) (nI M) best (nI v) (nI j) = _
                simp only [q_X8_bestStart_45, q_X8_bestStart_87, q_X8_bestStart_115, q_X8_bestStart_129, hlt, begin8, bg, eg, q1, q7, n9, hle, s1_nI, Option.bind_some, ↓reduceIte]
              · show q_X9_bestStart_44 rec E (nI g) (nI M) (e.1 58 0 g) best (nI v) (nI j) = _
                simp only [q_X9_bestStart_44, q_X9_bestStart_61, q_X9_bestStart_80, q_X9_bestStart_85, q_X9_bestStart_99, q_X9_bestStart_117, hlt, bg, eg, q2, n0, q8, hle, s1_nI, Option.bind_some, ↓reduceIte]
            · have hle : ¬ nI v ≤ nI w := nI_ge (by omega) (by omega)
              refine ⟨(D', nI g, nI M, nI j, nI w, nI (j + 1)), (E', nI g, nI M, e.1 58 0 g, nI j, nI w, nI (j + 1)), ⟨D', E', nI j, nI w, nI w, by omega, rfl, rfl, .inr ⟨w, q6, rfl, rfl⟩, q3, q4, q5⟩, fun rec => ?_, fun rec => ?_⟩
              · show q_X8_bestStart_45 rec D (nI g) (nI M) best (nI v) (nI j) = _
                simp only [q_X8_bestStart_45, q_X8_bestStart_87, q_X8_bestStart_115, q_X8_bestStart_129, hlt, begin8, bg, eg, q1, q7, n9, hle, s1_nI, Option.bind_some, ↓reduceIte]
              · show q_X9_bestStart_44 rec E (nI g) (nI M) (e.1 58 0 g) best (nI v) (nI j) = _
                simp only [q_X9_bestStart_44, q_X9_bestStart_61, q_X9_bestStart_80, q_X9_bestStart_85, q_X9_bestStart_99, q_X9_bestStart_117, hlt, bg, eg, q2, n0, i10, q8, hle, s1_nI, Option.bind_some, ↓reduceIte]) (by omega) (cp8 d 4, nI g, nI M, (0 : Int32), (-9 : Int32), (0 : Int32)) (e, nI g, nI M, e.1 58 0 g, (0 : Int32), (-1 : Int32), (0 : Int32))
      ⟨cp8 d 4, e, 0, -9, -1, by omega, rfl, rfl, .inl ⟨rfl, rfl⟩, fun s k f hs => cp8_o d 4 s k f (by omega), fun h hh => cp8_g d 4 h hh, fun _ _ _ _ _ => rfl⟩
    obtain ⟨x, x', ⟨k1, k2, k3⟩, k4, k5⟩ := key
    refine ⟨x.1, x.2, x'.2, ?_, ?_, ?_, ?_, ?_⟩
    · rw [hhd8]
      exact k4
    · rw [hhd, k1]
      exact k5
    · refine R2_d (R2_e hR ⟨fun s h1 h2 => ?_, fun f _ => k3 44 0 f (by omega)⟩) (sd8.ne (fun s k f hs => k2 s k f (by omega)))
      funext k f
      exact k3 s k f (by omega)
    · intro s hs
      funext k f
      exact k2 s k f (by omega)
    · intro s hs
      funext k f
      exact k3 s k f (by omega)
