/-! THE PLANNER: the class's best plan over its units *** by hand -/
theorem dv32 : ∀ p, p < 21 → ∀ o, o < 21 → o ≤ p → (nI (32 * p - o) + (32 : Int32) - (1 : Int32)) / (32 : Int32) = nI p := by decide +kernel
def FB (d d' : sk_D) : Prop := ∀ s k f, s ≠ 11 → s ≠ 15 → s ≠ 16 → s ≠ 17 → d'.1 s k f = d.1 s k f
theorem fb54 {d : sk_D} {U : Nat} {h : Nat → Nat} {x : Nat → Nat → Bool} {o : Nat → Nat → Nat} (hU : UC d U h x o) {s : Nat → Nat} (hs : ∀ g, g < 4 → d.1 13 0 g = nI (s g) ∧ d.1 14 0 g = nI (stg s g) ∧ s g ≤ 6) (hN : d.1 6 0 1 = nI (stg s 4)) (hT : TB h x o U s d U) :
    ∃ d', (FB d d' ∧ ∀ v, v < U → d'.1 11 0 v = nv (gv h x o U s v)) ∧ l_X3_findBest_59 sk_fu (d, nI U - 1) = some (nI (bs h x o U 0 s).1, d') := by
  have hU20 := hU.1
  have h7 : stg s 4 ≤ 7 ^ 4 := (stg_b (fun g hg => (hs g hg).2.2) 4 (Nat.le_refl _)).2
  have h74 : 7 ^ 4 = 2401 := by decide
  have hfull := en_full s 4
  have main := it_cn (ι := Unit) (F := fun _ rec54 a => q_X3_findBest_59 rec54 a.1 a.2) (fun _ r => some r) (fun j a => ∃ d', a = (d', nI (U - j) - 1) ∧ FC d d' ∧ TB h x o U s d' (U - j)) (fun r => ∃ d', r = (nI (bs h x o U 0 s).1, d') ∧ FB d d' ∧ ∀ v, v < U → d'.1 11 0 v = nv (gv h x o U s v)) U (fun j a hj hp => ?_) (fun a hp => ?_) (by omega) (d, nI U - 1) ⟨d, rfl, FC.rf d, hT⟩
  · obtain ⟨r, ⟨d', rfl, h1, h2⟩, h3⟩ := main
    exact ⟨d', ⟨h1, h2⟩, h3 ()⟩
  · obtain ⟨d', rfl, hF, hT'⟩ := hp
    obtain ⟨u, hu⟩ : ∃ u, U - j = u + 1 := ⟨U - j - 1, by omega⟩
    rw [hu] at hT' ⊢
    obtain ⟨d2, ⟨hF2, hT2⟩, hr⟩ := cf8 (hU.fc hF) (s := s) (fun g hg => ⟨(hF 13 0 g (by omega) (by omega) (by omega)).trans (hs g hg).1, (hF 14 0 g (by omega) (by omega) (by omega)).trans (hs g hg).2.1, (hs g hg).2.2⟩) ((hF 6 0 1 (by omega) (by omega) (by omega)).trans hN) (m := j) (u := u) (by omega) hT'
    refine ⟨(d2, nI (U - (j + 1)) - 1), ⟨d2, rfl, hF.tr hF2, ?_⟩, fun _ rec => ?_⟩
    · rw [show U - (j + 1) = u by omega]
      exact hT2
    · show q_X3_findBest_59 rec d' (nI (u + 1) - 1) = _
      rw [nI_pred]
      unfold q_X3_findBest_59
      rw [if_neg (nI_pos (by omega)), hr, Option.bind_some, show U - (j + 1) = u by omega, Int32.sub_eq_add_neg]
  · obtain ⟨d', rfl, hF, hT'⟩ := hp
    rw [Nat.sub_self] at hT' ⊢
    obtain ⟨d2, ⟨hF2, hv⟩, hr⟩ := fl8 (hU.fc hF) (s := s) (fun g hg => ⟨(hF 14 0 g (by omega) (by omega) (by omega)).trans (hs g hg).2.1, (hs g hg).2.2⟩) ((hF 6 0 1 (by omega) (by omega) (by omega)).trans hN) hT'
    refine ⟨_, ⟨d2, rfl, fun s k f a1 a2 a3 a4 => (hF2 s k f a1).trans (hF s k f a2 a3 a4), hv⟩, fun _ rec => ?_⟩
    have a6 : d2.1 6 0 1 - 1 = nI (en s s 4) := by
      rw [hF2 6 0 1 (by omega), hF 6 0 1 (by omega) (by omega) (by omega), hN, ← hfull, nI_pred]
    have bst : sk_bi (nI (en s s 4)) 2401 = true := bi_nI (by omega) (by omega)
    have est := nI_clamp (n := en s s 4) (by omega)
    have hv17 := (hT' s (fun g _ => Nat.le_refl _)).1
    have hb := bs_bd (x := x) hU.2.2.2.1 U 0 s
    have hb2 := hU.2.2.2.2 U 0 rfl
    show q_X3_findBest_59 rec d' (nI 0 - 1) = _
    unfold q_X3_findBest_59
    rw [if_pos (show nI 0 - 1 < (0 : Int32) by decide), hr, Option.bind_some, a6, if_pos bst, est, hF2 17 0 _ (by omega), hv17, Nat.sub_zero]
    unfold kw
    rw [dv32 _ (by omega) _ (by omega) hb.1]
theorem fb15 {d : sk_D} {U : Nat} {h : Nat → Nat} {x : Nat → Nat → Bool} {o : Nat → Nat → Nat} (hU : UC d U h x o) {s : Nat → Nat} (hs : ∀ g, g < 4 → d.1 13 0 g = nI (s g) ∧ d.1 14 0 g = nI (stg s g) ∧ s g ≤ 6) (hN : d.1 6 0 1 = nI (stg s 4)) :
    ∃ d', (FB d d' ∧ ∀ v, v < U → d'.1 11 0 v = nv (gv h x o U s v)) ∧ l_X3_findBest_15 sk_fu (d, 0) = some (nI (bs h x o U 0 s).1, d') := by
  have hU20 := hU.1
  have h7 : stg s 4 ≤ 7 ^ 4 := (stg_b (fun g hg => (hs g hg).2.2) 4 (Nat.le_refl _)).2
  have h74 : 7 ^ 4 = 2401 := by decide
  have main := it_cn (ι := Unit) (F := fun _ rec15 a => q_X3_findBest_15 rec15 a.1 a.2) (fun _ d' => l_X3_findBest_59 sk_fu (d', nI U - 1)) (fun j a => ∃ d', a = (d', nI j) ∧ (∀ s k f, s ≠ 17 → d'.1 s k f = d.1 s k f) ∧ ∀ st, st < j → d'.1 17 0 st = 0 ∧ d'.2 18 0 st = 0) (fun d' => (∀ s k f, s ≠ 17 → d'.1 s k f = d.1 s k f) ∧ ∀ st, st < stg s 4 → d'.1 17 0 st = 0 ∧ d'.2 18 0 st = 0) (stg s 4) (fun j a hj hp => ?_) (fun a hp => ?_) (by omega) (d, 0) ⟨d, rfl, fun _ _ _ _ => rfl, fun st hst => absurd hst (Nat.not_lt_zero st)⟩
  · obtain ⟨d1, ⟨hF, hz⟩, h1⟩ := main
    have hU1 : UC d1 U h x o := hU.mv (hF 6 0 0 (by omega)) (fun f => hF 8 0 f (by omega)) (fun k f => hF 10 k f (by omega))
    obtain ⟨d2, ⟨hF2, hv⟩, h2⟩ := fb54 hU1 (s := s) (fun g hg => ⟨(hF 13 0 g (by omega)).trans (hs g hg).1, (hF 14 0 g (by omega)).trans (hs g hg).2.1, (hs g hg).2.2⟩) ((hF 6 0 1 (by omega)).trans hN) (fun c hc => by
      obtain ⟨z1, z2⟩ := hz _ (en_lt hc)
      rw [z1, z2]
      refine ⟨?_, fun v' a b => absurd a (by omega), fun v' _ => fld_0 v'⟩
      rw [Nat.sub_self]
      rfl)
    exact ⟨d2, ⟨fun s k f a1 a2 a3 a4 => (hF2 s k f a1 a2 a3 a4).trans (hF s k f a4), hv⟩, (h1 ()).trans h2⟩
  · obtain ⟨d', rfl, hF, hz⟩ := hp
    have bj : sk_bi (nI j) 2401 = true := bi_nI (by omega) (by omega)
    have ej := nI_clamp (n := j) (by omega)
    refine ⟨_, ⟨sk_wl (sk_wi d' 17 0 j 0) 18 0 j 0, rfl, fun s k f hs => (ww_o (by omega)).trans (hF s k f hs), fun st hst => ?_⟩, fun _ rec => ?_⟩
    · by_cases e : st = j
      · subst e
        exact ⟨wi_e (d := d') (s := 17) (k := 0), wl_e⟩
      · obtain ⟨z1, z2⟩ := hz st (by omega)
        exact ⟨(ww_o (by omega)).trans z1, (wl_o (by omega)).trans z2⟩
    · show q_X3_findBest_15 rec d' (nI j) = _
      unfold q_X3_findBest_15
      rw [hF 6 0 1 (by omega), hN, if_neg (nI_ge hj (by omega)), if_pos bj, if_pos bj, ej, nI_1]
  · obtain ⟨d', rfl, hF, hz⟩ := hp
    refine ⟨d', ⟨hF, hz⟩, fun _ rec => ?_⟩
    show q_X3_findBest_15 rec d' (nI (stg s 4)) = _
    unfold q_X3_findBest_15
    rw [hF 6 0 1 (by omega), hN, if_pos (nI_le (Nat.le_refl _) (by omega)), hF 6 0 0 (by omega), hU.2.1, if_neg (show ¬ (20 : Int32) < nI U from nI_nlt (a := 20) (by omega) (by omega))]
