/-! THE PLANNER: the class follows its choices *** by hand -/
theorem pc_le (h : Nat → Nat) (x : Nat → Nat → Bool) (o : Nat → Nat → Nat) (U : Nat) (cap : Nat → Nat) (g : Nat) : ∀ u, pc h x o U cap u g ≤ cap g
  | 0 => Nat.le_refl _
  | u + 1 => by
    have ih := pc_le h x o U cap g u
    rw [pc_s]
    split
    · exact ih
    · unfold rd
      split
      · omega
      · exact ih
theorem wi_0 (d : sk_D) : q_X8_within d (nI 0) 1 4 = some 0 := by
  unfold q_X8_within q_X8_within_0
  rw [if_pos (by decide)]
theorem mx_0 (r : Nat) (hr : r < 2 ^ 31) : (if (0 : Int32) < nI r then nI r else 0) = nI r := by
  by_cases e : r = 0
  · subst e
    rfl
  · have : (0 : Int32) < nI r := nI_lt (a := 0) (by omega) hr
    rw [if_pos this]
theorem fl8 {d : sk_D} {U : Nat} {h : Nat → Nat} {x : Nat → Nat → Bool} {o : Nat → Nat → Nat} (hU : UC d U h x o) {s : Nat → Nat} (hs : ∀ g, g < 4 → d.1 14 0 g = nI (stg s g) ∧ s g ≤ 6) (hN : d.1 6 0 1 = nI (stg s 4)) (hT : TB h x o U s d 0) :
    ∃ d', ((∀ s k f, s ≠ 11 → d'.1 s k f = d.1 s k f) ∧ ∀ v, v < U → d'.1 11 0 v = nv (gv h x o U s v)) ∧ q_X3_followChoices d = some d' := by
  have hU20 := hU.1
  have h7 : stg s 4 ≤ 7 ^ 4 := (stg_b (fun g hg => (hs g hg).2) 4 (Nat.le_refl _)).2
  have h74 : 7 ^ 4 = 2401 := by decide
  have hpc : ∀ u g, g < 4 → pc h x o U s u g ≤ s g := fun u g _ => pc_le h x o U s g u
  have hfull := en_full s 4
  have h0 : nI (stg s 4) - 1 = nI (en s (pc h x o U s 0) 4) := by
    rw [← hfull, nI_pred]
    rfl
  have main := it_cn (ι := Unit) (F := fun _ rec9 a => q_X3_followChoices_9 rec9 a.1 a.2.1 a.2.2) (fun _ d' => some d') (fun u a => ∃ d', a = (d', nI (en s (pc h x o U s u) 4), nI u) ∧ (∀ s k f, s ≠ 11 → d'.1 s k f = d.1 s k f) ∧ d'.2 = d.2 ∧ ∀ v, v < u → d'.1 11 0 v = nv (gv h x o U s v)) (fun d' => (∀ s k f, s ≠ 11 → d'.1 s k f = d.1 s k f) ∧ ∀ v, v < U → d'.1 11 0 v = nv (gv h x o U s v)) U (fun u a hu hp => ?_) (fun a hp => ?_) (by omega) (d, nI (stg s 4) - 1, 0) ⟨d, by rw [h0]; rfl, fun _ _ _ _ => rfl, rfl, fun v hv => absurd hv (Nat.not_lt_zero v)⟩
  · obtain ⟨d', h1, h2⟩ := main
    refine ⟨d', h1, ?_⟩
    unfold q_X3_followChoices q_X3_followChoices_0
    rw [hN]
    exact h2 ()
  · obtain ⟨d', rfl, hF, h2, hv⟩ := hp
    have hlt := en_lt (s := s) (c := pc h x o U s u) (n := 4) (hpc u)
    have bst : sk_bi (nI (en s (pc h x o U s u) 4)) 2401 = true := bi_nI (by omega) (by omega)
    have est := nI_clamp (n := en s (pc h x o U s u) 4) (by omega)
    have bu : sk_bi (nI u) 20 = true := bi_nI (by omega) (by omega)
    have eu := nI_clamp (n := u) (by omega)
    have ef : (((((d'.2 18 0 (en s (pc h x o U s u) 4)).toUInt64 >>> (((3 : Int32) * nI u).toInt64.toUInt64 &&& Int64.toUInt64 63)).toInt64).toInt32 &&& (7 : Int32))) = nI (gv h x o U s u) := by
      rw [h2]
      exact (hT _ (hpc u)).2.1 u (Nat.zero_le _) hu
    have hgv : gv h x o U s u < 5 := fds_5 h x o (U - u - 1) u _
    have hps := pc_s h x o U s u
    have e9 : ∀ rec : (sk_D × Int32 × Int32) → Option sk_D, q_X3_followChoices_9 rec d' (nI (en s (pc h x o U s u) 4)) (nI u) = q_X3_followChoices_49 rec (sk_wi d' 11 0 u (-9)) (nI (en s (pc h x o U s u) 4)) (nI u) (nI (gv h x o U s u)) (nI (gv h x o U s u)) := fun rec => by
      unfold q_X3_followChoices_9
      rw [hF 6 0 0 (by omega), hU.2.1, if_neg (nI_ge hu (by omega)), if_neg (show ¬ (20 : Int32) ≤ nI u from le_nI (n := 20) rfl (by omega) (by omega)), if_pos bst, if_pos bu, est, eu, ef]
    rcases gv_ok (h := h) (x := x) (o := o) (U := U) (cap := s) (u := u) with g0 | ⟨g, hg4, g1, g2⟩
    · rw [if_pos g0] at hps
      refine ⟨_, ⟨sk_wi d' 11 0 u (-9), rfl, fun s k f hs => (wi_o (by omega)).trans (hF s k f hs), h2, fun v hvu => ?_⟩, fun _ rec => ?_⟩
      · by_cases e : v = u
        · subst e
          rw [wi_e, g0]
          rfl
        · rw [wi_o (by omega)]
          exact hv v (by omega)
      · show q_X3_followChoices_9 rec d' (nI (en s (pc h x o U s u) 4)) (nI u) = _
        rw [e9, g0, hps]
        unfold q_X3_followChoices_49 q_X3_followChoices_86
        rw [wi_0, Option.bind_some, if_pos rfl, nI_1]
    · have hn : ¬ gv h x o U s u = 0 := by omega
      obtain ⟨hx, hle⟩ := okc.le g2
      rw [if_neg hn, g1, Nat.add_sub_cancel] at hps
      have hen := en_rd (s := s) hle hg4
      have bg : sk_bi (nI g) 4 = true := bi_nI (by omega) (by omega)
      have eg := nI_clamp (n := g) (by omega)
      refine ⟨_, ⟨sk_wi (sk_wi d' 11 0 u (-9)) 11 0 u (nI g), rfl, fun s k f hs => (wi_o (by omega)).trans ((wi_o (by omega)).trans (hF s k f hs)), h2, fun v hvu => ?_⟩, fun _ rec => ?_⟩
      · by_cases e : v = u
        · subst e
          rw [wi_e, g1]
          unfold nv
          rw [if_neg (by omega), Nat.add_sub_cancel]
        · rw [wi_o (by omega), wi_o (by omega)]
          exact hv v (by omega)
      · show q_X3_followChoices_9 rec d' (nI (en s (pc h x o U s u) 4)) (nI u) = _
        have a8 : (sk_wi (sk_wi d' 11 0 u (-9)) 11 0 u (nI g)).1 8 0 u = nI (h u) := by
          rw [wi_o (by omega), wi_o (by omega), hF 8 0 u (by omega)]
          exact (hU.2.2.1 u hu).1
        have a14 : (sk_wi (sk_wi d' 11 0 u (-9)) 11 0 u (nI g)).1 14 0 g = nI (stg s g) := by
          rw [wi_o (by omega), wi_o (by omega), hF 14 0 g (by omega)]
          exact (hs g hg4).1
        have ew := (wi_in (g + 1) (a := nI (g + 1)) (lo := 1) (hi := 4) 1 4 rfl rfl rfl (by omega) (by omega) (by omega)).1
        have er : nI (en s (pc h x o U s u) 4) - nI (h u) * nI (stg s g) = nI (en s (rd (pc h x o U s u) g (h u)) 4) := by
          rw [pk_mul, pk_sub (by omega)]
          exact congrArg nI (by omega)
        rw [e9, g1, hps]
        unfold q_X3_followChoices_49
        rw [ew, Option.bind_some, if_neg ne10, if_pos bu, eu, nI_pred]
        unfold q_X3_followChoices_71 q_X3_followChoices_86
        rw [if_pos bu, nI_pred, if_pos bg, eu, eg, a8, a14, er, mx_0 _ (by omega), nI_1]
  · obtain ⟨d', rfl, hF, h2, hv⟩ := hp
    refine ⟨d', ⟨hF, hv⟩, fun _ rec => ?_⟩
    show q_X3_followChoices_9 rec d' (nI (en s (pc h x o U s U) 4)) (nI U) = _
    unfold q_X3_followChoices_9
    rw [hF 6 0 0 (by omega), hU.2.1, if_pos (nI_le (Nat.le_refl _) (by omega))]
