/-! THE PLANNER: the reference's units, inner loops *** by hand -/
def FR (e e' : sk_D) (u : Nat) : Prop := ∀ s k f, ¬ (s = 78 ∧ k = 0 ∧ 4 * u ≤ f ∧ f < 4 * u + 4) → e'.1 s k f = e.1 s k f
theorem f199 {e : sk_D} (P : Nat → Nat → Int32) (T : Nat → Int32) (su lv : Nat → Nat → Bool) {n u : Nat} (hn : n < 20) (hu : u < 20) (hi : inu P T u n = true) (hs : ∀ g, g < 4 → suf e n (e.1 80 0 g) (e.1 81 0 g) = su n g) (hl : ∀ g, g < 4 → decide (¬ e.1 46 0 n = e.1 80 0 g) = lv n g) (h78 : ∀ g, g < 4 → e.1 78 0 (4 * u + g) = vl9 P T su lv n u g) (v1 : Int32) :
    ∃ e', (FR e e' u ∧ ∀ g, g < 4 → e'.1 78 0 (4 * u + g) = vl9 P T su lv (n + 1) u g) ∧ ∀ r7, l_X9_findUnits_199 r7 sk_fu (e, v1, nI n, nI u, 0) = q_X9_findUnits_225 r7 e' v1 (nI n) := by
  refine it_cn (F := fun r7 rec199 a => q_X9_findUnits_199 r7 rec199 a.1 a.2.1 a.2.2.1 a.2.2.2.1 a.2.2.2.2) (fun r7 e' => q_X9_findUnits_225 r7 e' v1 (nI n)) (fun j a => ∃ e', a = (e', v1, nI n, nI u, nI j) ∧ FR e e' u ∧ (∀ g, g < 4 → e'.1 78 0 (4 * u + g) = if g < j then vl9 P T su lv (n + 1) u g else vl9 P T su lv n u g)) (fun e' => FR e e' u ∧ ∀ g, g < 4 → e'.1 78 0 (4 * u + g) = vl9 P T su lv (n + 1) u g) 4 (fun j a hj hP => ?_) (fun a hP => ?_) (by omega) (e, v1, nI n, nI u, 0) ⟨e, rfl, fun _ _ _ _ => rfl, fun g hg => by rw [if_neg (Nat.not_lt_zero g)]; exact h78 g hg⟩
  · obtain ⟨e', rfl, hF, hv⟩ := hP
    have l4 : ¬ (4 : Int32) ≤ nI j := le_nI (n := 4) rfl hj (by omega)
    have e46 : ∀ f, e'.1 46 0 f = e.1 46 0 f := fun f => hF 46 0 f (by omega)
    have e80 : ∀ f, e'.1 80 0 f = e.1 80 0 f := fun f => hF 80 0 f (by omega)
    have e81 : ∀ f, e'.1 81 0 f = e.1 81 0 f := fun f => hF 81 0 f (by omega)
    have hsj : suf e' n (e'.1 80 0 j) (e'.1 81 0 j) = su n j := by
      rw [e80, e81, suf_mv e46 (fun f => hF 47 0 f (by omega))]
      exact hs j hj
    have hlj : decide (¬ e'.1 46 0 n = e'.1 80 0 j) = lv n j := by
      rw [← hl j hj, e46, e80]
    have hvj := hv j hj
    rw [if_neg (Nat.lt_irrefl j)] at hvj
    refine ⟨_, ⟨sk_wi e' 78 0 (4 * u + j) (vl9 P T su lv (n + 1) u j), rfl, fun s k f hs' => ?_, fun g hg => ?_⟩, fun r7 rec => ?_⟩
    · rw [wi_o (by omega)]
      exact hF s k f hs'
    · by_cases q : g = j
      · subst q
        rw [wi_e, if_pos (by omega)]
      · rw [wi_o (by omega), hv g hg]
        by_cases q2 : g < j
        · rw [if_pos q2, if_pos (by omega)]
        · rw [if_neg q2, if_neg (by omega)]
    · show q_X9_findUnits_199 r7 rec e' v1 (nI n) (nI u) (nI j) = _
      unfold q_X9_findUnits_199
      rw [if_neg l4, x4_nI, ad9 e' hn hj (by omega), Option.bind_some, hsj, hlj, hvj, ← vl9_s hn hi, nI_1]
  · obtain ⟨e', rfl, hF, hv⟩ := hP
    refine ⟨e', ⟨hF, fun g hg => ?_⟩, fun r7 rec => ?_⟩
    · rw [hv g hg, if_pos hg]
    · show q_X9_findUnits_199 r7 rec e' v1 (nI n) (nI u) (nI 4) = _
      unfold q_X9_findUnits_199
      rw [if_pos (show (4 : Int32) ≤ nI 4 by decide)]
theorem f140 {e : sk_D} {U : Nat} (hU : U < 20) (h37 : e.1 44 0 37 = nI U) (v1 vn v5 : Int32) :
    ∃ e', (FR e e' U ∧ ∀ g, g < 4 → e'.1 78 0 (4 * U + g) = 0) ∧ ∀ r7, l_X9_findUnits_140 r7 sk_fu (e, v1, vn, v5, 0) = q_X9_findUnits_177 r7 (sk_wi e' 44 0 37 (nI (U + 1))) v1 vn v5 := by
  refine it_cn (F := fun r7 rec140 a => q_X9_findUnits_140 r7 rec140 a.1 a.2.1 a.2.2.1 a.2.2.2.1 a.2.2.2.2) (fun r7 e' => q_X9_findUnits_177 r7 (sk_wi e' 44 0 37 (nI (U + 1))) v1 vn v5) (fun j a => ∃ e', a = (e', v1, vn, v5, nI j) ∧ FR e e' U ∧ (∀ g, g < j → e'.1 78 0 (4 * U + g) = 0)) (fun e' => FR e e' U ∧ ∀ g, g < 4 → e'.1 78 0 (4 * U + g) = 0) 4 (fun j a hj hP => ?_) (fun a hP => ?_) (by omega) (e, v1, vn, v5, 0) ⟨e, rfl, fun _ _ _ _ => rfl, fun g hg => absurd hg (Nat.not_lt_zero g)⟩
  · obtain ⟨e', rfl, hF, hv⟩ := hP
    have l4 : ¬ (4 : Int32) ≤ nI j := le_nI (n := 4) rfl hj (by omega)
    have e37 : e'.1 44 0 37 = nI U := (hF 44 0 37 (by omega)).trans h37
    have b1 : sk_bi (nI (4 * U + j)) 80 = true := bi_nI (by omega) (by omega)
    have c1 := nI_clamp (n := 4 * U + j) (by omega)
    refine ⟨_, ⟨sk_wi e' 78 0 (4 * U + j) 0, rfl, fun s k f hs' => ?_, fun g hg => ?_⟩, fun r7 rec => ?_⟩
    · rw [wi_o (by omega)]
      exact hF s k f hs'
    · by_cases q : g = j
      · subst q
        exact wi_e
      · rw [wi_o (by omega)]
        exact hv g (by omega)
    · show q_X9_findUnits_140 r7 rec e' v1 vn v5 (nI j) = _
      unfold q_X9_findUnits_140
      rw [if_neg l4, e37, x4_nI, if_pos b1, c1, nI_1]
  · obtain ⟨e', rfl, hF, hv⟩ := hP
    refine ⟨e', ⟨hF, hv⟩, fun r7 rec => ?_⟩
    show q_X9_findUnits_140 r7 rec e' v1 vn v5 (nI 4) = _
    unfold q_X9_findUnits_140
    rw [if_pos (show (4 : Int32) ≤ nI 4 by decide), (hF 44 0 37 (by omega)).trans h37, nI_1]
/-- the members of a family before are of one unit -/
theorem uo_eq {P : Nat → Nat → Int32} {T : Nat → Int32} {n j : Nat} (ht : tk P T n = true) (hj : j < n) (hs : sf P n j = true) : uo P T j = uo P T n ∧ ix (sf P n) n ≤ j := by
  have hd : ldr P T n = ix (sf P n) n := if_pos ht
  have h3 : P j 3 = P n 3 := by
    unfold sf at hs
    rw [Bool.and_eq_true, decide_eq_true_eq] at hs
    exact hs.2
  have htj : tk P T j = true := by
    have : tk P T j = tk P T n := by
      unfold tk
      rw [h3]
    rw [this]
    exact ht
  have hsf : sf P j = sf P n := by
    funext i
    unfold sf
    rw [h3]
  have hdj : ldr P T j = ix (sf P n) j := by
    rw [← hsf]
    exact if_pos htj
  rcases ix_or (sf P n) n with ⟨h1, h2, h4⟩ | ⟨_, h4⟩
  · have hle : ix (sf P n) n ≤ j := by
      rcases Nat.lt_or_ge j (ix (sf P n) n) with q | q
      · have := h4 j q
        rw [hs] at this
        cases this
      · exact q
    refine ⟨?_, hle⟩
    unfold uo
    rw [hd, hdj]
    rcases Nat.lt_or_eq_of_le hle with q | q
    · rw [ix_of q h2 h4]
    · rcases ix_or (sf P n) j with ⟨g1, g2, _⟩ | ⟨g1, _⟩
      · have := h4 _ (Nat.lt_of_lt_of_eq g1 q.symm)
        rw [g2] at this
        cases this
      · rw [g1, q]
  · have := h4 j hj
    rw [hs] at this
    cases this
