/-! THE LAW's lifts, all of it *** by hand -/
section LP
variable {d : sk_D} {X x : sk_X} {n m t np : Nat} {Pf Gf : Nat → Int32} {c : Nat → Nat}
theorem lf35 (hS : S3 X x) (hn : n ≤ 3) (h9 : d.1 0 0 9 = 0) {L : Nat} (hL : L ≤ 260) (xs : Nat → Int32) (x0 pe : Nat) (v2 : Int32) :
    ∃ r : sk_D × sk_X, (S3 X r.2 ∧ (∀ l, l < n → r.2.2.2 X.1 (3 * l) = nI (se0 L xs l) ∧ r.2.2.2 X.1 (3 * l + 1) = nI (iv0 L xs l) ∧ r.2.2.2 X.1 (3 * l + 2) = nI (ri0 L xs l)) ∧ (∀ k i, k ≠ X.1 → r.2.2.2 k i = x.2.2 k i) ∧ r.1.1 0 0 9 = nI n ∧ (∀ l, l < n → r.1.1 43 l 0 = nI (se0 L xs l) ∧ r.1.1 43 l 1 = nI (iv0 L xs l) ∧ r.1.1 43 l 2 = nI (ri0 L xs l)) ∧ ∀ s k f, ¬ (s = 0 ∧ k = 0 ∧ f = 9) → ¬ (s = 43 ∧ f < 3) → r.1.1 s k f = d.1 s k f) ∧
    l_L_lifts_35 L xs x0 sk_fu (d, x, v2, pe, nI n, X.1, X.1 + 1, X.1 + 2, 0) = l_L_lifts_153 L xs x0 sk_fu (r.1, r.2, v2, pe, nI n, X.1, X.1 + 1, X.1 + 2, 0) := by
  have main := it_cn (ι := Unit) (F := fun _ rec35 a => q_L_lifts_35 rec35 L xs x0 a.1 a.2.1 a.2.2.1 a.2.2.2.1 a.2.2.2.2.1 a.2.2.2.2.2.1 a.2.2.2.2.2.2.1 a.2.2.2.2.2.2.2.1 a.2.2.2.2.2.2.2.2)
    (fun _ (r : sk_D × sk_X) => l_L_lifts_153 L xs x0 sk_fu (r.1, r.2, v2, pe, nI n, X.1, X.1 + 1, X.1 + 2, 0))
    (fun l a => ∃ D x', a = (D, x', v2, pe, nI n, X.1, X.1 + 1, X.1 + 2, nI l) ∧ S3 X x' ∧ (∀ i, i < l → x'.2.2 X.1 (3 * i) = nI (se0 L xs i) ∧ x'.2.2 X.1 (3 * i + 1) = nI (iv0 L xs i) ∧ x'.2.2 X.1 (3 * i + 2) = nI (ri0 L xs i)) ∧ (∀ k i, k ≠ X.1 → x'.2.2 k i = x.2.2 k i) ∧ D.1 0 0 9 = nI l ∧ (∀ i, i < l → D.1 43 i 0 = nI (se0 L xs i) ∧ D.1 43 i 1 = nI (iv0 L xs i) ∧ D.1 43 i 2 = nI (ri0 L xs i)) ∧ ∀ s k f, ¬ (s = 0 ∧ k = 0 ∧ f = 9) → ¬ (s = 43 ∧ f < 3) → D.1 s k f = d.1 s k f)
    (fun r => S3 X r.2 ∧ (∀ l, l < n → r.2.2.2 X.1 (3 * l) = nI (se0 L xs l) ∧ r.2.2.2 X.1 (3 * l + 1) = nI (iv0 L xs l) ∧ r.2.2.2 X.1 (3 * l + 2) = nI (ri0 L xs l)) ∧ (∀ k i, k ≠ X.1 → r.2.2.2 k i = x.2.2 k i) ∧ r.1.1 0 0 9 = nI n ∧ (∀ l, l < n → r.1.1 43 l 0 = nI (se0 L xs l) ∧ r.1.1 43 l 1 = nI (iv0 L xs l) ∧ r.1.1 43 l 2 = nI (ri0 L xs l)) ∧ ∀ s k f, ¬ (s = 0 ∧ k = 0 ∧ f = 9) → ¬ (s = 43 ∧ f < 3) → r.1.1 s k f = d.1 s k f)
    n (fun l a hl hp => ?_) (fun a hp => ?_) (by omega) (d, x, v2, pe, nI n, X.1, X.1 + 1, X.1 + 2, 0) ⟨d, x, rfl, hS, fun i hi => absurd hi (Nat.not_lt_zero i), fun _ _ _ => rfl, h9, fun i hi => absurd hi (Nat.not_lt_zero i), fun _ _ _ _ _ => rfl⟩
  · obtain ⟨r, h1, h2⟩ := main
    exact ⟨r, h1, h2 ()⟩
  · obtain ⟨D, x', rfl, s1, s2, s3, s4, s5, s6⟩ := hp
    have k1 := lw_lt (cv L xs (21 + l)) (n := 4) (by omega)
    have k2 := lw_lt (cv L xs (21 + l) >>> ((3 : Int32) &&& 31)) (n := 5) (by omega)
    have k3 := lw_lt (cv L xs (21 + l) >>> ((6 : Int32) &&& 31)) (n := 9) (by omega)
    obtain ⟨D', q1, q2, q3, q4, q5, q6⟩ := x_lift (a := se0 L xs l) (b := iv0 L xs l) (r := ri0 L xs l) s4 (by omega) (by unfold se0; omega) (by unfold se0; omega) (by unfold iv0; omega) (by unfold iv0; omega) (by unfold ri0; omega) (by unfold ri0; omega)
    have o1 := s1.w (k := X.1) (Nat.le_refl _) (3 * l) (nI (se0 L xs l))
    have o2 := o1.w (k := X.1) (Nat.le_refl _) (3 * l + 1) (nI (iv0 L xs l))
    have o3 := o2.w (k := X.1) (Nat.le_refl _) (3 * l + 2) (nI (ri0 L xs l))
    refine ⟨_, ⟨D', xw (xw (xw x' X.1 (3 * l) (nI (se0 L xs l))) X.1 (3 * l + 1) (nI (iv0 L xs l))) X.1 (3 * l + 2) (nI (ri0 L xs l)), rfl, o3, fun i hi => ?_, fun k i hk => ?_, q2, fun i hi => ?_, fun s k f h1 h2 => ?_⟩, fun _ rec => ?_⟩
    · by_cases e : i = l
      · rw [e, xw_o (by omega), xw_o (by omega), xw_e, xw_o (by omega), xw_e, xw_e]
        exact ⟨rfl, rfl, rfl⟩
      · rw [xw_o (by omega), xw_o (by omega), xw_o (by omega), xw_o (by omega), xw_o (by omega), xw_o (by omega), xw_o (by omega), xw_o (by omega), xw_o (by omega)]
        exact s2 i (by omega)
    · rw [xw_o (by omega), xw_o (by omega), xw_o (by omega)]
      exact s3 k i hk
    · by_cases e : i = l
      · rw [e]
        exact ⟨q3, q4, q5⟩
      · rw [q6 43 i 0 (by omega) (by omega), q6 43 i 1 (by omega) (by omega), q6 43 i 2 (by omega) (by omega)]
        exact s5 i (by omega)
    · rw [q6 s k f h1 (by omega)]
      exact s6 s k f h1 h2
    · show q_L_lifts_35 rec L xs x0 D x' v2 pe (nI n) X.1 (X.1 + 1) (X.1 + 2) (nI l) = _
      have e115 : q_L_lifts_115 rec L xs x0 D (xw (xw (xw x' X.1 (3 * l) (nI (se0 L xs l))) X.1 (3 * l + 1) (nI (iv0 L xs l))) X.1 (3 * l + 2) (nI (ri0 L xs l))) v2 pe (nI n) X.1 (X.1 + 1) (X.1 + 2) (nI l) X.1 (nI (3 * l)) = rec (D', xw (xw (xw x' X.1 (3 * l) (nI (se0 L xs l))) X.1 (3 * l + 1) (nI (iv0 L xs l))) X.1 (3 * l + 2) (nI (ri0 L xs l)), v2, pe, nI n, X.1, X.1 + 1, X.1 + 2, nI (l + 1)) := by
        unfold q_L_lifts_115
        rw [nI3, pk_mul, show (1 : Int32) = nI 1 from rfl, show (2 : Int32) = nI 2 from rfl, nI_add, nI_add, if_pos (o3.b5 (by omega)), if_pos (o3.b5 (by omega)), if_pos (o3.b5 (by omega)), nI_clamp (show 3 * l < 2 ^ 31 by omega), nI_clamp (show 3 * l + 1 < 2 ^ 31 by omega), nI_clamp (show 3 * l + 2 < 2 ^ 31 by omega), xw_e, xw_o (j' := 3 * l) (by omega), xw_o (j' := 3 * l) (by omega), xw_e, xw_o (j' := 3 * l + 1) (by omega), xw_e, q1, Option.bind_some, if_pos rfl, nI_add]
      have e103 : q_L_lifts_103 rec L xs x0 D (xw (xw x' X.1 (3 * l) (nI (se0 L xs l))) X.1 (3 * l + 1) (nI (iv0 L xs l))) v2 pe (nI n) X.1 (X.1 + 1) (X.1 + 2) (nI l) X.1 (nI (3 * l + 2)) (cv L xs (21 + l) >>> ((6 : Int32) &&& 31)) = rec (D', xw (xw (xw x' X.1 (3 * l) (nI (se0 L xs l))) X.1 (3 * l + 1) (nI (iv0 L xs l))) X.1 (3 * l + 2) (nI (ri0 L xs l)), v2, pe, nI n, X.1, X.1 + 1, X.1 + 2, nI (l + 1)) := by
        unfold q_L_lifts_103
        rw [show q_L_low (cv L xs (21 + l) >>> ((6 : Int32) &&& 31)) 9 = some (nI (lw (cv L xs (21 + l) >>> ((6 : Int32) &&& 31)) 9)) from low_q _ (n := 9) (by omega) (by omega), Option.bind_some, if_pos (o2.b5 (by omega)), nI_clamp (show 3 * l + 2 < 2 ^ 31 by omega), show (1 : Int32) = nI 1 from rfl, nI_add, nI3, pk_mul]
        exact e115
      have e82 : q_L_lifts_82 rec L xs x0 D (xw x' X.1 (3 * l) (nI (se0 L xs l))) v2 pe (nI n) X.1 (X.1 + 1) (X.1 + 2) (nI l) (cv L xs (21 + l)) X.1 (nI (3 * l + 1)) (cv L xs (21 + l) >>> ((3 : Int32) &&& 31)) = rec (D', xw (xw (xw x' X.1 (3 * l) (nI (se0 L xs l))) X.1 (3 * l + 1) (nI (iv0 L xs l))) X.1 (3 * l + 2) (nI (ri0 L xs l)), v2, pe, nI n, X.1, X.1 + 1, X.1 + 2, nI (l + 1)) := by
        unfold q_L_lifts_82
        rw [show q_L_low (cv L xs (21 + l) >>> ((3 : Int32) &&& 31)) 5 = some (nI (lw (cv L xs (21 + l) >>> ((3 : Int32) &&& 31)) 5)) from low_q _ (n := 5) (by omega) (by omega), Option.bind_some, if_pos (o1.b5 (by omega)), nI_clamp (show 3 * l + 1 < 2 ^ 31 by omega), show (1 : Int32) = nI 1 from rfl, nI_add, nI3, pk_mul, show (2 : Int32) = nI 2 from rfl, nI_add]
        exact e103
      unfold q_L_lifts_35
      rw [if_neg (nI_ge hl (by omega)), show (21 : Int32) = nI 21 from rfl, nI_add, cell_q hL xs (by omega), Option.bind_some, show q_L_low (cv L xs (21 + l)) 4 = some (nI (lw (cv L xs (21 + l)) 4)) from low_q _ (n := 4) (by omega) (by omega), Option.bind_some, nI3, pk_mul, if_pos (s1.b5 (by omega)), nI_clamp (show 3 * l < 2 ^ 31 by omega), show (1 : Int32) = nI 1 from rfl, nI_add, nI_add]
      exact e82
  · obtain ⟨D, x', rfl, h⟩ := hp
    refine ⟨(D, x'), h, fun _ rec => ?_⟩
    show q_L_lifts_35 rec L xs x0 D x' v2 pe (nI n) X.1 (X.1 + 1) (X.1 + 2) (nI n) = _
    unfold q_L_lifts_35
    rw [if_pos (nI_le (Nat.le_refl _) (by omega))]
end LP
