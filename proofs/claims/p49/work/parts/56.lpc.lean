/-! THE LAW, pure: all plans *** by hand -/
section LP
variable {X x : sk_X} {pu gr b n m : Nat} {Pf Gf : Nat → Int32}
/-- what is left of the plans so far -/
def BO (m n : Nat) (x : sk_X) (b : Nat) (z : Option Nat) : Prop := ∀ i, z = some i → ∀ p, p < n → x.2.2 b p = nI (dg m n i p)
def mpo (m n : Nat) : Option Nat → Int32
  | none => 0
  | some i => nI (mnL m n (dg m n i) n)
theorem psc_le {t j : Nat} (hn : n ≤ 6) : psc m n Pf Gf j ≤ 600 := by
  have := mnL_le m n (dg m n j) n
  unfold psc
  omega
theorem bp47 (hD : DL X pu gr b n m Pf Gf) (hI : IX X b x) {t : Nat} (ht : t < 4) (x0 : Nat) {N : Nat} (hN : N < 20000) : ∃ x', (IX X b x' ∧ BO m n x' b (bst (pvl m n Pf Gf t) (psc m n Pf Gf) N)) ∧ l_L_bestPlan_47 x0 sk_fu (x, nI n, nI m, nI t, pu, gr, b, nI N, X.1, X.1 + 1, -1, 0, 0) = some (mpo m n (bst (pvl m n Pf Gf t) (psc m n Pf Gf) N), x') := by
  have hD' := hD
  obtain ⟨hP, hG, hb, h8, hpb, hgb, hn, hm, hl, hl2, hcp, hf8⟩ := hD'
  have main := it_cn (ι := Unit) (F := fun _ rec47 a => q_L_bestPlan_47 rec47 x0 a.1 a.2.1 a.2.2.1 a.2.2.2.1 a.2.2.2.2.1 a.2.2.2.2.2.1 a.2.2.2.2.2.2.1 a.2.2.2.2.2.2.2.1 a.2.2.2.2.2.2.2.2.1 a.2.2.2.2.2.2.2.2.2.1 a.2.2.2.2.2.2.2.2.2.2.1 a.2.2.2.2.2.2.2.2.2.2.2.1 a.2.2.2.2.2.2.2.2.2.2.2.2)
    (fun _ x' => some (mpo m n (bst (pvl m n Pf Gf t) (psc m n Pf Gf) N), x'))
    (fun j a => ∃ x', a = (x', nI n, nI m, nI t, pu, gr, b, nI N, X.1, X.1 + 1, mso (psc m n Pf Gf) (bst (pvl m n Pf Gf t) (psc m n Pf Gf) j), mpo m n (bst (pvl m n Pf Gf t) (psc m n Pf Gf) j), nI j) ∧ IX X b x' ∧ BO m n x' b (bst (pvl m n Pf Gf t) (psc m n Pf Gf) j))
    (fun x' => IX X b x' ∧ BO m n x' b (bst (pvl m n Pf Gf t) (psc m n Pf Gf) N)) N (fun j a hj hp => ?_) (fun a hp => ?_) hN (x, nI n, nI m, nI t, pu, gr, b, nI N, X.1, X.1 + 1, -1, 0, 0) ⟨x, rfl, hI, fun i hi => by cases hi⟩
  · obtain ⟨x', h1, h2⟩ := main
    exact ⟨x', h1, h2 ()⟩
  · obtain ⟨x1, rfl, h1, h2⟩ := hp
    generalize hz : bst (pvl m n Pf Gf t) (psc m n Pf Gf) j = z at h2
    obtain ⟨x2, ⟨i2, z2, b2⟩, e2⟩ := bp57 hD h1 x0 (nI t) (nI N) (mso (psc m n Pf Gf) z) (mpo m n z) (nI j) pu gr
    obtain ⟨x3, ⟨i3, d3, b3⟩, e3⟩ := bp93 hD i2 z2 (j := j) (by omega) x0 (nI t) (nI N) (mso (psc m n Pf Gf) z) (mpo m n z) (nI j)
    have e4 := fun r47 => bp230 hD i3 (a := dg m n j) (fun p hp => ⟨dg_lt m n j p, d3 p hp⟩) ht (vaL m n (lfit Pf Gf) (lcap Gf) (dg m n j) n) x0 (nI N) (mso (psc m n Pf Gf) z) (mpo m n z) (nI j) (nI (mnL m n (dg m n j) n)) (nI (ouL m n (llv Pf Gf) (dg m n j) n)) r47
    have hsc : (100 : Int32) * nI (mnL m n (dg m n j) n) - nI (ouL m n (llv Pf Gf) (dg m n j) n) = nI (psc m n Pf Gf j) := by
      have h7 := ouL_le m n (llv Pf Gf) (dg m n j) n
      rw [show (100 : Int32) = nI 100 from rfl, pk_mul, pk_sub (by omega), psc_e]
    have h600 := psc_le (m := m) (Pf := Pf) (Gf := Gf) (t := t) (j := j) hn
    have bo3 : BO m n x3 b z := fun i hi p hp => by rw [b3, b2]; exact h2 i hi p hp
    have go : ∀ rec, q_L_bestPlan_47 rec x0 x1 (nI n) (nI m) (nI t) pu gr b (nI N) X.1 (X.1 + 1) (mso (psc m n Pf Gf) z) (mpo m n z) (nI j) = if pvl m n Pf Gf t j = true then (if nI (psc m n Pf Gf j) ≤ mso (psc m n Pf Gf) z then rec (x3, nI n, nI m, nI t, pu, gr, b, nI N, X.1, X.1 + 1, mso (psc m n Pf Gf) z, mpo m n z, nI (j + 1)) else l_L_bestPlan_357 rec x0 sk_fu (x3, nI n, nI m, nI t, pu, gr, b, nI N, X.1, X.1 + 1, nI (psc m n Pf Gf j), nI (mnL m n (dg m n j) n), nI j, 0)) else rec (x3, nI n, nI m, nI t, pu, gr, b, nI N, X.1, X.1 + 1, mso (psc m n Pf Gf) z, mpo m n z, nI (j + 1)) := by
      intro rec
      unfold q_L_bestPlan_47
      rw [if_neg (nI_ge hj (by omega)), e2, e3, e4, hsc, nI_1, pvl_e]
    by_cases hv : pvl m n Pf Gf t j = true
    · by_cases hle : nI (psc m n Pf Gf j) ≤ mso (psc m n Pf Gf) z
      · have hz2 : bst (pvl m n Pf Gf t) (psc m n Pf Gf) (j + 1) = z := by
          cases z with
          | none =>
            have h3 : nI (psc m n Pf Gf j) ≤ (-1 : Int32) := hle
            have h4 : (-1 : Int32) < nI (psc m n Pf Gf j) := by
              rw [Int32.lt_iff_toInt_lt, nI_toInt (by omega)]
              have : (-1 : Int32).toInt = -1 := by decide
              omega
            exact absurd h3 (Int32.not_le.mpr h4)
          | some i =>
            have h6 := psc_le (m := m) (Pf := Pf) (Gf := Gf) (t := t) (j := i) hn
            have h7 : psc m n Pf Gf j ≤ psc m n Pf Gf i := (nI_leI (by omega) (by omega)).mp hle
            exact bst_l hz (by omega)
        refine ⟨_, ⟨x3, rfl, i3, ?_⟩, fun _ rec => ?_⟩
        · rw [hz2]
          exact bo3
        · refine (go rec).trans ?_
          rw [if_pos hv, if_pos hle, hz2]
      · have hz2 : bst (pvl m n Pf Gf t) (psc m n Pf Gf) (j + 1) = some j := by
          cases z with
          | none => exact bst_n hz hv
          | some i =>
            have h6 := psc_le (m := m) (Pf := Pf) (Gf := Gf) (t := t) (j := i) hn
            have h7 : ¬ psc m n Pf Gf j ≤ psc m n Pf Gf i := fun q => hle (nI_le q (by omega))
            exact bst_g hz hv (by omega)
        obtain ⟨x4, ⟨i4, d4⟩, e5⟩ := bp357 hD i3 x0 (nI t) (nI N) (nI (psc m n Pf Gf j)) (nI (mnL m n (dg m n j) n)) (nI j)
        refine ⟨_, ⟨x4, rfl, i4, ?_⟩, fun _ rec => ?_⟩
        · rw [hz2]
          intro i hi p hp
          cases hi
          rw [d4 p hp, d3 p hp]
        · refine (go rec).trans ?_
          rw [if_pos hv, if_neg hle, e5, hz2, nI_1]
          rfl
    · have hz2 : bst (pvl m n Pf Gf t) (psc m n Pf Gf) (j + 1) = z := (bst_v hv).trans hz
      refine ⟨_, ⟨x3, rfl, i3, ?_⟩, fun _ rec => ?_⟩
      · rw [hz2]
        exact bo3
      · refine (go rec).trans ?_
        rw [if_neg hv, hz2]
  · obtain ⟨x1, rfl, h1, h2⟩ := hp
    refine ⟨x1, ⟨h1, h2⟩, fun _ rec => ?_⟩
    show q_L_bestPlan_47 rec x0 x1 (nI n) (nI m) (nI t) pu gr b (nI N) X.1 (X.1 + 1) _ _ (nI N) = _
    unfold q_L_bestPlan_47
    rw [if_pos (nI_le (Nat.le_refl _) (by omega))]
end LP
