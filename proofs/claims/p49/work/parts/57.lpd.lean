/-! THE LAW, pure: the law's best plan *** by hand -/
theorem pw_le : ∀ m, m ≤ 4 → ∀ i, i ≤ 6 → (m + 1) ^ i < 20000 := by decide +kernel
section LP
variable {X x : sk_X} {pu gr b n m : Nat} {Pf Gf : Nat → Int32}

/-- the law's best plan -/
theorem bplan (hD : DL X pu gr b n m Pf Gf) {t : Nat} (ht : t < 4) : ∃ x', (IX X b x' ∧ BO m n x' b (bst (pvl m n Pf Gf t) (psc m n Pf Gf) ((m + 1) ^ n))) ∧ q_L_bestPlan X (nI n) (nI m) (nI t) pu gr b = some (mpo m n (bst (pvl m n Pf Gf t) (psc m n Pf Gf) ((m + 1) ^ n)), x') := by
  have hD' := hD
  obtain ⟨hP, hG, hb, h8, hpb, hgb, hn, hm, _⟩ := hD'
  have hI : IX X b (xn (xn X 8) 8) := by
    have n1 : ¬ X.1 = X.1 + 1 := by omega
    refine ⟨rfl, ?_, ?_, fun k hk => ⟨?_, fun _ => ?_⟩⟩
    · show (if X.1 = X.1 + 1 then 8 else if X.1 = X.1 then 8 else X.2.1 X.1) = 8
      rw [if_neg n1, if_pos rfl]
    · show (if X.1 + 1 = X.1 + 1 then 8 else _) = 8
      rw [if_pos rfl]
    · show (if k = X.1 + 1 then 8 else if k = X.1 then 8 else X.2.1 k) = X.2.1 k
      rw [if_neg (by omega), if_neg (by omega)]
    · funext j
      show (if k = X.1 + 1 then 0 else if k = X.1 then 0 else X.2.2 k j) = X.2.2 k j
      rw [if_neg (by omega), if_neg (by omega)]
  obtain ⟨x', h1, h2⟩ := bp47 hD hI ht X.1 (N := (m + 1) ^ n) (pw_le m hm n hn)
  refine ⟨x', h1, ?_⟩
  unfold q_L_bestPlan q_L_bestPlan_0
  refine Eq.trans (congrArg (l_L_bestPlan_6 X.1 sk_fu) (?_ : _ = (X, nI n, nI m, nI t, pu, gr, b, nI ((m + 1) ^ 0), nI 0))) (it_for0 (F := fun rec6 a => q_L_bestPlan_6 rec6 X.1 a.1 a.2.1 a.2.2.1 a.2.2.2.1 a.2.2.2.2.1 a.2.2.2.2.2.1 a.2.2.2.2.2.2.1 a.2.2.2.2.2.2.2.1 a.2.2.2.2.2.2.2.2) (fun i => (X, nI n, nI m, nI t, pu, gr, b, nI ((m + 1) ^ i), nI i)) n (fun i hi rec => ?_) (fun rec => ?_) (by omega))
  · rw [Nat.pow_zero]
    rfl
  · show q_L_bestPlan_6 rec X.1 X (nI n) (nI m) (nI t) pu gr b (nI ((m + 1) ^ i)) (nI i) = _
    unfold q_L_bestPlan_6
    rw [if_neg (nI_ge hi (by omega)), nI_1, nI_1, pk_mul, ← Nat.pow_succ]
  · show q_L_bestPlan_6 rec X.1 X (nI n) (nI m) (nI t) pu gr b (nI ((m + 1) ^ n)) (nI n) = _
    unfold q_L_bestPlan_6
    rw [if_pos (nI_le (Nat.le_refl _) (by omega)), if_pos (by omega), if_pos (show (xn X 8).1 < X.1 + 2 from Nat.lt_succ_self _)]
    exact h2
end LP
