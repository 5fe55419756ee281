/-! THE LAW's body: what a family costs, the plan carried out *** by hand -/
section LB
variable {d : sk_D} {X x : sk_X} {n m t pu gr b : Nat} {Pf Gf : Nat → Int32}
theorem DL.ix (hD : DL X pu gr b n m Pf Gf) (hI : IX X b x) : DL x pu gr b n m Pf Gf := by
  obtain ⟨hP, hG, hb, h8, hpb, hgb, hr⟩ := hD
  have := hI.1
  exact ⟨hI.ax hP hpb, hI.ax hG hgb, by omega, (hI.2.2.2 b hb).1.trans h8, hpb, hgb, hr⟩
/-- the law's count is the class's *** -/
theorem bpl (hD : DL X pu gr b n m Pf Gf) (ht : t < 4) (hC : CL d n m t Pf Gf) : ∃ x', IX X b x' ∧ q_L_bestPlan X (nI n) (nI m) (nI t) pu gr b = some (nI (bpn d), x') := by
  obtain ⟨x', ⟨h1, _⟩, h2⟩ := bplan hD ht
  obtain ⟨i, _, i2, _, i4⟩ := same_plan hC
  rw [i2] at h2
  refine ⟨x', h1, ?_⟩
  rw [← i4]
  exact h2
theorem lb447 (hZ : ZZ d n m t Pf Gf) (hP : DP n Pf) (hG : DG m Gf) (hm1 : 1 ≤ m) (ht : t < 4) (hD : DL X pu gr b n m Pf Gf) {sz pe : Nat} (hs : AX X sz 8 (fun _ => 0)) (hp : pe < X.1) (hp8 : X.2.1 pe = 8) (h1 : b ≠ sz) (h2 : gr ≠ sz) (h3 : sz ≠ pe) {L : Nat} (hL : L ≤ 260) (xs : Nat → Int32) {x0 : Nat} (hx0 : X.1 ≤ x0 + 9) :
    l_L_law_447 L xs x0 sk_fu (d, X, nI n, nI m, nI t, pu, gr, b, sz, pe, nI (bpn d), 0) = some 1 := by
  have hn := hZ.1.1
  have hm := hZ.1.2.1
  have main : ∃ r, l_L_law_447 L xs x0 sk_fu (d, X, nI n, nI m, nI t, pu, gr, b, sz, pe, nI (bpn d), 0) = some r ∧ r = 1 := by
    refine it_inv0 (F := fun rec447 a => q_L_law_447 rec447 L xs x0 a.1 a.2.1 a.2.2.1 a.2.2.2.1 a.2.2.2.2.1 a.2.2.2.2.2.1 a.2.2.2.2.2.2.1 a.2.2.2.2.2.2.2.1 a.2.2.2.2.2.2.2.2.1 a.2.2.2.2.2.2.2.2.2.1 a.2.2.2.2.2.2.2.2.2.2.1 a.2.2.2.2.2.2.2.2.2.2.2)
      (fun f a => ∃ D x, a = (D, x, nI n, nI m, nI t, pu, gr, b, sz, pe, nI (bpn d), nI f) ∧ ZZ D n m t Pf Gf ∧ bpn D = bpn d ∧ DL x pu gr b n m Pf Gf ∧ AX x sz 8 (fun _ => 0) ∧ pe < x.1 ∧ x.2.1 pe = 8 ∧ x.1 ≤ x0 + 9 + 2 * f)
      (fun r => r = 1) 2 (fun f a hf hq => ?_) (fun a hq => ?_) (by omega) (d, X, nI n, nI m, nI t, pu, gr, b, sz, pe, nI (bpn d), 0) ⟨d, X, rfl, hZ, rfl, hD, hs, hp, hp8, by omega⟩
    · obtain ⟨D, x, rfl, z1, z2, z3, z4, z5, z6, z7⟩ := hq
      obtain ⟨D', d2, q1, q2, q3⟩ := x_split z1 ht hf hP hG
      obtain ⟨k1, k2, k3, k4⟩ := tclr_ok t ht f hf
      obtain ⟨x', w1, w2⟩ := bpl z3 k1 q3
      have e1 := w1.1
      have hsb : sz < x.1 := z4.1
      have same : bpn D' = bpn D := by
        have a1 := (bst_or (pvl m n Pf Gf t) (psc m n Pf Gf) ((m + 1) ^ n))
        obtain ⟨i, _, i2, _, i4⟩ := same_plan q2.1
        obtain ⟨j, _, j2, _, j4⟩ := same_plan z1.1
        rw [i2] at j2
        cases j2
        rw [← i4, ← j4]
      refine ⟨_, ⟨D', x', rfl, q2, same.trans z2, z3.ix w1, w1.ax z4 (fun z => h1 z.symm), by omega, (w1.2.2.2 pe z5).1.trans z6, by omega⟩, fun rec => ?_⟩
      show q_L_law_447 rec L xs x0 D x (nI n) (nI m) (nI t) pu gr b sz pe (nI (bpn d)) (nI f) = _
      unfold q_L_law_447
      rw [if_neg (show ¬ (2 : Int32) ≤ nI f from le_nI (n := 2) rfl hf (by omega)), q1, Option.bind_some, k2, w2, Option.bind_some, if_pos w1.1, if_pos (show x'.1 ≤ x0 + 149 by omega), z2, if_pos rfl, nI_1]
    · obtain ⟨D, x, rfl, z1, z2, z3, z4, z5, z6, z7⟩ := hq
      obtain ⟨D', x', q1, q2, q3, q4⟩ := x_planned z1 hP hG z3 ht
      have e1 := q2.1
      have hpl : q_X8_placed D = some 0 := by
        rw [c8_placed (ee_P (cl_01 z1.1)), kc_kn]
        have : kn (plb D) 20 = 0 := kn_none (fun k hk => by
          unfold plb pb
          by_cases e : D.1 37 k 0 = 1
          · rw [z1.no k hk e]
            simp
          · rw [decide_eq_false e]
            rfl)
        rw [this]
        rfl
      have e522 := lb522 (X := x') q4 hm1 ((z3.ix q2).2.1) ⟨(z3.ix q2).2.2.1, (z3.ix q2).2.2.2.1, fun _ _ => rfl⟩ q3 (q2.ax z4 (fun z => h1 z.symm)) (show pe < x'.1 by omega) ((q2.2.2.2 pe z5).1.trans z6) h1 h2 h3 hL xs (show x'.1 ≤ x0 + 15 by omega)
      refine ⟨1, rfl, fun rec => ?_⟩
      show q_L_law_447 rec L xs x0 D x (nI n) (nI m) (nI t) pu gr b sz pe (nI (bpn d)) (nI 2) = _
      unfold q_L_law_447
      rw [if_pos (show (2 : Int32) ≤ nI 2 by decide), hpl, Option.bind_some, if_pos rfl, q1, Option.bind_some, if_pos q2.1, if_pos (show x'.1 ≤ x0 + 149 by omega), if_neg (show ¬ (1 : Int32) = 0 by decide)]
      exact e522
  obtain ⟨r, e, rfl⟩ := main
  exact e
end LB
