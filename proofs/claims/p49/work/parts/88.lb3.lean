/-! THE LAW's body: families together, one group more *** by hand -/
theorem tt_dec : ∀ t, t < 4 → t % 2 ^ 0 = 0 ∧ t % 2 ^ 2 = t ∧ ∀ f, f < 2 → tbit (t % 2 ^ (f + 1)) f = tbit t f ∧ ∀ f', f' < 2 → tbit (t % 2 ^ (f + 1)) f' = if f' = f then tbit (t % 2 ^ (f + 1)) f else tbit (t % 2 ^ f) f' := by decide +kernel
section LB
variable {d : sk_D} {X x : sk_X} {n m t pu gr b : Nat} {Pf Gf : Nat → Int32}
theorem bpn_cl {d' : sk_D} (h : CL d n m t Pf Gf) (h' : CL d' n m t Pf Gf) : bpn d' = bpn d := by
  obtain ⟨i, _, i2, _, i4⟩ := same_plan h'
  obtain ⟨j, _, j2, _, j4⟩ := same_plan h
  rw [i2] at j2
  cases j2
  rw [← i4, ← j4]
theorem lb341 (hZ : ZZ d n m 0 Pf Gf) (hP : DP n Pf) (hG : DG (m + 1) Gf) (hm1 : 1 ≤ m) (hm3 : m < 4) (ht : t < 4) (hD : DL X pu gr b n m Pf Gf) (hD1 : DL X pu gr b n (m + 1) Pf Gf) {sz pe : Nat} (hs : AX X sz 8 (fun _ => 0)) (hp : pe < X.1) (hp8 : X.2.1 pe = 8) (h1 : b ≠ sz) (h2 : gr ≠ sz) (h3 : sz ≠ pe) {L : Nat} (hL : L ≤ 260) (xs : Nat → Int32) {x0 : Nat} (hx0 : X.1 ≤ x0 + 5) :
    l_L_law_341 L xs x0 sk_fu (d, X, nI n, nI m, nI t, pu, gr, b, sz, pe, 0) = some 1 := by
  have hn := hZ.1.1
  obtain ⟨t0, t2, t3⟩ := tt_dec t ht
  have main : ∃ r, l_L_law_341 L xs x0 sk_fu (d, X, nI n, nI m, nI t, pu, gr, b, sz, pe, 0) = some r ∧ r = 1 := by
    refine it_inv0 (F := fun rec341 a => q_L_law_341 rec341 L xs x0 a.1 a.2.1 a.2.2.1 a.2.2.2.1 a.2.2.2.2.1 a.2.2.2.2.2.1 a.2.2.2.2.2.2.1 a.2.2.2.2.2.2.2.1 a.2.2.2.2.2.2.2.2.1 a.2.2.2.2.2.2.2.2.2.1 a.2.2.2.2.2.2.2.2.2.2)
      (fun f a => ∃ D, a = (D, X, nI n, nI m, nI t, pu, gr, b, sz, pe, nI f) ∧ ZZ D n m (t % 2 ^ f) Pf Gf)
      (fun r => r = 1) 2 (fun f a hf hq => ?_) (fun a hq => ?_) (by omega) (d, X, nI n, nI m, nI t, pu, gr, b, sz, pe, 0) ⟨d, rfl, by rw [t0]; exact hZ⟩
    · obtain ⟨D, rfl, z1⟩ := hq
      obtain ⟨k1, k2⟩ := t3 f hf
      obtain ⟨D', q1, q2⟩ := za_tog z1 hf k2
      rw [k1] at q1
      refine ⟨_, ⟨D', rfl, q2⟩, fun rec => ?_⟩
      show q_L_law_341 rec L xs x0 D X (nI n) (nI m) (nI t) pu gr b sz pe (nI f) = _
      have e366 : ∀ v, v = b01 (tbit t f) → q_L_law_366 rec L xs x0 D X (nI n) (nI m) (nI t) pu gr b sz pe (nI f) (nI f) v = rec (D', X, nI n, nI m, nI t, pu, gr, b, sz, pe, nI (f + 1)) := fun v hv => by
        unfold q_L_law_366
        rw [hv, q1, Option.bind_some, if_pos rfl, nI_1]
      have hb := tb_dec1 t ht f hf
      unfold q_L_law_341
      rw [if_neg (show ¬ (2 : Int32) ≤ nI f from le_nI (n := 2) rfl hf (by omega))]
      by_cases e : tbit t f = true
      · rw [if_pos (hb.mpr e)]
        exact e366 1 (by rw [e]; rfl)
      · rw [if_neg (fun z => e (hb.mp z))]
        exact e366 0 (by rw [(Bool.not_eq_true _).mp e]; rfl)
    · obtain ⟨D, rfl, z1⟩ := hq
      rw [t2] at z1
      obtain ⟨x1, w1, w2⟩ := bpl hD ht z1.1
      obtain ⟨D', d2, q1, q2, q3⟩ := x_extra z1 hm3 hP hG
      obtain ⟨x2, v1, v2⟩ := bpl (hD1.ix w1) ht q3
      have e1 := w1.1
      have e2 := v1.1
      have aG := w1.ax hD.2.1 hD.2.2.2.2.2.1
      have hbx := hD.2.2.1
      have hpe := hp
      have hsx := hs.1
      have e447 := lb447 (X := x2) q2 hP (fun g hg => hG g (by omega)) hm1 ht ((hD.ix w1).ix v1) (v1.ax (w1.ax hs (fun z => h1 z.symm)) (fun z => h1 z.symm)) (show pe < x2.1 by omega) ((v1.2.2.2 pe (by omega)).1.trans ((w1.2.2.2 pe hp).1.trans hp8)) h1 h2 h3 hL xs (show x2.1 ≤ x0 + 9 by omega)
      rw [bpn_cl z1.1 q2.1] at e447
      refine ⟨1, rfl, fun rec => ?_⟩
      show q_L_law_341 rec L xs x0 D X (nI n) (nI m) (nI t) pu gr b sz pe (nI 2) = _
      unfold q_L_law_341
      rw [if_pos (show (2 : Int32) ≤ nI 2 by decide), w2, Option.bind_some, if_pos w1.1, if_pos (show x1.1 ≤ x0 + 149 by omega), nI3, pk_mul, nI_1, nI_1, show (2 : Int32) = nI 2 from rfl, nI_add, if_pos (aG.b (by omega) (by omega)), if_pos (aG.b (by omega) (by omega)), if_pos (aG.b (by omega) (by omega)), aG.l (by omega) (by omega), aG.l (by omega) (by omega), aG.l (by omega) (by omega), q1, Option.bind_some, v2, Option.bind_some, if_pos v1.1, if_pos (show x2.1 ≤ x0 + 149 by omega), if_pos rfl]
      exact e447
  obtain ⟨r, e, rfl⟩ := main
  exact e
end LB
