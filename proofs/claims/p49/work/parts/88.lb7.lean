/-! THE LAW's body: the pupils come *** by hand -/
section LB
variable {d : sk_D} {X x : sk_X} {n m t pu gr b : Nat}
theorem lb77 {L : Nat} {xs : Nat → Int32} (hZ : ZZ d 0 0 0 (Pf0 L xs n) (Gf0 L xs m)) (hn : n ≤ 6) (hm1 : 1 ≤ m) (hm3 : m < 4) (ht : t < 4) (hPu : AX X pu 24 (fun _ => 0)) (hGr : AX X gr 16 (fun _ => 0)) (hb : b < X.1) (hb8 : X.2.1 b = 8) {sz pe : Nat} (hs : AX X sz 8 (fun _ => 0)) (hp : pe < X.1) (hp8 : X.2.1 pe = 8) (n1 : pu ≠ b) (n2 : gr ≠ b) (n3 : pu ≠ gr) (n4 : gr ≠ sz) (n5 : pu ≠ sz) (h1 : b ≠ sz) (h3 : sz ≠ pe) (hL : L ≤ 260) {x0 : Nat} (hx0 : X.1 ≤ x0 + 5) :
    l_L_law_77 L xs x0 sk_fu (d, X, nI n, nI m, nI t, pu, gr, b, sz, pe, 0) = some 1 := by
  have main : ∃ r, l_L_law_77 L xs x0 sk_fu (d, X, nI n, nI m, nI t, pu, gr, b, sz, pe, 0) = some r ∧ r = 1 := by
    refine it_inv0 (F := fun rec77 a => q_L_law_77 rec77 L xs x0 a.1 a.2.1 a.2.2.1 a.2.2.2.1 a.2.2.2.2.1 a.2.2.2.2.2.1 a.2.2.2.2.2.2.1 a.2.2.2.2.2.2.2.1 a.2.2.2.2.2.2.2.2.1 a.2.2.2.2.2.2.2.2.2.1 a.2.2.2.2.2.2.2.2.2.2)
      (fun g a => ∃ D x, a = (D, x, nI n, nI m, nI t, pu, gr, b, sz, pe, nI g) ∧ ZZ D g 0 0 (Pf0 L xs n) (Gf0 L xs m) ∧ FX X pu x ∧ ∀ j, j < 24 → x.2.2 pu j = if j < 3 * g then Pf0 L xs n j else 0)
      (fun r => r = 1) n (fun g a hg hq => ?_) (fun a hq => ?_) (by omega) (d, X, nI n, nI m, nI t, pu, gr, b, sz, pe, 0) ⟨d, X, rfl, hZ, ⟨rfl, fun _ => ⟨rfl, fun _ => rfl⟩⟩, fun j hj => (hPu.2.2 j hj).trans (if_neg (by omega)).symm⟩
    · obtain ⟨D, x, rfl, z1, f1, f2⟩ := hq
      obtain ⟨e1, e2, e3⟩ := pf_e L xs hg
      have l1 := lw_lt (cv L xs (3 + g)) (n := 4) (by omega)
      have l2 := lw_lt (cv L xs (3 + g) >>> ((2 : Int32) &&& 31)) (n := 7) (by omega)
      have l3 := lw_lt (cv L xs (3 + g) >>> ((5 : Int32) &&& 31)) (n := 4) (by omega)
      have bG : ∀ x' : sk_X, FX X pu x' → ∀ j, j < 24 → xb x' pu (nI j) = true := fun x' hx j hj => AX.b ⟨by rw [hx.1]; exact hPu.1, (hx.2 pu).1.trans hPu.2.1, fun _ _ => rfl⟩ hj (by omega)
      have k1 := f1.w (3 * g) (Pf0 L xs n (3 * g))
      have k2 := k1.w (3 * g + 1) (Pf0 L xs n (3 * g + 1))
      have k3 := k2.w (3 * g + 2) (Pf0 L xs n (3 * g + 2))
      generalize hx3 : xw (xw (xw x pu (3 * g) (Pf0 L xs n (3 * g))) pu (3 * g + 1) (Pf0 L xs n (3 * g + 1))) pu (3 * g + 2) (Pf0 L xs n (3 * g + 2)) = x3 at k3
      have c3 : ∀ j, j < 24 → x3.2.2 pu j = if j < 3 * (g + 1) then Pf0 L xs n j else 0 := fun j hj => by
        rw [← hx3]
        by_cases q2 : j = 3 * g + 2
        · rw [q2, xw_e, if_pos (by omega)]
        · rw [xw_o (fun z => q2 z.2)]
          by_cases q1 : j = 3 * g + 1
          · rw [q1, xw_e, if_pos (by omega)]
          · rw [xw_o (fun z => q1 z.2)]
            by_cases q0 : j = 3 * g
            · rw [q0, xw_e, if_pos (by omega)]
            · rw [xw_o (fun z => q0 z.2), f2 j hj]
              by_cases q : j < 3 * g
              · rw [if_pos q, if_pos (by omega)]
              · rw [if_neg q, if_neg (by omega)]
      obtain ⟨D', q1, q2⟩ := za_add z1 (show g < 6 by omega) (l := lw (cv L xs (3 + g)) 4) (g := 1 + lw (cv L xs (3 + g) >>> ((2 : Int32) &&& 31)) 7) (by omega) (by omega) (by omega) e1 e2 (by rw [e3]; exact fm_8 L xs g)
      have y0 : x3.2.2 pu (3 * g) = Pf0 L xs n (3 * g) := (c3 (3 * g) (by omega)).trans (if_pos (by omega))
      have y1 : x3.2.2 pu (3 * g + 1) = Pf0 L xs n (3 * g + 1) := (c3 (3 * g + 1) (by omega)).trans (if_pos (by omega))
      have y2 : x3.2.2 pu (3 * g + 2) = Pf0 L xs n (3 * g + 2) := (c3 (3 * g + 2) (by omega)).trans (if_pos (by omega))
      have w1 : nI (3 * g) + (1 : Int32) = nI (3 * g + 1) := nI_add (3 * g) 1
      have w2 : nI (3 * g) + (2 : Int32) = nI (3 * g + 2) := nI_add (3 * g) 2
      have w3 : (1 : Int32) + nI (lw (cv L xs (3 + g) >>> ((2 : Int32) &&& 31)) 7) = Pf0 L xs n (3 * g + 1) := (nI_add 1 _).trans e2.symm
      have e167 : ∀ rec, q_L_law_167 rec L xs x0 D x3 (nI n) (nI m) (nI t) pu gr b sz pe (nI g) pu (nI (3 * g)) = rec (D', x3, nI n, nI m, nI t, pu, gr, b, sz, pe, nI (g + 1)) := fun rec => by
        unfold q_L_law_167 q_L_law_205
        rw [if_pos (bG x3 k3 _ (by omega)), nI3, pk_mul, w1, w2, if_pos (bG x3 k3 _ (by omega)), if_pos (bG x3 k3 _ (by omega)), if_pos (bG x3 k3 _ (by omega)), nI_clamp (show 3 * g < 2 ^ 31 by omega), nI_clamp (show 3 * g + 1 < 2 ^ 31 by omega), nI_clamp (show 3 * g + 2 < 2 ^ 31 by omega), y0, y1, y2]
        by_cases q : Pf0 L xs n (3 * g + 2) = 8
        · rw [if_pos q] at q1 ⊢
          rw [q1, Option.bind_some, if_pos rfl, nI_1]
        · rw [if_neg q] at q1 ⊢
          rw [q1, Option.bind_some, if_pos rfl, nI_1]
      have e159 : ∀ rec v, v = Pf0 L xs n (3 * g + 2) → q_L_law_159 rec L xs x0 D (xw (xw x pu (3 * g) (Pf0 L xs n (3 * g))) pu (3 * g + 1) (Pf0 L xs n (3 * g + 1))) (nI n) (nI m) (nI t) pu gr b sz pe (nI g) pu (nI (3 * g + 2)) v = rec (D', x3, nI n, nI m, nI t, pu, gr, b, sz, pe, nI (g + 1)) := fun rec v hv => by
        unfold q_L_law_159
        rw [if_pos (bG _ k2 _ (by omega)), nI_clamp (show 3 * g + 2 < 2 ^ 31 by omega), hv, hx3, nI3, pk_mul]
        exact e167 rec
      refine ⟨_, ⟨D', x3, rfl, q2, k3, c3⟩, fun rec => ?_⟩
      show q_L_law_77 rec L xs x0 D x (nI n) (nI m) (nI t) pu gr b sz pe (nI g) = _
      unfold q_L_law_77 q_L_law_121 q_L_law_139
      have lo : q_L_low (cv L xs (3 + g) >>> ((5 : Int32) &&& 31)) 4 = some (nI (lw (cv L xs (3 + g) >>> ((5 : Int32) &&& 31)) 4)) := low_q _ (n := 4) (by omega) (by omega)
      rw [if_neg (nI_ge hg (by omega)), nI3, nI_add, cell_q hL xs (by omega), Option.bind_some, show q_L_low (cv L xs (3 + g)) 4 = some (nI (lw (cv L xs (3 + g)) 4)) from low_q _ (n := 4) (by omega) (by omega), Option.bind_some, pk_mul, if_pos (bG x f1 _ (by omega)), nI_clamp (show 3 * g < 2 ^ 31 by omega), ← e1, show q_L_low (cv L xs (3 + g) >>> ((2 : Int32) &&& 31)) 7 = some (nI (lw (cv L xs (3 + g) >>> ((2 : Int32) &&& 31)) 7)) from low_q _ (n := 7) (by omega) (by omega), Option.bind_some, w1, w2, w3, if_pos (bG _ k1 _ (by omega)), nI_clamp (show 3 * g + 1 < 2 ^ 31 by omega), lo, Option.bind_some]
      by_cases q : 2 ≤ lw (cv L xs (3 + g) >>> ((5 : Int32) &&& 31)) 4
      · rw [if_pos (show (2 : Int32) ≤ _ from nI_le (a := 2) q (by omega))]
        exact e159 rec 8 (by rw [e3]; exact (if_pos q).symm)
      · rw [if_neg (show ¬ (2 : Int32) ≤ _ from nI_ge (b := 2) (by omega) (by omega)), Option.bind_some]
        exact e159 rec _ (by rw [e3]; exact (if_neg q).symm)
    · obtain ⟨D, x, rfl, z1, f1, f2⟩ := hq
      have hx1 := f1.1
      have aP : AX x pu 24 (Pf0 L xs n) := ⟨by rw [hx1]; exact hPu.1, (f1.2 pu).1.trans hPu.2.1, fun j hj => (f2 j hj).trans (by
        by_cases q : j < 3 * n
        · rw [if_pos q]
        · rw [if_neg q]
          unfold Pf0
          rw [if_neg q])⟩
      have fin := lb224 (X := x) z1 (pf_DP L xs n) (fun p hp => by rw [(pf_e L xs hp).2.2]; exact fm_8 L xs p) hm1 hm3 ht aP (f1.ax hGr (fun z => n3 z.symm)) (show b < x.1 by omega) ((f1.2 b).1.trans hb8) (f1.ax hs (fun z => n5 z.symm)) (show pe < x.1 by omega) ((f1.2 pe).1.trans hp8) n1 n2 n3 n4 h1 h3 hL (show x.1 ≤ x0 + 5 by omega)
      refine ⟨1, rfl, fun rec => ?_⟩
      show q_L_law_77 rec L xs x0 D x (nI n) (nI m) (nI t) pu gr b sz pe (nI n) = _
      unfold q_L_law_77
      rw [if_pos (nI_le (Nat.le_refl _) (by omega))]
      exact fin
  obtain ⟨r, e, rfl⟩ := main
  exact e
end LB
