/-! THE LAW's body: the groups *** by hand -/
def Gf0 (L : Nat) (xs : Nat → Int32) (m j : Nat) : Int32 := if j < 3 * (m + 1) then (if j % 3 = 0 then nI (lw (cv L xs (10 + j / 3)) 4) else if j % 3 = 1 then nI (lw (cv L xs (10 + j / 3) >>> ((2 : Int32) &&& 31)) 3) else nI (1 + lw (cv L xs (10 + j / 3) >>> ((4 : Int32) &&& 31)) 3)) else 0
theorem gf_e (L : Nat) (xs : Nat → Int32) {m g : Nat} (hg : g < m + 1) : Gf0 L xs m (3 * g) = nI (lw (cv L xs (10 + g)) 4) ∧ Gf0 L xs m (3 * g + 1) = nI (lw (cv L xs (10 + g) >>> ((2 : Int32) &&& 31)) 3) ∧ Gf0 L xs m (3 * g + 2) = nI (1 + lw (cv L xs (10 + g) >>> ((4 : Int32) &&& 31)) 3) := by
  unfold Gf0
  refine ⟨?_, ?_, ?_⟩
  · rw [if_pos (by omega), if_pos (by omega), show 3 * g / 3 = g by omega]
  · rw [if_pos (by omega), if_neg (by omega), if_pos (by omega), show (3 * g + 1) / 3 = g by omega]
  · rw [if_pos (by omega), if_neg (by omega), if_neg (by omega), show (3 * g + 2) / 3 = g by omega]
theorem gf_DG (L : Nat) (xs : Nat → Int32) (m : Nat) : DG (m + 1) (Gf0 L xs m) := fun g hg => by
  obtain ⟨e1, e2, e3⟩ := gf_e L xs hg
  have h1 := lw_lt (cv L xs (10 + g)) (n := 4) (by omega)
  have h2 := lw_lt (cv L xs (10 + g) >>> ((2 : Int32) &&& 31)) (n := 3) (by omega)
  have h3 := lw_lt (cv L xs (10 + g) >>> ((4 : Int32) &&& 31)) (n := 3) (by omega)
  exact ⟨⟨_, by omega, e1⟩, ⟨_, by omega, e2⟩, _, by omega, by omega, e3⟩
section LB
variable {d : sk_D} {X x : sk_X} {n m t pu gr b : Nat} {Pf Gf : Nat → Int32}
theorem gf_DL {L : Nat} {xs : Nat → Int32} (hPu : AX X pu 24 Pf) (hP : DP n Pf) (h8 : ∀ p, p < n → Pf (3 * p + 2) = nI 8 ∨ ∃ f, f < 2 ∧ Pf (3 * p + 2) = nI f) (hGr : AX X gr 16 (Gf0 L xs m)) (hb : b < X.1) (hb8 : X.2.1 b = 8) (h1 : pu ≠ b) (h2 : gr ≠ b) (hn : n ≤ 6) {m' : Nat} (hm : m' ≤ m + 1) (hm4 : m' ≤ 4) : DL X pu gr b n m' Pf (Gf0 L xs m) := by
  refine ⟨hPu, hGr, hb, hb8, h1, h2, hn, hm4, fun p hp => (hP p hp).1, fun g hg => (gf_DG L xs m g (by omega)).1, fun g hg => ?_, h8⟩
  obtain ⟨_, _, c, c1, c2, c3⟩ := gf_DG L xs m g (by omega)
  unfold lcap
  rw [c3, nI_clamp (by omega)]
  exact ⟨c2, rfl⟩
set_option maxHeartbeats 2000000 in
theorem lb224 {L : Nat} {xs : Nat → Int32} (hZ : ZZ d n 0 0 Pf (Gf0 L xs m)) (hP : DP n Pf) (h8 : ∀ p, p < n → Pf (3 * p + 2) = nI 8 ∨ ∃ f, f < 2 ∧ Pf (3 * p + 2) = nI f) (hm1 : 1 ≤ m) (hm3 : m < 4) (ht : t < 4) (hPu : AX X pu 24 Pf) (hGr : AX X gr 16 (fun _ => 0)) (hb : b < X.1) (hb8 : X.2.1 b = 8) {sz pe : Nat} (hs : AX X sz 8 (fun _ => 0)) (hp : pe < X.1) (hp8 : X.2.1 pe = 8) (n1 : pu ≠ b) (n2 : gr ≠ b) (n3 : pu ≠ gr) (n4 : gr ≠ sz) (h1 : b ≠ sz) (h3 : sz ≠ pe) (hL : L ≤ 260) {x0 : Nat} (hx0 : X.1 ≤ x0 + 5) :
    l_L_law_224 L xs x0 sk_fu (d, X, nI n, nI m, nI t, pu, gr, b, sz, pe, 0) = some 1 := by
  have hn := hZ.1.1
  have main : ∃ r, l_L_law_224 L xs x0 sk_fu (d, X, nI n, nI m, nI t, pu, gr, b, sz, pe, 0) = some r ∧ r = 1 := by
    refine it_inv0 (F := fun rec224 a => q_L_law_224 rec224 L xs x0 a.1 a.2.1 a.2.2.1 a.2.2.2.1 a.2.2.2.2.1 a.2.2.2.2.2.1 a.2.2.2.2.2.2.1 a.2.2.2.2.2.2.2.1 a.2.2.2.2.2.2.2.2.1 a.2.2.2.2.2.2.2.2.2.1 a.2.2.2.2.2.2.2.2.2.2)
      (fun g a => ∃ D x, a = (D, x, nI n, nI m, nI t, pu, gr, b, sz, pe, nI g) ∧ ZZ D n (min g m) 0 Pf (Gf0 L xs m) ∧ FX X gr x ∧ ∀ j, j < 16 → x.2.2 gr j = if j < 3 * g then Gf0 L xs m j else 0)
      (fun r => r = 1) (m + 1) (fun g a hg hq => ?_) (fun a hq => ?_) (by omega) (d, X, nI n, nI m, nI t, pu, gr, b, sz, pe, 0) ⟨d, X, rfl, by rw [Nat.zero_min]; exact hZ, ⟨rfl, fun _ => ⟨rfl, fun _ => rfl⟩⟩, fun j hj => (hGr.2.2 j hj).trans (if_neg (by omega)).symm⟩
    · obtain ⟨D, x, rfl, z1, f1, f2⟩ := hq
      obtain ⟨e1, e2, e3⟩ := gf_e L xs hg
      have bG : ∀ x' : sk_X, FX X gr x' → ∀ j, j < 16 → xb x' gr (nI j) = true := fun x' hx j hj => AX.b ⟨by rw [hx.1]; exact hGr.1, (hx.2 gr).1.trans hGr.2.1, fun _ _ => rfl⟩ hj (by omega)
      have k1 := f1.w (3 * g) (Gf0 L xs m (3 * g))
      have k2 := k1.w (3 * g + 1) (Gf0 L xs m (3 * g + 1))
      have k3 := k2.w (3 * g + 2) (Gf0 L xs m (3 * g + 2))
      generalize hx3 : xw (xw (xw x gr (3 * g) (Gf0 L xs m (3 * g))) gr (3 * g + 1) (Gf0 L xs m (3 * g + 1))) gr (3 * g + 2) (Gf0 L xs m (3 * g + 2)) = x3 at k3
      have c3 : ∀ j, j < 16 → x3.2.2 gr j = if j < 3 * (g + 1) then Gf0 L xs m j else 0 := fun j hj => by
        rw [← hx3]
        by_cases q2 : j = 3 * g + 2
        · rw [q2, xw_e, if_pos (by omega)]
        · rw [xw_o (fun z => q2 z.2)]
          by_cases q1 : j = 3 * g + 1
          · rw [q1, xw_e, if_pos (by omega)]
          · rw [xw_o (fun z => q1 z.2)]
            by_cases q0 : j = 3 * g
            · rw [q0, xw_e, if_pos (by omega)]
            · rw [xw_o (fun z => q0 z.2), f2 j hj]
              by_cases q : j < 3 * g
              · rw [if_pos q, if_pos (by omega)]
              · rw [if_neg q, if_neg (by omega)]
      have pre : ∀ rec, q_L_law_224 rec L xs x0 D x (nI n) (nI m) (nI t) pu gr b sz pe (nI g) = if nI m ≤ nI g then q_L_law_332 rec L xs x0 D x3 (nI n) (nI m) (nI t) pu gr b sz pe (nI g) else q_L_law_303 rec L xs x0 D x3 (nI n) (nI m) (nI t) pu gr b sz pe (nI g) gr (nI (3 * g)) := fun rec => by
        unfold q_L_law_224
        rw [if_neg (nI_nlt (by omega) (by omega)), show (10 : Int32) = nI 10 from rfl, nI_add, cell_q hL xs (by omega), Option.bind_some, show q_L_low (cv L xs (10 + g)) 4 = some (nI (lw (cv L xs (10 + g)) 4)) from low_q _ (n := 4) (by omega) (by omega), Option.bind_some, nI3, pk_mul, if_pos (bG x f1 _ (by omega)), nI_clamp (show 3 * g < 2 ^ 31 by omega), ← e1, show (1 : Int32) = nI 1 from rfl, nI_add]
        unfold q_L_law_267
        rw [show q_L_low (cv L xs (10 + g) >>> ((2 : Int32) &&& 31)) 3 = some (nI (lw (cv L xs (10 + g) >>> ((2 : Int32) &&& 31)) 3)) from low_q _ (n := 3) (by omega) (by omega), Option.bind_some, if_pos (bG _ k1 _ (by omega)), nI_clamp (show 3 * g + 1 < 2 ^ 31 by omega), ← e2]
        unfold q_L_law_285
        rw [show q_L_low (cv L xs (10 + g) >>> ((4 : Int32) &&& 31)) 3 = some (nI (lw (cv L xs (10 + g) >>> ((4 : Int32) &&& 31)) 3)) from low_q _ (n := 3) (by omega) (by omega), Option.bind_some, nI3, pk_mul, show (2 : Int32) = nI 2 from rfl, nI_add, if_pos (bG _ k2 _ (by omega)), show (1 : Int32) = nI 1 from rfl, nI_add, nI_clamp (show 3 * g + 2 < 2 ^ 31 by omega), ← e3, hx3]
      have e332 : ∀ rec D', q_L_law_332 rec L xs x0 D' x3 (nI n) (nI m) (nI t) pu gr b sz pe (nI g) = rec (D', x3, nI n, nI m, nI t, pu, gr, b, sz, pe, nI (g + 1)) := fun rec D' => by
        unfold q_L_law_332
        rw [nI_1]
      by_cases hgm : g < m
      · rw [Nat.min_eq_left (by omega)] at z1
        obtain ⟨D', q1, q2⟩ := za_open z1 (by omega) (fun g' hg' => gf_DG L xs m g' (by omega))
        refine ⟨_, ⟨D', x3, rfl, by rw [Nat.min_eq_left (by omega)]; exact q2, k3, c3⟩, fun rec => (pre rec).trans ?_⟩
        rw [if_neg (nI_ge hgm (by omega))]
        unfold q_L_law_303
        rw [if_pos (bG x3 k3 _ (by omega)), nI3, pk_mul, show (1 : Int32) = nI 1 from rfl, show (2 : Int32) = nI 2 from rfl, nI_add, nI_add, if_pos (bG x3 k3 _ (by omega)), if_pos (bG x3 k3 _ (by omega)), nI_clamp (show 3 * g < 2 ^ 31 by omega), nI_clamp (show 3 * g + 1 < 2 ^ 31 by omega), nI_clamp (show 3 * g + 2 < 2 ^ 31 by omega), c3 _ (by omega), c3 _ (by omega), c3 _ (by omega), if_pos (by omega), if_pos (by omega), if_pos (by omega), q1, Option.bind_some, if_pos rfl, e332]
      · rw [Nat.min_eq_right (by omega)] at z1
        refine ⟨_, ⟨D, x3, rfl, by rw [Nat.min_eq_right (by omega)]; exact z1, k3, c3⟩, fun rec => (pre rec).trans ?_⟩
        rw [if_pos (nI_le (by omega) (by omega)), e332]
    · obtain ⟨D, x, rfl, z1, f1, f2⟩ := hq
      rw [Nat.min_eq_right (by omega)] at z1
      have hx1 := f1.1
      have aG : AX x gr 16 (Gf0 L xs m) := ⟨by rw [hx1]; exact hGr.1, (f1.2 gr).1.trans hGr.2.1, fun j hj => (f2 j hj).trans (by
        by_cases q : j < 3 * (m + 1)
        · rw [if_pos q]
        · rw [if_neg q]
          unfold Gf0
          rw [if_neg q])⟩
      have aP := f1.ax hPu n3
      have hbx : x.2.1 b = 8 := (f1.2 b).1.trans hb8
      have fin := lb341 (X := x) z1 hP (gf_DG L xs m) hm1 hm3 ht (gf_DL aP hP h8 aG (by omega) hbx n1 n2 hn (by omega) (by omega)) (gf_DL aP hP h8 aG (by omega) hbx n1 n2 hn (Nat.le_refl _) (by omega)) (f1.ax hs (fun z => n4 z.symm)) (show pe < x.1 by omega) ((f1.2 pe).1.trans hp8) h1 n4 h3 hL xs (show x.1 ≤ x0 + 5 by omega)
      refine ⟨1, rfl, fun rec => ?_⟩
      show q_L_law_224 rec L xs x0 D x (nI n) (nI m) (nI t) pu gr b sz pe (nI (m + 1)) = _
      unfold q_L_law_224
      rw [if_pos (nI_lt (by omega) (by omega))]
      exact fin
  obtain ⟨r, e, rfl⟩ := main
  exact e
end LB
