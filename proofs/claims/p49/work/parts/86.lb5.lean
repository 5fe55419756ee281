/-! THE LAW's body: sizes, staff, lifts *** by hand -/
section LB
variable {d : sk_D} {X x : sk_X} {n m t : Nat} {Pf Gf : Nat → Int32} {c : Nat → Nat}
theorem dc_g {p g : Nat} (hg : g < m) (hc : c p ≤ m) : dc m c p = g ↔ c p = g + 1 := by
  unfold dc
  split <;> omega
theorem lb531 (hZ : ZA d n m t Pf Gf c) {gr b sz pe : Nat} (hB : AX X b 8 (X.2.2 b)) (hb : ∀ p, p < n → X.2.2 b p = nI (dc m c p)) (hs : sz < X.1) (hs8 : X.2.1 sz = 8) (hne : b ≠ sz) {g : Nat} (hg : g < m) (hF : FX X sz x) (hz : x.2.2 sz g = 0) (L : Nat) (xs : Nat → Int32) (x0 : Nat) :
    ∃ x', (FX X sz x' ∧ x'.2.2 sz g = nI (szc n c g) ∧ ∀ i, i ≠ g → x'.2.2 sz i = x.2.2 sz i) ∧ ∀ r522, l_L_law_531 r522 L xs x0 sk_fu (d, x, nI n, nI m, gr, b, sz, pe, nI g, 0) = r522 (d, x', nI n, nI m, gr, b, sz, pe, nI (g + 1)) := by
  have hn := hZ.1.1
  have hm := hZ.1.2.1
  refine it_cn (F := fun r522 rec531 a => q_L_law_531 r522 rec531 L xs x0 a.1 a.2.1 a.2.2.1 a.2.2.2.1 a.2.2.2.2.1 a.2.2.2.2.2.1 a.2.2.2.2.2.2.1 a.2.2.2.2.2.2.2.1 a.2.2.2.2.2.2.2.2.1 a.2.2.2.2.2.2.2.2.2)
    (fun r522 x' => r522 (d, x', nI n, nI m, gr, b, sz, pe, nI (g + 1)))
    (fun p a => ∃ x', a = (d, x', nI n, nI m, gr, b, sz, pe, nI g, nI p) ∧ FX X sz x' ∧ x'.2.2 sz g = nI (szc p c g) ∧ ∀ i, i ≠ g → x'.2.2 sz i = x.2.2 sz i)
    (fun x' => FX X sz x' ∧ x'.2.2 sz g = nI (szc n c g) ∧ ∀ i, i ≠ g → x'.2.2 sz i = x.2.2 sz i) n (fun p a hp hq => ?_) (fun a hq => ?_) (by omega) (d, x, nI n, nI m, gr, b, sz, pe, nI g, 0) ⟨x, rfl, hF, hz, fun _ _ => rfl⟩
  · obtain ⟨x', rfl, h1, h2, h3⟩ := hq
    have aB := h1.ax hB hne
    have bS : xb x' sz (nI g) = true := AX.b ⟨by have := h1.1; omega, (h1.2 sz).1.trans hs8, fun _ _ => rfl⟩ (by omega) (by omega)
    have hc := (hZ.2.1 p hp).2
    have hdl : dc m c p ≤ m := by
      unfold dc
      split <;> omega
    refine ⟨_, ⟨xw x' sz g (nI (szc (p + 1) c g)), rfl, h1.w g _, xw_e, fun i hi => (xw_o (fun z => hi z.2)).trans (h3 i hi)⟩, fun r522 rec => ?_⟩
    show q_L_law_531 r522 rec L xs x0 d x' (nI n) (nI m) gr b sz pe (nI g) (nI p) = _
    have e558 : ∀ e : Nat, szc (p + 1) c g = szc p c g + e → q_L_law_558 r522 rec L xs x0 d x' (nI n) (nI m) gr b sz pe (nI g) (nI p) sz (nI g) (nI (szc p c g)) (nI e) = rec (d, xw x' sz g (nI (szc (p + 1) c g)), nI n, nI m, gr, b, sz, pe, nI g, nI (p + 1)) := fun e he => by
      unfold q_L_law_558
      rw [if_pos bS, nI_clamp (by omega), nI_add, he, nI_1]
    have ek : szc (p + 1) c g = szc p c g + (if decide (c p = g + 1) = true then 1 else 0) := by
      unfold szc
      rw [kn_b]
    unfold q_L_law_531
    rw [if_neg (nI_ge hp (by omega)), if_pos bS, nI_clamp (show g < 2 ^ 31 by omega), h2, if_pos (aB.b (by omega) (by omega)), aB.l (by omega) (by omega), hb p hp]
    by_cases q : c p = g + 1
    · rw [if_pos (by rw [(dc_g hg hc).mpr q])]
      rw [decide_eq_true q, if_pos rfl] at ek
      exact e558 1 ek
    · rw [if_neg (fun z => q ((dc_g hg hc).mp ((nI_eq (by omega) (by omega)).mp z)))]
      rw [decide_eq_false q, if_neg (by decide)] at ek
      exact e558 0 ek
  · obtain ⟨x', rfl, h1, h2, h3⟩ := hq
    have bS : xb x' sz (nI g) = true := AX.b ⟨by have := h1.1; omega, (h1.2 sz).1.trans hs8, fun _ _ => rfl⟩ (by omega) (by omega)
    refine ⟨x', ⟨h1, h2, h3⟩, fun r522 rec => ?_⟩
    show q_L_law_531 r522 rec L xs x0 d x' (nI n) (nI m) gr b sz pe (nI g) (nI n) = _
    unfold q_L_law_531
    rw [if_pos (nI_le (Nat.le_refl _) (by omega)), x_size hZ hg, Option.bind_some, if_pos bS, nI_clamp (by omega), h2, nI_1]
    exact if_pos rfl
theorem lb522 (hZ : ZA d n m t Pf Gf c) (hm1 : 1 ≤ m) {gr b sz pe : Nat} (hG : AX X gr 16 Gf) (hB : AX X b 8 (X.2.2 b)) (hb : ∀ p, p < n → X.2.2 b p = nI (dc m c p)) (hs : AX X sz 8 (fun _ => 0)) (hp : pe < X.1) (hp8 : X.2.1 pe = 8) (h1 : b ≠ sz) (h2 : gr ≠ sz) (h3 : sz ≠ pe) {L : Nat} (hL : L ≤ 260) (xs : Nat → Int32) {x0 : Nat} (hx0 : X.1 ≤ x0 + 15) :
    l_L_law_522 L xs x0 sk_fu (d, X, nI n, nI m, gr, b, sz, pe, 0) = some 1 := by
  have hn := hZ.1.1
  have hm := hZ.1.2.1
  have main : ∃ r, l_L_law_522 L xs x0 sk_fu (d, X, nI n, nI m, gr, b, sz, pe, 0) = some r ∧ r = 1 := by
    refine it_inv0 (F := fun rec522 a => q_L_law_522 rec522 L xs x0 a.1 a.2.1 a.2.2.1 a.2.2.2.1 a.2.2.2.2.1 a.2.2.2.2.2.1 a.2.2.2.2.2.2.1 a.2.2.2.2.2.2.2.1 a.2.2.2.2.2.2.2.2)
      (fun g a => ∃ x, a = (d, x, nI n, nI m, gr, b, sz, pe, nI g) ∧ FX X sz x ∧ (∀ i, i < g → x.2.2 sz i = nI (szc n c i)) ∧ ∀ i, g ≤ i → i < 8 → x.2.2 sz i = 0)
      (fun r => r = 1) m (fun g a hg hq => ?_) (fun a hq => ?_) (by omega) (d, X, nI n, nI m, gr, b, sz, pe, 0) ⟨X, rfl, ⟨rfl, fun _ => ⟨rfl, fun _ => rfl⟩⟩, fun i hi => absurd hi (Nat.not_lt_zero i), fun i _ hi => hs.2.2 i hi⟩
    · obtain ⟨x, rfl, f1, f2, f3⟩ := hq
      obtain ⟨x', ⟨w1, w2, w3⟩, w4⟩ := lb531 (gr := gr) (pe := pe) hZ hB hb hs.1 hs.2.1 h1 hg f1 (f3 g (Nat.le_refl _) (by omega)) L xs x0
      refine ⟨_, ⟨x', rfl, w1, fun i hi => ?_, fun i g1 g2 => ?_⟩, fun rec => ?_⟩
      · by_cases e : i = g
        · rw [e]
          exact w2
        · rw [w3 i e]
          exact f2 i (by omega)
      · rw [w3 i (by omega)]
        exact f3 i (by omega) g2
      · show q_L_law_522 rec L xs x0 d x (nI n) (nI m) gr b sz pe (nI g) = _
        unfold q_L_law_522
        rw [if_neg (nI_ge hg (by omega))]
        exact w4 rec
    · obtain ⟨x, rfl, f1, f2, f3⟩ := hq
      have hx1 := f1.1
      have aS : AX x sz 8 (fun g => nI (szc n c g)) := ⟨by rw [hx1]; exact hs.1, (f1.2 sz).1.trans hs.2.1, fun i hi => by
        by_cases q : i < m
        · exact f2 i q
        · rw [f3 i (by omega) hi]
          show _ = nI (szc n c i)
          rw [szc_z hZ.b (show m ≤ i by omega)]
          rfl⟩
      obtain ⟨d1, x1, q1, s1, s2, k, Tf, W, u, s3, s4, s5, s6, s7⟩ := x_staffed hZ.b hZ.2.2.2.2.1 (fun g hg => (hZ.2.2.1 g hg).1) hL xs (f1.ax hG h2) aS (show pe < x.1 by omega) ((f1.2 pe).1.trans hp8) h3
      obtain ⟨d2, x2, q2⟩ := x_lifts s5.g s7 hm1 s3 s5.2.2.1 s5.2.2.2.2.1 (show pe < x1.1 by omega) ((s2 pe (by omega)).1.trans ((f1.2 pe).1.trans hp8)) s4 hL xs
      refine ⟨1, rfl, fun rec => ?_⟩
      show q_L_law_522 rec L xs x0 d x (nI n) (nI m) gr b sz pe (nI m) = _
      unfold q_L_law_522
      rw [if_pos (nI_le (Nat.le_refl _) (by omega)), q1, Option.bind_some, if_pos s1, if_pos (show x1.1 ≤ x0 + 149 by omega), if_neg (show ¬ (1 : Int32) = 0 by decide), q2, Option.bind_some, if_pos (show x1.1 + 131 ≤ x0 + 149 by omega), if_neg (show ¬ (1 : Int32) = 0 by decide)]
  obtain ⟨r, e, rfl⟩ := main
  exact e
end LB
