/-! THE LAW's lifts: what it sets *** by hand -/
def S3 (X : sk_X) (x : sk_X) : Prop := x.1 = X.1 + 3 ∧ x.2.1 X.1 = 12 ∧ x.2.1 (X.1 + 1) = 32 ∧ x.2.1 (X.1 + 2) = 16 ∧ ∀ k, k < X.1 → x.2.1 k = X.2.1 k ∧ x.2.2 k = X.2.2 k
theorem S3.w {X x : sk_X} {k : Nat} (h : S3 X x) (hk : X.1 ≤ k) (j : Nat) (v : Int32) : S3 X (xw x k j v) := by
  refine ⟨h.1, h.2.1, h.2.2.1, h.2.2.2.1, fun i hi => ⟨(h.2.2.2.2 i hi).1, ?_⟩⟩
  rw [← (h.2.2.2.2 i hi).2]
  funext j'
  exact xw_o (fun q => by omega)
theorem S3.b5 {X x : sk_X} {j : Nat} (h : S3 X x) (hj : j < 12) : xb x X.1 (nI j) = true := AX.b ⟨by have := h.1; omega, h.2.1, fun _ _ => rfl⟩ hj (by omega)
theorem S3.b6 {X x : sk_X} {j : Nat} (h : S3 X x) (hj : j < 32) : xb x (X.1 + 1) (nI j) = true := AX.b ⟨by have := h.1; omega, h.2.2.1, fun _ _ => rfl⟩ hj (by omega)
def se0 (L : Nat) (xs : Nat → Int32) (l : Nat) : Nat := 1 + lw (cv L xs (21 + l)) 4
def iv0 (L : Nat) (xs : Nat → Int32) (l : Nat) : Nat := 1 + lw (cv L xs (21 + l) >>> ((3 : Int32) &&& 31)) 5
def ri0 (L : Nat) (xs : Nat → Int32) (l : Nat) : Nat := 1 + lw (cv L xs (21 + l) >>> ((6 : Int32) &&& 31)) 9
def lf0 (y : Int32) (n j : Nat) : Nat := lw (y >>> (nI (6 + j) &&& 31)) n
def sl0 (y : Int32) (j : Nat) : Nat := 1 + lw (y >>> (nI (9 + j) &&& 31)) 7
section LP
variable {d : sk_D} {X x : sk_X} {n m t np : Nat} {Pf Gf : Nat → Int32} {c : Nat → Nat}
theorem lf221 (hZ : CL d np m t Pf Gf) (hS : S3 X x) {g sp : Nat} (hg : g < m) (hsp : sp ≤ 2) (hn1 : 1 ≤ n) (hn : n ≤ 3) (h9 : d.1 0 0 9 = nI n) (h6 : d.1 39 g 6 = 0) (y : Int32) (L : Nat) (xs : Nat → Int32) (x0 pe : Nat) :
    ∃ r : sk_D × sk_X, (S3 X r.2 ∧ r.2.2.2 (X.1 + 1) (6 * g) = nI sp ∧ (∀ j, j < sp → r.2.2.2 (X.1 + 1) (6 * g + 2 + 2 * j) = nI (lf0 y n j) ∧ r.2.2.2 (X.1 + 1) (6 * g + 3 + 2 * j) = nI (sl0 y j)) ∧ (∀ k i, ¬ (k = X.1 + 1 ∧ 6 * g ≤ i ∧ i < 6 * g + 6 ∧ i ≠ 6 * g + 1) → r.2.2.2 k i = x.2.2 k i) ∧ r.1.1 39 g 6 = nI sp ∧ (∀ j, j < sp → r.1.1 40 g j = nI (lf0 y n j) ∧ r.1.1 41 g j = nI (sl0 y j)) ∧ ∀ s k f, ¬ (k = g ∧ (s = 39 ∧ f = 6 ∨ s = 40 ∨ s = 41)) → r.1.1 s k f = d.1 s k f) ∧
    ∀ r153, l_L_lifts_221 r153 L xs x0 sk_fu (d, x, nI m, pe, nI n, X.1, X.1 + 1, X.1 + 2, nI g, y, nI sp, 0) = r153 (r.1, r.2, nI m, pe, nI n, X.1, X.1 + 1, X.1 + 2, nI (g + 1)) := by
  have hm := hZ.2.1
  have main := it_cn (F := fun r153 rec221 a => q_L_lifts_221 r153 rec221 L xs x0 a.1 a.2.1 a.2.2.1 a.2.2.2.1 a.2.2.2.2.1 a.2.2.2.2.2.1 a.2.2.2.2.2.2.1 a.2.2.2.2.2.2.2.1 a.2.2.2.2.2.2.2.2.1 a.2.2.2.2.2.2.2.2.2.1 a.2.2.2.2.2.2.2.2.2.2.1 a.2.2.2.2.2.2.2.2.2.2.2)
    (fun r153 (r : sk_D × sk_X) => r153 (r.1, r.2, nI m, pe, nI n, X.1, X.1 + 1, X.1 + 2, nI (g + 1)))
    (fun j a => ∃ D x', a = (D, x', nI m, pe, nI n, X.1, X.1 + 1, X.1 + 2, nI g, y, nI sp, nI j) ∧ S3 X x' ∧ (∀ i, i < j → x'.2.2 (X.1 + 1) (6 * g + 2 + 2 * i) = nI (lf0 y n i) ∧ x'.2.2 (X.1 + 1) (6 * g + 3 + 2 * i) = nI (sl0 y i)) ∧ (∀ k i, ¬ (k = X.1 + 1 ∧ 6 * g + 2 ≤ i ∧ i < 6 * g + 6) → x'.2.2 k i = x.2.2 k i) ∧ D.1 39 g 6 = nI j ∧ (∀ i, i < j → D.1 40 g i = nI (lf0 y n i) ∧ D.1 41 g i = nI (sl0 y i)) ∧ ∀ s k f, ¬ (k = g ∧ (s = 39 ∧ f = 6 ∨ s = 40 ∨ s = 41)) → D.1 s k f = d.1 s k f)
    (fun r => S3 X r.2 ∧ r.2.2.2 (X.1 + 1) (6 * g) = nI sp ∧ (∀ j, j < sp → r.2.2.2 (X.1 + 1) (6 * g + 2 + 2 * j) = nI (lf0 y n j) ∧ r.2.2.2 (X.1 + 1) (6 * g + 3 + 2 * j) = nI (sl0 y j)) ∧ (∀ k i, ¬ (k = X.1 + 1 ∧ 6 * g ≤ i ∧ i < 6 * g + 6 ∧ i ≠ 6 * g + 1) → r.2.2.2 k i = x.2.2 k i) ∧ r.1.1 39 g 6 = nI sp ∧ (∀ j, j < sp → r.1.1 40 g j = nI (lf0 y n j) ∧ r.1.1 41 g j = nI (sl0 y j)) ∧ ∀ s k f, ¬ (k = g ∧ (s = 39 ∧ f = 6 ∨ s = 40 ∨ s = 41)) → r.1.1 s k f = d.1 s k f)
    sp (fun j a hj hp => ?_) (fun a hp => ?_) (by omega) (d, x, nI m, pe, nI n, X.1, X.1 + 1, X.1 + 2, nI g, y, nI sp, 0) ⟨d, x, rfl, hS, fun i hi => absurd hi (Nat.not_lt_zero i), fun _ _ _ => rfl, h6, fun i hi => absurd hi (Nat.not_lt_zero i), fun _ _ _ _ => rfl⟩
  · exact main
  · obtain ⟨D, x', rfl, s1, s2, s3, s4, s5, s6⟩ := hp
    have hl : lf0 y n j < n := lw_lt (y >>> (nI (6 + j) &&& 31)) (n := n) (by omega)
    have hw := lw_lt (y >>> (nI (9 + j) &&& 31)) (n := 7) (by omega)
    have hCL : CL D np m t Pf Gf := by
      obtain ⟨c1, c2, c3, c4, c5, c6, c7⟩ := hZ
      refine ⟨c1, c2, fun k hk => ?_, fun k hk => ?_, fun g' hg' => ?_, fun g' hg' => ?_, fun f hf => ?_⟩
      · rw [s6 37 k 0 (by omega)]
        exact c3 k hk
      · rw [s6 37 k 1 (by omega), s6 37 k 2 (by omega), s6 37 k 3 (by omega)]
        exact c4 k hk
      · rw [s6 39 g' 0 (by omega)]
        exact c5 g' hg'
      · rw [s6 39 g' 1 (by omega), s6 39 g' 2 (by omega), s6 39 g' 3 (by omega)]
        exact c6 g' hg'
      · rw [s6 5 0 f (by omega)]
        exact c7 f hf
    obtain ⟨D', q1, q2, q3, q4, q5⟩ := x_stop hCL hg ((s6 0 0 9 (by omega)).trans h9) hn hl (show 1 ≤ sl0 y j by unfold sl0; omega) (show sl0 y j ≤ 20 by unfold sl0; omega) s4 (by omega)
    have o1 := s1.w (k := X.1 + 1) (by omega) (6 * g + 2 + 2 * j) (nI (lf0 y n j))
    have o2 := o1.w (k := X.1 + 1) (by omega) (6 * g + 3 + 2 * j) (nI (sl0 y j))
    refine ⟨_, ⟨D', xw (xw x' (X.1 + 1) (6 * g + 2 + 2 * j) (nI (lf0 y n j))) (X.1 + 1) (6 * g + 3 + 2 * j) (nI (sl0 y j)), rfl, o2, fun i hi => ?_, fun k i hk => ?_, q2, fun i hi => ?_, fun s k f hs => ?_⟩, fun r153 rec => ?_⟩
    · by_cases e : i = j
      · rw [e, xw_o (by omega), xw_e, xw_e]
        exact ⟨rfl, rfl⟩
      · rw [xw_o (by omega), xw_o (by omega), xw_o (by omega), xw_o (by omega)]
        exact s2 i (by omega)
    · rw [xw_o (by omega), xw_o (by omega)]
      exact s3 k i hk
    · by_cases e : i = j
      · rw [e]
        exact ⟨q3, q4⟩
      · rw [q5 40 g i (by omega) (by omega) (by omega), q5 41 g i (by omega) (by omega) (by omega)]
        exact s5 i (by omega)
    · rw [q5 s k f (by omega) (by omega) (by omega)]
      exact s6 s k f hs
    · show q_L_lifts_221 r153 rec L xs x0 D x' (nI m) pe (nI n) X.1 (X.1 + 1) (X.1 + 2) (nI g) y (nI sp) (nI j) = _
      have e303 : q_L_lifts_303 r153 rec L xs x0 D (xw (xw x' (X.1 + 1) (6 * g + 2 + 2 * j) (nI (lf0 y n j))) (X.1 + 1) (6 * g + 3 + 2 * j) (nI (sl0 y j))) (nI m) pe (nI n) X.1 (X.1 + 1) (X.1 + 2) (nI g) y (nI sp) (nI j) (nI g) (X.1 + 1) (nI (6 * g + 2 + 2 * j)) = rec (D', xw (xw x' (X.1 + 1) (6 * g + 2 + 2 * j) (nI (lf0 y n j))) (X.1 + 1) (6 * g + 3 + 2 * j) (nI (sl0 y j)), nI m, pe, nI n, X.1, X.1 + 1, X.1 + 2, nI g, y, nI sp, nI (j + 1)) := by
        unfold q_L_lifts_303
        rw [show (6 : Int32) = nI 6 from rfl, show (2 : Int32) = nI 2 from rfl, nI3, pk_mul, pk_mul, nI_add, nI_add, if_pos (o2.b6 (by omega)), if_pos (o2.b6 (by omega)), nI_clamp (show 6 * g + 2 + 2 * j < 2 ^ 31 by omega), nI_clamp (show 6 * g + 3 + 2 * j < 2 ^ 31 by omega), xw_o (by omega), xw_e, xw_e, q1, Option.bind_some, nI_1, if_pos rfl]
      have e281 : q_L_lifts_281 r153 rec L xs x0 D (xw x' (X.1 + 1) (6 * g + 2 + 2 * j) (nI (lf0 y n j))) (nI m) pe (nI n) X.1 (X.1 + 1) (X.1 + 2) (nI g) y (nI sp) (nI j) (X.1 + 1) (nI (6 * g + 3 + 2 * j)) (y >>> (nI (9 + j) &&& 31)) = rec (D', xw (xw x' (X.1 + 1) (6 * g + 2 + 2 * j) (nI (lf0 y n j))) (X.1 + 1) (6 * g + 3 + 2 * j) (nI (sl0 y j)), nI m, pe, nI n, X.1, X.1 + 1, X.1 + 2, nI g, y, nI sp, nI (j + 1)) := by
        unfold q_L_lifts_281
        rw [show q_L_low (y >>> (nI (9 + j) &&& 31)) 7 = some (nI (lw (y >>> (nI (9 + j) &&& 31)) 7)) from low_q _ (n := 7) (by omega) (by omega), Option.bind_some, if_pos (o1.b6 (by omega)), show (1 : Int32) = nI 1 from rfl, nI_add, nI_clamp (show 6 * g + 3 + 2 * j < 2 ^ 31 by omega), show (6 : Int32) = nI 6 from rfl, show (2 : Int32) = nI 2 from rfl, pk_mul, pk_mul, nI_add, nI_add]
        exact e303
      unfold q_L_lifts_221
      rw [if_neg (nI_ge hj (by omega)), show (6 : Int32) = nI 6 from rfl, show (2 : Int32) = nI 2 from rfl, nI3, show (9 : Int32) = nI 9 from rfl, pk_mul, pk_mul, nI_add, nI_add, nI_add, nI_add, nI_add, nI_add, low_q _ (by omega) (by omega), Option.bind_some, if_pos (s1.b6 (by omega)), nI_clamp (show 6 * g + 2 + 2 * j < 2 ^ 31 by omega)]
      exact e281
  · obtain ⟨D, x', rfl, s1, s2, s3, s4, s5, s6⟩ := hp
    refine ⟨(D, xw x' (X.1 + 1) (6 * g) (nI sp)), ⟨s1.w (by omega) _ _, xw_e, fun j hj => ?_, fun k i hk => ?_, s4, s5, s6⟩, fun r153 rec => ?_⟩
    · show (xw x' (X.1 + 1) (6 * g) (nI sp)).2.2 (X.1 + 1) _ = _ ∧ (xw x' (X.1 + 1) (6 * g) (nI sp)).2.2 (X.1 + 1) _ = _
      rw [xw_o (by omega), xw_o (by omega)]
      exact s2 j hj
    · show (xw x' (X.1 + 1) (6 * g) (nI sp)).2.2 k i = _
      rw [xw_o (by omega)]
      exact s3 k i (by omega)
    · show q_L_lifts_221 r153 rec L xs x0 D x' (nI m) pe (nI n) X.1 (X.1 + 1) (X.1 + 2) (nI g) y (nI sp) (nI sp) = _
      unfold q_L_lifts_221
      rw [if_pos (nI_le (Nat.le_refl _) (by omega)), show (6 : Int32) = nI 6 from rfl, pk_mul, if_pos (s1.b6 (by omega)), nI_clamp (show 6 * g < 2 ^ 31 by omega), nI_1]
end LP
