/-! THE LAW's lifts: the loops over lifts and groups *** by hand -/
def sp0 (L : Nat) (xs : Nat → Int32) (g : Nat) : Nat := lw (cv L xs (24 + g) >>> ((4 : Int32) &&& 31)) 3
def A0 (L : Nat) (xs : Nat → Int32) (g : Nat) : Nat := lw (cv L xs (24 + g)) 6
theorem CL.fr {d d' : sk_D} {np m t : Nat} {Pf Gf : Nat → Int32} (h : CL d np m t Pf Gf) (ho : ∀ s k f, s = 5 ∨ s = 37 ∨ s = 39 ∧ f ≤ 3 → d'.1 s k f = d.1 s k f) : CL d' np m t Pf Gf := by
  obtain ⟨c1, c2, c3, c4, c5, c6, c7⟩ := h
  refine ⟨c1, c2, fun k hk => ?_, fun k hk => ?_, fun g hg => ?_, fun g hg => ?_, fun f hf => ?_⟩
  · rw [ho 37 k 0 (by omega)]
    exact c3 k hk
  · rw [ho 37 k 1 (by omega), ho 37 k 2 (by omega), ho 37 k 3 (by omega)]
    exact c4 k hk
  · rw [ho 39 g 0 (by omega)]
    exact c5 g hg
  · rw [ho 39 g 1 (by omega), ho 39 g 2 (by omega), ho 39 g 3 (by omega)]
    exact c6 g hg
  · rw [ho 5 0 f (by omega)]
    exact c7 f hf
section LP
variable {d : sk_D} {X x : sk_X} {n m t np : Nat} {Pf Gf : Nat → Int32} {c : Nat → Nat}
/-- what the groups' loop leaves *** -/
def G3 (L : Nat) (xs : Nat → Int32) (X : sk_X) (n g : Nat) (d : sk_D) (x : sk_X) (D : sk_D) (x' : sk_X) : Prop :=
  S3 X x' ∧ (∀ g', g' < g → x'.2.2 (X.1 + 1) (6 * g') = nI (sp0 L xs g') ∧ x'.2.2 (X.1 + 1) (6 * g' + 1) = nI (A0 L xs g') ∧ ∀ j, j < sp0 L xs g' → x'.2.2 (X.1 + 1) (6 * g' + 2 + 2 * j) = nI (lf0 (cv L xs (24 + g')) n j) ∧ x'.2.2 (X.1 + 1) (6 * g' + 3 + 2 * j) = nI (sl0 (cv L xs (24 + g')) j)) ∧
  (∀ k i, k ≠ X.1 + 1 → x'.2.2 k i = x.2.2 k i) ∧
  (∀ g', g' < g → D.1 39 g' 5 = nI (A0 L xs g') ∧ D.1 39 g' 6 = nI (sp0 L xs g') ∧ ∀ j, j < sp0 L xs g' → D.1 40 g' j = nI (lf0 (cv L xs (24 + g')) n j) ∧ D.1 41 g' j = nI (sl0 (cv L xs (24 + g')) j)) ∧
  ∀ s k f, ¬ (k < g ∧ (s = 39 ∧ (f = 5 ∨ f = 6) ∨ s = 40 ∨ s = 41)) → D.1 s k f = d.1 s k f
theorem sp0_le (L : Nat) (xs : Nat → Int32) (g : Nat) : sp0 L xs g ≤ 2 := by
  have := lw_lt (cv L xs (24 + g) >>> ((4 : Int32) &&& 31)) (n := 3) (by omega)
  unfold sp0
  omega
theorem lf153 (hZ : CL d np m t Pf Gf) (hS : S3 X x) (hn1 : 1 ≤ n) (hn : n ≤ 3) (h9 : d.1 0 0 9 = nI n) (h0 : ∀ g, g < m → d.1 39 g 5 = 0 ∧ d.1 39 g 6 = 0) {L : Nat} (hL : L ≤ 260) (xs : Nat → Int32) (x0 pe : Nat) :
    ∃ r : sk_D × sk_X, G3 L xs X n m d x r.1 r.2 ∧ l_L_lifts_153 L xs x0 sk_fu (d, x, nI m, pe, nI n, X.1, X.1 + 1, X.1 + 2, 0) = q_L_lifts_153 (fun _ => none) L xs x0 r.1 r.2 (nI m) pe (nI n) X.1 (X.1 + 1) (X.1 + 2) (nI m) := by
  have hm := hZ.2.1
  have main := it_cn (ι := Unit) (F := fun _ rec153 a => q_L_lifts_153 rec153 L xs x0 a.1 a.2.1 a.2.2.1 a.2.2.2.1 a.2.2.2.2.1 a.2.2.2.2.2.1 a.2.2.2.2.2.2.1 a.2.2.2.2.2.2.2.1 a.2.2.2.2.2.2.2.2)
    (fun _ (r : sk_D × sk_X) => q_L_lifts_153 (fun _ => none) L xs x0 r.1 r.2 (nI m) pe (nI n) X.1 (X.1 + 1) (X.1 + 2) (nI m))
    (fun g a => ∃ D x', a = (D, x', nI m, pe, nI n, X.1, X.1 + 1, X.1 + 2, nI g) ∧ G3 L xs X n g d x D x')
    (fun r => G3 L xs X n m d x r.1 r.2) m (fun g a hg hp => ?_) (fun a hp => ?_) (by omega) (d, x, nI m, pe, nI n, X.1, X.1 + 1, X.1 + 2, 0) ⟨d, x, rfl, hS, fun g' hg' => absurd hg' (Nat.not_lt_zero g'), fun _ _ _ => rfl, fun g' hg' => absurd hg' (Nat.not_lt_zero g'), fun _ _ _ _ => rfl⟩
  · obtain ⟨r, h1, h2⟩ := main
    exact ⟨r, h1, h2 ()⟩
  · obtain ⟨D, x', rfl, s1, s2, s3, s4, s5⟩ := hp
    have hA6 := lw_lt (cv L xs (24 + g)) (n := 6) (by omega)
    have hA : A0 L xs g ≤ 60 := by
      unfold A0
      omega
    have hCL := hZ.fr (fun s k f hs => s5 s k f (by omega))
    have o1 := s1.w (k := X.1 + 1) (by omega) (6 * g + 1) (nI (A0 L xs g))
    have hst := x_start hCL hg hA
    rw [s5 39 g 5 (by omega), (h0 g hg).1] at hst
    have hCL2 : CL (sk_wi D 39 g 5 (nI (A0 L xs g))) np m t Pf Gf := hCL.fr (fun s k f hs => wi_o (by omega))
    have h92 : (sk_wi D 39 g 5 (nI (A0 L xs g))).1 0 0 9 = nI n := (wi_o (by omega)).trans ((s5 0 0 9 (by omega)).trans h9)
    have h62 : (sk_wi D 39 g 5 (nI (A0 L xs g))).1 39 g 6 = 0 := (wi_o (by omega)).trans ((s5 39 g 6 (by omega)).trans (h0 g hg).2)
    obtain ⟨⟨D', x2⟩, ⟨w1, w2, w3, w4, w5, w6, w7⟩, w8⟩ := lf221 hCL2 o1 hg (sp0_le L xs g) hn1 hn h92 h62 (cv L xs (24 + g)) L xs x0 pe
    dsimp only at w1 w2 w3 w4 w5 w6 w7 w8
    refine ⟨_, ⟨D', x2, rfl, w1, fun g' hg' => ?_, fun k i hk => ?_, fun g' hg' => ?_, fun s k f hs => ?_⟩, fun _ rec => ?_⟩
    · by_cases e : g' = g
      · subst e
        refine ⟨w2, ?_, w3⟩
        rw [w4 _ _ (by omega), xw_e]
      · have hs2 := sp0_le L xs g'
        have fr : ∀ i, i < 6 * g → x2.2.2 (X.1 + 1) i = x'.2.2 (X.1 + 1) i := fun i hi => (w4 _ _ (by omega)).trans (xw_o (by omega))
        obtain ⟨z1, z2, z3⟩ := s2 g' (by omega)
        rw [fr _ (by omega), fr _ (by omega)]
        exact ⟨z1, z2, fun j hj => by rw [fr _ (by omega), fr _ (by omega)]; exact z3 j hj⟩
    · rw [w4 k i (by omega), xw_o (by omega)]
      exact s3 k i hk
    · by_cases e : g' = g
      · subst e
        refine ⟨?_, w5, w6⟩
        rw [w7 39 g' 5 (by omega), wi_e]
      · have fr : ∀ s f, D'.1 s g' f = D.1 s g' f := fun s f => (w7 s g' f (by omega)).trans (wi_o (by omega))
        obtain ⟨z1, z2, z3⟩ := s4 g' (by omega)
        rw [fr, fr]
        exact ⟨z1, z2, fun j hj => by rw [fr, fr]; exact z3 j hj⟩
    · rw [w7 s k f (by omega), wi_o (by omega)]
      exact s5 s k f (by omega)
    · show q_L_lifts_153 rec L xs x0 D x' (nI m) pe (nI n) X.1 (X.1 + 1) (X.1 + 2) (nI g) = _
      unfold q_L_lifts_153 q_L_lifts_199
      rw [if_neg (nI_ge hg (by omega)), show (24 : Int32) = nI 24 from rfl, nI_add, cell_q hL xs (by omega), Option.bind_some, show q_L_low (cv L xs (24 + g)) 6 = some (nI (A0 L xs g)) from low_q _ (n := 6) (by omega) (by omega), Option.bind_some, show (6 : Int32) = nI 6 from rfl, pk_mul, show (1 : Int32) = nI 1 from rfl, nI_add, if_pos (s1.b6 (by omega)), nI_clamp (show 6 * g + 1 < 2 ^ 31 by omega), if_pos (o1.b6 (by omega)), xw_e, hst, Option.bind_some, if_pos rfl, show q_L_low (cv L xs (24 + g) >>> ((4 : Int32) &&& 31)) 3 = some (nI (sp0 L xs g)) from low_q _ (n := 3) (by omega) (by omega), Option.bind_some]
      exact w8 rec
  · obtain ⟨D, x', rfl, h⟩ := hp
    refine ⟨(D, x'), h, fun _ rec => ?_⟩
    show q_L_lifts_153 rec L xs x0 D x' (nI m) pe (nI n) X.1 (X.1 + 1) (X.1 + 2) (nI m) = _
    unfold q_L_lifts_153
    rw [if_pos (nI_le (Nat.le_refl _) (by omega)), if_pos (nI_le (Nat.le_refl _) (by omega))]
end LP
