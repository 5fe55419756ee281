/-! THE LAW's simulation: who joins *** by hand -/
/-- the law's rows: what stays, what moves *** -/
def LSt (P : Nat → Nat → Nat → Nat) (X : sk_X) (pe li pr ou m n : Nat) (q sp : Nat → Nat) : Prop :=
  AX X pe 8 (X.2.2 pe) ∧ AX X li 12 (X.2.2 li) ∧ AX X pr 32 (X.2.2 pr) ∧ ou < X.1 ∧ X.2.1 ou = 16 ∧ pe ≠ ou ∧ li ≠ ou ∧ pr ≠ ou ∧ m ≤ 4 ∧ n = P 7 0 0 ∧ m = P 8 0 0 ∧
  (∀ g, g < m → q g ≤ 19 ∧ X.2.2 pe g = nI (q g) ∧ sp g ≤ 4 ∧ X.2.2 pr (6 * g) = nI (sp g) ∧ (P 0 g 0 = 0 → q g = 0 ∨ sp g = 0) ∧ (P 0 g 0 ≠ 0 → q g = P 0 g 0 ∧ sp g = P 1 g 0 ∧ ∀ j, j < P 1 g 0 → X.2.2 pr (6 * g + 2 + 2 * j) = nI (P 2 g j) ∧ X.2.2 pr (6 * g + 3 + 2 * j) = nI (P 3 g j))) ∧
  ∀ l, l < n → X.2.2 li (3 * l) = nI (P 4 l 0) ∧ X.2.2 li (3 * l + 1) = nI (P 5 l 0) ∧ X.2.2 li (3 * l + 2) = nI (P 6 l 0)
def IZ (X : sk_X) (ou : Nat) (x : sk_X) : Prop := x.1 = X.1 + 4 ∧ x.2.1 X.1 = 64 ∧ x.2.1 (X.1 + 1) = 4 ∧ x.2.1 (X.1 + 2) = 4 ∧ x.2.1 (X.1 + 3) = 4 ∧ ∀ k, k < X.1 → x.2.1 k = X.2.1 k ∧ (k ≠ ou → x.2.2 k = X.2.2 k)
theorem IZ.ax {X x : sk_X} {ou k n : Nat} {f : Nat → Int32} (h : IZ X ou x) (hA : AX X k n f) (hk : k ≠ ou) : AX x k n f :=
  hA.fr (by have := h.1; have := hA.1; omega) (h.2.2.2.2.2 k hA.1).1 ((h.2.2.2.2.2 k hA.1).2 hk)
theorem IZ.b7 {X x : sk_X} {ou j : Nat} (h : IZ X ou x) (hj : j < 64) : xb x X.1 (nI j) = true := AX.b ⟨by have := h.1; omega, h.2.1, fun _ _ => rfl⟩ hj (by omega)
theorem IZ.b8 {X x : sk_X} {ou j : Nat} (h : IZ X ou x) (hj : j < 4) : xb x (X.1 + 1) (nI j) = true := AX.b ⟨by have := h.1; omega, h.2.2.1, fun _ _ => rfl⟩ hj (by omega)
theorem IZ.b9 {X x : sk_X} {ou j : Nat} (h : IZ X ou x) (hj : j < 4) : xb x (X.1 + 2) (nI j) = true := AX.b ⟨by have := h.1; omega, h.2.2.2.1, fun _ _ => rfl⟩ hj (by omega)
theorem IZ.b10 {X x : sk_X} {ou j : Nat} (h : IZ X ou x) (hj : j < 4) : xb x (X.1 + 3) (nI j) = true := AX.b ⟨by have := h.1; omega, h.2.2.2.2.1, fun _ _ => rfl⟩ hj (by omega)
theorem IZ.bo {X x : sk_X} {ou j : Nat} (h : IZ X ou x) (ho : ou < X.1) (h16 : X.2.1 ou = 16) (hj : j < 16) : xb x ou (nI j) = true := AX.b ⟨by have := h.1; omega, (h.2.2.2.2.2 ou ho).1.trans h16, fun _ _ => rfl⟩ hj (by omega)
theorem IZ.w {X x : sk_X} {ou k : Nat} (h : IZ X ou x) (hk : X.1 ≤ k ∨ k = ou) (j : Nat) (v : Int32) : IZ X ou (xw x k j v) := by
  refine ⟨h.1, h.2.1, h.2.2.1, h.2.2.2.1, h.2.2.2.2.1, fun i hi => ⟨(h.2.2.2.2.2 i hi).1, fun hb => ?_⟩⟩
  have e := (h.2.2.2.2.2 i hi).2 hb
  rw [← e]
  funext j'
  show (if i = k ∧ j' = j then v else x.2.2 i j') = x.2.2 i j'
  rw [if_neg (fun q => by omega)]
def LR (P : Nat → Nat → Nat → Nat) (X : sk_X) (ou m n : Nat) (s : ST) (x : sk_X) : Prop :=
  (∀ g, g < m → x.2.2 (X.1 + 2) g = (if P 0 g 0 = 0 then -1 else nI (s.1 2 g)) ∧ x.2.2 (X.1 + 3) g = nI (s.1 1 g) ∧ x.2.2 ou g = nI (s.1 4 g) ∧ x.2.2 ou (4 + g) = nI (s.1 3 g)) ∧
  ∀ l, l < n → x.2.2 (X.1 + 1) l = nI (fl (s.1 0) (s.2 l)).length ∧ (∀ i, i < (fl (s.1 0) (s.2 l)).length → x.2.2 X.1 (20 * l + i) = nI (gt (fl (s.1 0) (s.2 l)) i)) ∧ x.2.2 ou (8 + l) = nI (s.1 6 l) ∧ x.2.2 ou (12 + l) = nI (s.1 5 l)
section LJ
variable {P : Nat → Nat → Nat → Nat} {X x : sk_X} {pe li pr ou m n M : Nat} {q sp : Nat → Nat} {s : ST} {b : Nat → Nat} {cc : Nat}
theorem lj136 (hL : LSt P X pe li pr ou m n q sp) (hI : IZ X ou x) (hM : M < 180) {g lf ln : Nat} (hg : g < m) (hlf : lf < 3) (ha : x.2.2 (X.1 + 2) g = nI M) (hq8 : x.2.2 (X.1 + 1) lf = nI ln) (hln : ln + q g ≤ 19) (x0 N : Nat) :
    ∃ x', (IZ X ou x' ∧ x'.2.2 (X.1 + 1) lf = nI (ln + q g) ∧ (∀ i, i < q g → x'.2.2 X.1 (20 * lf + ln + i) = nI g) ∧ ∀ k j, ¬ (k = X.1 + 1 ∧ j = lf) → ¬ (k = X.1 ∧ 20 * lf + ln ≤ j ∧ j < 20 * lf + ln + q g) → x'.2.2 k j = x.2.2 k j) ∧
    ∀ r : ((sk_X × Int32 × Int32 × Int32 × Nat × Nat × Nat × Nat × Nat × Nat × Nat × Nat × Int32) → Option sk_X) × ((sk_X × Int32 × Int32 × Int32 × Nat × Nat × Nat × Nat × Nat × Nat × Nat × Nat × Int32 × Int32) → Option sk_X), l_L_simulate_136 r.1 r.2 x0 sk_fu (x, nI N, nI m, nI n, pe, li, pr, ou, X.1, X.1 + 1, X.1 + 2, X.1 + 3, nI M, nI g, nI lf, 0) = r.2 (x', nI N, nI m, nI n, pe, li, pr, ou, X.1, X.1 + 1, X.1 + 2, X.1 + 3, nI M, nI (g + 1)) := by
  obtain ⟨hpe, _, _, hou, h16, n1, _, _, hm, _, _, hg2, _⟩ := hL
  obtain ⟨_, e1, _⟩ := hg2 g hg
  have main := it_cn (F := fun (r : ((sk_X × Int32 × Int32 × Int32 × Nat × Nat × Nat × Nat × Nat × Nat × Nat × Nat × Int32) → Option sk_X) × ((sk_X × Int32 × Int32 × Int32 × Nat × Nat × Nat × Nat × Nat × Nat × Nat × Nat × Int32 × Int32) → Option sk_X)) rec136 a => q_L_simulate_136 r.1 r.2 rec136 x0 a.1 a.2.1 a.2.2.1 a.2.2.2.1 a.2.2.2.2.1 a.2.2.2.2.2.1 a.2.2.2.2.2.2.1 a.2.2.2.2.2.2.2.1 a.2.2.2.2.2.2.2.2.1 a.2.2.2.2.2.2.2.2.2.1 a.2.2.2.2.2.2.2.2.2.2.1 a.2.2.2.2.2.2.2.2.2.2.2.1 a.2.2.2.2.2.2.2.2.2.2.2.2.1 a.2.2.2.2.2.2.2.2.2.2.2.2.2.1 a.2.2.2.2.2.2.2.2.2.2.2.2.2.2.1 a.2.2.2.2.2.2.2.2.2.2.2.2.2.2.2)
    (fun r x' => r.2 (x', nI N, nI m, nI n, pe, li, pr, ou, X.1, X.1 + 1, X.1 + 2, X.1 + 3, nI M, nI (g + 1)))
    (fun i a => ∃ x', a = (x', nI N, nI m, nI n, pe, li, pr, ou, X.1, X.1 + 1, X.1 + 2, X.1 + 3, nI M, nI g, nI lf, nI i) ∧ IZ X ou x' ∧ x'.2.2 (X.1 + 1) lf = nI (ln + i) ∧ (∀ j, j < i → x'.2.2 X.1 (20 * lf + ln + j) = nI g) ∧ ∀ k j, ¬ (k = X.1 + 1 ∧ j = lf) → ¬ (k = X.1 ∧ 20 * lf + ln ≤ j ∧ j < 20 * lf + ln + i) → x'.2.2 k j = x.2.2 k j)
    (fun x' => IZ X ou x' ∧ x'.2.2 (X.1 + 1) lf = nI (ln + q g) ∧ (∀ i, i < q g → x'.2.2 X.1 (20 * lf + ln + i) = nI g) ∧ ∀ k j, ¬ (k = X.1 + 1 ∧ j = lf) → ¬ (k = X.1 ∧ 20 * lf + ln ≤ j ∧ j < 20 * lf + ln + q g) → x'.2.2 k j = x.2.2 k j)
    (q g) (fun i a hi hp => ?_) (fun a hp => ?_) (by omega) (x, nI N, nI m, nI n, pe, li, pr, ou, X.1, X.1 + 1, X.1 + 2, X.1 + 3, nI M, nI g, nI lf, 0) ⟨x, rfl, hI, by rw [Nat.add_zero]; exact hq8, fun j hj => absurd hj (Nat.not_lt_zero j), fun _ _ _ _ => rfl⟩
  · exact main
  · obtain ⟨x', rfl, h1, h2, h3, h4⟩ := hp
    have aPe := h1.ax hpe n1
    have k1 := h1.w (k := X.1 + 1) (.inl (by omega)) lf (nI (ln + (i + 1)))
    refine ⟨_, ⟨xw (xw x' (X.1 + 1) lf (nI (ln + (i + 1)))) X.1 (20 * lf + (ln + i)) (nI g), rfl, k1.w (.inl (Nat.le_refl _)) _ _, ?_, fun j hj => ?_, fun k j n1 n2 => ?_⟩, fun r rec => ?_⟩
    · rw [xw_o (by omega), xw_e]
    · by_cases e : j = i
      · rw [e, Nat.add_assoc, xw_e]
      · rw [xw_o (by omega), xw_o (by omega)]
        exact h3 j (by omega)
    · rw [xw_o (by omega), xw_o (by omega)]
      exact h4 k j n1 (by omega)
    · show q_L_simulate_136 r.1 r.2 rec x0 x' (nI N) (nI m) (nI n) pe li pr ou X.1 (X.1 + 1) (X.1 + 2) (X.1 + 3) (nI M) (nI g) (nI lf) (nI i) = _
      have ea : x'.2.2 (X.1 + 2) g = nI M := (h4 (X.1 + 2) g (by omega) (by omega)).trans ha
      unfold q_L_simulate_136
      rw [if_pos (aPe.b (by omega) (by omega)), aPe.l (by omega) (by omega), e1, if_neg (nI_ge hi (by omega)), if_pos (h1.b9 (by omega)), nI_clamp (show g < 2 ^ 31 by omega), ea, if_pos rfl, if_pos (h1.b8 (by omega)), if_pos (h1.b8 (by omega)), nI_clamp (show lf < 2 ^ 31 by omega), h2, nI_1, show ln + i + 1 = ln + (i + 1) by omega, show (20 : Int32) = nI 20 from rfl, pk_mul, nI_add, if_pos (k1.b7 (by omega)), nI_clamp (show 20 * lf + (ln + i) < 2 ^ 31 by omega), nI_1]
  · obtain ⟨x', rfl, h1, h2, h3, h4⟩ := hp
    have aPe := h1.ax hpe n1
    refine ⟨x', ⟨h1, h2, h3, h4⟩, fun r rec => ?_⟩
    show q_L_simulate_136 r.1 r.2 rec x0 x' (nI N) (nI m) (nI n) pe li pr ou X.1 (X.1 + 1) (X.1 + 2) (X.1 + 3) (nI M) (nI g) (nI lf) (nI (q g)) = _
    unfold q_L_simulate_136 q_L_simulate_182
    rw [if_pos (aPe.b (by omega) (by omega)), aPe.l (by omega) (by omega), e1, if_pos (nI_le (Nat.le_refl _) (by omega)), nI_1]
theorem lj107 (hL : LSt P X pe li pr ou m n q sp) (hI : IZ X ou x) (hP : PV P) (hM : M < 180) (hR : LR P X ou m n s x) (hV : IR P b cc s) {g : Nat} (hg : g < m) (hb : b g = M) (x0 N : Nat) :
    ∃ x', (IZ X ou x' ∧ LR P X ou m n (jn P M g s) x') ∧ ∀ (r98 : ((sk_X × Int32 × Int32 × Int32 × Nat × Nat × Nat × Nat × Nat × Nat × Nat × Nat × Int32) → Option sk_X)) (rec : ((sk_X × Int32 × Int32 × Int32 × Nat × Nat × Nat × Nat × Nat × Nat × Nat × Nat × Int32 × Int32) → Option sk_X)), q_L_simulate_107 r98 rec x0 x (nI N) (nI m) (nI n) pe li pr ou X.1 (X.1 + 1) (X.1 + 2) (X.1 + 3) (nI M) (nI g) = rec (x', nI N, nI m, nI n, pe, li, pr, ou, X.1, X.1 + 1, X.1 + 2, X.1 + 3, nI M, nI (g + 1)) := by
  have hL' := hL
  obtain ⟨hpe, hli, hpr, hou, h16, n1, n2, n3, hm, en, em, hg2, hl2⟩ := hL'
  obtain ⟨e0, e1, e2, e3, e4, e5⟩ := hg2 g hg
  obtain ⟨a1, a2, a3, a4⟩ := hV.1 g (by omega)
  obtain ⟨y1, y2, y3, y4⟩ := hR.1 g hg
  have aPr := hI.ax hpr n3
  have aPe := hI.ax hpe n1
  have hnP := hP.1
  have go : ∀ (r98 : ((sk_X × Int32 × Int32 × Int32 × Nat × Nat × Nat × Nat × Nat × Nat × Nat × Nat × Int32) → Option sk_X)) (rec : ((sk_X × Int32 × Int32 × Int32 × Nat × Nat × Nat × Nat × Nat × Nat × Nat × Nat × Int32 × Int32) → Option sk_X)), q_L_simulate_107 r98 rec x0 x (nI N) (nI m) (nI n) pe li pr ou X.1 (X.1 + 1) (X.1 + 2) (X.1 + 3) (nI M) (nI g) = l_L_simulate_136 r98 rec x0 sk_fu (x, nI N, nI m, nI n, pe, li, pr, ou, X.1, X.1 + 1, X.1 + 2, X.1 + 3, nI M, nI g, X.2.2 pr (6 * g + 2 + 2 * s.1 1 g), 0) := by
    intro r98 rec
    unfold q_L_simulate_107
    rw [if_neg (nI_ge hg (by omega)), if_pos (hI.b10 (by omega)), nI_clamp (show g < 2 ^ 31 by omega), y2, show (6 : Int32) = nI 6 from rfl, show (2 : Int32) = nI 2 from rfl, pk_mul, pk_mul, nI_add, nI_add, if_pos (aPr.b (by omega) (by omega)), aPr.l (by omega) (by omega)]
  by_cases hj : P 0 g 0 ≠ 0 ∧ s.1 2 g = M
  · obtain ⟨hp, hA⟩ := hj
    obtain ⟨e6, e7, e8⟩ := e5 hp
    obtain ⟨a5, a6, a7, a8⟩ := a4 hp
    obtain ⟨e9, e10⟩ := e8 _ a5
    have hIj := IR_jn hV hP hM (show g < 4 by omega) hb
    have hjn : jn P M g s = sq (su s 0 g (P 0 g 0)) (P 2 g (s.1 1 g)) (s.2 (P 2 g (s.1 1 g)) ++ [g]) := if_pos ⟨hp, hA⟩
    obtain ⟨p4, _, _⟩ := (hP.2.2.2.1 g (by omega) hp).2.2.2 _ a5
    have w0 : s.1 0 g = 0 := by
      by_cases z : s.1 0 g = 0
      · exact z
      · have := a7 z
        omega
    rw [hjn] at hIj
    rw [hjn]
    generalize hlf : P 2 g (s.1 1 g) = lf at p4 hIj e9
    have nin : ∀ l, l < 3 → g ∉ s.2 l := fun l hl z => ((hV.2.1 l hl).1 g z).2 w0
    have eW : ∀ x, x ≠ g → (sq (su s 0 g (P 0 g 0)) lf (s.2 lf ++ [g])).1 0 x = s.1 0 x := fun x hx => su_o (s := s) (v := P 0 g 0) (f := 0) (k := g) (f' := 0) (k' := x) (by omega)
    have eg : (sq (su s 0 g (P 0 g 0)) lf (s.2 lf ++ [g])).1 0 g = P 0 g 0 := su_e
    have eo : ∀ f x, ¬ (f = 0 ∧ x = g) → (sq (su s 0 g (P 0 g 0)) lf (s.2 lf ++ [g])).1 f x = s.1 f x := fun f x hx => su_o (s := s) (v := P 0 g 0) (f := 0) (k := g) (f' := f) (k' := x) hx
    have fo : ∀ l, l < 3 → l ≠ lf → fl ((sq (su s 0 g (P 0 g 0)) lf (s.2 lf ++ [g])).1 0) ((sq (su s 0 g (P 0 g 0)) lf (s.2 lf ++ [g])).2 l) = fl (s.1 0) (s.2 l) := fun l hl hne => by
      rw [sq_o hne]
      exact fl_congr _ (fun x hx => eW x (fun z => nin l hl (z ▸ hx)))
    have fe : fl ((sq (su s 0 g (P 0 g 0)) lf (s.2 lf ++ [g])).1 0) ((sq (su s 0 g (P 0 g 0)) lf (s.2 lf ++ [g])).2 lf) = fl (s.1 0) (s.2 lf) ++ List.replicate (P 0 g 0) g := by
      rw [sq_e, fl_app, fl_congr (W' := s.1 0) (s.2 lf) (fun x hx => eW x (fun z => nin lf (by omega) (z ▸ hx)))]
      show _ ++ (List.replicate ((sq (su s 0 g (P 0 g 0)) lf (s.2 lf ++ [g])).1 0 g) g ++ []) = _
      rw [eg, List.append_nil]
    have hlen := hIj.fll hP (l := lf) (by omega)
    rw [fe, List.length_append, List.length_replicate] at hlen
    obtain ⟨z1, z2, z3, z4⟩ := hR.2 lf (by omega)
    have ya : x.2.2 (X.1 + 2) g = nI M := by rw [y1, if_neg hp, hA]
    obtain ⟨x', ⟨w1, w2, w3, w4⟩, w5⟩ := lj136 hL hI hM hg (show lf < 3 by omega) ya z1 (by rw [e6]; exact hlen) x0 N
    rw [e6] at w2 w3 w4
    refine ⟨x', ⟨w1, fun g' hg' => ?_, fun l hl => ?_⟩, fun r98 rec => ?_⟩
    · obtain ⟨u1, u2, u3, u4⟩ := hR.1 g' hg'
      rw [eo 2 g' (by omega), eo 1 g' (by omega), eo 4 g' (by omega), eo 3 g' (by omega), w4 (X.1 + 2) g' (by omega) (by omega), w4 (X.1 + 3) g' (by omega) (by omega), w4 ou g' (by omega) (by omega), w4 ou (4 + g') (by omega) (by omega)]
      exact ⟨u1, u2, u3, u4⟩
    · obtain ⟨u1, u2, u3, u4⟩ := hR.2 l hl
      rw [eo 6 l (by omega), eo 5 l (by omega), w4 ou (8 + l) (by omega) (by omega), w4 ou (12 + l) (by omega) (by omega)]
      by_cases e : l = lf
      · subst e
        rw [fe, w2, List.length_append, List.length_replicate]
        refine ⟨rfl, fun i hi => ?_, u3, u4⟩
        by_cases hi2 : i < (fl (s.1 0) (s.2 l)).length
        · rw [gt_app1 _ _ _ hi2, w4 X.1 (20 * l + i) (by omega) (by omega)]
          exact u2 i hi2
        · obtain ⟨j, hj⟩ : ∃ j, i = (fl (s.1 0) (s.2 l)).length + j := ⟨i - (fl (s.1 0) (s.2 l)).length, by omega⟩
          rw [hj, gt_app2, gt_rep _ _ _ (by omega), ← Nat.add_assoc]
          exact w3 j (by omega)
      · rw [fo l (by omega) e, w4 (X.1 + 1) l (by omega) (by omega)]
        refine ⟨u1, fun i hi => ?_, u3, u4⟩
        have hl20 := hV.fll hP (l := l) (by omega)
        rw [w4 X.1 (20 * l + i) (by omega) (by omega)]
        exact u2 i hi
    · rw [go r98 rec, e9]
      exact w5 (r98, rec)
  · have hjn : jn P M g s = s := if_neg hj
    rw [hjn]
    refine ⟨x, ⟨hI, hR⟩, fun r98 rec => ?_⟩
    rw [go r98 rec]
    refine it_for0 (F := fun rec136 a => q_L_simulate_136 r98 rec rec136 x0 a.1 a.2.1 a.2.2.1 a.2.2.2.1 a.2.2.2.2.1 a.2.2.2.2.2.1 a.2.2.2.2.2.2.1 a.2.2.2.2.2.2.2.1 a.2.2.2.2.2.2.2.2.1 a.2.2.2.2.2.2.2.2.2.1 a.2.2.2.2.2.2.2.2.2.2.1 a.2.2.2.2.2.2.2.2.2.2.2.1 a.2.2.2.2.2.2.2.2.2.2.2.2.1 a.2.2.2.2.2.2.2.2.2.2.2.2.2.1 a.2.2.2.2.2.2.2.2.2.2.2.2.2.2.1 a.2.2.2.2.2.2.2.2.2.2.2.2.2.2.2) (fun i => (x, nI N, nI m, nI n, pe, li, pr, ou, X.1, X.1 + 1, X.1 + 2, X.1 + 3, nI M, nI g, X.2.2 pr (6 * g + 2 + 2 * s.1 1 g), nI i)) 0 (fun i hi _ => absurd hi (Nat.not_lt_zero i)) (fun rec136 => ?_) (by omega)
    show q_L_simulate_136 r98 rec rec136 x0 x (nI N) (nI m) (nI n) pe li pr ou X.1 (X.1 + 1) (X.1 + 2) (X.1 + 3) (nI M) (nI g) (X.2.2 pr (6 * g + 2 + 2 * s.1 1 g)) (nI 0) = _
    unfold q_L_simulate_136 q_L_simulate_182
    rw [if_pos (aPe.b (by omega) (by omega)), aPe.l (by omega) (by omega), e1, if_pos (hI.b9 (by omega)), nI_clamp (show g < 2 ^ 31 by omega), y1, nI_1]
    by_cases hq : q g = 0
    · rw [hq, if_pos (nI_le (Nat.le_refl _) (by omega))]
    · rw [if_neg (nI_ge (by omega) (by omega))]
      by_cases hp : P 0 g 0 = 0
      · rw [if_pos hp, if_neg (fun z => ?_)]
        have : (-1 : Int32).toInt = (nI M).toInt := by rw [z]
        rw [nI_toInt (by omega)] at this
        have : (-1 : Int32).toInt = -1 := by decide
        omega
      · rw [if_neg hp, if_neg (fun z => hj ⟨hp, (nI_eq (by have := (a4 hp).2.1; omega) (by omega)).mp z⟩)]
end LJ
