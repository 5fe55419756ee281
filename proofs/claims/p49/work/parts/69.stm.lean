/-! THE LAW's staffed, all of it *** by hand -/
def tf0 (L : Nat) (xs : Nat → Int32) (j : Nat) : Int32 := if j % 4 = 0 then nI (1 + lw (cv L xs (16 + j / 4)) 7) else if j % 4 = 1 then nI (lw (cv L xs (16 + j / 4) >>> ((3 : Int32) &&& 31)) 3) else if j % 4 = 2 then nI (lw (cv L xs (16 + j / 4) >>> ((3 : Int32) &&& 31)) 3 + lw (cv L xs (16 + j / 4) >>> ((5 : Int32) &&& 31)) 3) else nI (1 + lw (cv L xs (16 + j / 4) >>> ((7 : Int32) &&& 31)) 4)
theorem tf0_0 (L : Nat) (xs : Nat → Int32) (i : Nat) : tf0 L xs (4 * i) = nI (1 + lw (cv L xs (16 + i)) 7) := by
  unfold tf0
  rw [if_pos (by omega), show 4 * i / 4 = i by omega]
theorem tf0_1 (L : Nat) (xs : Nat → Int32) (i : Nat) : tf0 L xs (4 * i + 1) = nI (lw (cv L xs (16 + i) >>> ((3 : Int32) &&& 31)) 3) := by
  unfold tf0
  rw [if_neg (by omega), if_pos (by omega), show (4 * i + 1) / 4 = i by omega]
theorem tf0_2 (L : Nat) (xs : Nat → Int32) (i : Nat) : tf0 L xs (4 * i + 2) = nI (lw (cv L xs (16 + i) >>> ((3 : Int32) &&& 31)) 3 + lw (cv L xs (16 + i) >>> ((5 : Int32) &&& 31)) 3) := by
  unfold tf0
  rw [if_neg (by omega), if_neg (by omega), if_pos (by omega), show (4 * i + 2) / 4 = i by omega]
theorem tf0_3 (L : Nat) (xs : Nat → Int32) (i : Nat) : tf0 L xs (4 * i + 3) = nI (1 + lw (cv L xs (16 + i) >>> ((7 : Int32) &&& 31)) 4) := by
  unfold tf0
  rw [if_neg (by omega), if_neg (by omega), if_neg (by omega), show (4 * i + 3) / 4 = i by omega]
theorem tf0_TR (L : Nat) (xs : Nat → Int32) (k : Nat) : TR k (tf0 L xs) := fun i _ => by
  have h1 := lw_lt (cv L xs (16 + i)) (n := 7) (by omega)
  have h2 := lw_lt (cv L xs (16 + i) >>> ((3 : Int32) &&& 31)) (n := 3) (by omega)
  have h3 := lw_lt (cv L xs (16 + i) >>> ((5 : Int32) &&& 31)) (n := 3) (by omega)
  have h4 := lw_lt (cv L xs (16 + i) >>> ((7 : Int32) &&& 31)) (n := 4) (by omega)
  exact ⟨⟨_, by omega, by omega, tf0_0 L xs i⟩, _, _, _, by omega, by omega, by omega, by omega, tf0_1 L xs i, tf0_2 L xs i, tf0_3 L xs i⟩
theorem TR.cg {k : Nat} {T T' : Nat → Int32} (h : TR k T) (e : ∀ j, j < 4 * k → T' j = T j) : TR k T' := fun i hi => by
  rw [e (4 * i) (by omega), e (4 * i + 1) (by omega), e (4 * i + 2) (by omega), e (4 * i + 3) (by omega)]
  exact h i hi
theorem IN.cg {d : sk_D} {k : Nat} {T T' : Nat → Int32} {W : Nat → Nat} (h : IN d k T W) (e : ∀ j, j < 4 * k → T' j = T j) : IN d k T' W := ⟨h.1, fun i hi => by
  rw [e (4 * i) (by omega), e (4 * i + 1) (by omega), e (4 * i + 2) (by omega), e (4 * i + 3) (by omega)]
  exact h.2 i hi⟩
def S1 (X : sk_X) (x : sk_X) : Prop := x.1 = X.1 + 2 ∧ x.2.1 X.1 = 20 ∧ x.2.1 (X.1 + 1) = 8 ∧ ∀ k, k < X.1 → x.2.1 k = X.2.1 k ∧ x.2.2 k = X.2.2 k
theorem S1.w {X x : sk_X} (h : S1 X x) (j : Nat) (v : Int32) : S1 X (xw x X.1 j v) := by
  refine ⟨h.1, h.2.1, h.2.2.1, fun i hi => ⟨(h.2.2.2 i hi).1, ?_⟩⟩
  rw [← (h.2.2.2 i hi).2]
  funext j'
  exact xw_o (fun q => by omega)
theorem S1.own {X x : sk_X} (h : S1 X x) : AX x X.1 20 (x.2.2 X.1) := ⟨by have := h.1; omega, h.2.1, fun _ _ => rfl⟩
theorem S1.ax {X x : sk_X} {k n : Nat} {f : Nat → Int32} (h : S1 X x) (hA : AX X k n f) : AX x k n f :=
  hA.fr (by have := h.1; have := hA.1; omega) (h.2.2.2 k hA.1).1 (h.2.2.2 k hA.1).2
section SM
variable {d : sk_D} {X : sk_X} {n m t : Nat} {Pf Gf : Nat → Int32} {c : Nat → Nat}
/-- what is left when all are staffed and paid *** -/
def SD (n m t : Nat) (Pf Gf : Nat → Int32) (c : Nat → Nat) (X : sk_X) (pe : Nat) (d' : sk_D) (x' : sk_X) : Prop :=
  x'.1 = X.1 + 3 ∧ (∀ j, j < X.1 → x'.2.1 j = X.2.1 j ∧ (j ≠ pe → x'.2.2 j = X.2.2 j)) ∧ ∃ k Tf W u, k ≤ 4 ∧ (∀ g, g < m → x'.2.2 pe g = nI (szc n c g + if u g = 0 then 0 else 1)) ∧ ZB d' n m t Pf Gf c ∧ IN d' k Tf W ∧ US d' m k (szc n c) u
set_option maxHeartbeats 4000000 in
theorem x_staffed (hB : ZB d n m t Pf Gf c) (h42 : ∀ i, i < 8 → d.1 42 i 0 = 0) (hN : ∀ g, g < m → d.1 39 g 4 = -9) {L : Nat} (hL : L ≤ 260) (xs : Nat → Int32) {gr sz pe : Nat} (hG : AX X gr 16 Gf) (hS : AX X sz 8 (fun g => nI (szc n c g))) (hP : pe < X.1) (hP8 : X.2.1 pe = 8) (h1 : sz ≠ pe) : ∃ d' x', q_L_staffed L xs d X (nI m) gr sz pe = some (1, d', x') ∧ SD n m t Pf Gf c X pe d' x' := by
  have hm := hB.1.2.1
  have hn := hB.1.1
  obtain ⟨k, hk0⟩ : ∃ k, lw (cv L xs 15) 5 = k := ⟨_, rfl⟩
  have hk : k ≤ 4 := by
    have := lw_lt (cv L xs 15) (n := 5) (by omega)
    omega
  have hs0 : S1 X (xn (xn X 20) 8) := by
    have n1 : ¬ X.1 = X.1 + 1 := by omega
    refine ⟨rfl, ?_, ?_, fun k hk => ⟨?_, ?_⟩⟩
    · show (if X.1 = X.1 + 1 then 8 else if X.1 = X.1 then 20 else X.2.1 X.1) = 20
      rw [if_neg n1, if_pos rfl]
    · show (if X.1 + 1 = X.1 + 1 then 8 else _) = 8
      rw [if_pos rfl]
    · show (if k = X.1 + 1 then 8 else if k = X.1 then 20 else X.2.1 k) = X.2.1 k
      rw [if_neg (by omega), if_neg (by omega)]
    · funext j
      show (if k = X.1 + 1 then 0 else if k = X.1 then 0 else X.2.2 k j) = X.2.2 k j
      rw [if_neg (by omega), if_neg (by omega)]
  have loop : ∃ r, l_L_staffed_27 L xs X.1 sk_fu (d, xn (xn X 20) 8, nI m, gr, sz, pe, nI k, X.1, X.1 + 1, 0) = some r ∧ (r.1 = 1 ∧ SD n m t Pf Gf c X pe r.2.1 r.2.2) := by
    refine it_inv0 (F := fun rec27 a => q_L_staffed_27 rec27 L xs X.1 a.1 a.2.1 a.2.2.1 a.2.2.2.1 a.2.2.2.2.1 a.2.2.2.2.2.1 a.2.2.2.2.2.2.1 a.2.2.2.2.2.2.2.1 a.2.2.2.2.2.2.2.2.1 a.2.2.2.2.2.2.2.2.2)
      (fun i a => ∃ D x', a = (D, x', nI m, gr, sz, pe, nI k, X.1, X.1 + 1, nI i) ∧ S1 X x' ∧ (∀ j, j < 4 * i → x'.2.2 X.1 j = tf0 L xs j) ∧ ZB D n m t Pf Gf c ∧ IN D i (tf0 L xs) (fun _ => 0) ∧ (∀ g, g < m → D.1 39 g 4 = -9))
      (fun r => r.1 = 1 ∧ SD n m t Pf Gf c X pe r.2.1 r.2.2) k ?_ ?_ (by omega) _ ⟨d, xn (xn X 20) 8, rfl, hs0, fun j hj => absurd hj (by omega), hB, in_0 h42, hN⟩
    · rintro i a hi ⟨D, x', rfl, s1, s2, s3, s4, s5⟩
      obtain ⟨D', q1, q2, q3, q4⟩ := x_hire s3 s4 (show i < 4 by omega) (tf0_TR L xs (i + 1))
      obtain ⟨x4, hx4⟩ : ∃ x4, xw (xw (xw (xw x' X.1 (4 * i) (tf0 L xs (4 * i))) X.1 (4 * i + 1) (tf0 L xs (4 * i + 1))) X.1 (4 * i + 2) (tf0 L xs (4 * i + 2))) X.1 (4 * i + 3) (tf0 L xs (4 * i + 3)) = x4 := ⟨_, rfl⟩
      have t4 : S1 X x4 := by
        rw [← hx4]
        exact (((s1.w _ _).w _ _).w _ _).w _ _
      have c4 : ∀ j, j < 4 * (i + 1) → x4.2.2 X.1 j = tf0 L xs j := fun j hj => by
        rw [← hx4]
        by_cases e3 : j = 4 * i + 3
        · rw [e3, xw_e]
        · rw [xw_o (fun q => e3 q.2)]
          by_cases e2 : j = 4 * i + 2
          · rw [e2, xw_e]
          · rw [xw_o (fun q => e2 q.2)]
            by_cases e1 : j = 4 * i + 1
            · rw [e1, xw_e]
            · rw [xw_o (fun q => e1 q.2)]
              by_cases e0 : j = 4 * i
              · rw [e0, xw_e]
              · rw [xw_o (fun q => e0 q.2)]
                exact s2 j (by omega)
      refine ⟨_, ⟨D', x4, rfl, t4, c4, q2, q3, fun g hg => (q4 g).trans (s5 g hg)⟩, fun rec => ?_⟩
      show q_L_staffed_27 rec L xs X.1 D x' (nI m) gr sz pe (nI k) X.1 (X.1 + 1) (nI i) = _
      have b4 : ∀ j, j < 4 * (i + 1) → xb x4 X.1 (nI j) = true ∧ x4.2.2 X.1 (nI j).toNatClampNeg = tf0 L xs j := fun j hj => by
        refine ⟨t4.own.b (by omega) (by omega), ?_⟩
        rw [nI_clamp (by omega)]
        exact c4 j hj
      have e132 : q_L_staffed_132 rec L xs X.1 D x4 (nI m) gr sz pe (nI k) X.1 (X.1 + 1) (nI i) X.1 (nI (4 * i)) = rec (D', x4, nI m, gr, sz, pe, nI k, X.1, X.1 + 1, nI (i + 1)) := by
        unfold q_L_staffed_132
        rw [show (4 : Int32) = nI 4 from rfl, pk_mul, show (1 : Int32) = nI 1 from rfl, show (2 : Int32) = nI 2 from rfl, nI3, nI_add, nI_add, nI_add, nI_add, if_pos (b4 _ (by omega)).1, if_pos (b4 _ (by omega)).1, if_pos (b4 _ (by omega)).1, if_pos (b4 _ (by omega)).1, (b4 _ (by omega)).2, (b4 _ (by omega)).2, (b4 _ (by omega)).2, (b4 _ (by omega)).2, q1, Option.bind_some, if_pos rfl]
      have bo : ∀ x1, S1 X x1 → ∀ j, j < 20 → xb x1 X.1 (nI j) = true := fun x1 hx j hj => hx.own.b hj (by omega)
      have o1 := s1.w (4 * i) (tf0 L xs (4 * i))
      have o2 := o1.w (4 * i + 1) (tf0 L xs (4 * i + 1))
      have o3 := o2.w (4 * i + 2) (tf0 L xs (4 * i + 2))
      have v2 : (xw (xw x' X.1 (4 * i) (tf0 L xs (4 * i))) X.1 (4 * i + 1) (tf0 L xs (4 * i + 1))).2.2 X.1 (4 * i + 1) = nI (lw (cv L xs (16 + i) >>> ((3 : Int32) &&& 31)) 3) := xw_e.trans (tf0_1 L xs i)
      have e120 : q_L_staffed_120 rec L xs X.1 D (xw (xw (xw x' X.1 (4 * i) (tf0 L xs (4 * i))) X.1 (4 * i + 1) (tf0 L xs (4 * i + 1))) X.1 (4 * i + 2) (tf0 L xs (4 * i + 2))) (nI m) gr sz pe (nI k) X.1 (X.1 + 1) (nI i) X.1 (nI (4 * i + 3)) (cv L xs (16 + i) >>> ((7 : Int32) &&& 31)) = rec (D', x4, nI m, gr, sz, pe, nI k, X.1, X.1 + 1, nI (i + 1)) := by
        unfold q_L_staffed_120
        rw [show (4 : Int32) = nI 4 from rfl, low_q _ (by omega) (by omega), Option.bind_some, if_pos (bo _ o3 _ (by omega)), show (1 : Int32) = nI 1 from rfl, nI_add, nI_clamp (by omega), ← tf0_3, hx4, pk_mul]
        exact e132
      have e94 : q_L_staffed_94 rec L xs X.1 D (xw (xw x' X.1 (4 * i) (tf0 L xs (4 * i))) X.1 (4 * i + 1) (tf0 L xs (4 * i + 1))) (nI m) gr sz pe (nI k) X.1 (X.1 + 1) (nI i) (cv L xs (16 + i)) X.1 (nI (4 * i + 2)) X.1 (nI (4 * i + 1)) = rec (D', x4, nI m, gr, sz, pe, nI k, X.1, X.1 + 1, nI (i + 1)) := by
        unfold q_L_staffed_94
        rw [if_pos (bo _ o2 _ (by omega)), nI_clamp (show 4 * i + 1 < 2 ^ 31 by omega), v2, show q_L_low (cv L xs (16 + i) >>> ((5 : Int32) &&& 31)) 3 = some (nI (lw (cv L xs (16 + i) >>> ((5 : Int32) &&& 31)) 3)) from low_q _ (n := 3) (by omega) (by omega), Option.bind_some, if_pos (bo _ o2 _ (by omega)), nI_add, nI_clamp (show 4 * i + 2 < 2 ^ 31 by omega), ← tf0_2, show (4 : Int32) = nI 4 from rfl, pk_mul, nI3, nI_add]
        exact e120
      have e74 : q_L_staffed_74 rec L xs X.1 D (xw x' X.1 (4 * i) (tf0 L xs (4 * i))) (nI m) gr sz pe (nI k) X.1 (X.1 + 1) (nI i) (cv L xs (16 + i)) X.1 (nI (4 * i + 1)) (cv L xs (16 + i) >>> ((3 : Int32) &&& 31)) = rec (D', x4, nI m, gr, sz, pe, nI k, X.1, X.1 + 1, nI (i + 1)) := by
        unfold q_L_staffed_74
        rw [show q_L_low (cv L xs (16 + i) >>> ((3 : Int32) &&& 31)) 3 = some (nI (lw (cv L xs (16 + i) >>> ((3 : Int32) &&& 31)) 3)) from low_q _ (n := 3) (by omega) (by omega), Option.bind_some, if_pos (bo _ o1 _ (by omega)), nI_clamp (show 4 * i + 1 < 2 ^ 31 by omega), ← tf0_1, show (4 : Int32) = nI 4 from rfl, pk_mul, show (2 : Int32) = nI 2 from rfl, show (1 : Int32) = nI 1 from rfl, nI_add, nI_add]
        exact e94
      unfold q_L_staffed_27
      rw [if_neg (nI_ge hi (by omega)), show (16 : Int32) = nI 16 from rfl, nI_add, cell_q hL xs (by omega), Option.bind_some, show (7 : Int32) = nI 7 from rfl, low_q _ (by omega) (by omega), Option.bind_some, show (4 : Int32) = nI 4 from rfl, pk_mul, if_pos (bo _ s1 _ (by omega)), show (1 : Int32) = nI 1 from rfl, nI_add, nI_add, nI_clamp (show 4 * i < 2 ^ 31 by omega), ← tf0_0]
      exact e74
    · rintro a ⟨D, x', rfl, s1, s2, s3, s4, s5⟩
      have hT0 := tf0_TR L xs k
      have hT := hT0.cg s2
      have s4' := s4.cg s2
      have hDS : DS x' sz gr X.1 (X.1 + 1) m k (szc n c) Gf (x'.2.2 X.1) := by
        have := s1.1
        have := hS.1
        have := hG.1
        refine ⟨s1.ax hS, s1.ax hG, s1.own, by omega, s1.2.2.1, by omega, by omega, by omega, hm, hk, fun g => ?_, fun i hi => (hT.w hi).2⟩
        have := szc_le n c g
        omega
      obtain ⟨x2, ⟨y1, y2⟩, y3⟩ := bstaff hDS
      have e1 : x2.1 = X.1 + 3 := by have := y1.1; have := s1.1; omega
      have aS : AX x2 sz 8 (fun g => nI (szc n c g)) := y1.ax (s1.ax hS) (by have := hS.1; omega)
      have aT : AX x2 X.1 20 (x'.2.2 X.1) := y1.ax s1.own (by omega)
      have aP : AX x2 pe 8 (x2.2.2 pe) := ⟨by omega, by rw [(y1.2.2 pe (by have := s1.1; omega)).1, (s1.2.2.2 pe hP).1]; exact hP8, fun _ _ => rfl⟩
      have aB : AX x2 (X.1 + 1) 8 (x2.2.2 (X.1 + 1)) := ⟨by omega, by rw [(y1.2.2 (X.1 + 1) (by have := s1.1; omega)).1]; exact s1.2.2.1, fun _ _ => rfl⟩
      have out : ∀ D' (u : Nat → Nat), ZB D' n m t Pf Gf c → IN D' k (x'.2.2 X.1) (fun _ => 0) → US D' m k (szc n c) u → ∀ v : Int32, ((v = -1 ∧ (∀ g, u g = 0)) ∨ ∃ i, v = nI (sct m k (x'.2.2 X.1) i) ∧ (∀ g, g < m → x2.2.2 (X.1 + 1) g = nI (dg k m i g)) ∧ ∀ g, u g = if g < m ∧ dg k m i g < k then dg k m i g + 1 else 0) → ∃ r, l_L_staffed_215 L xs X.1 sk_fu (D', x2, nI m, sz, pe, nI k, X.1, X.1 + 1, v, 0) = some r ∧ (r.1 = 1 ∧ SD n m t Pf Gf c X pe r.2.1 r.2.2) := by
        intro D' u z1 z2 z3 v hv
        obtain ⟨d', x3, w1, w2, w3, w4, w5, w6⟩ := st215 z1 z2 z3 hk hT hL xs X.1 aS aP aT aB h1 (by omega) (by omega) hv
        refine ⟨(1, d', x3), w1, rfl, by rw [← e1]; exact w2.1, fun j hj => ⟨?_, fun hb => ?_⟩, k, _, _, u, hk, w3, w4, w5, w6⟩
        · show x3.2.1 j = _
          rw [(w2.2 j).1, (y1.2.2 j (by have := s1.1; omega)).1, (s1.2.2.2 j hj).1]
        · show x3.2.2 j = _
          rw [(w2.2 j).2 hb, (y1.2.2 j (by have := s1.1; omega)).2 (by omega), (s1.2.2.2 j hj).2]
      have go : ∀ y, q_X8_staff D = some y → ∀ rec, q_L_staffed_27 rec L xs X.1 D x' (nI m) gr sz pe (nI k) X.1 (X.1 + 1) (nI k) = (if 0 ≤ cso m k (x'.2.2 X.1) (bst (svl m k (szc n c) Gf (x'.2.2 X.1)) (ssc m k (x'.2.2 X.1)) ((k + 1) ^ m)) then q_L_staffed_207 L xs X.1 y.2 x2 (nI m) sz pe (nI k) X.1 (X.1 + 1) (cso m k (x'.2.2 X.1) (bst (svl m k (szc n c) Gf (x'.2.2 X.1)) (ssc m k (x'.2.2 X.1)) ((k + 1) ^ m))) y.1 (cso m k (x'.2.2 X.1) (bst (svl m k (szc n c) Gf (x'.2.2 X.1)) (ssc m k (x'.2.2 X.1)) ((k + 1) ^ m))) else q_L_staffed_207 L xs X.1 y.2 x2 (nI m) sz pe (nI k) X.1 (X.1 + 1) (cso m k (x'.2.2 X.1) (bst (svl m k (szc n c) Gf (x'.2.2 X.1)) (ssc m k (x'.2.2 X.1)) ((k + 1) ^ m))) y.1 (-2)) := by
        intro y hy rec
        unfold q_L_staffed_27
        rw [if_pos (nI_le (Nat.le_refl _) (by omega)), y3, Option.bind_some, if_pos y1.1, if_pos (show x2.1 ≤ X.1 + 3 by omega), hy, Option.bind_some]
      rcases x_staff s3 s4' s5 hk hT with ⟨z1, D', z2, z3, z4, z5⟩ | ⟨i, D', z1, z2, z3, z4, z5, z6, z7⟩
      · obtain ⟨r, w1, w2⟩ := out D' _ z3 z4 z5 (-1) (.inl ⟨rfl, fun _ => rfl⟩)
        refine ⟨r, w2, fun rec => ?_⟩
        refine (go _ z2 rec).trans ?_
        rw [z1, if_neg (show ¬ (0 : Int32) ≤ cso m k (x'.2.2 X.1) none from (by decide : ¬ (0 : Int32) ≤ -1))]
        unfold q_L_staffed_207
        rw [if_pos rfl]
        exact w1
      · obtain ⟨r, w1, w2⟩ := out D' _ z5 z6 z7 (nI (sct m k (x'.2.2 X.1) i)) (.inr ⟨i, rfl, fun g hg => y2 i z1 g hg, fun _ => rfl⟩)
        refine ⟨r, w2, fun rec => ?_⟩
        have h16 := sct_le (m := m) (fun i hi => (hT.w hi).2.1) hm i
        refine (go _ z4 rec).trans ?_
        rw [z1, if_pos (show (0 : Int32) ≤ cso m k (x'.2.2 X.1) (some i) from nI_le (Nat.zero_le _) (by omega))]
        unfold q_L_staffed_207
        exact (if_pos (show nI (sct m k (x'.2.2 X.1) i) = cso m k (x'.2.2 X.1) (some i) from rfl)).trans w1
  obtain ⟨⟨r1, d', x'⟩, e, rfl, hSD⟩ := loop
  refine ⟨d', x', ?_, hSD⟩
  unfold q_L_staffed q_L_staffed_0
  rw [show (15 : Int32) = nI 15 from rfl, cell_q hL xs (by omega), Option.bind_some, show (5 : Int32) = nI 5 from rfl, low_q _ (by omega) (by omega), Option.bind_some, hk0, if_pos (by omega), if_pos (show (xn X 20).1 < X.1 + 3 from (by omega : X.1 + 1 < X.1 + 3))]
  exact e
end SM
