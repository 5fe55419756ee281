/-! THE LAW's simulation: one seat *** by hand -/
def lsb (F : List Nat) (g : Nat) : Nat → Bool
  | 0 => true
  | i + 1 => lsb F g i && !decide (gt F (i + 1) = g)
theorem lsb_iff {F : List Nat} {g : Nat} : ∀ t, (lsb F g t = true ↔ ∀ i, i < t → gt F (i + 1) ≠ g)
  | 0 => ⟨fun _ i hi => absurd hi (Nat.not_lt_zero i), fun _ => rfl⟩
  | t + 1 => by
    show (lsb F g t && !decide (gt F (t + 1) = g)) = true ↔ _
    rw [Bool.and_eq_true, lsb_iff t, Bool.not_eq_true', decide_eq_false_iff_not]
    constructor
    · rintro ⟨h1, h2⟩ i hi
      by_cases e : i = t
      · rw [e]
        exact h2
      · exact h1 i (by omega)
    · intro h
      exact ⟨fun i hi => h i (by omega), h t (by omega)⟩
section LJ
variable {P : Nat → Nat → Nat → Nat} {X x : sk_X} {pe li pr ou m n M : Nat} {q sp : Nat → Nat} {s : ST} {b : Nat → Nat} {cc : Nat}
theorem ls260 (hL : LSt P X pe li pr ou m n q sp) (hI : IZ X ou x) {g l t : Nat} {F : List Nat} (hg : g < m) (hl : l < 3) (ht : t + 1 ≤ 19) (h8 : x.2.2 (X.1 + 1) l = nI t) (hF : ∀ i, i < t + 1 → x.2.2 X.1 (20 * l + i) = nI (gt F i)) (hF4 : ∀ i, i < t + 1 → gt F i < 4) (x0 N seat : Nat) :
    ∃ x', (IZ X ou x' ∧ (∀ i, i < t → x'.2.2 X.1 (20 * l + i) = nI (gt F (i + 1))) ∧ ∀ k j, ¬ (k = X.1 ∧ 20 * l ≤ j ∧ j < 20 * l + t) → x'.2.2 k j = x.2.2 k j) ∧
    ∀ r : ((sk_X × Int32 × Int32 × Int32 × Nat × Nat × Nat × Nat × Nat × Nat × Nat × Nat × Int32) → Option sk_X) × ((sk_X × Int32 × Int32 × Int32 × Nat × Nat × Nat × Nat × Nat × Nat × Nat × Nat × Int32 × Int32) → Option sk_X) × ((sk_X × Int32 × Int32 × Int32 × Nat × Nat × Nat × Nat × Nat × Nat × Nat × Nat × Int32 × Int32 × Int32) → Option sk_X), l_L_simulate_260 r.1 r.2.1 r.2.2 x0 sk_fu (x, nI N, nI m, nI n, pe, li, pr, ou, X.1, X.1 + 1, X.1 + 2, X.1 + 3, nI M, nI l, nI seat, nI g, 1, 0) = if lsb F g t = true then q_L_simulate_352 r.1 r.2.1 r.2.2 x0 (xw x' ou (12 + l) (x'.2.2 ou (12 + l) + 1)) (nI N) (nI m) (nI n) pe li pr ou X.1 (X.1 + 1) (X.1 + 2) (X.1 + 3) (nI M) (nI l) (nI seat) (nI g) ou (nI (4 + g)) ou (nI (4 + g)) else r.2.2 (xw x' ou (12 + l) (x'.2.2 ou (12 + l) + 1), nI N, nI m, nI n, pe, li, pr, ou, X.1, X.1 + 1, X.1 + 2, X.1 + 3, nI M, nI l, nI (seat + 1)) := by
  obtain ⟨_, _, _, hou, h16, _, _, _, hm, _⟩ := hL
  have main := it_cn (F := fun (r : ((sk_X × Int32 × Int32 × Int32 × Nat × Nat × Nat × Nat × Nat × Nat × Nat × Nat × Int32) → Option sk_X) × ((sk_X × Int32 × Int32 × Int32 × Nat × Nat × Nat × Nat × Nat × Nat × Nat × Nat × Int32 × Int32) → Option sk_X) × ((sk_X × Int32 × Int32 × Int32 × Nat × Nat × Nat × Nat × Nat × Nat × Nat × Nat × Int32 × Int32 × Int32) → Option sk_X)) rec260 a => q_L_simulate_260 r.1 r.2.1 r.2.2 rec260 x0 a.1 a.2.1 a.2.2.1 a.2.2.2.1 a.2.2.2.2.1 a.2.2.2.2.2.1 a.2.2.2.2.2.2.1 a.2.2.2.2.2.2.2.1 a.2.2.2.2.2.2.2.2.1 a.2.2.2.2.2.2.2.2.2.1 a.2.2.2.2.2.2.2.2.2.2.1 a.2.2.2.2.2.2.2.2.2.2.2.1 a.2.2.2.2.2.2.2.2.2.2.2.2.1 a.2.2.2.2.2.2.2.2.2.2.2.2.2.1 a.2.2.2.2.2.2.2.2.2.2.2.2.2.2.1 a.2.2.2.2.2.2.2.2.2.2.2.2.2.2.2.1 a.2.2.2.2.2.2.2.2.2.2.2.2.2.2.2.2.1 a.2.2.2.2.2.2.2.2.2.2.2.2.2.2.2.2.2)
    (fun r x' => if lsb F g t = true then q_L_simulate_352 r.1 r.2.1 r.2.2 x0 (xw x' ou (12 + l) (x'.2.2 ou (12 + l) + 1)) (nI N) (nI m) (nI n) pe li pr ou X.1 (X.1 + 1) (X.1 + 2) (X.1 + 3) (nI M) (nI l) (nI seat) (nI g) ou (nI (4 + g)) ou (nI (4 + g)) else r.2.2 (xw x' ou (12 + l) (x'.2.2 ou (12 + l) + 1), nI N, nI m, nI n, pe, li, pr, ou, X.1, X.1 + 1, X.1 + 2, X.1 + 3, nI M, nI l, nI (seat + 1)))
    (fun i a => ∃ x', a = (x', nI N, nI m, nI n, pe, li, pr, ou, X.1, X.1 + 1, X.1 + 2, X.1 + 3, nI M, nI l, nI seat, nI g, bI (lsb F g i), nI i) ∧ IZ X ou x' ∧ (∀ j, j < i → x'.2.2 X.1 (20 * l + j) = nI (gt F (j + 1))) ∧ ∀ k j, ¬ (k = X.1 ∧ 20 * l ≤ j ∧ j < 20 * l + i) → x'.2.2 k j = x.2.2 k j)
    (fun x' => IZ X ou x' ∧ (∀ i, i < t → x'.2.2 X.1 (20 * l + i) = nI (gt F (i + 1))) ∧ ∀ k j, ¬ (k = X.1 ∧ 20 * l ≤ j ∧ j < 20 * l + t) → x'.2.2 k j = x.2.2 k j)
    t (fun i a hi hp => ?_) (fun a hp => ?_) (by omega) (x, nI N, nI m, nI n, pe, li, pr, ou, X.1, X.1 + 1, X.1 + 2, X.1 + 3, nI M, nI l, nI seat, nI g, 1, 0) ⟨x, rfl, hI, fun j hj => absurd hj (Nat.not_lt_zero j), fun _ _ _ => rfl⟩
  · exact main
  · obtain ⟨x', rfl, h1, h3, h4⟩ := hp
    have k1 := h1.w (k := X.1) (.inl (Nat.le_refl _)) (20 * l + i) (nI (gt F (i + 1)))
    have e8 : x'.2.2 (X.1 + 1) l = nI t := (h4 _ _ (by omega)).trans h8
    have e7 : x'.2.2 X.1 (20 * l + (i + 1)) = nI (gt F (i + 1)) := (h4 _ _ (by omega)).trans (hF (i + 1) (by omega))
    have hgl := hF4 (i + 1) (by omega)
    have el : lsb F g (i + 1) = (lsb F g i && !decide (gt F (i + 1) = g)) := rfl
    refine ⟨_, ⟨xw x' X.1 (20 * l + i) (nI (gt F (i + 1))), rfl, k1, fun j hj => ?_, fun k j n1 => ?_⟩, fun r rec => ?_⟩
    · by_cases e : j = i
      · rw [e, xw_e]
      · rw [xw_o (by omega)]
        exact h3 j (by omega)
    · rw [xw_o (by omega)]
      exact h4 k j (by omega)
    · show q_L_simulate_260 r.1 r.2.1 r.2.2 rec x0 x' (nI N) (nI m) (nI n) pe li pr ou X.1 (X.1 + 1) (X.1 + 2) (X.1 + 3) (nI M) (nI l) (nI seat) (nI g) (bI (lsb F g i)) (nI i) = _
      have e3 : q_L_simulate_319 r.1 r.2.1 r.2.2 rec x0 (xw x' X.1 (20 * l + i) (nI (gt F (i + 1)))) (nI N) (nI m) (nI n) pe li pr ou X.1 (X.1 + 1) (X.1 + 2) (X.1 + 3) (nI M) (nI l) (nI seat) (nI g) (nI i) = rec (xw x' X.1 (20 * l + i) (nI (gt F (i + 1))), nI N, nI m, nI n, pe, li, pr, ou, X.1, X.1 + 1, X.1 + 2, X.1 + 3, nI M, nI l, nI seat, nI g, 0, nI (i + 1)) := by
        unfold q_L_simulate_319 q_L_simulate_320
        rw [nI_1]
      unfold q_L_simulate_260
      rw [if_pos (h1.b8 (by omega)), nI_clamp (show l < 2 ^ 31 by omega), e8, if_neg (nI_ge hi (by omega)), show (20 : Int32) = nI 20 from rfl, pk_mul, nI_add, nI_1, if_pos (h1.b7 (by omega)), if_pos (h1.b7 (by omega)), nI_clamp (show 20 * l + i + 1 < 2 ^ 31 by omega), Nat.add_assoc, e7, nI_clamp (show 20 * l + i < 2 ^ 31 by omega), bI_ite, e3, el]
      cases hv : lsb F g i
      · rw [if_neg (by decide)]
        rfl
      · rw [if_pos rfl, Bool.true_and]
        unfold q_L_simulate_309
        rw [if_pos (k1.b7 (by omega)), nI_clamp (show 20 * l + i < 2 ^ 31 by omega), xw_e, e3]
        by_cases z : gt F (i + 1) = g
        · rw [if_pos (by rw [z]), decide_eq_true z]
          rfl
        · rw [if_neg (fun y => z ((nI_eq (by omega) (by omega)).mp y)), decide_eq_false z]
          unfold q_L_simulate_320
          rw [nI_1]
          rfl
  · obtain ⟨x', rfl, h1, h3, h4⟩ := hp
    refine ⟨x', ⟨h1, h3, h4⟩, fun r rec => ?_⟩
    show q_L_simulate_260 r.1 r.2.1 r.2.2 rec x0 x' (nI N) (nI m) (nI n) pe li pr ou X.1 (X.1 + 1) (X.1 + 2) (X.1 + 3) (nI M) (nI l) (nI seat) (nI g) (bI (lsb F g t)) (nI t) = _
    have e8 : x'.2.2 (X.1 + 1) l = nI t := (h4 _ _ (by omega)).trans h8
    unfold q_L_simulate_260 q_L_simulate_413
    rw [if_pos (h1.b8 (by omega)), nI_clamp (show l < 2 ^ 31 by omega), e8, if_pos (nI_le (Nat.le_refl _) (by omega)), show (12 : Int32) = nI 12 from rfl, nI_add, if_pos (h1.bo hou h16 (by omega)), if_pos (h1.bo hou h16 (by omega)), nI_clamp (show 12 + l < 2 ^ 31 by omega), bI_ite, show (4 : Int32) = nI 4 from rfl, nI_add, nI_1]
theorem ls352 (hL : LSt P X pe li pr ou m n q sp) (hI : IZ X ou x) (hP : PV P) {g l T : Nat} (hg : g < m) (hl : l < n) (hp : P 0 g 0 ≠ 0) (hT : T < P 1 g 0) (h10 : x.2.2 (X.1 + 3) g = nI T) (x0 N seat : Nat) (r98 : ((sk_X × Int32 × Int32 × Int32 × Nat × Nat × Nat × Nat × Nat × Nat × Nat × Nat × Int32) → Option sk_X)) (r191 : ((sk_X × Int32 × Int32 × Int32 × Nat × Nat × Nat × Nat × Nat × Nat × Nat × Nat × Int32 × Int32) → Option sk_X)) (r200 : ((sk_X × Int32 × Int32 × Int32 × Nat × Nat × Nat × Nat × Nat × Nat × Nat × Nat × Int32 × Int32 × Int32) → Option sk_X)) :
    q_L_simulate_352 r98 r191 r200 x0 x (nI N) (nI m) (nI n) pe li pr ou X.1 (X.1 + 1) (X.1 + 2) (X.1 + 3) (nI M) (nI l) (nI seat) (nI g) ou (nI (4 + g)) ou (nI (4 + g)) = r200 (xw (xw (xw x ou (4 + g) (x.2.2 ou (4 + g) + 1)) (X.1 + 2) g (nI (M + P 6 l 0 + P 3 g T))) (X.1 + 3) g (nI ((T + 1) % P 1 g 0)), nI N, nI m, nI n, pe, li, pr, ou, X.1, X.1 + 1, X.1 + 2, X.1 + 3, nI M, nI l, nI (seat + 1)) := by
  obtain ⟨hpe, hli, hpr, hou, h16, n1, n2, n3, hm, en, em, hg2, hl2⟩ := hL
  obtain ⟨e0, e1, e2, e3, e4, e5⟩ := hg2 g hg
  obtain ⟨e6, e7, e8⟩ := e5 hp
  obtain ⟨e9, e10⟩ := e8 _ hT
  obtain ⟨_, _, l3⟩ := hl2 l hl
  have hn := hP.1
  obtain ⟨_, p1, p2, _⟩ := hP.2.2.2.1 g (by omega) hp
  have k1 := hI.w (k := ou) (.inr rfl) (4 + g) (x.2.2 ou (4 + g) + 1)
  have k2 := k1.w (k := X.1 + 2) (.inl (by omega)) g (nI (M + P 6 l 0 + P 3 g T))
  have aPr1 := k1.ax hpr n3
  have aLi1 := k1.ax hli n2
  have aPr2 := k2.ax hpr n3
  have f10 : (xw x ou (4 + g) (x.2.2 ou (4 + g) + 1)).2.2 (X.1 + 3) g = nI T := (xw_o (by omega)).trans h10
  have f102 : (xw (xw x ou (4 + g) (x.2.2 ou (4 + g) + 1)) (X.1 + 2) g (nI (M + P 6 l 0 + P 3 g T))).2.2 (X.1 + 3) g = nI T := (xw_o (by omega)).trans f10
  have b0 := hI.bo hou h16 (j := 4 + g) (by omega)
  unfold q_L_simulate_352
  rw [if_pos b0, if_pos b0, nI_clamp (show 4 + g < 2 ^ 31 by omega)]
  unfold q_L_simulate_370
  rw [nI3, show (6 : Int32) = nI 6 from rfl, show (2 : Int32) = nI 2 from rfl, pk_mul, pk_mul, nI_add, nI_add, if_pos (aLi1.b (by omega) (by omega)), if_pos (k1.b10 (by omega)), nI_clamp (show g < 2 ^ 31 by omega), f10, pk_mul, nI_add, if_pos (aPr1.b (by omega) (by omega)), if_pos (k1.b9 (by omega)), aLi1.l (by omega) (by omega), aPr1.l (by omega) (by omega), l3, e10, nI_add, nI_add]
  unfold q_L_simulate_400 q_L_simulate_413
  have hne : ¬ nI (P 1 g 0) = 0 := nI_ne0 (by omega) (by omega)
  rw [if_pos (k2.b10 (by omega)), show (6 : Int32) = nI 6 from rfl, pk_mul, if_pos (aPr2.b (by omega) (by omega)), aPr2.l (by omega) (by omega), e3, e7, if_pos hne, if_pos (k2.b10 (by omega)), nI_clamp (show g < 2 ^ 31 by omega), f102, nI_1, pk_rem (by omega) (by omega) (by omega), nI_1]
set_option maxHeartbeats 2000000 in
theorem ls1 (hL : LSt P X pe li pr ou m n q sp) (hI : IZ X ou x) (hP : PV P) (hM : M < 180) (hR : LR P X ou m n s x) (hV : IR P (fun _ => M + 1) cc s) {g l : Nat} {r : List Nat} (hl : l < n) (hq : s.2 l = g :: r) (hz : M % P 5 l 0 = 0) {seat : Nat} (hs : seat < P 4 l 0) (x0 N : Nat) :
    ∃ x', (IZ X ou x' ∧ LR P X ou m n (on1 P M l s) x') ∧ ∀ (r98 : ((sk_X × Int32 × Int32 × Int32 × Nat × Nat × Nat × Nat × Nat × Nat × Nat × Nat × Int32) → Option sk_X)) (r191 : ((sk_X × Int32 × Int32 × Int32 × Nat × Nat × Nat × Nat × Nat × Nat × Nat × Nat × Int32 × Int32) → Option sk_X)) (r200 : ((sk_X × Int32 × Int32 × Int32 × Nat × Nat × Nat × Nat × Nat × Nat × Nat × Nat × Int32 × Int32 × Int32) → Option sk_X)), q_L_simulate_200 r98 r191 r200 x0 x (nI N) (nI m) (nI n) pe li pr ou X.1 (X.1 + 1) (X.1 + 2) (X.1 + 3) (nI M) (nI l) (nI seat) = r200 (x', nI N, nI m, nI n, pe, li, pr, ou, X.1, X.1 + 1, X.1 + 2, X.1 + 3, nI M, nI l, nI (seat + 1)) := by
  have hL' := hL
  obtain ⟨hpe, hli, hpr, hou, h16, n1, n2, n3, hm, en, em, hg2, hl2⟩ := hL'
  obtain ⟨l1, l2, l3⟩ := hl2 l hl
  have hn := hP.1
  have hl3 : l < 3 := by omega
  obtain ⟨i1, i2, i3, i4, i5, i6⟩ := hP.2.2.1 l (by omega)
  obtain ⟨hg4, hw0⟩ := (hV.2.1 l hl3).1 g (by rw [hq]; exact List.mem_cons_self ..)
  obtain ⟨a1, a2, a3, a4⟩ := hV.1 g hg4
  have hp : P 0 g 0 ≠ 0 := by omega
  obtain ⟨a5, a6, a7, a8⟩ := a4 hp
  obtain ⟨hgm, p1, p2, _⟩ := hP.2.2.2.1 g hg4 hp
  have hg : g < m := by omega
  have hnd := (hV.2.1 l hl3).2.1
  rw [hq] at hnd
  obtain ⟨w, hw⟩ : ∃ w, s.1 0 g = w + 1 := ⟨s.1 0 g - 1, by omega⟩
  obtain ⟨T, hT⟩ : ∃ T, List.replicate w g ++ fl (s.1 0) r = T := ⟨_, rfl⟩
  have hF : fl (s.1 0) (s.2 l) = g :: T := by
    rw [hq, ← hT]
    show List.replicate (s.1 0 g) g ++ fl (s.1 0) r = _
    rw [hw]
    rfl
  have hlen := hV.fll hP hl3
  obtain ⟨z1, z2, z3, z4⟩ := hR.2 l hl
  rw [hF] at hlen z1 z2
  have eT : (g :: T).length = T.length + 1 := rfl
  rw [eT] at hlen z1 z2
  have hF4 : ∀ i, i < T.length + 1 → gt (g :: T) i < 4 := fun i hi => by
    have := gt_mem (g :: T) i (by rw [eT]; exact hi)
    have h2 : gt (g :: T) i ∈ fl (s.1 0) (s.2 l) := by
      rw [hF]
      exact this
    exact ((hV.2.1 l hl3).1 _ (fl_mem _ _ _ h2)).1
  have aLi := hI.ax hli n2
  have k1 := hI.w (k := X.1 + 1) (.inl (by omega)) l (nI T.length)
  obtain ⟨x1, ⟨w1, w2, w3⟩, w4⟩ := ls260 (M := M) hL k1 (t := T.length) (F := g :: T) hg hl3 hlen xw_e (fun i hi => (xw_o (by omega)).trans (z2 i hi)) hF4 x0 N seat
  have fr : ∀ k j, ¬ (k = X.1 ∧ 20 * l ≤ j ∧ j < 20 * l + T.length) → ¬ (k = X.1 + 1 ∧ j = l) → x1.2.2 k j = x.2.2 k j := fun k j h1 h2 => (w3 k j h1).trans (xw_o h2)
  have go : ∀ (r98 : ((sk_X × Int32 × Int32 × Int32 × Nat × Nat × Nat × Nat × Nat × Nat × Nat × Nat × Int32) → Option sk_X)) (r191 : ((sk_X × Int32 × Int32 × Int32 × Nat × Nat × Nat × Nat × Nat × Nat × Nat × Nat × Int32 × Int32) → Option sk_X)) (r200 : ((sk_X × Int32 × Int32 × Int32 × Nat × Nat × Nat × Nat × Nat × Nat × Nat × Nat × Int32 × Int32 × Int32) → Option sk_X)), q_L_simulate_200 r98 r191 r200 x0 x (nI N) (nI m) (nI n) pe li pr ou X.1 (X.1 + 1) (X.1 + 2) (X.1 + 3) (nI M) (nI l) (nI seat) = l_L_simulate_260 r98 r191 r200 x0 sk_fu (xw x (X.1 + 1) l (nI T.length), nI N, nI m, nI n, pe, li, pr, ou, X.1, X.1 + 1, X.1 + 2, X.1 + 3, nI M, nI l, nI seat, nI g, 1, 0) := by
    intro r98 r191 r200
    have z20 : x.2.2 X.1 (20 * l) = nI g := z2 0 (by omega)
    have nL : ¬ nI (T.length + 1) ≤ (0 : Int32) := by
      rw [show (0 : Int32) = nI 0 from rfl]
      exact nI_ge (by omega) (by omega)
    have hne : ¬ nI (P 5 l 0) = 0 := nI_ne0 (by omega) (by omega)
    have hrem : nI M - nI M / nI (P 5 l 0) * nI (P 5 l 0) = nI (M % P 5 l 0) := pk_rem (by omega) (by omega) (by omega)
    unfold q_L_simulate_200
    rw [nI3, pk_mul, nI_1, if_pos (aLi.b (by omega) (by omega)), aLi.l (by omega) (by omega), l1, if_neg (nI_ge hs (by omega)), if_pos (aLi.b (by omega) (by omega)), aLi.l (by omega) (by omega), l2, if_pos hne, hrem, hz, if_pos (show nI 0 = (0 : Int32) from rfl), if_pos (hI.b8 (by omega)), nI_clamp (show l < 2 ^ 31 by omega), z1, if_neg nL, show (20 : Int32) = nI 20 from rfl, pk_mul, if_pos (hI.b7 (by omega)), if_pos (hI.b8 (by omega)), if_pos (hI.b8 (by omega)), nI_clamp (show 20 * l < 2 ^ 31 by omega), z20, nI_pred]
  have flo : ∀ s' : ST, (∀ x, x ≠ g → s'.1 0 x = s.1 0 x) → ∀ l', l' < 3 → l' ≠ l → s'.2 l' = s.2 l' → fl (s'.1 0) (s'.2 l') = fl (s.1 0) (s.2 l') := fun s' h0 l' hl' hne h2 => by
    rw [h2]
    exact fl_congr _ (fun x hx => h0 x (fun z => hV.2.2 l' l hl' hl3 hne x hx (by rw [hq, z]; exact List.mem_cons_self ..)))
  by_cases hw1 : w = 0
  · -- the last person of the group
    have hW1 : s.1 0 g = 1 := by omega
    obtain ⟨v1, v2, v3, v4, v5, v6, v7⟩ := ons_w (P := P) (M := M) hq (by omega)
    rw [hW1] at v1 v2 v3 v4 v5 v6 v7
    rw [show ons P M l 1 s = on1 P M l s from rfl] at v1 v2 v3 v4 v5 v6 v7
    generalize hs' : on1 P M l s = s' at v1 v2 v3 v4 v5 v6 v7
    have hT2 : T = fl (s.1 0) r := by rw [← hT, hw1]; rfl
    have hlsb : lsb (g :: T) g T.length = true := lsb_iff _ |>.mpr (fun i hi => by
      show gt T i ≠ g
      intro e
      have := gt_mem T i hi
      rw [e, hT2] at this
      exact hnd.1 (fl_mem _ _ _ this))
    have fl1 : fl (s'.1 0) (s'.2 l) = T := by
      rw [v7, if_pos rfl, hT2]
      exact fl_congr _ (fun x hx => v6 0 x (by omega) (fun z => hnd.1 (z.1 ▸ hx)))
    have hx1 : (xw x1 ou (12 + l) (x1.2.2 ou (12 + l) + 1)).2.2 (X.1 + 3) g = nI (s.1 1 g) := (xw_o (by omega)).trans ((fr _ _ (by omega) (by omega)).trans (hR.1 g hg).2.1)
    have k2 := w1.w (k := ou) (.inr rfl) (12 + l) (x1.2.2 ou (12 + l) + 1)
    have e352 := fun r98 r191 r200 => ls352 (M := M) hL k2 hP hg hl hp a5 hx1 x0 N seat r98 r191 r200
    generalize hx2 : xw (xw (xw (xw x1 ou (12 + l) (x1.2.2 ou (12 + l) + 1)) ou (4 + g) ((xw x1 ou (12 + l) (x1.2.2 ou (12 + l) + 1)).2.2 ou (4 + g) + 1)) (X.1 + 2) g (nI (M + P 6 l 0 + P 3 g (s.1 1 g)))) (X.1 + 3) g (nI ((s.1 1 g + 1) % P 1 g 0)) = x2 at e352
    have k5 : IZ X ou x2 := by
      rw [← hx2]
      exact ((k2.w (.inr rfl) _ _).w (.inl (by omega)) _ _).w (.inl (by omega)) _ _
    have fr2 : ∀ k j, ¬ (k = ou ∧ (j = 12 + l ∨ j = 4 + g)) → ¬ (k = X.1 + 2 ∧ j = g) → ¬ (k = X.1 + 3 ∧ j = g) → x2.2.2 k j = x1.2.2 k j := fun k j h1 h2 h3 => by
      rw [← hx2, xw_o (by omega), xw_o (by omega), xw_o (by omega), xw_o (by omega)]
    refine ⟨x2, ⟨k5, fun g' hg' => ?_, fun l' hl' => ?_⟩, fun r98 r191 r200 => ?_⟩
    · obtain ⟨u1, u2, u3, u4⟩ := hR.1 g' hg'
      by_cases e : g' = g
      · subst e
        rw [v5, v4, v3, v6 4 g' (by omega) (by omega), if_neg hp]
        refine ⟨?_, ?_, ?_, ?_⟩
        · rw [← hx2, xw_o (by omega), xw_e]
        · rw [← hx2, xw_e]
        · rw [fr2 ou g' (by omega) (by omega) (by omega), fr ou g' (by omega) (by omega)]
          exact u3
        · rw [← hx2, xw_o (by omega), xw_o (by omega), xw_e, xw_o (by omega), fr ou (4 + g') (by omega) (by omega), u4, nI_1]
      · rw [v6 1 g' (by omega) (by omega), v6 2 g' (by omega) (by omega), v6 3 g' (by omega) (by omega), v6 4 g' (by omega) (by omega), fr2 (X.1 + 2) g' (by omega) (by omega) (by omega), fr2 (X.1 + 3) g' (by omega) (by omega) (by omega), fr2 ou g' (by omega) (by omega) (by omega), fr2 ou (4 + g') (by omega) (by omega) (by omega), fr (X.1 + 2) g' (by omega) (by omega), fr (X.1 + 3) g' (by omega) (by omega), fr ou g' (by omega) (by omega), fr ou (4 + g') (by omega) (by omega)]
        exact ⟨u1, u2, u3, u4⟩
    · obtain ⟨u1, u2, u3, u4⟩ := hR.2 l' hl'
      rw [v6 6 l' (by omega) (by omega), fr2 ou (8 + l') (by omega) (by omega) (by omega), fr ou (8 + l') (by omega) (by omega), fr2 (X.1 + 1) l' (by omega) (by omega) (by omega)]
      by_cases e : l' = l
      · subst e
        rw [fl1, v1]
        refine ⟨(w3 _ _ (by omega)).trans xw_e, fun i hi => ?_, u3, ?_⟩
        · rw [fr2 X.1 (20 * l' + i) (by omega) (by omega) (by omega)]
          exact w2 i hi
        · rw [← hx2, xw_o (by omega), xw_o (by omega), xw_o (by omega), xw_e, fr ou (12 + l') (by omega) (by omega), u4, nI_1]
      · rw [flo s' (fun x hx => v6 0 x (by omega) (by omega)) l' (by omega) e (by rw [v7, if_neg e]), v6 5 l' (by omega) (by omega), fr (X.1 + 1) l' (by omega) (by omega), fr2 ou (12 + l') (by omega) (by omega) (by omega), fr ou (12 + l') (by omega) (by omega)]
        have h20 := hV.fll hP (l := l') (by omega)
        refine ⟨u1, fun i hi => ?_, u3, u4⟩
        rw [fr2 X.1 (20 * l' + i) (by omega) (by omega) (by omega), fr X.1 (20 * l' + i) (by omega) (by omega)]
        exact u2 i hi
    · rw [go, w4 (r98, r191, r200), if_pos hlsb, e352]
  · -- others of the group wait on
    obtain ⟨v1, v2⟩ := ons_v (P := P) (M := M) hq 1 (by omega)
    rw [show ons P M l 1 s = on1 P M l s from rfl] at v1 v2
    generalize hs' : on1 P M l s = s' at v1 v2
    have hlsb : ¬ lsb (g :: T) g T.length = true := fun q => by
      have e : gt T 0 = g := by
        rw [← hT, gt_app1 _ _ _ (by rw [List.length_replicate]; omega), gt_rep _ _ _ (by omega)]
      refine lsb_iff _ |>.mp q 0 ?_ e
      rw [← hT, List.length_append, List.length_replicate]
      omega
    have vo : ∀ f x, ¬ (f = 5 ∧ x = l) → ¬ (f = 0 ∧ x = g) → s'.1 f x = s.1 f x := fun f x h1 h2 => by rw [v1, if_neg h1, if_neg h2]
    have fl1 : fl (s'.1 0) (s'.2 l) = T := by
      rw [v2, hq, ← hT]
      show List.replicate (s'.1 0 g) g ++ fl (s'.1 0) r = _
      have e0 : s'.1 0 g = w := by
        rw [v1, if_neg (by omega), if_pos ⟨rfl, rfl⟩]
        omega
      rw [e0, fl_congr (W' := s.1 0) r (fun x hx => vo 0 x (by omega) (fun z => hnd.1 (z.2 ▸ hx)))]
    refine ⟨xw x1 ou (12 + l) (x1.2.2 ou (12 + l) + 1), ⟨w1.w (.inr rfl) _ _, fun g' hg' => ?_, fun l' hl' => ?_⟩, fun r98 r191 r200 => ?_⟩
    · obtain ⟨u1, u2, u3, u4⟩ := hR.1 g' hg'
      rw [vo 1 g' (by omega) (by omega), vo 2 g' (by omega) (by omega), vo 3 g' (by omega) (by omega), vo 4 g' (by omega) (by omega), xw_o (by omega), xw_o (by omega), xw_o (by omega), xw_o (by omega), fr (X.1 + 2) g' (by omega) (by omega), fr (X.1 + 3) g' (by omega) (by omega), fr ou g' (by omega) (by omega), fr ou (4 + g') (by omega) (by omega)]
      exact ⟨u1, u2, u3, u4⟩
    · obtain ⟨u1, u2, u3, u4⟩ := hR.2 l' hl'
      rw [vo 6 l' (by omega) (by omega), xw_o (k' := X.1 + 1) (by omega), xw_o (k' := ou) (j' := 8 + l') (by omega), fr ou (8 + l') (by omega) (by omega)]
      by_cases e : l' = l
      · subst e
        rw [fl1, v1, if_pos ⟨rfl, rfl⟩, xw_e, fr ou (12 + l') (by omega) (by omega), u4, nI_1]
        refine ⟨(w3 _ _ (by omega)).trans xw_e, fun i hi => ?_, u3, rfl⟩
        rw [xw_o (by omega)]
        exact w2 i hi
      · rw [flo s' (fun x hx => vo 0 x (by omega) (fun z => hx z.2)) l' (by omega) e (by rw [v2]), vo 5 l' (by omega) (by omega), fr (X.1 + 1) l' (by omega) (by omega), xw_o (by omega), fr ou (12 + l') (by omega) (by omega)]
        have h20 := hV.fll hP (l := l') (by omega)
        refine ⟨u1, fun i hi => ?_, u3, u4⟩
        rw [xw_o (by omega), fr X.1 (20 * l' + i) (by omega) (by omega)]
        exact u2 i hi
    · rw [go, w4 (r98, r191, r200), if_neg hlsb]
end LJ
