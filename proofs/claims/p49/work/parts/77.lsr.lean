/-! THE LAW's simulation: its minutes *** by hand -/
theorem kn_add (p : Nat → Bool) (a : Nat) : ∀ b, kn p (a + b) = kn p a + kn (fun j => p (a + j)) b
  | 0 => rfl
  | b + 1 => by
    show kn p (a + b + 1) = _
    rw [kn_b, kn_b, kn_add p a b]
    omega
theorem kn_fl (W : Nat → Nat) (g : Nat) : ∀ (Q : List Nat), nd Q → kn (fun j => decide (gt (fl W Q) j = g)) (fl W Q).length = if g ∈ Q then W g else 0
  | [], _ => rfl
  | h :: r, hn => by
    have ih := kn_fl W g r hn.2
    have ef : fl W (h :: r) = List.replicate (W h) h ++ fl W r := rfl
    have e1 : (List.replicate (W h) h).length = W h := List.length_replicate ..
    rw [ef, List.length_append, e1, kn_add]
    have e2 : kn (fun j => decide (gt (List.replicate (W h) h ++ fl W r) (W h + j) = g)) (fl W r).length = if g ∈ r then W g else 0 := by
      rw [← ih]
      refine kn_congr (fun j _ => ?_)
      have := gt_app2 (List.replicate (W h) h) (fl W r) j
      rw [e1] at this
      rw [this]
    rw [e2]
    by_cases e : g = h
    · subst e
      rw [kn_of (fun j hj => decide_eq_true (by rw [gt_app1 _ _ _ (by rw [e1]; exact hj)]; exact gt_rep _ _ _ hj)), if_neg hn.1, if_pos (List.mem_cons_self ..)]
      rfl
    · rw [kn_none (fun j hj => decide_eq_false (by rw [gt_app1 _ _ _ (by rw [e1]; exact hj), gt_rep _ _ _ hj]; exact fun z => e z.symm)), Nat.zero_add]
      by_cases z : g ∈ r
      · rw [if_pos z, if_pos (List.mem_cons_of_mem _ z)]
      · rw [if_neg z, if_neg (fun y => by
          rcases List.mem_cons.mp y with y | y
          · exact e y
          · exact z y)]
section LJ
variable {P : Nat → Nat → Nat → Nat} {X x : sk_X} {pe li pr ou m n M : Nat} {q sp : Nat → Nat} {s : ST} {b : Nat → Nat} {cc : Nat}
theorem ls200 (hL : LSt P X pe li pr ou m n q sp) (hI : IZ X ou x) (hP : PV P) (hM : M < 180) (hR : LR P X ou m n s x) (hV : IR P (fun _ => M + 1) cc s) {l : Nat} (hl : l < n) (x0 N : Nat) :
    ∃ x', (IZ X ou x' ∧ LR P X ou m n (if M % P 5 l 0 = 0 then ons P M l (P 4 l 0) s else s) x') ∧ ∀ r : ((sk_X × Int32 × Int32 × Int32 × Nat × Nat × Nat × Nat × Nat × Nat × Nat × Nat × Int32) → Option sk_X) × ((sk_X × Int32 × Int32 × Int32 × Nat × Nat × Nat × Nat × Nat × Nat × Nat × Nat × Int32 × Int32) → Option sk_X), l_L_simulate_200 r.1 r.2 x0 sk_fu (x, nI N, nI m, nI n, pe, li, pr, ou, X.1, X.1 + 1, X.1 + 2, X.1 + 3, nI M, nI l, 0) = r.2 (x', nI N, nI m, nI n, pe, li, pr, ou, X.1, X.1 + 1, X.1 + 2, X.1 + 3, nI M, nI (l + 1)) := by
  have hL' := hL
  obtain ⟨hpe, hli, hpr, hou, h16, n1, n2, n3, hm, en, em, hg2, hl2⟩ := hL'
  obtain ⟨l1, l2, l3⟩ := hl2 l hl
  have hn := hP.1
  obtain ⟨i1, i2, i3, i4, i5, i6⟩ := hP.2.2.1 l (by omega)
  have hrem : nI M - nI M / nI (P 5 l 0) * nI (P 5 l 0) = nI (M % P 5 l 0) := pk_rem (by omega) (by omega) (by omega)
  have hne : ¬ nI (P 5 l 0) = 0 := nI_ne0 (by omega) (by omega)
  have e419 : ∀ (r98 : ((sk_X × Int32 × Int32 × Int32 × Nat × Nat × Nat × Nat × Nat × Nat × Nat × Nat × Int32) → Option sk_X)) (r191 : ((sk_X × Int32 × Int32 × Int32 × Nat × Nat × Nat × Nat × Nat × Nat × Nat × Nat × Int32 × Int32) → Option sk_X)) (x : sk_X), q_L_simulate_419 r98 r191 x0 x (nI N) (nI m) (nI n) pe li pr ou X.1 (X.1 + 1) (X.1 + 2) (X.1 + 3) (nI M) (nI l) = r191 (x, nI N, nI m, nI n, pe, li, pr, ou, X.1, X.1 + 1, X.1 + 2, X.1 + 3, nI M, nI (l + 1)) := fun r98 r191 x => by
    unfold q_L_simulate_419
    rw [nI_1]
  by_cases hz : M % P 5 l 0 = 0
  · rw [if_pos hz]
    refine it_if0 (F := fun (r : ((sk_X × Int32 × Int32 × Int32 × Nat × Nat × Nat × Nat × Nat × Nat × Nat × Nat × Int32) → Option sk_X) × ((sk_X × Int32 × Int32 × Int32 × Nat × Nat × Nat × Nat × Nat × Nat × Nat × Nat × Int32 × Int32) → Option sk_X)) rec200 a => q_L_simulate_200 r.1 r.2 rec200 x0 a.1 a.2.1 a.2.2.1 a.2.2.2.1 a.2.2.2.2.1 a.2.2.2.2.2.1 a.2.2.2.2.2.2.1 a.2.2.2.2.2.2.2.1 a.2.2.2.2.2.2.2.2.1 a.2.2.2.2.2.2.2.2.2.1 a.2.2.2.2.2.2.2.2.2.2.1 a.2.2.2.2.2.2.2.2.2.2.2.1 a.2.2.2.2.2.2.2.2.2.2.2.2.1 a.2.2.2.2.2.2.2.2.2.2.2.2.2.1 a.2.2.2.2.2.2.2.2.2.2.2.2.2.2)
      (fun r x' => r.2 (x', nI N, nI m, nI n, pe, li, pr, ou, X.1, X.1 + 1, X.1 + 2, X.1 + 3, nI M, nI (l + 1)))
      (fun j a => ∃ x', a = (x', nI N, nI m, nI n, pe, li, pr, ou, X.1, X.1 + 1, X.1 + 2, X.1 + 3, nI M, nI l, nI j) ∧ IZ X ou x' ∧ LR P X ou m n (ons P M l j s) x' ∧ j ≤ P 4 l 0)
      (fun x' => IZ X ou x' ∧ LR P X ou m n (ons P M l (P 4 l 0) s) x') (P 4 l 0) (fun j a hp => ?_) (by omega) (x, nI N, nI m, nI n, pe, li, pr, ou, X.1, X.1 + 1, X.1 + 2, X.1 + 3, nI M, nI l, 0) ⟨x, rfl, hI, hR, Nat.zero_le _⟩
    obtain ⟨x', rfl, h1, h2, h3⟩ := hp
    have aLi := h1.ax hli n2
    have hIj := IR_ons hV hP hM (show l < P 7 0 0 by omega) j
    by_cases hj : j = P 4 l 0
    · left
      refine ⟨x', ⟨h1, by rw [← hj]; exact h2⟩, fun r rec => ?_⟩
      show q_L_simulate_200 r.1 r.2 rec x0 x' (nI N) (nI m) (nI n) pe li pr ou X.1 (X.1 + 1) (X.1 + 2) (X.1 + 3) (nI M) (nI l) (nI j) = _
      unfold q_L_simulate_200
      rw [nI3, pk_mul, if_pos (aLi.b (by omega) (by omega)), aLi.l (by omega) (by omega), l1, if_pos (nI_le (by omega) (by omega)), e419]
    · cases hq : (ons P M l j s).2 l with
      | nil =>
        left
        have eN : ons P M l (P 4 l 0) s = ons P M l j s := by
          rw [show P 4 l 0 = j + (P 4 l 0 - j) by omega, ons_add, ons_n hq]
        refine ⟨x', ⟨h1, by rw [eN]; exact h2⟩, fun r rec => ?_⟩
        show q_L_simulate_200 r.1 r.2 rec x0 x' (nI N) (nI m) (nI n) pe li pr ou X.1 (X.1 + 1) (X.1 + 2) (X.1 + 3) (nI M) (nI l) (nI j) = _
        have z1 := (h2.2 l hl).1
        rw [hq] at z1
        unfold q_L_simulate_200
        rw [nI3, pk_mul, nI_1, if_pos (aLi.b (by omega) (by omega)), aLi.l (by omega) (by omega), l1, if_neg (nI_ge (by omega) (by omega)), if_pos (aLi.b (by omega) (by omega)), aLi.l (by omega) (by omega), l2, if_pos hne, hrem, hz, if_pos (show nI 0 = (0 : Int32) from rfl), if_pos (h1.b8 (by omega)), nI_clamp (show l < 2 ^ 31 by omega), z1, if_pos (show nI (fl ((ons P M l j s).1 0) []).length ≤ (0 : Int32) from (by decide : nI 0 ≤ (0 : Int32))), e419]
      | cons g r0 =>
        right
        obtain ⟨x2, ⟨w1, w2⟩, w3⟩ := ls1 hL h1 hP hM h2 hIj hl hq hz (seat := j) (by omega) x0 N
        exact ⟨by omega, _, ⟨x2, rfl, w1, w2, by omega⟩, fun r rec => w3 r.1 r.2 rec⟩
  · rw [if_neg hz]
    refine ⟨x, ⟨hI, hR⟩, fun r => ?_⟩
    have aLi := hI.ax hli n2
    refine it_for0 (F := fun rec200 a => q_L_simulate_200 r.1 r.2 rec200 x0 a.1 a.2.1 a.2.2.1 a.2.2.2.1 a.2.2.2.2.1 a.2.2.2.2.2.1 a.2.2.2.2.2.2.1 a.2.2.2.2.2.2.2.1 a.2.2.2.2.2.2.2.2.1 a.2.2.2.2.2.2.2.2.2.1 a.2.2.2.2.2.2.2.2.2.2.1 a.2.2.2.2.2.2.2.2.2.2.2.1 a.2.2.2.2.2.2.2.2.2.2.2.2.1 a.2.2.2.2.2.2.2.2.2.2.2.2.2.1 a.2.2.2.2.2.2.2.2.2.2.2.2.2.2) (fun j => (x, nI N, nI m, nI n, pe, li, pr, ou, X.1, X.1 + 1, X.1 + 2, X.1 + 3, nI M, nI l, nI j)) 0 (fun j hj => absurd hj (Nat.not_lt_zero j)) (fun rec => ?_) (by omega)
    show q_L_simulate_200 r.1 r.2 rec x0 x (nI N) (nI m) (nI n) pe li pr ou X.1 (X.1 + 1) (X.1 + 2) (X.1 + 3) (nI M) (nI l) (nI 0) = _
    have nz : ¬ nI (M % P 5 l 0) = (0 : Int32) := fun z => hz ((nI_eq (b := 0) (by have := Nat.mod_lt M (show P 5 l 0 > 0 by omega); omega) (by omega)).mp z)
    unfold q_L_simulate_200
    rw [nI3, pk_mul, nI_1, if_pos (aLi.b (by omega) (by omega)), aLi.l (by omega) (by omega), l1, if_neg (nI_ge (by omega) (by omega)), if_pos (aLi.b (by omega) (by omega)), aLi.l (by omega) (by omega), l2, if_pos hne, hrem, if_neg nz, e419]
theorem lw437 (hL : LSt P X pe li pr ou m n q sp) (hI : IZ X ou x) (hP : PV P) (hR : LR P X ou m n s x) (hV : IR P b cc s) {l : Nat} (hl : l < n) (x0 N : Nat) :
    ∃ x', (IZ X ou x' ∧ LR P X ou m n (wtt l s) x') ∧ ∀ r : ((sk_X × Int32 × Int32 × Int32 × Nat × Nat × Nat × Nat × Nat × Nat × Nat × Nat × Int32) → Option sk_X) × ((sk_X × Int32 × Int32 × Int32 × Nat × Nat × Nat × Nat × Nat × Nat × Nat × Nat × Int32 × Int32) → Option sk_X), l_L_simulate_437 r.1 r.2 x0 sk_fu (x, nI N, nI m, nI n, pe, li, pr, ou, X.1, X.1 + 1, X.1 + 2, X.1 + 3, nI M, nI l, 0) = r.2 (x', nI N, nI m, nI n, pe, li, pr, ou, X.1, X.1 + 1, X.1 + 2, X.1 + 3, nI M, nI (l + 1)) := by
  obtain ⟨hpe, hli, hpr, hou, h16, n1, n2, n3, hm, en, em, hg2, hl2⟩ := hL
  have hn := hP.1
  have hl3 : l < 3 := by omega
  have hlen := hV.fll hP hl3
  obtain ⟨z1, z2, z3, z4⟩ := hR.2 l hl
  obtain ⟨m1, m2, m3⟩ := hV.2.1 l hl3
  generalize hF : fl (s.1 0) (s.2 l) = F at hlen z1 z2
  have hFm : ∀ i, i < F.length → gt F i < m := fun i hi => by
    have h1 := gt_mem F i hi
    have h2 : gt F i ∈ fl (s.1 0) (s.2 l) := by rw [hF]; exact h1
    obtain ⟨g4, g0⟩ := m1 _ (fl_mem _ _ _ h2)
    have := (hV.1 _ g4).1
    rw [em]
    exact (hP.2.2.2.1 _ g4 (by omega)).1
  refine it_cn (F := fun (r : ((sk_X × Int32 × Int32 × Int32 × Nat × Nat × Nat × Nat × Nat × Nat × Nat × Nat × Int32) → Option sk_X) × ((sk_X × Int32 × Int32 × Int32 × Nat × Nat × Nat × Nat × Nat × Nat × Nat × Nat × Int32 × Int32) → Option sk_X)) rec437 a => q_L_simulate_437 r.1 r.2 rec437 x0 a.1 a.2.1 a.2.2.1 a.2.2.2.1 a.2.2.2.2.1 a.2.2.2.2.2.1 a.2.2.2.2.2.2.1 a.2.2.2.2.2.2.2.1 a.2.2.2.2.2.2.2.2.1 a.2.2.2.2.2.2.2.2.2.1 a.2.2.2.2.2.2.2.2.2.2.1 a.2.2.2.2.2.2.2.2.2.2.2.1 a.2.2.2.2.2.2.2.2.2.2.2.2.1 a.2.2.2.2.2.2.2.2.2.2.2.2.2.1 a.2.2.2.2.2.2.2.2.2.2.2.2.2.2)
    (fun r x' => r.2 (x', nI N, nI m, nI n, pe, li, pr, ou, X.1, X.1 + 1, X.1 + 2, X.1 + 3, nI M, nI (l + 1)))
    (fun i a => ∃ x', a = (x', nI N, nI m, nI n, pe, li, pr, ou, X.1, X.1 + 1, X.1 + 2, X.1 + 3, nI M, nI l, nI i) ∧ IZ X ou x' ∧ (∀ k j, ¬ (k = ou ∧ j < m) → x'.2.2 k j = x.2.2 k j) ∧ ∀ g, g < m → x'.2.2 ou g = nI (s.1 4 g + kn (fun j => decide (gt F j = g)) i))
    (fun x' => IZ X ou x' ∧ LR P X ou m n (wtt l s) x') F.length (fun i a hi hp => ?_) (fun a hp => ?_) (by omega) (x, nI N, nI m, nI n, pe, li, pr, ou, X.1, X.1 + 1, X.1 + 2, X.1 + 3, nI M, nI l, 0) ⟨x, rfl, hI, fun _ _ _ => rfl, fun g hg => (hR.1 g hg).2.2.1⟩
  · obtain ⟨x', rfl, h1, h2, h3⟩ := hp
    obtain ⟨g, eg⟩ : ∃ g, gt F i = g := ⟨_, rfl⟩
    have hg := hFm i hi
    rw [eg] at hg
    have e8 : x'.2.2 (X.1 + 1) l = nI F.length := (h2 _ _ (by omega)).trans z1
    have e7 : x'.2.2 X.1 (20 * l + i) = nI g := by rw [h2 _ _ (by omega), z2 i hi, eg]
    refine ⟨_, ⟨xw x' ou g (nI (s.1 4 g + kn (fun j => decide (gt F j = g)) (i + 1))), rfl, h1.w (.inr rfl) _ _, fun k j n1 => ?_, fun g' hg' => ?_⟩, fun r rec => ?_⟩
    · rw [xw_o (fun z => n1 ⟨z.1, by omega⟩)]
      exact h2 k j n1
    · by_cases e : g' = g
      · rw [e, xw_e]
      · rw [xw_o (fun z => e z.2), h3 g' hg', kn_b, eg, decide_eq_false (fun z => e z.symm)]
        rfl
    · show q_L_simulate_437 r.1 r.2 rec x0 x' (nI N) (nI m) (nI n) pe li pr ou X.1 (X.1 + 1) (X.1 + 2) (X.1 + 3) (nI M) (nI l) (nI i) = _
      have ek : kn (fun j => decide (gt F j = g)) (i + 1) = kn (fun j => decide (gt F j = g)) i + 1 := by
        rw [kn_b, eg, decide_eq_true rfl]
        rfl
      unfold q_L_simulate_437
      rw [if_pos (h1.b8 (by omega)), nI_clamp (show l < 2 ^ 31 by omega), e8, if_neg (nI_ge hi (by omega)), show (20 : Int32) = nI 20 from rfl, pk_mul, nI_add, if_pos (h1.b7 (by omega)), nI_clamp (show 20 * l + i < 2 ^ 31 by omega), e7, if_pos (h1.bo hou h16 (by omega)), if_pos (h1.bo hou h16 (by omega)), nI_clamp (show g < 2 ^ 31 by omega), h3 g hg, nI_1, nI_1, ek, Nat.add_assoc]
  · obtain ⟨x', rfl, h1, h2, h3⟩ := hp
    have e8 : x'.2.2 (X.1 + 1) l = nI F.length := (h2 _ _ (by omega)).trans z1
    have eo8 : x'.2.2 ou (8 + l) = nI (s.1 6 l) := (h2 _ _ (by omega)).trans z3
    have emax : ∀ {α : Type} (A B : α), (if nI F.length ≤ nI (s.1 6 l) then A else B) = if F.length ≤ s.1 6 l then A else B := fun A B => by
      by_cases z : F.length ≤ s.1 6 l
      · rw [if_pos z, if_pos (nI_le z (by omega))]
      · rw [if_neg z, if_neg (nI_ge (by omega) (by omega))]
    refine ⟨xw x' ou (8 + l) (nI (max (s.1 6 l) F.length)), ⟨h1.w (.inr rfl) _ _, fun g hg => ?_, fun l' hl' => ?_⟩, fun r rec => ?_⟩
    · obtain ⟨u1, u2, u3, u4⟩ := hR.1 g hg
      have e4 : (wtt l s).1 4 g = s.1 4 g + kn (fun j => decide (gt F j = g)) F.length := by
        show (if 4 = 4 ∧ g ∈ s.2 l then s.1 4 g + s.1 0 g else if 4 = 6 ∧ g = l then max (s.1 6 l) (fl (s.1 0) (s.2 l)).length else s.1 4 g) = _
        rw [← hF, kn_fl _ _ _ m2]
        by_cases z : g ∈ s.2 l
        · rw [if_pos ⟨rfl, z⟩, if_pos z]
        · rw [if_neg (fun y => z y.2), if_neg z, if_neg (by omega)]
          rfl
      have eo : ∀ f, f ≠ 4 → f ≠ 6 → (wtt l s).1 f g = s.1 f g := fun f h1 h2 => by
        show (if f = 4 ∧ g ∈ s.2 l then s.1 4 g + s.1 0 g else if f = 6 ∧ g = l then max (s.1 6 l) (fl (s.1 0) (s.2 l)).length else s.1 f g) = _
        rw [if_neg (fun z => h1 z.1), if_neg (fun z => h2 z.1)]
      rw [e4, eo 1 (by omega) (by omega), eo 2 (by omega) (by omega), eo 3 (by omega) (by omega), xw_o (by omega), xw_o (by omega), xw_o (by omega), xw_o (by omega), h2 (X.1 + 2) g (by omega), h2 (X.1 + 3) g (by omega), h2 ou (4 + g) (by omega)]
      exact ⟨u1, u2, h3 g hg, u4⟩
    · obtain ⟨u1, u2, u3, u4⟩ := hR.2 l' hl'
      have e0 : (wtt l s).1 0 = s.1 0 := by
        funext x
        show (if 0 = 4 ∧ x ∈ s.2 l then s.1 4 x + s.1 0 x else if 0 = 6 ∧ x = l then max (s.1 6 l) (fl (s.1 0) (s.2 l)).length else s.1 0 x) = _
        rw [if_neg (by omega), if_neg (by omega)]
      have e5 : (wtt l s).1 5 l' = s.1 5 l' := by
        show (if 5 = 4 ∧ l' ∈ s.2 l then s.1 4 l' + s.1 0 l' else if 5 = 6 ∧ l' = l then max (s.1 6 l) (fl (s.1 0) (s.2 l)).length else s.1 5 l') = _
        rw [if_neg (by omega), if_neg (by omega)]
      have e6 : (wtt l s).1 6 l' = if l' = l then max (s.1 6 l) F.length else s.1 6 l' := by
        show (if 6 = 4 ∧ l' ∈ s.2 l then s.1 4 l' + s.1 0 l' else if 6 = 6 ∧ l' = l then max (s.1 6 l) (fl (s.1 0) (s.2 l)).length else s.1 6 l') = _
        rw [if_neg (by omega), hF]
        by_cases z : l' = l
        · rw [if_pos ⟨rfl, z⟩, if_pos z]
        · rw [if_neg (fun y => z y.2), if_neg z]
      rw [e0, e5, e6, show (wtt l s).2 = s.2 from rfl, xw_o (k' := X.1 + 1) (by omega), xw_o (k' := ou) (j' := 12 + l') (by omega), h2 (X.1 + 1) l' (by omega), h2 ou (12 + l') (by omega)]
      refine ⟨u1, fun i hi => ?_, ?_, u4⟩
      · rw [xw_o (by omega), h2 X.1 (20 * l' + i) (by omega)]
        exact u2 i hi
      · by_cases z : l' = l
        · rw [z, xw_e, if_pos rfl]
        · rw [xw_o (by omega), h2 ou (8 + l') (by omega), if_neg z]
          exact u3
    · show q_L_simulate_437 r.1 r.2 rec x0 x' (nI N) (nI m) (nI n) pe li pr ou X.1 (X.1 + 1) (X.1 + 2) (X.1 + 3) (nI M) (nI l) (nI F.length) = _
      have bo := h1.bo hou h16 (j := 8 + l) (by omega)
      unfold q_L_simulate_437 q_L_simulate_510
      rw [if_pos (h1.b8 (by omega)), nI_clamp (show l < 2 ^ 31 by omega), e8, if_pos (nI_le (Nat.le_refl _) (by omega)), if_pos (h1.b8 (by omega)), show (8 : Int32) = nI 8 from rfl, nI_add, if_pos bo, if_pos bo, if_pos (h1.b8 (by omega)), if_pos bo, nI_clamp (show 8 + l < 2 ^ 31 by omega), eo8, emax, nI_1]
      by_cases z : F.length ≤ s.1 6 l
      · rw [if_pos z, Nat.max_eq_left z]
      · rw [if_neg z, Nat.max_eq_right (by omega), if_pos bo]
end LJ
