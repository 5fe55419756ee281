/-! THE CLASS's simulate and bestStart *** by hand -/
/-- what the class is set to *** -/
def CP (P : Nat → Nat → Nat → Nat) (A : Nat → Nat) (d : sk_D) : Prop := (∀ g, g < 4 → prs d g = P 0 g 0 ∧ (P 0 g 0 ≠ 0 → d.1 39 g 5 = nI (A g) ∧ d.1 39 g 6 = nI (P 1 g 0) ∧ ∀ j, j < P 1 g 0 → d.1 40 g j = nI (P 2 g j) ∧ d.1 41 g j = nI (P 3 g j))) ∧ d.1 0 0 9 = nI (P 7 0 0) ∧ ∀ l, l < P 7 0 0 → d.1 43 l 0 = nI (P 4 l 0) ∧ d.1 43 l 1 = nI (P 5 l 0) ∧ d.1 43 l 2 = nI (P 6 l 0)
section SZ
variable {P : Nat → Nat → Nat → Nat} {A : Nat → Nat} {d : sk_D} {n m t : Nat} {Pf Gf : Nat → Int32} {c : Nat → Nat}
theorem IR_0 (hA : ∀ g, g < 4 → P 0 g 0 ≠ 0 → A g ≤ 400) (hP : PV P) : IR P (fun _ => 0) 0 (ST0 A) := by
  refine ⟨fun g hg => ⟨Nat.zero_le _, (by omega : 0 < 4), Nat.zero_le _, fun hp => ⟨?_, hA g hg hp, fun z => absurd rfl z, fun _ => Nat.zero_le _⟩⟩, fun l hl => ⟨fun g hg => (by cases hg), trivial, Nat.zero_le _⟩, fun l l' _ _ _ g hg => (by cases hg)⟩
  exact (hP.2.2.2.1 g hg hp).2.1
theorem cr_bg {D : sk_D} {B : Nat → Nat} (hB : ∀ g, g < 4 → P 0 g 0 ≠ 0 → D.1 39 g 5 = nI (B g)) : CR P (ST0 B) (bg8 D) := by
  obtain ⟨b1, b2, b3⟩ := bg8_v D
  refine ⟨fun g hg => ?_, fun l hl => ?_⟩
  · obtain ⟨q1, q2, q3, q4, q5⟩ := b1 g hg
    exact ⟨q5, q4, fun hp => q1.trans (hB g hg hp), q3, q2⟩
  · obtain ⟨q1, q2, q3⟩ := b2 l hl
    exact ⟨q3, fun k hk => absurd hk (Nat.not_lt_zero k), q2, q1⟩
theorem cp_st (hC : CP P A d) : CSt P (cp8 d 4) := by
  obtain ⟨h1, h2, h3⟩ := hC
  have o : ∀ s k f, s ≠ 24 → (cp8 d 4).1 s k f = d.1 s k f := fun s k f hs => cp8_o d 4 s k f (by omega)
  refine ⟨fun g hg => ⟨?_, fun hp => ?_⟩, ?_, fun l hl => ?_⟩
  · rw [cp8_g d 4 g hg, (h1 g hg).1]
  · rw [o 39 g 6 (by omega)]
    obtain ⟨_, q2, q3⟩ := (h1 g hg).2 hp
    exact ⟨q2, fun j hj => by rw [o 40 g j (by omega), o 41 g j (by omega)]; exact q3 j hj⟩
  · rw [o 0 0 9 (by omega)]
    exact h2
  · rw [o 43 l 0 (by omega), o 43 l 1 (by omega), o 43 l 2 (by omega)]
    exact h3 l hl
theorem x_sim (hZ : ZG d n m t Pf Gf c) (hC : CP P A d) (hP : PV P) (hA : ∀ g, g < 4 → P 0 g 0 ≠ 0 → A g ≤ 400) {N : Nat} (hN1 : 1 ≤ N) (hN : N ≤ 180) : ∃ d', q_X8_simulate d (nI N) = some (nI (sm (fun g => (runs P N (ST0 A)).1 4 g) 4), d') ∧ (∀ g, g < 4 → d'.1 39 g 9 = nI ((runs P N (ST0 A)).1 4 g) ∧ d'.1 39 g 10 = nI ((runs P N (ST0 A)).1 3 g)) ∧ (∀ l, l < 3 → d'.1 43 l 3 = nI ((runs P N (ST0 A)).1 6 l) ∧ d'.1 43 l 4 = nI ((runs P N (ST0 A)).1 5 l)) ∧ ∀ s k f, ¬ (24 ≤ s ∧ s ≤ 34) → ¬ (s = 39 ∧ (f = 9 ∨ f = 10)) → ¬ (s = 43 ∧ (f = 3 ∨ f = 4)) → d'.1 s k f = d.1 s k f := by
  have w := (wi_in N (a := nI N) (lo := 1) (hi := 180) 1 180 rfl rfl rfl (by omega) (by omega) (by omega)).1 d
  have o : ∀ s k f, s ≠ 24 → (cp8 d 4).1 s k f = d.1 s k f := fun s k f hs => cp8_o d 4 s k f (by omega)
  have hS := cp_st hC
  have hR0 : CR P (ST0 A) (bg8 (cp8 d 4)) := cr_bg (fun g hg hp => (o 39 g 5 (by omega)).trans ((hC.1 g hg).2 hp).1)
  have hF := (bg8_v (cp8 d 4)).2.2
  obtain ⟨D, r1, r2, r3, r4⟩ := crun (hS.fr (fun s k f hs => hF s k f hs)) hR0 (IR_0 hA hP) hP hN
  have oD : ∀ s k f, ¬ (24 ≤ s ∧ s ≤ 34) → D.1 s k f = d.1 s k f := fun s k f hs => (r4 s k f (by omega)).trans ((hF s k f (by omega)).trans (o s k f (by omega)))
  have wF : ∀ g, g < 4 → (kl8 (kg8 D 4) 3).1 39 g 9 = nI ((runs P N (ST0 A)).1 4 g) := fun g hg => ((kl8_o _ 3 39 g 9 (by omega)).trans (kg8_g D 4 g hg).1).trans (r3.1 g hg).2.2.2.2
  have wG : ∀ g, g < 4 → (kl8 (kg8 D 4) 3).1 39 g 10 = nI ((runs P N (ST0 A)).1 3 g) := fun g hg => ((kl8_o _ 3 39 g 10 (by omega)).trans (kg8_g D 4 g hg).2).trans (r3.1 g hg).2.2.2.1
  have ok : ∀ s k f, s < 35 → (kg8 D 4).1 s k f = D.1 s k f := fun s k f hs => kg8_o D 4 s k f (by omega)
  refine ⟨kl8 (kg8 D 4) 3, ?_, fun g hg => ⟨wF g hg, wG g hg⟩, fun l hl => ?_, fun s k f h1 h2 h3 => ?_⟩
  · simp only [q_X8_simulate, q_X8_simulate_0, w, i10, zg_count hZ, begin8, r1, keep8, Option.bind_some, ↓reduceIte]
    refine it_for0 (F := fun rec a => q_X8_simulate_56 rec a.1 a.2.1 a.2.2) (fun i => (kl8 (kg8 D 4) 3, nI (sm (fun g => (runs P N (ST0 A)).1 4 g) i), nI i)) 4 (fun j hj rec => ?_) (fun rec => ?_) (by omega)
    · show q_X8_simulate_56 rec (kl8 (kg8 D 4) 3) (nI (sm (fun g => (runs P N (ST0 A)).1 4 g) j)) (nI j) = rec (kl8 (kg8 D 4) 3, nI (sm (fun g => (runs P N (ST0 A)).1 4 g) j + (runs P N (ST0 A)).1 4 j), nI (j + 1))
      have ej := nI_clamp (n := j) (by omega)
      have bj : sk_bi (nI j) 4 = true := bi_nI (by omega) (by omega)
      have lj : ¬ (4 : Int32) ≤ nI j := le_nI (n := 4) rfl hj (by omega)
      simp only [q_X8_simulate_56, lj, bj, ej, wF j hj, nI_add, s1_nI, ↓reduceIte]
    · show q_X8_simulate_56 rec (kl8 (kg8 D 4) 3) (nI (sm (fun g => (runs P N (ST0 A)).1 4 g) 4)) (nI 4) = _
      have l : (4 : Int32) ≤ nI 4 := ge_nI (n := 4) rfl (by omega) (by omega)
      simp only [q_X8_simulate_56, l, ↓reduceIte]
  · obtain ⟨q1, q2⟩ := kl8_g (kg8 D 4) 3 l hl
    rw [q1, q2, ok 28 0 l (by omega), ok 29 0 l (by omega), (r3.2 l hl).2.2.2, (r3.2 l hl).2.2.1]
    exact ⟨rfl, rfl⟩
  · rw [kl8_o _ _ _ _ _ (by omega), kg8_o _ _ _ _ _ (by omega), oD s k f h1]
/-- what a group would wait that starts at a *** -/
def wv (P : Nat → Nat → Nat → Nat) (A : Nat → Nat) (N g a : Nat) : Nat := (runs P N (ST0 (up1 A g a))).1 4 g
def wsc (P : Nat → Nat → Nat → Nat) (A : Nat → Nat) (N g a : Nat) : Nat := 10260 - wv P A N g a
def wbs (P : Nat → Nat → Nat → Nat) (A : Nat → Nat) (N g j : Nat) : Option Nat := bst (fun _ => true) (wsc P A N g) j
def wix : Option Nat → Int32
  | none => 0
  | some i => nI i
def wle (P : Nat → Nat → Nat → Nat) (A : Nat → Nat) (N g : Nat) (z : Int32) : Option Nat → Int32
  | none => z
  | some i => nI (wv P A N g i)
theorem up_le (hA : ∀ g, g < 4 → P 0 g 0 ≠ 0 → A g ≤ 400) {g a : Nat} (ha : a ≤ 400) : ∀ x, x < 4 → P 0 x 0 ≠ 0 → up1 A g a x ≤ 400 := fun x hx hp => by
  unfold up1
  split
  · exact ha
  · exact hA x hx hp
theorem wv_le (hP : PV P) (hA : ∀ g, g < 4 → P 0 g 0 ≠ 0 → A g ≤ 400) {N g a : Nat} (hg : g < 4) (ha : a ≤ 400) (hN : N ≤ 180) : wv P A N g a ≤ 10260 := by
  have := ((IR_runs (IR_0 (up_le hA (g := g) ha) hP) hP N hN).1 g hg).2.2.1
  unfold wv
  omega
theorem wbs_o {N g j : Nat} (hl : ∀ a, a ≤ 30 → wv P A N g a ≤ 10260) (hj : j ≤ 30) : (wbs P A N g j = none ∧ wbs P A N g (j + 1) = some j) ∨ ∃ i, wbs P A N g j = some i ∧ i < j ∧ ((¬ wv P A N g j < wv P A N g i ∧ wbs P A N g (j + 1) = some i) ∨ (wv P A N g j < wv P A N g i ∧ wbs P A N g (j + 1) = some j)) := by
  unfold wbs
  rcases bst_or (fun _ => true) (wsc P A N g) j with ⟨h, _⟩ | ⟨i, h1, h2, _⟩
  · exact .inl ⟨h, bst_n h rfl⟩
  · have a1 := hl j hj
    have a2 := hl i (by omega)
    refine .inr ⟨i, h2, h1, ?_⟩
    by_cases q : wv P A N g j < wv P A N g i
    · exact .inr ⟨q, bst_g h2 rfl (by unfold wsc; omega)⟩
    · exact .inl ⟨q, bst_l h2 (by unfold wsc; omega)⟩
theorem x_best (hZ : ZG d n m t Pf Gf c) (hC : CP P A d) (hP : PV P) (hA : ∀ g, g < 4 → P 0 g 0 ≠ 0 → A g ≤ 400) {N g : Nat} (hg : g < m) (hp : P 0 g 0 ≠ 0) (hN1 : 1 ≤ N) (hN : N ≤ 180) : ∃ d', q_X8_bestStart d (nI g) (nI N) = some (wix (wbs P A N g 31), d') := by
  have hm := hZ.1.2.1
  have hg4 : g < 4 := by omega
  have w := (wi_in N (a := nI N) (lo := 1) (hi := 180) 1 180 rfl rfl rfl (by omega) (by omega) (by omega)).1 d
  have htp : tpb d g = true := by
    cases h : tpb d g with
    | true => rfl
    | false => exact absurd ((hC.1 g hg4).1.symm.trans (prs_0.mpr h)) hp
  have t8 := zg_tp hZ hg4
  rw [htp] at t8
  have hl := fun a (ha : a ≤ 30) => wv_le (N := N) hP hA hg4 (show a ≤ 400 by omega) hN
  have bg : sk_bi (nI g) 4 = true := bi_nI (by omega) (by omega)
  have eg := nI_clamp (n := g) (by omega)
  have o : ∀ s k f, s ≠ 24 → (cp8 d 4).1 s k f = d.1 s k f := fun s k f hs => cp8_o d 4 s k f (by omega)
  have main := it_inv0 (F := fun rec a => q_X8_bestStart_45 rec a.1 a.2.1 a.2.2.1 a.2.2.2.1 a.2.2.2.2.1 a.2.2.2.2.2)
    (fun j a => ∃ D, a = (D, nI g, nI N, wix (wbs P A N g j), wle P A N g (-9) (wbs P A N g j), nI j) ∧ CSt P D ∧ ∀ x, x < 4 → P 0 x 0 ≠ 0 → D.1 39 x 5 = nI (A x))
    (fun r => r.1 = wix (wbs P A N g 31)) 31 (fun j a hj hq => ?_) (fun a hq => ?_) (by omega) (cp8 d 4, nI g, nI N, 0, -9, 0) ⟨cp8 d 4, rfl, cp_st hC, fun x hx hpx => (o 39 x 5 (by omega)).trans ((hC.1 x hx).2 hpx).1⟩
  · obtain ⟨r, h1, h2⟩ := main
    refine ⟨r.2, ?_⟩
    unfold q_X8_bestStart q_X8_bestStart_0
    rw [has_g hZ.1 hg, Option.bind_some, if_neg ne10, w, Option.bind_some, if_neg ne10, t8, Option.bind_some, bI_t, if_neg ne10, zg_count hZ, Option.bind_some, ← h2]
    exact h1
  · obtain ⟨D, rfl, h1, h2⟩ := hq
    have hF := (bg8_v D).2.2
    have hc0 := cr_bg (P := P) (D := D) h2
    have hcr : CR P (ST0 (up1 A g j)) (sk_wi (bg8 D) 25 0 g (nI j)) := by
      refine ⟨fun x hx => ?_, fun l hl => ?_⟩
      · obtain ⟨y1, y2, y3, y4, y5⟩ := hc0.1 x hx
        rw [wi_o (s' := 31) (by omega), wi_o (s' := 30) (by omega), wi_o (s' := 27) (by omega), wi_o (s' := 26) (by omega)]
        refine ⟨y1, y2, fun hpx => ?_, y4, y5⟩
        show _ = nI (if 2 = 2 then up1 A g j x else 0)
        rw [if_pos rfl]
        by_cases e : x = g
        · rw [e, wi_e, up1_e]
        · rw [wi_o (by omega), up1_o e]
          exact y3 hpx
      · obtain ⟨y1, y2, y3, y4⟩ := hc0.2 l hl
        rw [wi_o (s' := 34) (by omega), wi_o (s' := 29) (by omega), wi_o (s' := 28) (by omega)]
        exact ⟨y1, fun k hk => absurd hk (Nat.not_lt_zero k), y3, y4⟩
    obtain ⟨D', r1, r2, r3, r4⟩ := crun ((h1.fr (fun s k f hs => hF s k f hs)).fr (fun s k f hs => wi_o (by omega))) hcr (IR_0 (up_le hA (by omega)) hP) hP hN
    have e26 : D'.1 26 0 g = nI (wv P A N g j) := (r3.1 g hg4).2.2.2.2
    have st : CSt P D' ∧ ∀ x, x < 4 → P 0 x 0 ≠ 0 → D'.1 39 x 5 = nI (A x) := ⟨r2, fun x hx hpx => by
      rw [r4 39 x 5 (by omega), wi_o (by omega), hF 39 x 5 (by omega)]
      exact h2 x hx hpx⟩
    have e115 : ∀ rec, q_X8_bestStart_115 rec D' (nI g) (nI N) (nI j) = rec (D', nI g, nI N, nI j, nI (wv P A N g j), nI (j + 1)) := fun rec => by
      unfold q_X8_bestStart_115 q_X8_bestStart_129
      rw [if_pos bg, eg, e26, nI_1]
    have go : ∀ rec, q_X8_bestStart_45 rec D (nI g) (nI N) (wix (wbs P A N g j)) (wle P A N g (-9) (wbs P A N g j)) (nI j) = if wle P A N g (-9) (wbs P A N g j) = -9 then rec (D', nI g, nI N, nI j, nI (wv P A N g j), nI (j + 1)) else if wle P A N g (-9) (wbs P A N g j) ≤ nI (wv P A N g j) then rec (D', nI g, nI N, wix (wbs P A N g j), wle P A N g (-9) (wbs P A N g j), nI (j + 1)) else rec (D', nI g, nI N, nI j, nI (wv P A N g j), nI (j + 1)) := fun rec => by
      unfold q_X8_bestStart_45 q_X8_bestStart_87 q_X8_bestStart_129
      rw [if_neg (show ¬ (30 : Int32) < nI j from nI_nlt (a := 30) (by omega) (by omega)), begin8, Option.bind_some, if_pos bg, eg, r1, Option.bind_some, if_pos bg, e26, e115, nI_1]
    rcases wbs_o hl (show j ≤ 30 by omega) with ⟨z1, z2⟩ | ⟨i, z1, z2, ⟨z3, z4⟩ | ⟨z3, z4⟩⟩
    · refine ⟨_, ⟨D', rfl, st⟩, fun rec => (go rec).trans ?_⟩
      rw [z1, z2]
      rfl
    · have b1 := hl j (by omega)
      have b2 := hl i (by omega)
      refine ⟨_, ⟨D', rfl, st⟩, fun rec => (go rec).trans ?_⟩
      rw [z1, z4, if_neg (show ¬ wle P A N g (-9) (some i) = -9 from nm_nI (by omega)), if_pos (show wle P A N g (-9) (some i) ≤ nI (wv P A N g j) from nI_le (by omega) (by omega))]
    · have b1 := hl j (by omega)
      have b2 := hl i (by omega)
      refine ⟨_, ⟨D', rfl, st⟩, fun rec => (go rec).trans ?_⟩
      rw [z1, z4, if_neg (show ¬ wle P A N g (-9) (some i) = -9 from nm_nI (by omega)), if_neg (show ¬ wle P A N g (-9) (some i) ≤ nI (wv P A N g j) from nI_ge (by omega) (by omega))]
      rfl
  · obtain ⟨D, rfl, h1, h2⟩ := hq
    refine ⟨(wix (wbs P A N g 31), D), rfl, fun rec => ?_⟩
    show q_X8_bestStart_45 rec D (nI g) (nI N) (wix (wbs P A N g 31)) (wle P A N g (-9) (wbs P A N g 31)) (nI 31) = _
    unfold q_X8_bestStart_45
    rw [if_pos (show (30 : Int32) < nI 31 by decide)]
end SZ
