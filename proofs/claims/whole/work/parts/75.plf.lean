/-! THE PLANNER: the reference's plan, the units being found *** by hand -/
def OP (e e' : sk_D) : Prop := ∀ s k f, s ≠ 79 → s ≠ 83 → e'.1 s k f = e.1 s k f
theorem OP.tr {a b c : sk_D} (h : OP a b) (g : OP b c) : OP a c := fun s k f h1 h2 => (g s k f h1 h2).trans (h s k f h1 h2)
def sm (p : Nat → Nat) : Nat → Nat
  | 0 => 0
  | g + 1 => sm p g + p g * 7 ^ g
theorem sm_dg {p : Nat → Nat} (hp : ∀ g, g < 4 → p g ≤ 6) : sm p 4 < 2401 ∧ ∀ g, g < 4 → dgs (sm p 4) g = p g := by
  have e : sm p 4 = p 0 + 7 * p 1 + 49 * p 2 + 343 * p 3 := by
    simp only [sm, Nat.reducePow]
    omega
  have h0 := hp 0 (by omega)
  have h1 := hp 1 (by omega)
  have h2 := hp 2 (by omega)
  have h3 := hp 3 (by omega)
  rw [e]
  refine ⟨by omega, fun g hg => ?_⟩
  unfold dgs
  rcases (show g = 0 ∨ g = 1 ∨ g = 2 ∨ g = 3 by omega) with rfl | rfl | rfl | rfl <;> simp only [Nat.reducePow] <;> omega
theorem p188 {e : sk_D} {U : Nat} {h : Nat → Nat} {x : Nat → Nat → Bool} {o : Nat → Nat → Nat} (hU : UD e U h x o) (hT : TA e U h x o 0) {p : Nat → Nat} (hp : ∀ g, g < 4 → p g ≤ 6) :
    ∃ r, (∃ e', r = (nI (bs h x o U 0 p).1, e') ∧ OP e e' ∧ ∀ v, v < U → e'.1 83 0 v = nv (gv h x o U p v)) ∧ l_X9_plan_188 sk_fu (e, nI (sm p 4), 0, 0) = some r := by
  have hU20 := hU.1
  obtain ⟨q1, q2⟩ := sm_dg hp
  have main := it_cn (ι := Unit) (F := fun _ rec188 a => q_X9_plan_188 rec188 a.1 a.2.1 a.2.2.1 a.2.2.2) (fun _ r => some r) (fun u a => ∃ e' s pl, a = (e', nI s, nI pl, nI u) ∧ (∀ s k f, s ≠ 83 → e'.1 s k f = e.1 s k f) ∧ (∀ v, v < u → e'.1 83 0 v = nv (gv h x o U p v)) ∧ s < 2401 ∧ (∀ g, g < 4 → dgs s g = pc h x o U p u g) ∧ pl + (bs h x o (U - u) u (pc h x o U p u)).1 = (bs h x o U 0 p).1) (fun r => ∃ e', r = (nI (bs h x o U 0 p).1, e') ∧ OP e e' ∧ ∀ v, v < U → e'.1 83 0 v = nv (gv h x o U p v)) U (fun u a hu hP => ?_) (fun a hP => ?_) (by omega) (e, nI (sm p 4), 0, 0) ⟨e, sm p 4, 0, rfl, fun _ _ _ _ => rfl, fun v h0 => absurd h0 (Nat.not_lt_zero v), q1, q2, Nat.zero_add _⟩
  · obtain ⟨r, h1, h2⟩ := main
    exact ⟨r, h1, h2 ()⟩
  · obtain ⟨e', s, pl, rfl, hO, hg, hs, hd, hpl⟩ := hP
    obtain ⟨m, hm⟩ : ∃ m, U = m + 1 + u := ⟨U - u - 1, by omega⟩
    have hU' : UD e' U h x o := hU.mv (hO 44 0 37 (by omega)) (fun f => hO 76 0 f (by omega)) (fun f => hO 78 0 f (by omega))
    have hT' : TA e' U h x o 0 := fun v h1 h2 s' hs' => (hO 79 0 _ (by omega)).trans (hT v h1 h2 s' hs')
    have st := p209 hU' (m := m) (u := u) hm.symm hs hT' pl
    have ef : fds h x o m u (dgs s) 4 = fds h x o (U - u - 1) u (pc h x o U p u) 4 := by
      rw [show U - u - 1 = m by omega]
      exact fds_red (fun v h1 h2 => (hU.2.2.1 v (by omega)).2.1) (fun j hj => .inr ⟨fun _ => ⟨rfl, rfl⟩, .inl (hd j hj)⟩)
    have eg : (fds h x o m u (dgs s) 4).2 = gv h x o U p u := by
      rw [ef]
      rfl
    rw [eg] at st
    have hb := bs_gv h x o U p u hu
    have hps := pc_s h x o U p u
    have hX : ∀ s' k f, s' ≠ 83 → (sk_wi e' 83 0 u (nv (gv h x o U p u))).1 s' k f = e.1 s' k f := fun s' k f h1 => (wi_o (by omega)).trans (hO s' k f h1)
    have hY : ∀ v, v < u + 1 → (sk_wi e' 83 0 u (nv (gv h x o U p u))).1 83 0 v = nv (gv h x o U p v) := fun v hv => by
      by_cases q : v = u
      · subst q
        exact wi_e
      · rw [wi_o (by omega)]
        exact hg v (by omega)
    rcases gv_ok (h := h) (x := x) (o := o) (U := U) (cap := p) (u := u) with h0 | ⟨g, hg4, h1, h2⟩
    · rw [if_pos h0] at hb hps
      refine ⟨_, ⟨_, s, pl, rfl, hX, hY, hs, fun g hg4 => ?_, ?_⟩, fun _ rec => ?_⟩
      · rw [hps]
        exact hd g hg4
      · omega
      · show q_X9_plan_188 rec e' (nI s) (nI pl) (nI u) = _
        rw [st rec, if_pos h0, if_pos h0]
    · have hn : ¬ gv h x o U p u = 0 := by omega
      obtain ⟨hx, hle⟩ := okc.le h2
      have hle : h u ≤ dgs s g := by
        rw [hd g hg4]
        exact hle
      rw [if_neg hn] at hb hps
      refine ⟨_, ⟨_, s - h u * 7 ^ g, pl + h u, rfl, hX, hY, by omega, fun j hj => ?_, ?_⟩, fun _ rec => ?_⟩
      · rw [hps, h1, Nat.add_sub_cancel, dgs_rd hs hg4 hle j hj]
        unfold rd
        rw [hd j hj]
      · omega
      · show q_X9_plan_188 rec e' (nI s) (nI pl) (nI u) = _
        rw [st rec, if_neg hn, if_neg hn, h1, Nat.add_sub_cancel]
  · obtain ⟨e', s, pl, rfl, hO, hg, hs, hd, hpl⟩ := hP
    refine ⟨(nI (bs h x o U 0 p).1, e'), ⟨e', rfl, fun s k f _ h2 => hO s k f h2, hg⟩, fun _ rec => ?_⟩
    show q_X9_plan_188 rec e' (nI s) (nI pl) (nI U) = _
    have e0 : pl = (bs h x o U 0 p).1 := by
      rw [Nat.sub_self] at hpl
      exact hpl
    unfold q_X9_plan_188
    rw [hO 44 0 37 (by omega), hU.2.1, if_pos (nI_le (Nat.le_refl _) (by omega)), e0]
theorem p158 {e : sk_D} {p : Nat → Nat} (hp : ∀ g, g < 4 → e.1 82 0 g = nI (p g)) : l_X9_plan_158 sk_fu (e, 0, 0) = l_X9_plan_188 sk_fu (e, nI (sm p 4), 0, 0) := by
  refine it_for0 (F := fun rec158 a => q_X9_plan_158 rec158 a.1 a.2.1 a.2.2) (fun i => (e, nI (sm p i), nI i)) 4 (fun j hj rec => ?_) (fun rec => ?_) (by omega)
  · show q_X9_plan_158 rec e (nI (sm p j)) (nI j) = rec (e, nI (sm p (j + 1)), nI (j + 1))
    have l4 : ¬ (4 : Int32) ≤ nI j := le_nI (n := 4) rfl hj (by omega)
    have bj : sk_bi (nI j) 4 = true := bi_nI (by omega) (by omega)
    have ej := nI_clamp (n := j) (by omega)
    unfold q_X9_plan_158
    rw [if_neg l4, if_pos bj, pw9 e hj, Option.bind_some, ej, hp j hj, pk_mul, nI_add, nI_1]
    rfl
  · show q_X9_plan_158 rec e (nI (sm p 4)) (nI 4) = _
    unfold q_X9_plan_158
    rw [if_pos (show (4 : Int32) ≤ nI 4 by decide)]
theorem pln9 {e : sk_D} {U : Nat} {h : Nat → Nat} {x : Nat → Nat → Bool} {o : Nat → Nat → Nat} (hU : UD e U h x o) {p : Nat → Nat} (hp : ∀ g, g < 4 → e.1 82 0 g = nI (p g) ∧ p g ≤ 6) :
    ∃ e', l_X9_plan_7 sk_fu (e, 0) = some (nI (bs h x o U 0 p).1, e') ∧ OP e e' ∧ ∀ v, v < U → e'.1 83 0 v = nv (gv h x o U p v) := by
  obtain ⟨e1, ⟨hO1, hT1⟩, h1⟩ := p7 hU
  obtain ⟨r, ⟨e2, rfl, hO2, h3⟩, h4⟩ := p188 (hU.o hO1) hT1 (p := p) (fun g hg => (hp g hg).2)
  refine ⟨e2, ?_, OP.tr (fun s k f h1 _ => hO1 s k f h1) hO2, h3⟩
  rw [h1, p158 (p := p) (fun g hg => (hO1 82 0 g (by omega)).trans (hp g hg).1), h4]
