/-! THE CLASS's lifts, starts, stops as the law sets them *** by hand -/
section LT
variable {P : Nat → Nat → Nat → Nat} {A : Nat → Nat} {d : sk_D} {n m t N : Nat} {Pf Gf : Nat → Int32} {c : Nat → Nat}
theorem x_best0 (hZ : ZG d n m t Pf Gf c) (hC : CP P A d) {g : Nat} (hg : g < m) (hp : P 0 g 0 = 0) (hN1 : 1 ≤ N) (hN : N ≤ 180) : q_X8_bestStart d (nI g) (nI N) = some (-2, d) := by
  have hm := hZ.1.2.1
  have w := (wi_in N (a := nI N) (lo := 1) (hi := 180) 1 180 rfl rfl rfl (by omega) (by omega) (by omega)).1 d
  have t8 := zg_tp hZ (show g < 4 by omega)
  rw [prs_0.mp ((hC.1 g (by omega)).1.trans hp)] at t8
  unfold q_X8_bestStart q_X8_bestStart_0
  rw [has_g hZ.1 hg, Option.bind_some, if_neg ne10, w, Option.bind_some, if_neg ne10, t8, Option.bind_some, bI_f, if_pos rfl]
theorem x_lift {l a b r : Nat} (h9 : d.1 0 0 9 = nI l) (hl : l < 3) (ha1 : 1 ≤ a) (ha : a ≤ 8) (hb1 : 1 ≤ b) (hb : b ≤ 10) (hr1 : 1 ≤ r) (hr : r ≤ 20) : ∃ d', q_X8_addLift d (nI a) (nI b) (nI r) = some (nI l, d') ∧ d'.1 0 0 9 = nI (l + 1) ∧ d'.1 43 l 0 = nI a ∧ d'.1 43 l 1 = nI b ∧ d'.1 43 l 2 = nI r ∧ ∀ s k f, ¬ (s = 0 ∧ k = 0 ∧ f = 9) → ¬ (s = 43 ∧ k = l ∧ f < 3) → d'.1 s k f = d.1 s k f := by
  have w1 := (wi_in a (a := nI a) (lo := 1) (hi := 8) 1 8 rfl rfl rfl (by omega) (by omega) (by omega)).1 d
  have w2 := (wi_in b (a := nI b) (lo := 1) (hi := 10) 1 10 rfl rfl rfl (by omega) (by omega) (by omega)).1 d
  have w3 := (wi_in r (a := nI r) (lo := 1) (hi := 20) 1 20 rfl rfl rfl (by omega) (by omega) (by omega)).1 d
  have w4 := (wi_in l (a := nI l) (lo := 0) (hi := 2) 0 2 rfl rfl rfl (by omega) (by omega) (by omega)).1 d
  have bl : sk_bi (nI l) 3 = true := bi_nI (by omega) (by omega)
  have el := nI_clamp (n := l) (by omega)
  have o9 : (sk_wi (sk_wi (sk_wi d 43 l 0 (nI a)) 43 l 1 (nI b)) 43 l 2 (nI r)).1 0 0 9 = nI l := (wi_o (by omega)).trans ((wi_o (by omega)).trans ((wi_o (by omega)).trans h9))
  refine ⟨sk_wi (sk_wi (sk_wi (sk_wi d 43 l 0 (nI a)) 43 l 1 (nI b)) 43 l 2 (nI r)) 0 0 9 (nI (l + 1)), ?_, wi_e, ?_, ?_, ?_, fun s k f h1 h2 => ?_⟩
  · unfold q_X8_addLift q_X8_addLift_0 q_X8_addLift_78 q_X8_addLift_87
    rw [w1, Option.bind_some, if_neg ne10, w2, Option.bind_some, if_neg ne10, w3, Option.bind_some, if_neg ne10, h9, w4, Option.bind_some, if_neg ne10, if_pos bl, el, o9, nI_1, wi_e, nI_pred]
  · rw [wi_o (by omega), wi_o (by omega), wi_o (by omega), wi_e]
  · rw [wi_o (by omega), wi_o (by omega), wi_e]
  · rw [wi_o (by omega), wi_e]
  · rw [wi_o (by omega), wi_o (by omega), wi_o (by omega), wi_o (by omega)]
theorem x_start (h : CL d n m t Pf Gf) {g v : Nat} (hg : g < m) (hv : v ≤ 60) : q_X8_setStart d (nI g) (nI v) = some (d.1 39 g 5, sk_wi d 39 g 5 (nI v)) := by
  have hm := h.2.1
  have w := (wi_in v (a := nI v) (lo := 0) (hi := 60) 0 60 rfl rfl rfl (by omega) (by omega) (by omega)).1 d
  have bg : sk_bi (nI g) 4 = true := bi_nI (by omega) (by omega)
  unfold q_X8_setStart q_X8_setStart_0
  rw [has_g h hg, Option.bind_some, if_neg ne10, w, Option.bind_some, if_neg ne10, if_pos bg, if_pos bg, nI_clamp (by omega)]
theorem x_stop (h : CL d n m t Pf Gf) {g l w j k : Nat} (hg : g < m) (h9 : d.1 0 0 9 = nI k) (hk : k ≤ 3) (hl : l < k) (hw1 : 1 ≤ w) (hw : w ≤ 20) (h6 : d.1 39 g 6 = nI j) (hj : j < 4) : ∃ d', q_X8_addStop d (nI g) (nI l) (nI w) = some (nI (j + 1), d') ∧ d'.1 39 g 6 = nI (j + 1) ∧ d'.1 40 g j = nI l ∧ d'.1 41 g j = nI w ∧ ∀ s k f, ¬ (s = 39 ∧ k = g ∧ f = 6) → ¬ (s = 40 ∧ k = g ∧ f = j) → ¬ (s = 41 ∧ k = g ∧ f = j) → d'.1 s k f = d.1 s k f := by
  have hm := h.2.1
  have w3 := (wi_in w (a := nI w) (lo := 1) (hi := 20) 1 20 rfl rfl rfl (by omega) (by omega) (by omega)).1 d
  have wj := (wi_in j (a := nI j) (lo := 0) (hi := 3) 0 3 rfl rfl rfl (by omega) (by omega) (by omega)).1 d
  have bg : sk_bi (nI g) 4 = true := bi_nI (by omega) (by omega)
  have eg := nI_clamp (n := g) (by omega)
  have bj : sk_bi (nI j) 4 = true := bi_nI (by omega) (by omega)
  have ej := nI_clamp (n := j) (by omega)
  have hlf : q_X8_hasLift d (nI l) = some 1 := by
    have w := (wi_in l (a := nI l) (lo := 0) (hi := 2) 0 2 rfl rfl rfl (by omega) (by omega) (by omega)).1 d
    unfold q_X8_hasLift q_X8_hasLift_0
    rw [w, Option.bind_some, if_neg ne10, h9, if_neg (nI_ge (by omega) (by omega))]
  have o6 : (sk_wi d 40 g j (nI l)).1 39 g 6 = nI j := (wi_o (by omega)).trans h6
  have o62 : (sk_wi (sk_wi d 40 g j (nI l)) 41 g j (nI w)).1 39 g 6 = nI j := (wi_o (by omega)).trans o6
  refine ⟨sk_wi (sk_wi (sk_wi d 40 g j (nI l)) 41 g j (nI w)) 39 g 6 (nI (j + 1)), ?_, wi_e, ?_, ?_, fun s k f h1 h2 h3 => ?_⟩
  · unfold q_X8_addStop q_X8_addStop_0 q_X8_addStop_71 q_X8_addStop_79 q_X8_addStop_89
    rw [has_g h hg, Option.bind_some, if_neg ne10, hlf, Option.bind_some, if_neg ne10, w3, Option.bind_some, if_neg ne10, if_pos bg, eg, h6, wj, Option.bind_some, if_neg ne10, if_pos bj, ej, o6, if_pos bj, ej, o62, nI_1, wi_e]
  · rw [wi_o (by omega), wi_o (by omega), wi_e]
  · rw [wi_o (by omega), wi_e]
  · rw [wi_o (by omega), wi_o (by omega), wi_o (by omega)]
end LT
