/-! THE SIMULATION: the class runs, counts its persons *** by hand -/
def ZG (d : sk_D) (n m t : Nat) (Pf Gf : Nat → Int32) (c : Nat → Nat) : Prop := CL d n m t Pf Gf ∧ ∀ k, k < n → d.1 37 k 4 = nv (c k) ∧ c k ≤ m
section SC
variable {P : Nat → Nat → Nat → Nat} {b : Nat → Nat} {cc M : Nat} {s : ST} {d d' : sk_D} {n m t k : Nat} {Pf Gf Tf : Nat → Int32} {c W u : Nat → Nat}
theorem ZB.g (h : ZB d n m t Pf Gf c) : ZG d n m t Pf Gf c := ⟨h.1, h.2.1⟩
theorem zg_gb (h : ZG d n m t Pf Gf c) {g : Nat} (hg : g < 4) : kn (gb d (nI g)) 20 = kn (fun k => decide (c k = g + 1)) n := by
  have hm := h.1.2.1
  refine kn_pb h.1 (fun k hk => ?_) (fun k hk => ?_)
  · obtain ⟨h4, hc⟩ := h.2 k hk
    unfold gb
    rw [cl_pb h.1 hk, h4, Bool.true_and]
    refine decide_eq_decide.mpr ?_
    unfold nv
    by_cases q : c k = 0
    · rw [if_pos q]
      exact ⟨fun z => absurd z.symm (nm_nI (by omega)), fun z => by omega⟩
    · rw [if_neg q, nI_eq (by omega) (by omega)]
      omega
  · unfold gb
    rw [hk]
    rfl
theorem zgs_z (h : ZG d n m t Pf Gf c) {g : Nat} (hg : m ≤ g) : szc n c g = 0 := kn_none (fun p hp => decide_eq_false (fun q => by have := (h.2 p hp).2; omega))
theorem zg_acb (h : ZG d n m t Pf Gf c) {g : Nat} (hg : g < 4) : acb d g = decide (0 < szc n c g) := by
  unfold acb ob
  rw [zg_gb h hg, h.1.2.2.2.2.1 g hg]
  by_cases q : g < m
  · rw [decide_eq_true q]
    rfl
  · rw [decide_eq_false q]
    have := zgs_z h (show m ≤ g by omega)
    rw [decide_eq_false (show ¬ 0 < szc n c g by omega)]
    rfl
theorem zg_act (h : ZG d n m t Pf Gf c) {g : Nat} (hg : g < 4) : q_X8_isActive d (nI g) = some (bI (acb d g)) := by
  have hh := ee_G (cl_g01 h.1)
  unfold acb
  cases ho : ob d g with
  | false =>
    have h8 : q_X8_hasGroup d (nI g) = some 0 := by
      rcases hG hh (nI g) with ⟨h, _⟩ | ⟨k, hk, ek, h1, h8, h9⟩
      · exact h
      · rw [nI_eq (by omega) (by omega)] at ek
        subst ek
        rw [(hh.o0 hg ho).1] at h1
        exact absurd h1 (by decide)
    simp only [q_X8_isActive, q_X8_isActive_0, h8, Option.bind_some, Bool.false_and, bI_f, ↓reduceIte]
  | true =>
    have h8 := (hh.o hg (hh.o1 hg ho).1).1
    simp only [q_X8_isActive, q_X8_isActive_0, h8, c8_countIn (ee_P (cl_01 h.1)), i10, Option.bind_some, Bool.true_and, kc_kn, le0_nI (kn20 _), ↓reduceIte]
    by_cases c : kn (gb d (nI g)) 20 = 0
    · rw [if_pos c, decide_eq_false (show ¬ 0 < kn (gb d (nI g)) 20 by omega)]
      rfl
    · rw [if_neg c, decide_eq_true (show 0 < kn (gb d (nI g)) 20 by omega)]
      rfl
theorem c68 (hS : CSt P d) (hC : CR P s d) (hI : IR P b cc s) (hP : PV P) (N M : Nat) : ∃ d', (CSt P d' ∧ CR P (wts (P 7 0 0) s) d' ∧ FS8 d d') ∧ ∀ r10, l_X6_run_68 r10 sk_fu (d, nI N, nI (P 7 0 0), nI M, 0) = r10 (d', nI N, nI (P 7 0 0), nI (M + 1)) := by
  have hn := hP.1
  have main := it_cn (F := fun r10 rec68 a => q_X6_run_68 r10 rec68 a.1 a.2.1 a.2.2.1 a.2.2.2.1 a.2.2.2.2)
    (fun r10 d' => r10 (d', nI N, nI (P 7 0 0), nI (M + 1)))
    (fun l a => ∃ D, a = (D, nI N, nI (P 7 0 0), nI M, nI l) ∧ CSt P D ∧ CR P (wts l s) D ∧ FS8 d D)
    (fun D => CSt P D ∧ CR P (wts (P 7 0 0) s) D ∧ FS8 d D) (P 7 0 0) (fun l a hl hp => ?_) (fun a hp => ?_) (by omega) (d, nI N, nI (P 7 0 0), nI M, 0) ⟨d, rfl, hS, hC, FS8.rf d⟩
  · exact main
  · obtain ⟨D, rfl, h1, h2, h3⟩ := hp
    obtain ⟨D', q1, q2, q3, q4⟩ := cwait h1 h2 (IR_wts hI hP l (by omega)) hP (l := l) (by omega)
    refine ⟨_, ⟨D', rfl, q2, q3, h3.tr q4⟩, fun r10 rec => ?_⟩
    show q_X6_run_68 r10 rec D (nI N) (nI (P 7 0 0)) (nI M) (nI l) = _
    unfold q_X6_run_68
    rw [if_neg (nI_ge hl (by omega)), q1, Option.bind_some, nI_1]
  · obtain ⟨D, rfl, h1, h2, h3⟩ := hp
    refine ⟨D, ⟨h1, h2, h3⟩, fun r10 rec => ?_⟩
    show q_X6_run_68 r10 rec D (nI N) (nI (P 7 0 0)) (nI M) (nI (P 7 0 0)) = _
    unfold q_X6_run_68
    rw [if_pos (nI_le (Nat.le_refl _) (by omega)), nI_1]
theorem c27 (hS : CSt P d) (hC : CR P s d) (hI : IR P (fun _ => M + 1) cc s) (hP : PV P) (hM : M < 180) (N : Nat) : ∃ d', (CSt P d' ∧ CR P (wts (P 7 0 0) (deps P M (P 7 0 0) s)) d' ∧ FS8 d d') ∧ ∀ r10, l_X6_run_27 r10 sk_fu (d, nI N, nI (P 7 0 0), nI M, 0) = r10 (d', nI N, nI (P 7 0 0), nI (M + 1)) := by
  have hn := hP.1
  have main := it_cn (F := fun r10 rec27 a => q_X6_run_27 r10 rec27 a.1 a.2.1 a.2.2.1 a.2.2.2.1 a.2.2.2.2)
    (fun r10 d' => r10 (d', nI N, nI (P 7 0 0), nI (M + 1)))
    (fun l a => ∃ D, a = (D, nI N, nI (P 7 0 0), nI M, nI l) ∧ CSt P D ∧ CR P (deps P M l s) D ∧ FS8 d D)
    (fun D => CSt P D ∧ CR P (wts (P 7 0 0) (deps P M (P 7 0 0) s)) D ∧ FS8 d D) (P 7 0 0) (fun l a hl hp => ?_) (fun a hp => ?_) (by omega) (d, nI N, nI (P 7 0 0), nI M, 0) ⟨d, rfl, hS, hC, FS8.rf d⟩
  · exact main
  · obtain ⟨D, rfl, h1, h2, h3⟩ := hp
    obtain ⟨_, _, i1, i2, _⟩ := hP.2.2.1 l hl
    have hdp := departs (d := D) (j := l) (i := P 5 l 0) (m := M) (by omega) hM i1 i2 (h1.2.2 l hl).2.1
    have bl : sk_bi (nI l) 3 = true := bi_nI (by omega) (by omega)
    have el := nI_clamp (n := l) (by omega)
    have ed : deps P M (l + 1) s = if M % P 5 l 0 = 0 then ons P M l (P 4 l 0) (deps P M l s) else deps P M l s := rfl
    by_cases hz : M % P 5 l 0 = 0
    · obtain ⟨D', q1, q2, q3, q4⟩ := cdep h1 h2 (IR_deps hI hP hM l (by omega)) hP hM hl
      refine ⟨_, ⟨D', rfl, q2, by rw [ed, if_pos hz]; exact q3, h3.tr q4⟩, fun r10 rec => ?_⟩
      show q_X6_run_27 r10 rec D (nI N) (nI (P 7 0 0)) (nI M) (nI l) = _
      unfold q_X6_run_27 q_X6_run_59
      rw [if_neg (nI_ge hl (by omega)), if_pos bl, el, hdp, if_pos hz, Option.bind_some, if_neg ne10, if_pos bl, q1, Option.bind_some, nI_1]
    · refine ⟨_, ⟨D, rfl, h1, by rw [ed, if_neg hz]; exact h2, h3⟩, fun r10 rec => ?_⟩
      show q_X6_run_27 r10 rec D (nI N) (nI (P 7 0 0)) (nI M) (nI l) = _
      unfold q_X6_run_27 q_X6_run_59
      rw [if_neg (nI_ge hl (by omega)), if_pos bl, el, hdp, if_neg hz, Option.bind_some, if_pos rfl, nI_1]
  · obtain ⟨D, rfl, h1, h2, h3⟩ := hp
    obtain ⟨D', ⟨q1, q2, q3⟩, q4⟩ := c68 h1 h2 (IR_deps hI hP hM _ (Nat.le_refl _)) hP N M
    refine ⟨D', ⟨q1, q2, h3.tr q3⟩, fun r10 rec => ?_⟩
    show q_X6_run_27 r10 rec D (nI N) (nI (P 7 0 0)) (nI M) (nI (P 7 0 0)) = _
    unfold q_X6_run_27
    rw [if_pos (nI_le (Nat.le_refl _) (by omega)), q4]
theorem crun (hS : CSt P d) (hC : CR P s d) (hI : IR P (fun _ => 0) 0 s) (hP : PV P) {N : Nat} (hN : N ≤ 180) : ∃ d', q_X6_run d (d.1 0 0 9) (nI N) = some d' ∧ CSt P d' ∧ CR P (runs P N s) d' ∧ FS8 d d' := by
  have hn := hP.1
  have main := it_inv0 (F := fun rec a => q_X6_run_10 rec a.1 a.2.1 a.2.2.1 a.2.2.2)
    (fun M a => ∃ D, a = (D, nI N, nI (P 7 0 0), nI M) ∧ CSt P D ∧ CR P (runs P M s) D ∧ FS8 d D)
    (fun D => CSt P D ∧ CR P (runs P N s) D ∧ FS8 d D) N (fun M a hM hp => ?_) (fun a hp => ?_) (by omega) (d, nI N, nI (P 7 0 0), 0) ⟨d, rfl, hS, hC, FS8.rf d⟩
  · obtain ⟨D, h1, h2⟩ := main
    refine ⟨D, ?_, h2⟩
    unfold q_X6_run q_X6_run_0
    rw [hS.2.1, if_neg (show ¬ (3 : Int32) < nI (P 7 0 0) from nI_nlt (a := 3) hn (by omega))]
    exact h1
  · obtain ⟨D, rfl, h1, h2, h3⟩ := hp
    have hIM := IR_runs hI hP M (by omega)
    obtain ⟨D1, q1, q2, q3, q4⟩ := cjoin h1 h2 hIM hP (by omega)
    obtain ⟨D2, ⟨z1, z2, z3⟩, z4⟩ := c27 q2 q3 (IR_b4 (IR_jns hIM hP (by omega) 4 (by omega))) hP (show M < 180 by omega) N
    refine ⟨_, ⟨D2, rfl, z1, z2, (h3.tr q4).tr z3⟩, fun rec => ?_⟩
    show q_X6_run_10 rec D (nI N) (nI (P 7 0 0)) (nI M) = _
    unfold q_X6_run_10
    rw [if_neg (nI_ge hM (by omega)), q1, Option.bind_some, z4]
  · obtain ⟨D, rfl, h1, h2, h3⟩ := hp
    refine ⟨D, ⟨h1, h2, h3⟩, fun rec => ?_⟩
    show q_X6_run_10 rec D (nI N) (nI (P 7 0 0)) (nI N) = _
    unfold q_X6_run_10
    rw [if_pos (nI_le (Nat.le_refl _) (by omega))]
theorem zg_tp (h : ZG d n m t Pf Gf c) {g : Nat} (hg : g < 4) : q_X8_takesPart d (nI g) = some (bI (tpb d g)) := by
  have eg := nI_clamp (n := g) (by omega)
  have bg : sk_bi (nI g) 4 = true := bi_nI (by omega) (by omega)
  unfold tpb
  cases ha : acb d g with
  | false => simp only [q_X8_takesPart, q_X8_takesPart_0, zg_act h hg, ha, bI_f, Option.bind_some, Bool.false_and, ↓reduceIte]
  | true =>
    by_cases c : d.1 39 g 6 ≤ 0
    · simp only [q_X8_takesPart, q_X8_takesPart_0, zg_act h hg, ha, bI_t, bI_f, i10, bg, eg, c, Option.bind_some, Bool.true_and, decide_true, Bool.not_true, ↓reduceIte]
    · simp only [q_X8_takesPart, q_X8_takesPart_0, zg_act h hg, ha, bI_t, i10, bg, eg, c, Option.bind_some, Bool.true_and, decide_false, Bool.not_false, ↓reduceIte]
theorem ZG.fr (h : ZG d n m t Pf Gf c) (ho : ∀ s k f, s = 5 ∨ s = 37 ∨ s = 39 ∧ f ≤ 3 → d'.1 s k f = d.1 s k f) : ZG d' n m t Pf Gf c := by
  obtain ⟨⟨c1, c2, c3, c4, c5, c6, c7⟩, p4⟩ := h
  refine ⟨⟨c1, c2, fun k hk => ?_, fun k hk => ?_, fun g hg => ?_, fun g hg => ?_, fun f hf => ?_⟩, fun k hk => ⟨?_, (p4 k hk).2⟩⟩
  · rw [ho 37 k 0 (by omega)]
    exact c3 k hk
  · rw [ho 37 k 1 (by omega), ho 37 k 2 (by omega), ho 37 k 3 (by omega)]
    exact c4 k hk
  · rw [ho 39 g 0 (by omega)]
    exact c5 g hg
  · rw [ho 39 g 1 (by omega), ho 39 g 2 (by omega), ho 39 g 3 (by omega)]
    exact c6 g hg
  · rw [ho 5 0 f (by omega)]
    exact c7 f hf
  · rw [ho 37 k 4 (by omega)]
    exact (p4 k hk).1
theorem zg_count (h : ZG d n m t Pf Gf c) : q_X8_countPersons d = some (cp8 d 4) := by
  refine it_for0 (F := fun rec a => q_X8_countPersons_2 rec a.1 a.2) (fun i => (cp8 d i, nI i)) 4 (fun j hj rec => ?_) (fun rec => ?_) (by omega)
  · show q_X8_countPersons_2 rec (cp8 d j) (nI j) = rec (cp8 d (j + 1), nI (j + 1))
    have ej := nI_clamp (n := j) (by omega)
    have bj : sk_bi (nI j) 4 = true := bi_nI (by omega) (by omega)
    have lj : ¬ (4 : Int32) ≤ nI j := le_nI (n := 4) rfl hj (by omega)
    have hRj : ZG (cp8 d j) n m t Pf Gf c := h.fr (fun s k f hs => cp8_o d j s k f (by omega))
    obtain ⟨s1, s2, s3⟩ := sites_same (d := d) (d' := cp8 d j) (fun k f => cp8_o d j 37 k f (by omega)) (fun k f _ => cp8_o d j 39 k f (by omega)) j
    have t8 := zg_tp hRj hj
    rw [s1] at t8
    have c8 := c8_countIn (ee_P (cl_01 hRj.1)) (nI j)
    rw [s2, kc_kn] at c8
    have o4 : (cp8 d j).1 39 j 4 = d.1 39 j 4 := cp8_o d j 39 j 4 (by omega)
    cases ht : tpb d j with
    | false =>
      rw [ht] at t8
      have hp : prs d j = 0 := prs_0.mpr ht
      have z : ((0 : Int32) ≤ 0) = True := eq_true (by decide)
      simp only [q_X8_countPersons_2, q_X8_countPersons_24, q_X8_countPersons_57, q_X8_countPersons_58, lj, t8, bI_f, z, bj, ej, s1_nI, cp8, hp, Option.bind_some, ↓reduceIte]
      rfl
    | true =>
      rw [ht] at t8
      have hpos := prs_pos ht
      have hk20 := kn20 (gb d (nI j))
      have n0 : ¬ nI (kn (gb d (nI j)) 20) ≤ (0 : Int32) := by
        rw [show (0 : Int32) = nI 0 from rfl]
        exact nI_ge hpos hk20
      by_cases c : d.1 39 j 4 = -9
      · have hp : prs d j = kn (gb d (nI j)) 20 := by
          unfold prs
          rw [if_pos ht, if_pos c]
        simp only [q_X8_countPersons_2, q_X8_countPersons_24, q_X8_countPersons_57, q_X8_countPersons_58, lj, t8, bI_t, i10, c8, n0, o4, c, bj, ej, s1_nI, cp8, hp, Option.bind_some, ↓reduceIte]
      · have hp : prs d j = kn (gb d (nI j)) 20 + 1 := by
          unfold prs
          rw [if_pos ht, if_neg c]
        simp only [q_X8_countPersons_2, q_X8_countPersons_24, q_X8_countPersons_57, q_X8_countPersons_58, lj, t8, bI_t, i10, c8, n0, o4, c, bj, ej, s1_nI, cp8, hp, Option.bind_some, ↓reduceIte]
  · show q_X8_countPersons_2 rec (cp8 d 4) (nI 4) = _
    have l : (4 : Int32) ≤ nI 4 := ge_nI (n := 4) rfl (by omega) (by omega)
    simp only [q_X8_countPersons_2, l, ↓reduceIte]
end SC
