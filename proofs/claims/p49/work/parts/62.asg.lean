/-! THE CLASS's plan, carried out and looked at; the law's 'planned' *** by hand -/
/-- the class after a plan: c has 0 for none, or the group and 1 -/
def ZA (d : sk_D) (n m t : Nat) (Pf Gf : Nat → Int32) (c : Nat → Nat) : Prop := CL d n m t Pf Gf ∧ (∀ k, k < n → d.1 37 k 4 = nv (c k) ∧ c k ≤ m) ∧ ZR d m
theorem kn_pb {d : sk_D} {n m t : Nat} {Pf Gf : Nat → Int32} (h : CL d n m t Pf Gf) {q r : Nat → Bool} (hq : ∀ k, k < n → q k = r k) (h0 : ∀ k, pb d k = false → q k = false) : kn q 20 = kn r n := by
  refine kn_cut (by have := h.1; omega) hq (fun k g1 g2 => h0 k ?_)
  unfold pb
  rw [h.2.2.1 k g2, decide_eq_false (show ¬ k < n by omega)]
  rfl
theorem nv_ne {c : Nat} (hc : c ≤ 4) : nv c = -9 ↔ c = 0 := by
  unfold nv
  by_cases q : c = 0
  · rw [if_pos q]
    exact ⟨fun _ => q, fun _ => rfl⟩
  · rw [if_neg q]
    exact ⟨fun z => absurd z (nm_nI (by omega)), fun z => absurd z q⟩
section ZA
variable {d : sk_D} {n m t : Nat} {Pf Gf : Nat → Int32} {c : Nat → Nat}
theorem cl_pb (h : CL d n m t Pf Gf) {k : Nat} (hk : k < n) : pb d k = true := by
  unfold pb
  rw [h.2.2.1 k (by have := h.1; omega), decide_eq_true hk]
  rfl
theorem x_placed (h : ZA d n m t Pf Gf c) : q_X8_placed d = some (nI (kn (fun k => decide (c k ≠ 0)) n)) := by
  have hm := h.1.2.1
  rw [c8_placed (ee_P (cl_01 h.1)), kc_kn]
  refine congrArg (fun z => some (nI z)) (kn_pb h.1 (fun k hk => ?_) (fun k hk => ?_))
  · unfold plb
    rw [cl_pb h.1 hk, (h.2.1 k hk).1]
    have := nv_ne (show c k ≤ 4 by have := (h.2.1 k hk).2; omega)
    by_cases q : c k = 0
    · rw [decide_eq_false (not_not_intro (this.mpr q)), decide_eq_false (not_not_intro q)]
      rfl
    · rw [decide_eq_true (show ¬ nv (c k) = -9 from fun z => q (this.mp z)), decide_eq_true (show c k ≠ 0 from q)]
      rfl
  · unfold plb
    rw [hk]
    rfl
theorem x_out (h : ZA d n m t Pf Gf c) : q_X8_outOfLevel d = some (nI (kn (fun k => decide (c k ≠ 0) && llv Pf Gf k (c k - 1)) n)) := by
  have hm := h.1.2.1
  have hrP := ee_P (cl_01 h.1)
  have hrG := ee_G (cl_g01 h.1)
  have main : q_X8_outOfLevel d = some (kc (lvb d) 20) := by
    refine it_for0 (F := fun rec4 a => q_X8_outOfLevel_4 rec4 d a.1 a.2) (fun i => (kc (lvb d) i, nI i)) 20 (fun j hj rec => ?_) (fun rec => ?_) (by omega)
    · show q_X8_outOfLevel_4 rec d  (kc (lvb d) j) (nI j) = rec (kc (lvb d) (j + 1), nI (j + 1))
      have ej := nI_clamp (n := j) (by omega)
      have bj : sk_bi (nI j) 20 = true := bi_nI (by omega) (by omega)
      have lj : ¬ (20 : Int32) ≤ nI j := le_nI (n := 20) rfl hj (by omega)
      rw [kc_s]
      unfold lvb plb
      cases hp : pb d j with
      | false => simp only [q_X8_outOfLevel_4, q_X8_outOfLevel_57, lj, bj, ej, (hrP.p0 hj hp).1, s1_nI, Bool.false_and, bI_f, Int32.add_zero, ↓reduceIte]
      | true =>
        have hjn := cl_n h.1 hj (hrP.p1 hj hp).1
        obtain ⟨h4, hc⟩ := h.2.1 j hjn
        by_cases q : c j = 0
        · have hf : d.1 37 j 4 = -9 := by rw [h4]; exact if_pos q
          simp only [q_X8_outOfLevel_4, q_X8_outOfLevel_57, lj, bj, ej, (hrP.p1 hj hp).1, i10, hf, hrG.n.1, Option.bind_some, s1_nI, Bool.true_and, not_true_eq_false, decide_false, Bool.false_and, bI_f, Int32.add_zero, ↓reduceIte]
        · have hf : d.1 37 j 4 = nI (c j - 1) := by rw [h4]; exact if_neg q
          have hg : c j - 1 < 4 := by omega
          have ho : d.1 39 (c j - 1) 0 = 1 := by
            rw [h.1.2.2.2.2.1 _ hg, decide_eq_true (by omega)]
            rfl
          have eg := nI_clamp (n := c j - 1) (by omega)
          have bg : sk_bi (nI (c j - 1)) 4 = true := bi_nI (by omega) (by omega)
          have ng := nm_nI (j := c j - 1) (by omega)
          by_cases hl : d.1 39 (c j - 1) 1 = d.1 37 j 1
          · simp only [q_X8_outOfLevel_4, q_X8_outOfLevel_57, lj, bj, ej, (hrP.p1 hj hp).1, i10, hf, (hrG.o hg ho).1, eg, bg, ng, hl, Option.bind_some, s1_nI, Bool.true_and, not_true_eq_false, not_false_eq_true, decide_true, decide_false, bI_f, Int32.add_zero, ↓reduceIte]
          · simp only [q_X8_outOfLevel_4, q_X8_outOfLevel_57, lj, bj, ej, (hrP.p1 hj hp).1, i10, hf, (hrG.o hg ho).1, eg, bg, ng, hl, Option.bind_some, s1_nI, Bool.true_and, not_false_eq_true, decide_true, bI_t, ↓reduceIte]
    · show q_X8_outOfLevel_4 rec d  (kc (lvb d) 20) (nI 20) = some (kc (lvb d) 20)
      have l : (20 : Int32) ≤ nI 20 := ge_nI (n := 20) rfl (by omega) (by omega)
      simp only [q_X8_outOfLevel_4, l, ↓reduceIte]
  rw [main, kc_kn]
  refine congrArg (fun z => some (nI z)) (kn_pb h.1 (fun k hk => ?_) (fun k hk => ?_))
  · obtain ⟨h4, hc⟩ := h.2.1 k hk
    unfold lvb plb llv
    rw [cl_pb h.1 hk]
    by_cases q : c k = 0
    · have hf : d.1 37 k 4 = -9 := by rw [h4]; exact if_pos q
      rw [decide_eq_false (not_not_intro hf), decide_eq_false (not_not_intro q)]
      rfl
    · have hf : d.1 37 k 4 = nI (c k - 1) := by rw [h4]; exact if_neg q
      rw [hf, decide_eq_true q, nI_clamp (by omega), decide_eq_true (nm_nI (by omega)), (h.1.2.2.2.2.2.1 (c k - 1) (by omega)).1, (h.1.2.2.2.1 k hk).1]
      rfl
  · unfold lvb plb
    rw [hk]
    rfl
theorem x_group (h : ZA d n m t Pf Gf c) {k : Nat} (hk : k < n) : q_X8_group d (nI k) = some (nv (c k)) := by
  have hn := h.1.1
  have w := (wi_in k (a := nI k) (lo := 0) (hi := 19) 0 19 rfl rfl rfl (by omega) (by omega) (by omega)).1 d
  have b : sk_bi (nI k) 20 = true := bi_nI (by omega) (by omega)
  have hh : q_X8_hasPupil d (nI k) = some 1 := by
    unfold q_X8_hasPupil q_X8_hasPupil_0
    rw [w, Option.bind_some, if_neg ne10, if_pos b, nI_clamp (by omega), h.1.2.2.1 k (by omega), decide_eq_true hk, if_neg (by decide)]
  unfold q_X8_group q_X8_group_0
  rw [hh, Option.bind_some, if_neg ne10, if_pos b, nI_clamp (by omega), (h.2.1 k hk).1]
theorem has_g (h : CL d n m t Pf Gf) {g : Nat} (hg : g < m) : q_X8_hasGroup d (nI g) = some 1 := by
  have hm := h.2.1
  exact ((ee_G (cl_g01 h)).o (k := g) (by omega) (by rw [h.2.2.2.2.1 g (by omega), decide_eq_true hg]; rfl)).1
theorem x_size (h : ZA d n m t Pf Gf c) {g : Nat} (hg : g < m) : q_X8_size d (nI g) = some (nI (kn (fun k => decide (c k = g + 1)) n)) := by
  have hm := h.1.2.1
  unfold q_X8_size q_X8_size_0
  rw [has_g h.1 hg, Option.bind_some, if_neg ne10, c8_countIn (ee_P (cl_01 h.1)), kc_kn, Option.bind_some]
  refine congrArg (fun z => some (nI z)) (kn_pb h.1 (fun k hk => ?_) (fun k hk => ?_))
  · obtain ⟨h4, hc⟩ := h.2.1 k hk
    unfold gb
    rw [cl_pb h.1 hk, h4, Bool.true_and]
    refine decide_eq_decide.mpr ?_
    unfold nv
    by_cases q : c k = 0
    · rw [if_pos q]
      exact ⟨fun z => absurd z.symm (nm_nI (by omega)), fun z => by omega⟩
    · rw [if_neg q, nI_eq (by omega) (by omega)]
      omega
  · unfold gb
    rw [hk]
    rfl
theorem bpc_le (h : CL d n m t Pf Gf) {k : Nat} (hk : k < n) : bpc d k ≤ m := by
  obtain ⟨hok, _⟩ := cpl_ok (P := d.1 37) (T := d.1 5 0) (su := su8 (d.1 37) (d.1 39)) (lv := lv8d (d.1 37) (d.1 39)) (cap := cpt (d.1 39))
  have hn := h.1
  rcases hok.1 k (by omega) (by rw [cl_p h (by omega)]; exact decide_eq_true hk) with z | ⟨g, g1, g2, g3⟩
  · show cpl _ _ _ _ _ k ≤ m
    omega
  · rw [cl_su h hk g1, Bool.and_eq_true, decide_eq_true_eq] at g3
    show cpl _ _ _ _ _ k ≤ m
    have := g3.1
    omega
theorem x_assign (h : ZZ d n m t Pf Gf) (hP : DP n Pf) (hG : DG m Gf) : ∃ d', q_X8_assign d = some (nI (bpn d), d') ∧ ZA d' n m t Pf Gf (bpc d) := by
  obtain ⟨d1, ⟨F1, u7, u11⟩, q1⟩ := fbz h hP hG
  have h1 := h.fd F1
  have hn := h.1.1
  have e37 : ∀ k, pp (d1.1 37) k = pp (d.1 37) k := fun k => by
    unfold pp
    rw [F1 37 k 0 (by omega)]
  obtain ⟨d2, ⟨F2, v2⟩, q2⟩ := as8 (ee_P (cl_01 h1.1)) (nI (bpn d)) (y := fun k => nv (bpc d k)) (fun k hk hp => by
    rw [e37] at hp
    have hu := uo_lt (T := d.1 5 0) hp hk
    have := un_le (d.1 37) (d.1 5 0) 20
    refine ⟨uo (d.1 37) (d.1 5 0) k, by omega, ?_, u11 _ hu⟩
    rw [u7 k hk, if_pos hp])
  refine ⟨d2, ?_, ?_⟩
  · unfold q_X8_assign q_X8_assign_0
    rw [q1, Option.bind_some]
    exact q2
  · obtain ⟨⟨c1, c2, c3, c4, c5, c6, c7⟩, p4, z1, z2, z3, z4, z5⟩ := h1
    refine ⟨⟨c1, c2, fun k hk => ?_, fun k hk => ?_, fun g hg => ?_, fun g hg => ?_, fun f hf => ?_⟩, fun k hk => ⟨?_, bpc_le h.1 hk⟩, fun g hg => ?_, fun g hg => ?_, fun i hi => ?_, ?_, fun l hl => ?_⟩
    · rw [F2 37 k 0 (by omega)]
      exact c3 k hk
    · rw [F2 37 k 1 (by omega), F2 37 k 2 (by omega), F2 37 k 3 (by omega)]
      exact c4 k hk
    · rw [F2 39 g 0 (by omega)]
      exact c5 g hg
    · rw [F2 39 g 1 (by omega), F2 39 g 2 (by omega), F2 39 g 3 (by omega)]
      exact c6 g hg
    · rw [F2 5 0 f (by omega)]
      exact c7 f hf
    · exact v2 k (by omega) (by rw [e37, cl_p h.1 (by omega)]; exact decide_eq_true hk)
    · rw [F2 39 g 4 (by omega), F2 39 g 5 (by omega), F2 39 g 6 (by omega)]
      exact z1 g hg
    · rw [F2 39 g 9 (by omega), F2 39 g 10 (by omega)]
      exact z2 g hg
    · rw [F2 42 i 0 (by omega)]
      exact z3 i hi
    · rw [F2 0 0 9 (by omega)]
      exact z4
    · rw [F2 43 l 3 (by omega), F2 43 l 4 (by omega)]
      exact z5 l hl
theorem dc_lt (h : CL d n m t Pf Gf) {k : Nat} (hk : k < n) : (dc m (bpc d) k < m ↔ bpc d k ≠ 0) ∧ dc m (bpc d) k ≤ m ∧ (bpc d k ≠ 0 → bpc d k - 1 = dc m (bpc d) k) := by
  have := bpc_le h hk
  unfold dc
  by_cases q : bpc d k = 0
  · rw [if_pos q]
    omega
  · rw [if_neg q]
    omega
theorem bpn_kn (h : CL d n m t Pf Gf) : bpn d = kn (fun k => decide (bpc d k ≠ 0)) n := by
  obtain ⟨_, hc⟩ := cpl_ok (P := d.1 37) (T := d.1 5 0) (su := su8 (d.1 37) (d.1 39)) (lv := lv8d (d.1 37) (d.1 39)) (cap := cpt (d.1 39))
  have e : bpn d = mny (d.1 37) (bpc d) := hc.symm
  rw [e]
  unfold mny
  exact cd_n h (bpc d) (fun _ z => decide (z ≠ 0))
theorem x_planned {X : sk_X} {pu gr b : Nat} (h : ZZ d n m t Pf Gf) (hP : DP n Pf) (hG : DG m Gf) (hD : DL X pu gr b n m Pf Gf) (ht : t < 4) : ∃ d' x', q_L_planned d X (nI n) (nI m) (nI t) pu gr b = some (1, d', x') ∧ IX X b x' ∧ (∀ p, p < n → x'.2.2 b p = nI (dc m (bpc d) p)) ∧ ZA d' n m t Pf Gf (bpc d) := by
  obtain ⟨x', ⟨hI, hB⟩, q1⟩ := bplan hD ht
  obtain ⟨i, i1, i2, i3, i4⟩ := same_plan h.1
  rw [i2] at hB q1
  have q1 : q_L_bestPlan X (nI n) (nI m) (nI t) pu gr b = some (nI (bpn d), x') := by
    rw [← i4]
    exact q1
  obtain ⟨d', q2, hA⟩ := x_assign h hP hG
  have hb : ∀ p, p < n → x'.2.2 b p = nI (dc m (bpc d) p) := fun p hp => by rw [hB i rfl p hp, i3 p hp]
  have q3 := x_placed hA
  rw [← bpn_kn h.1] at q3
  refine ⟨d', x', ?_, hI, hb, hA⟩
  obtain ⟨hPx, hGx, hbX, h8, hpb, hgb, hn, hm, _⟩ := hD
  have aP := hI.ax hPx hpb
  have aG := hI.ax hGx hgb
  have aB := (hI.bst hbX h8).cg (g := fun p => if p < n then nI (dc m (bpc d) p) else x'.2.2 b p) (fun p _ => by
    by_cases q : p < n
    · rw [if_pos q]
      exact hb p q
    · rw [if_neg q])
  unfold q_L_planned q_L_planned_0
  rw [q1, Option.bind_some, if_pos hI.1, if_pos (Nat.le_of_eq hI.1), q2, Option.bind_some, if_pos rfl, q3, Option.bind_some, if_pos rfl]
  show l_L_planned_40 X.1 sk_fu (d', x', nI n, nI m, pu, gr, b, nI (kn (fun k => decide (bpc d k ≠ 0) && llv Pf Gf k (bpc d k - 1)) 0), nI 0) = _
  refine it_for0 (F := fun rec40 a => q_L_planned_40 rec40 X.1 a.1 a.2.1 a.2.2.1 a.2.2.2.1 a.2.2.2.2.1 a.2.2.2.2.2.1 a.2.2.2.2.2.2.1 a.2.2.2.2.2.2.2.1 a.2.2.2.2.2.2.2.2) (fun p => (d', x', nI n, nI m, pu, gr, b, nI (kn (fun k => decide (bpc d k ≠ 0) && llv Pf Gf k (bpc d k - 1)) p), nI p)) n (fun p hp rec => ?_) (fun rec => ?_) (by omega)
  · show q_L_planned_40 rec X.1 d' x' (nI n) (nI m) pu gr b (nI (kn (fun k => decide (bpc d k ≠ 0) && llv Pf Gf k (bpc d k - 1)) p)) (nI p) = _
    have bB := aB.b (j := p) (by omega) (by omega)
    have eB := aB.l (j := p) (by omega) (by omega)
    rw [if_pos hp] at eB
    obtain ⟨l1, l2, l3⟩ := dc_lt h.1 hp
    have e111 : ∀ v8 : Int32, q_L_planned_111 rec X.1 d' x' (nI n) (nI m) pu gr b (nI p) v8 = rec (d', x', nI n, nI m, pu, gr, b, v8, nI (p + 1)) := fun v8 => by
      unfold q_L_planned_111 q_L_planned_112
      rw [Int32.add_zero, nI_1]
    have e112 : ∀ v8 : Int32, q_L_planned_112 rec X.1 d' x' (nI n) (nI m) pu gr b (nI p) v8 1 = rec (d', x', nI n, nI m, pu, gr, b, v8 + 1, nI (p + 1)) := fun v8 => by
      unfold q_L_planned_112
      rw [nI_1]
    unfold q_L_planned_40
    rw [if_neg (nI_ge hp (by omega)), x_group hA hp, Option.bind_some, if_pos bB, eB, kn_b]
    by_cases q : bpc d p = 0
    · have e : dc m (bpc d) p = m := if_pos q
      rw [e, if_pos rfl]
      unfold q_L_planned_71
      rw [if_pos (show nv (bpc d p) = -9 by rw [q]; rfl), if_pos bB, eB, e, if_pos (nI_le (Nat.le_refl _) (by omega)), e111]
      simp [q]
    · have hl := l1.mpr q
      rw [if_neg (fun z => by have := (nI_eq (by omega) (by omega)).mp z; omega), if_pos bB]
      unfold q_L_planned_71
      rw [if_pos (show nv (bpc d p) = nI (dc m (bpc d) p) by rw [← l3 q]; exact if_neg q), if_pos bB, eB, if_neg (nI_ge hl (by omega)), nI3, pk_mul, pk_mul, if_pos (aP.b (by omega) (by omega)), if_pos bB, if_pos (aG.b (by omega) (by omega)), aP.l (by omega) (by omega), aG.l (by omega) (by omega), l3 q]
      unfold llv
      by_cases y : Pf (3 * p) = Gf (3 * dc m (bpc d) p)
      · rw [if_pos y, e111, y]
        simp
      · rw [if_neg y, e112, nI_1]
        have y2 : ¬ Gf (3 * dc m (bpc d) p) = Pf (3 * p) := fun z => y z.symm
        simp [q, y2]
  · show q_L_planned_40 rec X.1 d' x' (nI n) (nI m) pu gr b (nI (kn (fun k => decide (bpc d k ≠ 0) && llv Pf Gf k (bpc d k - 1)) n)) (nI n) = _
    unfold q_L_planned_40
    rw [if_pos (nI_le (Nat.le_refl _) (by omega)), x_out hA, Option.bind_some, if_pos rfl]
end ZA
