/-! staff, the call *** by hand -/
def sw8 (d : sk_D) : Nat → sk_D
  | 0 => d
  | n + 1 => sk_wi (sw8 d n) 20 0 n (bI (acb d n))
theorem sw8_o (d : sk_D) : ∀ (n s k f : Nat), ¬ (s = 20 ∧ f < n) → (sw8 d n).1 s k f = d.1 s k f
  | 0, _, _, _, _ => rfl
  | n + 1, s, k, f, h => by
    show (sk_wi (sw8 d n) 20 0 n _).1 s k f = _
    rw [wi_o (by omega), sw8_o d n s k f (by omega)]
theorem sw8_g (d : sk_D) : ∀ (n k : Nat), k < n → (sw8 d n).1 20 0 k = bI (acb d k)
  | 0, k, h => absurd h (Nat.not_lt_zero _)
  | n + 1, k, h => by
    show (sk_wi (sw8 d n) 20 0 n (bI (acb d n))).1 20 0 k = _
    by_cases e : k = n
    · subst e
      exact wi_e
    · rw [wi_o (by omega), sw8_g d n k (by omega)]
theorem sw8_F (d : sk_D) : ∀ n, sk_F8 d (sw8 d n)
  | 0 => sk_F8.rf d
  | n + 1 => (sw8_F d n).wi _ _ _ _ (by omega)
theorem sd8.ne {d d' : sk_D} (h : ∀ s k f, (s = 0 ∨ s = 5 ∨ 35 ≤ s ∧ s ≤ 43) → d'.1 s k f = d.1 s k f) : sd8 d d' := ⟨fun s hs => by
    funext k f
    exact h s k f (by omega), h 35 0 1 (by omega)⟩
theorem nar_b (b : Bool) : vp_nar .boolean (bI b) = bI b := by cases b <;> decide
set_option maxHeartbeats 4000000 in
theorem px_staff (d e : sk_D) (hR : sk_R2 d e) : ∃ (r : Int32) (d' e' : sk_D), q_X8_staff d = some (r, d') ∧ q_X9_staff e = some (r, e') ∧ sk_R2 d' e' ∧ sk_F8 d d' ∧ sk_F9 e e' := by
  have hRj : ∀ j, sk_R2 (sw8 d j) e := fun j => R2_d hR (sd8.ne (fun s k f hs => sw8_o d j s k f (by omega)))
  obtain ⟨D0, hD0⟩ : ∃ D0, sw8 d 4 = D0 := ⟨_, rfl⟩
  have hR0 : sk_R2 D0 e := by rw [← hD0]; exact hRj 4
  have FD0 : sk_F8 d D0 := by rw [← hD0]; exact sw8_F d 4
  have ae : ∀ g, acb D0 g = acb d g := fun g => by
    rw [← hD0]
    exact acb_same (fun k f => sw8_o d 4 37 k f (by omega)) (fun k => sw8_o d 4 39 k 0 (by omega)) g
  have hw : ∀ h, h < 4 → D0.1 20 0 h = bI (acb D0 h) := fun h hh => by
    rw [ae h, ← hD0]
    exact sw8_g d 4 h hh
  have h01 : ∀ i, i < 8 → D0.1 42 i 0 = 0 ∨ D0.1 42 i 0 = 1 := fun i hi => (hR0.2.2.2.1.1 i hi).1
  have hwg : ∀ i, i < 8 → ib D0 i = true → D0.1 42 i 4 = nI (wg D0 i) ∧ wg D0 i ≤ 999999 := by
    intro i hi hib
    obtain ⟨_, _, _, ⟨w, _, hw, ew⟩, _⟩ := hR0.2.2.2.1.2 i hi (hR0.2.2.2.1.1.o1 hi hib).1
    unfold wg
    rw [ew, nI_clamp (by omega)]
    exact ⟨rfl, hw⟩
  have hRp : Rp D0 (sk_wi D0 19 0 3 3999997) none 0 (4 - 4) := ⟨wi_e, fun b B h => (by cases h), fun h hh => absurd hh (by omega), fun s k f n1 _ _ => wi_o (by omega)⟩
  obtain ⟨d1, t1, p1, p2, _, p4⟩ := tr8 hw h01 hwg 4 (by omega) 4 (sk_wi D0 19 0 3 3999997) 0 0 0 none hRp (by omega) (Nat.le_refl _)
  have hS := tf_all D0
  obtain ⟨S, eS⟩ : ∃ S, tf D0 4 0 0 0 none = S := ⟨_, rfl⟩
  rw [eS] at hS p1 p2
  have hSB : ∀ c B, S = some (c, B) → B < 4096 ∧ ∃ t, ck D0 4 B = some (t, c) := by
    rw [← hS]
    refine fo_ind (fun s => ∀ c B, s = some (c, B) → B < 4096 ∧ ∃ t, ck D0 4 B = some (t, c)) (fun c B h => by cases h) (fun i s' hi h c B h2 => ?_)
    unfold mst at h2
    cases hc : ck D0 4 i with
    | none =>
      rw [hc] at h2
      exact h c B h2
    | some tc =>
      obtain ⟨t, c1⟩ := tc
      rw [hc] at h2
      have h3 : (if c1 < stc s' then some (c1, i) else s') = some (c, B) := h2
      by_cases hlt : c1 < stc s'
      · rw [if_pos hlt] at h3
        have h4 := Option.some.inj h3
        have h5 : c1 = c := congrArg (fun z => z.1) h4
        have h6 : i = B := congrArg (fun z => z.2) h4
        rw [← h5, ← h6]
        exact ⟨hi, t, hc⟩
      · rw [if_neg hlt] at h3
        exact h c B h3
  have hR1 : sk_R2 d1 e := R2_d hR0 (sd8.ne (fun s k f hs => p4 s k f (by omega) (by omega) (by omega)))
  have F1 : sk_F8 d d1 := sk_F8.tr FD0 (fun s hs => by
    funext k f
    exact p4 s k f (by omega) (by omega) (by omega))
  have l4 : (4 : Int32) ≤ nI 4 := ge_nI (n := 4) rfl (by omega) (by omega)
  -- the class up to its search
  have head : ∀ r, (q_X7_findBest D0).bind (fun x1 => if x1.1 = (-9 : Int32) then some ((-2 : Int32), x1.2) else (l_X8_staff_54 sk_fu (x1.2, x1.1, (0 : Int32)))) = r → q_X8_staff d = r := by
    intro r hr
    show l_X8_staff_2 sk_fu (d, (0 : Int32)) = r
    refine it_for0 (F := fun rec a => q_X8_staff_2 rec a.1 a.2) (fun i => (sw8 d i, nI i)) 4 (fun j hj rec => ?_) (fun rec => ?_) (by omega)
    · show q_X8_staff_2 rec (sw8 d j) (nI j) = rec (sw8 d (j + 1), nI (j + 1))
      have ej := nI_clamp (n := j) (by omega)
      have bj : sk_bi (nI j) 4 = true := bi_nI (by omega) (by omega)
      have lj : ¬ (4 : Int32) ≤ nI j := le_nI (n := 4) rfl hj (by omega)
      have aj := ac8 (hRj j) hj
      rw [acb_same (fun k f => sw8_o d j 37 k f (by omega)) (fun k => sw8_o d j 39 k 0 (by omega)) j] at aj
      simp only [q_X8_staff_2, lj, aj, bj, ej, nar_b, Option.bind_some, s1_nI, sw8, ↓reduceIte]
    · show q_X8_staff_2 rec (sw8 d 4) (nI 4) = r
      rw [hD0, ← hr]
      simp only [q_X8_staff_2, l4, ↓reduceIte]
  have t1' : q_X7_tryFrom 9 (sk_wi D0 19 0 3 3999997) 0 0 0 = some d1 := t1
  cases hSc : S with
  | none =>
    rw [hSc] at p1 hS
    have p1' : d1.1 19 0 3 = 3999997 := p1
    refine ⟨-2, d1, e, head _ ?_, ?_, hR1, F1, sk_F9.rf e⟩
    · simp only [q_X7_findBest, q_X7_findBest_0, q_X7_findBest_12, t1', p1', Option.bind_some, ↓reduceIte]
    · exact sta9 hR0 (fun i hi h => (hwg i hi h).2) none hS (if_pos rfl)
  | some cB =>
    obtain ⟨c, B⟩ := cB
    obtain ⟨hB, t, hck⟩ := hSB c B hSc
    rw [hSc] at p1 hS
    have p1' : d1.1 19 0 3 = nI c := p1
    have hc := ck_c D0 (fun i hi h => (hwg i hi h).2) 4 B t c hck
    have n1 : ¬ nI c = (3999997 : Int32) := ne_nI (n := 3999997) rfl (by omega) (by omega)
    have n2 : ¬ nI c = (-9 : Int32) := nm_nI (by omega)
    have n3 : ¬ nI B = (-9 : Int32) := nm_nI (by omega)
    have q2 := p2 c B hSc
    obtain ⟨_, k2, k3⟩ := ck_ok D0 4 B t c hck
    have hd8 : ∀ g, dgt 4 B g < 8 := fun g => Nat.mod_lt _ (by omega)
    refine ⟨nI c, sv8 d1 4, sv9 (vl D0 4 B) e 4, head _ ?_, ?_, ?_, sk_F8.tr F1 (sv8_F d1 4), sv9_F _ e 4⟩
    · simp only [q_X7_findBest, q_X7_findBest_0, q_X7_findBest_12, t1', p1', n1, n2, Option.bind_some, ↓reduceIte]
      refine it_for0 (F := fun rec a => q_X8_staff_54 rec a.1 a.2.1 a.2.2) (fun i => (sv8 d1 i, nI c, nI i)) 4 (fun j hj rec => ?_) (fun rec => ?_) (by omega)
      · show q_X8_staff_54 rec (sv8 d1 j) (nI c) (nI j) = rec (sv8 d1 (j + 1), nI c, nI (j + 1))
        have ej := nI_clamp (n := j) (by omega)
        have bj : sk_bi (nI j) 4 = true := bi_nI (by omega) (by omega)
        have lj : ¬ (4 : Int32) ≤ nI j := le_nI (n := 4) rfl hj (by omega)
        have o21 : (sv8 d1 j).1 21 0 j = d1.1 21 0 j := sv8_o d1 j 21 0 j (by omega)
        simp only [q_X8_staff_54, lj, bj, ej, o21, s1_nI, sv8, ↓reduceIte]
      · show q_X8_staff_54 rec (sv8 d1 4) (nI c) (nI 4) = _
        simp only [q_X8_staff_54, l4, ↓reduceIte]
    · refine sta9 hR0 (fun i hi h => (hwg i hi h).2) (some (c, B)) hS ?_
      show (if nI B = (-9 : Int32) then some ((-2 : Int32), e) else l_X9_staff_85 sk_fu (e, nI B, nI c, (0 : Int32))) = _
      rw [if_neg n3]
      refine it_for0 (F := fun rec a => q_X9_staff_85 rec a.1 a.2.1 a.2.2.1 a.2.2.2) (fun i => (sv9 (vl D0 4 B) e i, nI B, nI c, nI i)) 4 (fun j hj rec => ?_) (fun rec => ?_) (by omega)
      · show q_X9_staff_85 rec (sv9 (vl D0 4 B) e j) (nI B) (nI c) (nI j) = rec (sv9 (vl D0 4 B) e (j + 1), nI B, nI c, nI (j + 1))
        have ej := nI_clamp (n := j) (by omega)
        have bj : sk_bi (nI j) 4 = true := bi_nI (by omega) (by omega)
        have lj : ¬ (4 : Int32) ≤ nI j := le_nI (n := 4) rfl hj (by omega)
        have a9 := ac9w (rP_e hR0.1.1 (e' := sv9 (vl D0 4 B) e j) (fun s f h1 h2 => sv9_o _ e j s 0 f (by omega))) hj ((sv9_o _ e j 53 0 j (by omega)).trans (ob_e hR0.2.2.1.1 hj))
        have s9 := si9 (sv9 (vl D0 4 B) e j) hB hj
        cases ha : acb D0 j with
        | false =>
          rw [ha] at a9
          have ev : vl D0 4 B j = -9 := by unfold vl; rw [ha]; rfl
          simp only [q_X9_staff_85, q_X9_staff_113, lj, a9, bI_f, bj, ej, s1_nI, sv9, ev, Option.bind_some, ↓reduceIte]
        | true =>
          rw [ha] at a9
          have ev : vl D0 4 B j = nI (dgt 4 B j) := by unfold vl; rw [ha]; rfl
          simp only [q_X9_staff_85, q_X9_staff_113, lj, a9, bI_t, i10, s9, bj, ej, s1_nI, sv9, ev, Option.bind_some, ↓reduceIte]
      · show q_X9_staff_85 rec (sv9 (vl D0 4 B) e 4) (nI B) (nI c) (nI 4) = _
        simp only [q_X9_staff_85, l4, ↓reduceIte]
    · have vals : ∀ g, g < 4 → (sv8 d1 4).1 39 g 4 = vl D0 4 B g := fun g hg => (sv8_g d1 4 g hg).trans (q2 g hg)
      refine R2_ins hR1 (fun s k f hs n1 n2 => sv8_o d1 4 s k f (by omega)) (fun s f hs n1 n2 => sv9_o _ e 4 s 0 f (by omega)) (fun i hi => ?_) (fun g hg ho => ?_) (fun g h hg hh n og oh ng => ?_)
      · rw [sv8_o d1 4 42 i 0 (by omega), sv9_o _ e 4 62 0 i (by omega)]
        exact ⟨(hR1.2.2.2.1.1 i hi).1, (hR1.2.2.2.1.1 i hi).2.1, fun q => q⟩
      · rw [vals g hg, sv9_g _ e 4 g hg]
        refine ⟨rfl, ?_⟩
        unfold vl
        by_cases ha : acb D0 g = true
        · rw [if_pos ha]
          refine .inr ⟨dgt 4 B g, hd8 g, rfl, ?_⟩
          rw [sv8_o d1 4 42 _ 0 (by omega), p4 42 _ 0 (by omega) (by omega) (by omega)]
          exact (hR0.2.2.2.1.1.o1 (hd8 g) (k2 g hg ha).1).1
        · rw [if_neg ha]
          exact .inl rfl
      · rw [vals g hg] at ng ⊢
        rw [vals h hh]
        unfold vl at ng ⊢
        by_cases ha : acb D0 g = true
        · rw [if_pos ha]
          by_cases hb : acb D0 h = true
          · rw [if_pos hb]
            intro q
            rw [nI_eq (by have := hd8 g; omega) (by have := hd8 h; omega)] at q
            exact k3 g h hg hh n ha hb q
          · rw [if_neg hb]
            exact nm_nI (by have := hd8 g; omega)
        · rw [if_neg ha] at ng
          exact absurd rfl ng
