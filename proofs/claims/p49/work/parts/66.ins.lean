/-! THE CLASS, as the law uses it: instructors *** by hand -/
/-- all but the instructors *** -/
def ZB (d : sk_D) (n m t : Nat) (Pf Gf : Nat → Int32) (c : Nat → Nat) : Prop := CL d n m t Pf Gf ∧ (∀ k, k < n → d.1 37 k 4 = nv (c k) ∧ c k ≤ m) ∧ (∀ g, g < m → d.1 39 g 5 = 0 ∧ d.1 39 g 6 = 0) ∧ (∀ g, g < 4 → d.1 39 g 9 = 0 ∧ d.1 39 g 10 = 0) ∧ d.1 0 0 9 = 0 ∧ ∀ l, l < 3 → d.1 43 l 3 = 0 ∧ d.1 43 l 4 = 0
def IN (d : sk_D) (k : Nat) (Tf : Nat → Int32) (W : Nat → Nat) : Prop := (∀ i, i < 8 → d.1 42 i 0 = b01 (decide (i < k))) ∧ ∀ i, i < k → d.1 42 i 1 = Tf (4 * i) ∧ d.1 42 i 2 = Tf (4 * i + 1) ∧ d.1 42 i 3 = Tf (4 * i + 2) ∧ d.1 42 i 4 = Tf (4 * i + 3) ∧ d.1 42 i 5 = nI (W i)
def TR (k : Nat) (Tf : Nat → Int32) : Prop := ∀ i, i < k → (∃ a, 1 ≤ a ∧ a < 64 ∧ Tf (4 * i) = nI a) ∧ ∃ l h w, l ≤ h ∧ h ≤ 7 ∧ 1 ≤ w ∧ w ≤ 4 ∧ Tf (4 * i + 1) = nI l ∧ Tf (4 * i + 2) = nI h ∧ Tf (4 * i + 3) = nI w
theorem TR.w {k : Nat} {Tf : Nat → Int32} (h : TR k Tf) {i : Nat} (hi : i < k) : 1 ≤ swg Tf i ∧ swg Tf i ≤ 4 ∧ Tf (4 * i + 3) = nI (swg Tf i) := by
  obtain ⟨_, _, _, w, _, _, w1, w2, _, _, e⟩ := h i hi
  unfold swg
  rw [e, nI_clamp (by omega)]
  exact ⟨w1, w2, rfl⟩
section ZB
variable {d d' : sk_D} {n m t k : Nat} {Pf Gf Tf : Nat → Int32} {c W : Nat → Nat}
theorem ZA.b (h : ZA d n m t Pf Gf c) : ZB d n m t Pf Gf c := ⟨h.1, h.2.1, fun g hg => (h.2.2.1 g hg).2, h.2.2.2.1, h.2.2.2.2.2.1, h.2.2.2.2.2.2⟩
theorem ZB.fr (h : ZB d n m t Pf Gf c) (ho : ∀ s k f, s ≠ 42 → ¬ (s = 39 ∧ f = 4) → (s = 0 ∨ s = 5 ∨ 35 ≤ s ∧ s ≤ 43) → d'.1 s k f = d.1 s k f) : ZB d' n m t Pf Gf c := by
  obtain ⟨⟨c1, c2, c3, c4, c5, c6, c7⟩, p4, z1, z2, z4, z5⟩ := h
  refine ⟨⟨c1, c2, fun k hk => ?_, fun k hk => ?_, fun g hg => ?_, fun g hg => ?_, fun f hf => ?_⟩, fun k hk => ⟨?_, (p4 k hk).2⟩, fun g hg => ?_, fun g hg => ?_, ?_, fun l hl => ?_⟩
  · rw [ho 37 k 0 (by omega) (by omega) (by omega)]
    exact c3 k hk
  · rw [ho 37 k 1 (by omega) (by omega) (by omega), ho 37 k 2 (by omega) (by omega) (by omega), ho 37 k 3 (by omega) (by omega) (by omega)]
    exact c4 k hk
  · rw [ho 39 g 0 (by omega) (by omega) (by omega)]
    exact c5 g hg
  · rw [ho 39 g 1 (by omega) (by omega) (by omega), ho 39 g 2 (by omega) (by omega) (by omega), ho 39 g 3 (by omega) (by omega) (by omega)]
    exact c6 g hg
  · rw [ho 5 0 f (by omega) (by omega) (by omega)]
    exact c7 f hf
  · rw [ho 37 k 4 (by omega) (by omega) (by omega)]
    exact (p4 k hk).1
  · rw [ho 39 g 5 (by omega) (by omega) (by omega), ho 39 g 6 (by omega) (by omega) (by omega)]
    exact z1 g hg
  · rw [ho 39 g 9 (by omega) (by omega) (by omega), ho 39 g 10 (by omega) (by omega) (by omega)]
    exact z2 g hg
  · rw [ho 0 0 9 (by omega) (by omega) (by omega)]
    exact z4
  · rw [ho 43 l 3 (by omega) (by omega) (by omega), ho 43 l 4 (by omega) (by omega) (by omega)]
    exact z5 l hl
theorem IN.fr (h : IN d k Tf W) (ho : ∀ i f, d'.1 42 i f = d.1 42 i f) : IN d' k Tf W := ⟨fun i hi => by rw [ho]; exact h.1 i hi, fun i hi => by rw [ho, ho, ho, ho, ho]; exact h.2 i hi⟩
theorem IN.h01 (h : IN d k Tf W) : ∀ i, i < 8 → F01 (d.1 42 i 0) := fun i hi => by
  rw [h.1 i hi]
  exact b01_F _
theorem IN.ib (h : IN d k Tf W) {i : Nat} (hi : i < 8) : ib d i = decide (i < k) := by
  show decide (d.1 42 i 0 = 1) = _
  rw [h.1 i hi]
  exact decide_eq_decide.mpr (b01_1.trans decide_eq_true_iff)
theorem in_0 (h : ∀ i, i < 8 → d.1 42 i 0 = 0) : IN d 0 Tf W := ⟨fun i hi => h i hi, fun i hi => absurd hi (Nat.not_lt_zero i)⟩
theorem zb_gb (h : ZB d n m t Pf Gf c) {g : Nat} (hg : g < 4) : kn (gb d (nI g)) 20 = kn (fun k => decide (c k = g + 1)) n := by
  have hm := h.1.2.1
  refine kn_pb h.1 (fun k hk => ?_) (fun k hk => ?_)
  · obtain ⟨h4, hc⟩ := h.2.1 k hk
    unfold gb
    rw [cl_pb h.1 hk, h4, Bool.true_and]
    refine decide_eq_decide.mpr ?_
    unfold nv
    by_cases q : c k = 0
    · rw [if_pos q]
      exact ⟨fun z => absurd z.symm (nm_nI (by omega)), fun z => by omega⟩
    · rw [if_neg q, nI_eq (by omega) (by omega)]
      omega
  · unfold gb
    rw [hk]
    rfl
/-- how many are in each group -/
def szc (n : Nat) (c : Nat → Nat) (g : Nat) : Nat := kn (fun p => decide (c p = g + 1)) n
theorem szc_z (h : ZB d n m t Pf Gf c) {g : Nat} (hg : m ≤ g) : szc n c g = 0 := kn_none (fun p hp => decide_eq_false (fun q => by have := (h.2.1 p hp).2; omega))
theorem szc_le (n : Nat) (c : Nat → Nat) (g : Nat) : szc n c g ≤ n := kn_le _ n
theorem zb_acb (h : ZB d n m t Pf Gf c) {g : Nat} (hg : g < 4) : acb d g = decide (0 < szc n c g) := by
  unfold acb ob
  rw [zb_gb h hg, h.1.2.2.2.2.1 g hg]
  by_cases q : g < m
  · rw [decide_eq_true q]
    rfl
  · rw [decide_eq_false q]
    have := szc_z h (show m ≤ g by omega)
    rw [decide_eq_false (show ¬ 0 < szc n c g by omega)]
    rfl
theorem x_active (h : ZB d n m t Pf Gf c) {g : Nat} (hg : g < 4) : q_X8_isActive d (nI g) = some (bI (acb d g)) := by
  have hh := ee_G (cl_g01 h.1)
  unfold acb
  cases ho : ob d g with
  | false =>
    have h8 : q_X8_hasGroup d (nI g) = some 0 := by
      rcases hG hh (nI g) with ⟨h, _⟩ | ⟨k, hk, ek, h1, h8, h9⟩
      · exact h
      · rw [nI_eq (by omega) (by omega)] at ek
        subst ek
        rw [(hh.o0 hg ho).1] at h1
        exact absurd h1 (by decide)
    simp only [q_X8_isActive, q_X8_isActive_0, h8, Option.bind_some, Bool.false_and, bI_f, ↓reduceIte]
  | true =>
    have h8 := (hh.o hg (hh.o1 hg ho).1).1
    simp only [q_X8_isActive, q_X8_isActive_0, h8, c8_countIn (ee_P (cl_01 h.1)), i10, Option.bind_some, Bool.true_and, kc_kn, le0_nI (kn20 _), ↓reduceIte]
    by_cases c : kn (gb d (nI g)) 20 = 0
    · rw [if_pos c, decide_eq_false (show ¬ 0 < kn (gb d (nI g)) 20 by omega)]
      rfl
    · rw [if_neg c, decide_eq_true (show 0 < kn (gb d (nI g)) 20 by omega)]
      rfl
theorem x_hire (h : ZB d n m t Pf Gf c) (hI : IN d k Tf (fun _ => 0)) (hk : k < 4) (hT : TR (k + 1) Tf) : ∃ d', q_X8_hire d (Tf (4 * k)) (Tf (4 * k + 1)) (Tf (4 * k + 2)) (Tf (4 * k + 3)) = some (nI k, d') ∧ ZB d' n m t Pf Gf c ∧ IN d' (k + 1) Tf (fun _ => 0) ∧ ∀ g, d'.1 39 g 4 = d.1 39 g 4 := by
  obtain ⟨⟨a, a1, a2, e0⟩, l, p, w, l1, l2, w1, w2, e1, e2, e3⟩ := hT k (by omega)
  have h8 := (wi_in a (a := nI a) (lo := 1) (hi := 63) 1 63 rfl rfl rfl (by omega) (by omega) (by omega)).1 d
  have g8 := (wi_in w (a := nI w) (lo := 1) (hi := 999999) 1 999999 rfl rfl rfl (by omega) (by omega) (by omega)).1 d
  have f8 := (wi_in l (a := nI l) (lo := 0) (hi := 7) 0 7 rfl rfl rfl (by omega) (by omega) (by omega)).1 d
  have t8 := (wi_in p (a := nI p) (lo := nI l) (hi := 7) l 7 rfl rfl rfl (by omega) (by omega) (by omega)).1 d
  have wn := (wi_in k (a := nI k) (lo := 0) (hi := 7) 0 7 rfl rfl rfl (by omega) (by omega) (by omega)).1 d
  have r8 : q_X8_freeInstructorNumber d = some (nI k) := by
    rcases free_i (ee_I hI.h01) with ⟨g, hg, g0, gi, r8, _⟩ | ⟨_, r⟩
    · have : g = k := by
        have a1 : ¬ g < k := fun q => by
          rw [hI.ib hg, decide_eq_true q] at g0
          cases g0
        have a2 : ¬ k < g := fun q => by
          have := gi k q
          rw [hI.ib (by omega), decide_eq_false (Nat.lt_irrefl k)] at this
          cases this
        omega
      rw [this] at r8
      exact r8
    · rw [kc_kn, show (8 : Int32) = nI 8 from rfl, nI_eq (by have := kn_le (ib d) 8; omega) (by omega)] at r
      have := kn_all r k (by omega)
      rw [hI.ib (by omega), decide_eq_false (Nat.lt_irrefl k)] at this
      cases this
  have bg : sk_bi (nI k) 8 = true := bi_nI (by omega) (by omega)
  have eb : q_X1_begin d k (nI a) (nI l) (nI p) (nI w) = some (hi8 d k (nI a) (nI l) (nI p) (nI w)) := rfl
  have qo : ∀ s k' f, ¬ (s = 42 ∧ k' = k) → (hi8 d k (nI a) (nI l) (nI p) (nI w)).1 s k' f = d.1 s k' f := fun s k' f hh => by
    unfold hi8
    rw [wi_o (by omega), wi_o (by omega), wi_o (by omega), wi_o (by omega), wi_o (by omega), wi_o (by omega)]
  refine ⟨hi8 d k (nI a) (nI l) (nI p) (nI w), ?_, h.fr (fun s k' f hs _ _ => qo s k' f (fun z => hs z.1)), ⟨fun i hi => ?_, fun i hi => ?_⟩, fun g => qo 39 g 4 (by omega)⟩
  · rw [e0, e1, e2, e3]
    simp only [q_X8_hire, q_X8_hire_0, h8, g8, f8, t8, r8, wn, i10, bg, nI_clamp (show k < 2 ^ 31 by omega), eb, Option.bind_some, ↓reduceIte]
  · by_cases q : i = k
    · rw [q, decide_eq_true (Nat.lt_succ_self k)]
      simp [hi8, sk_wi, sk_up, b01]
    · rw [qo 42 i 0 (fun z => q z.2), hI.1 i hi]
      congr 1
      exact decide_eq_decide.mpr (by omega)
  · by_cases q : i = k
    · rw [q, e0, e1, e2, e3]
      refine ⟨?_, ?_, ?_, ?_, ?_⟩ <;> simp [hi8, sk_wi, sk_up]
      rfl
    · rw [qo 42 i 1 (fun z => q z.2), qo 42 i 2 (fun z => q z.2), qo 42 i 3 (fun z => q z.2), qo 42 i 4 (fun z => q z.2), qo 42 i 5 (fun z => q z.2)]
      exact hI.2 i (by omega)
/-- whom each group has *** -/
def US (d : sk_D) (m k : Nat) (Sz u : Nat → Nat) : Prop := (∀ g, g < m → d.1 39 g 4 = nv (u g)) ∧ (∀ g, m ≤ g → u g = 0) ∧ (∀ g, u g ≤ k ∧ (u g ≠ 0 → 0 < Sz g)) ∧ ∀ g g', g < m → g' < m → g ≠ g' → u g ≠ 0 → u g ≠ u g'
set_option maxHeartbeats 4000000 in
theorem x_staff (h : ZB d n m t Pf Gf c) (hI : IN d k Tf (fun _ => 0)) (hN : ∀ g, g < m → d.1 39 g 4 = -9) (hk : k ≤ 4) (hT : TR k Tf) :
    (bst (svl m k (szc n c) Gf Tf) (ssc m k Tf) ((k + 1) ^ m) = none ∧ ∃ d', q_X8_staff d = some (-2, d') ∧ ZB d' n m t Pf Gf c ∧ IN d' k Tf (fun _ => 0) ∧ US d' m k (szc n c) (fun _ => 0)) ∨
    ∃ i d', bst (svl m k (szc n c) Gf Tf) (ssc m k Tf) ((k + 1) ^ m) = some i ∧ i < (k + 1) ^ m ∧ VL m k (stk Tf Gf) (szc n c) (dg k m i) ∧ q_X8_staff d = some (nI (sct m k Tf i), d') ∧ ZB d' n m t Pf Gf c ∧ IN d' k Tf (fun _ => 0) ∧ US d' m k (szc n c) (fun g => if g < m ∧ dg k m i g < k then dg k m i g + 1 else 0) := by
  have hm := h.1.2.1
  obtain ⟨D0, hD0⟩ : ∃ D0, sw8 d 4 = D0 := ⟨_, rfl⟩
  have ho : ∀ j s k f, s ≠ 20 → (sw8 d j).1 s k f = d.1 s k f := fun j s k f hs => sw8_o d j s k f (by omega)
  have h0 : ∀ s k f, s ≠ 20 → D0.1 s k f = d.1 s k f := fun s k f hs => by rw [← hD0]; exact ho 4 s k f hs
  have hBj : ∀ j, ZB (sw8 d j) n m t Pf Gf c := fun j => h.fr (fun s k f _ _ hs => ho j s k f (by omega))
  have hB0 : ZB D0 n m t Pf Gf c := by rw [← hD0]; exact hBj 4
  have hI0 : IN D0 k Tf (fun _ => 0) := hI.fr (fun i f => h0 42 i f (by omega))
  have ae : ∀ g, acb D0 g = acb d g := fun g => acb_same (fun k f => h0 37 k f (by omega)) (fun k => h0 39 k 0 (by omega)) g
  have hw : ∀ h, h < 4 → D0.1 20 0 h = bI (acb D0 h) := fun h hh => by
    rw [ae h, ← hD0]
    exact sw8_g d 4 h hh
  have hwi : ∀ i, i < k → wg D0 i = swg Tf i ∧ D0.1 42 i 4 = nI (swg Tf i) ∧ swg Tf i ≤ 4 := fun i hi => by
    obtain ⟨_, w2, e⟩ := hT.w hi
    have e2 := (hI0.2 i hi).2.2.2.1
    unfold wg
    rw [e2, e, nI_clamp (by omega)]
    exact ⟨rfl, rfl, w2⟩
  have hwg : ∀ i, i < 8 → ib D0 i = true → D0.1 42 i 4 = nI (wg D0 i) ∧ wg D0 i ≤ 999999 := by
    intro i hi hib
    rw [hI0.ib hi, decide_eq_true_eq] at hib
    obtain ⟨e1, e2, e3⟩ := hwi i hib
    rw [e1]
    exact ⟨e2, by omega⟩
  have hSH : SH D0 m k (szc n c) Gf Tf := by
    refine ⟨hm, hk, fun g hg => zb_acb hB0 hg, fun g hg => szc_z hB0 hg, fun i hi => hI0.ib hi, fun i g hi hg => ?_, fun i hi => ⟨(hwi i hi).1, (hwi i hi).2.2⟩⟩
    obtain ⟨f1, f2, _⟩ := hB0.1.2.2.2.2.2.1 g hg
    obtain ⟨q1, q2, q3, _⟩ := hI0.2 i hi
    unfold tcb stk wib
    rw [f1, f2, q1, q2, q3]
  have hRp : Rp D0 (sk_wi D0 19 0 3 3999997) none 0 (4 - 4) := ⟨wi_e, fun b B h => (by cases h), fun h hh => absurd hh (by omega), fun s k f n1 _ _ => wi_o (by omega)⟩
  obtain ⟨d1, t1, p1, p2, _, p4⟩ := tr8 hw hI0.h01 hwg 4 (by omega) 4 (sk_wi D0 19 0 3 3999997) 0 0 0 none hRp (by omega) (Nat.le_refl _)
  have hS := tf_all D0
  obtain ⟨S, eS⟩ : ∃ S, tf D0 4 0 0 0 none = S := ⟨_, rfl⟩
  rw [eS] at hS p1 p2
  have hB1 : ZB d1 n m t Pf Gf c := hB0.fr (fun s k f _ _ hs => p4 s k f (by omega) (by omega) (by omega))
  have hI1 : IN d1 k Tf (fun _ => 0) := hI0.fr (fun i f => p4 42 i f (by omega) (by omega) (by omega))
  have hN1 : ∀ g, g < m → d1.1 39 g 4 = -9 := fun g hg => by
    rw [p4 39 g 4 (by omega) (by omega) (by omega), h0 39 g 4 (by omega)]
    exact hN g hg
  have l4 : (4 : Int32) ≤ nI 4 := ge_nI (n := 4) rfl (by omega) (by omega)
  have head : ∀ r, (q_X7_findBest D0).bind (fun x1 => if x1.1 = (-9 : Int32) then some ((-2 : Int32), x1.2) else (l_X8_staff_54 sk_fu (x1.2, x1.1, (0 : Int32)))) = r → q_X8_staff d = r := by
    intro r hr
    show l_X8_staff_2 sk_fu (d, (0 : Int32)) = r
    refine it_for0 (F := fun rec a => q_X8_staff_2 rec a.1 a.2) (fun i => (sw8 d i, nI i)) 4 (fun j hj rec => ?_) (fun rec => ?_) (by omega)
    · show q_X8_staff_2 rec (sw8 d j) (nI j) = rec (sw8 d (j + 1), nI (j + 1))
      have ej := nI_clamp (n := j) (by omega)
      have bj : sk_bi (nI j) 4 = true := bi_nI (by omega) (by omega)
      have lj : ¬ (4 : Int32) ≤ nI j := le_nI (n := 4) rfl hj (by omega)
      have aj := x_active (hBj j) hj
      rw [acb_same (fun k f => sw8_o d j 37 k f (by omega)) (fun k => sw8_o d j 39 k 0 (by omega)) j] at aj
      simp only [q_X8_staff_2, lj, aj, bj, ej, nar_b, Option.bind_some, s1_nI, sw8, ↓reduceIte]
    · show q_X8_staff_2 rec (sw8 d 4) (nI 4) = r
      rw [hD0, ← hr]
      simp only [q_X8_staff_2, l4, ↓reduceIte]
  have t1' : q_X7_tryFrom 9 (sk_wi D0 19 0 3 3999997) 0 0 0 = some d1 := t1
  rcases same_staff hSH with ⟨l1, l2⟩ | ⟨i, B, l1, l2, l3, l4', l5, l6, l7⟩
  · left
    have hSc : S = none := by rw [← hS]; exact l2
    rw [hSc] at p1
    have p1' : d1.1 19 0 3 = 3999997 := p1
    refine ⟨l1, d1, head _ ?_, hB1, hI1, fun g hg => hN1 g hg, fun _ _ => rfl, fun g => ⟨Nat.zero_le _, fun q => absurd rfl q⟩, fun g g' _ _ _ q => absurd rfl q⟩
    simp only [q_X7_findBest, q_X7_findBest_0, q_X7_findBest_12, t1', p1', Option.bind_some, ↓reduceIte]
  · right
    have hSc : S = some (sct m k Tf i, B) := by rw [← hS]; exact l6
    rw [hSc] at p1 p2
    have h16 := sct_le (m := m) (Tf := Tf) (fun i hi => (hwi i hi).2.2) hm i
    have p1' : d1.1 19 0 3 = nI (sct m k Tf i) := p1
    have n1 : ¬ nI (sct m k Tf i) = (3999997 : Int32) := ne_nI (n := 3999997) rfl (by omega) (by omega)
    have n2 : ¬ nI (sct m k Tf i) = (-9 : Int32) := nm_nI (by omega)
    have q2 := p2 _ B rfl
    have hvl := vsL_ok.mp l3
    have hl : ∀ g, g < m → dg k m i g < k + 1 := fun g _ => dg_lt k m i g
    refine ⟨i, sv8 d1 4, l1, l2, hvl, head _ ?_, hB1.fr (fun s k f _ hs _ => sv8_o d1 4 s k f (by omega)), hI1.fr (fun i f => sv8_o d1 4 42 i f (by omega)), fun g hg => ?_, fun g hg => if_neg (by omega), fun g => ⟨?_, fun q => ?_⟩, fun g g' hg hg' hne q => ?_⟩
    · simp only [q_X7_findBest, q_X7_findBest_0, q_X7_findBest_12, t1', p1', n1, n2, Option.bind_some, ↓reduceIte]
      refine it_for0 (F := fun rec a => q_X8_staff_54 rec a.1 a.2.1 a.2.2) (fun j => (sv8 d1 j, nI (sct m k Tf i), nI j)) 4 (fun j hj rec => ?_) (fun rec => ?_) (by omega)
      · show q_X8_staff_54 rec (sv8 d1 j) (nI (sct m k Tf i)) (nI j) = rec (sv8 d1 (j + 1), nI (sct m k Tf i), nI (j + 1))
        have ej := nI_clamp (n := j) (by omega)
        have bj : sk_bi (nI j) 4 = true := bi_nI (by omega) (by omega)
        have lj : ¬ (4 : Int32) ≤ nI j := le_nI (n := 4) rfl hj (by omega)
        have o21 : (sv8 d1 j).1 21 0 j = d1.1 21 0 j := sv8_o d1 j 21 0 j (by omega)
        simp only [q_X8_staff_54, lj, bj, ej, o21, s1_nI, sv8, ↓reduceIte]
      · show q_X8_staff_54 rec (sv8 d1 4) (nI (sct m k Tf i)) (nI 4) = _
        simp only [q_X8_staff_54, l4, ↓reduceIte]
    · have hg4 : g < 4 := by omega
      rw [sv8_g d1 4 g hg4, q2 g hg4]
      unfold vl
      rw [l7 g hg4]
      show _ = nv (if g < m ∧ dg k m i g < k then dg k m i g + 1 else 0)
      cases ha : acb D0 g
      · rw [zb_acb hB0 hg4, decide_eq_false_iff_not] at ha
        have := (hvl g hg).1.mpr (by omega)
        rw [if_neg (show ¬ (g < m ∧ dg k m i g < k) by omega), if_neg Bool.false_ne_true]
        rfl
      · obtain ⟨g1, g2, g3⟩ := hSH.g hvl hl hg4 ha
        rw [if_pos rfl, if_pos (show g < m ∧ dg k m i g < k from ⟨g1, g2⟩), g3]
        exact (if_neg (Nat.succ_ne_zero _)).symm
    · show (if g < m ∧ dg k m i g < k then dg k m i g + 1 else 0) ≤ k
      split <;> omega
    · have q : (if g < m ∧ dg k m i g < k then dg k m i g + 1 else 0) ≠ 0 := q
      split at q
      · rename_i w
        have := (hvl g w.1).1
        omega
      · exact absurd rfl q
    · have q : (if g < m ∧ dg k m i g < k then dg k m i g + 1 else 0) ≠ 0 := q
      show (if g < m ∧ dg k m i g < k then dg k m i g + 1 else 0) ≠ (if g' < m ∧ dg k m i g' < k then dg k m i g' + 1 else 0)
      split at q
      · rename_i w
        rw [if_pos w]
        split
        · rename_i w'
          have a1 := ((hvl g w.1).2 w.2).2
          have a2 := ((hvl g' w'.1).2 w'.2).2
          intro e
          by_cases hlt : g < g'
          · exact a1 g' hlt hg' (by omega)
          · exact a2 g (by omega) hg (by omega)
        · omega
      · exact absurd rfl q
end ZB
