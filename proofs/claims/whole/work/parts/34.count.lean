/-! COUNTS *** by program (wip/whole/gen/p34.py) -/
theorem kc_s (p : Nat → Bool) (n : Nat) : kc p (n + 1) = kc p n + bI (p n) := by
  show (if p n then kc p n + 1 else kc p n) = kc p n + bI (p n)
  cases p n
  · exact (Int32.add_zero _).symm
  · rfl
theorem ite_le {α : Type} (a b : Int32) (x y : α) : (if a ≤ b then x else y) = if b < a then y else x := by
  by_cases h : a ≤ b
  · rw [if_pos h, if_neg (Int32.not_lt.mpr h)]
  · rw [if_neg h, if_pos (Int32.not_le.mp h)]
def ob (d : sk_D) (g : Nat) : Bool := decide (d.1 39 g 0 = 1)
def ib (d : sk_D) (g : Nat) : Bool := decide (d.1 42 g 0 = 1)
def sb (d : sk_D) (k j : Nat) : Bool := decide (¬ d.1 38 k j = -9)
def plb (d : sk_D) (k : Nat) : Bool := pb d k && decide (¬ d.1 37 k 4 = -9)
def lvb (d : sk_D) (k : Nat) : Bool := plb d k && decide (¬ d.1 39 (d.1 37 k 4).toNatClampNeg 1 = d.1 37 k 1)
theorem rG.o0 {d e : sk_D} (h : rG d e) {k : Nat} (hk : k < 4) (hp : ob d k = false) : d.1 39 k 0 = 0 ∧ e.1 53 0 k = 0 := by
  obtain ⟨h1, h2, _⟩ := h k hk
  rcases h1 with h1 | h1
  · exact ⟨h1, h2.trans h1⟩
  · unfold ob at hp
    rw [h1] at hp
    cases hp
theorem rG.o1 {d e : sk_D} (h : rG d e) {k : Nat} (hk : k < 4) (hp : ob d k = true) : d.1 39 k 0 = 1 ∧ e.1 53 0 k = 1 := by
  have h1 : d.1 39 k 0 = 1 := of_decide_eq_true hp
  exact ⟨h1, (h k hk).2.1.trans h1⟩
theorem rI.o0 {d e : sk_D} (h : rI d e) {k : Nat} (hk : k < 8) (hp : ib d k = false) : d.1 42 k 0 = 0 ∧ e.1 62 0 k = 0 := by
  obtain ⟨h1, h2, _⟩ := h k hk
  rcases h1 with h1 | h1
  · exact ⟨h1, h2.trans h1⟩
  · unfold ib at hp
    rw [h1] at hp
    cases hp
theorem rI.o1 {d e : sk_D} (h : rI d e) {k : Nat} (hk : k < 8) (hp : ib d k = true) : d.1 42 k 0 = 1 ∧ e.1 62 0 k = 1 := by
  have h1 : d.1 42 k 0 = 1 := of_decide_eq_true hp
  exact ⟨h1, (h k hk).2.1.trans h1⟩
theorem rG.n {d e : sk_D} (h : rG d e) : q_X8_hasGroup d (-9) = some 0 ∧ q_X9_hasGroup e (-9) = some 0 := by
  rcases hG h (-9) with h1 | ⟨k, hk, h2, _⟩
  · exact h1
  · exact absurd h2.symm (nm_nI (by omega))
theorem rG.o {d e : sk_D} (h : rG d e) {k : Nat} (hk : k < 4) (ho : d.1 39 k 0 = 1) : q_X8_hasGroup d (nI k) = some 1 ∧ q_X9_hasGroup e (nI k) = some 1 := by
  rcases hG h (nI k) with ⟨h1, _⟩ | ⟨j, _, ej, _, h3⟩
  · have ek := nI_clamp (n := k) (by omega)
    have bk : sk_bi (nI k) 4 = true := bi_nI (by omega) (by omega)
    have w := (wi_in k (a := nI k) (lo := 0) (hi := 3) 0 3 rfl rfl rfl (by omega) (by omega) (by omega)).1 d
    simp only [q_X8_hasGroup, q_X8_hasGroup_0, w, Option.bind_some, i10, bk, ek, ho, ↓reduceIte] at h1
    cases h1
  · rw [ej]
    exact h3
theorem rI.o {d e : sk_D} (h : rI d e) {k : Nat} (hk : k < 8) (ho : d.1 42 k 0 = 1) : q_X8_hasInstructor d (nI k) = some 1 ∧ q_X9_hasInstructor e (nI k) = some 1 := by
  rcases hI h (nI k) with ⟨h1, _⟩ | ⟨j, _, ej, _, h3⟩
  · have ek := nI_clamp (n := k) (by omega)
    have bk : sk_bi (nI k) 8 = true := bi_nI (by omega) (by omega)
    have w := (wi_in k (a := nI k) (lo := 0) (hi := 7) 0 7 rfl rfl rfl (by omega) (by omega) (by omega)).1 d
    simp only [q_X8_hasInstructor, q_X8_hasInstructor_0, w, Option.bind_some, i10, bk, ek, ho, ↓reduceIte] at h1
    cases h1
  · rw [ej]
    exact h3
theorem rI.n {d e : sk_D} (h : rI d e) : q_X8_hasInstructor d (-9) = some 0 ∧ q_X9_hasInstructor e (-9) = some 0 := by
  rcases hI h (-9) with h1 | ⟨k, hk, h2, _⟩
  · exact h1
  · exact absurd h2.symm (nm_nI (by omega))
theorem c8_countIn {d e : sk_D} (h : rP d e) (g : Int32) : q_X8_countPupilsIn d g = some (kc (gb d g) 20) := by
  refine it_for0 (F := fun rec4 a => q_X8_countPupilsIn_4 rec4 d a.1 a.2.1 a.2.2) (fun i => (g, kc (gb d g) i, nI i)) 20 (fun j hj rec => ?_) (fun rec => ?_) (by omega)
  · show q_X8_countPupilsIn_4 rec d g (kc (gb d g) j) (nI j) = rec (g, kc (gb d g) (j + 1), nI (j + 1))
    have ej := nI_clamp (n := j) (by omega)
    have bj : sk_bi (nI j) 20 = true := bi_nI (by omega) (by omega)
    have lj : ¬ (20 : Int32) ≤ nI j := le_nI (n := 20) rfl hj (by omega)
    cases hp : gb d g j with
    | false => simp only [q_X8_countPupilsIn_4, q_X8_countPupilsIn_26, lj, bj, ej, i8 h g hj, hp, bI_f, Option.bind_some, s1_nI, kc, ↓reduceIte, Bool.false_eq_true]
    | true => simp only [q_X8_countPupilsIn_4, q_X8_countPupilsIn_26, lj, bj, ej, i8 h g hj, hp, bI_t, i10, Option.bind_some, s1_nI, kc, ↓reduceIte]
  · show q_X8_countPupilsIn_4 rec d g (kc (gb d g) 20) (nI 20) = some (kc (gb d g) 20)
    have l : (20 : Int32) ≤ nI 20 := ge_nI (n := 20) rfl (by omega) (by omega)
    simp only [q_X8_countPupilsIn_4, l, ↓reduceIte]
theorem c9_sizeOf {d e : sk_D} (h : rP d e) (g : Int32) : q_X9_sizeOf e g = some (kc (gb d g) 20) := by
  refine it_for0 (F := fun rec4 a => q_X9_sizeOf_4 rec4 e a.1 a.2.1 a.2.2) (fun i => (g, kc (gb d g) i, nI i)) 20 (fun j hj rec => ?_) (fun rec => ?_) (by omega)
  · show q_X9_sizeOf_4 rec e g (kc (gb d g) j) (nI j) = rec (g, kc (gb d g) (j + 1), nI (j + 1))
    have ej := nI_clamp (n := j) (by omega)
    have bj : sk_bi (nI j) 20 = true := bi_nI (by omega) (by omega)
    have lj : ¬ (20 : Int32) ≤ nI j := le_nI (n := 20) rfl hj (by omega)
    rw [kc_s]
    unfold gb
    cases hp : pb d j with
    | false => simp only [q_X9_sizeOf_4, q_X9_sizeOf_35, q_X9_sizeOf_36, lj, bj, ej, (h.p0 hj hp).2, i01, s1_nI, Bool.false_and, bI_f, ↓reduceIte]
    | true =>
      have e4 := ((h j hj).2.2 (h.p1 hj hp).1).2.2.2.1
      by_cases hf : d.1 37 j 4 = g
      · simp only [q_X9_sizeOf_4, q_X9_sizeOf_35, q_X9_sizeOf_36, lj, bj, ej, (h.p1 hj hp).2, e4, hf, s1_nI, Bool.true_and, decide_true, bI_t, ↓reduceIte]
      · simp only [q_X9_sizeOf_4, q_X9_sizeOf_35, q_X9_sizeOf_36, lj, bj, ej, (h.p1 hj hp).2, e4, hf, s1_nI, Bool.true_and, decide_false, bI_f, ↓reduceIte]
  · show q_X9_sizeOf_4 rec e g (kc (gb d g) 20) (nI 20) = some (kc (gb d g) 20)
    have l : (20 : Int32) ≤ nI 20 := ge_nI (n := 20) rfl (by omega) (by omega)
    simp only [q_X9_sizeOf_4, l, ↓reduceIte]
theorem c8_groups {d e : sk_D} (h : rG d e) : q_X8_groups d = some (kc (ob d) 4) := by
  refine it_for0 (F := fun rec4 a => q_X8_groups_4 rec4 d a.1 a.2) (fun i => (kc (ob d) i, nI i)) 4 (fun j hj rec => ?_) (fun rec => ?_) (by omega)
  · show q_X8_groups_4 rec d  (kc (ob d) j) (nI j) = rec (kc (ob d) (j + 1), nI (j + 1))
    have ej := nI_clamp (n := j) (by omega)
    have bj : sk_bi (nI j) 4 = true := bi_nI (by omega) (by omega)
    have lj : ¬ (4 : Int32) ≤ nI j := le_nI (n := 4) rfl hj (by omega)
    cases hp : ob d j with
    | false => simp only [q_X8_groups_4, q_X8_groups_24, lj, bj, ej, (h.o0 hj hp).1, s1_nI, kc, hp, ↓reduceIte, Bool.false_eq_true]
    | true => simp only [q_X8_groups_4, q_X8_groups_24, lj, bj, ej, (h.o1 hj hp).1, i10, s1_nI, kc, hp, ↓reduceIte]
  · show q_X8_groups_4 rec d  (kc (ob d) 4) (nI 4) = some (kc (ob d) 4)
    have l : (4 : Int32) ≤ nI 4 := ge_nI (n := 4) rfl (by omega) (by omega)
    simp only [q_X8_groups_4, l, ↓reduceIte]
theorem ob_e {d e : sk_D} (h : rG d e) {k : Nat} (hk : k < 4) : e.1 53 0 k = bI (ob d k) := by
  cases hp : ob d k with
  | false => exact (h.o0 hk hp).2
  | true => exact (h.o1 hk hp).2
theorem c9_groupMany {d e : sk_D} (h : rG d e) : q_X9_groupMany e = some (kc (ob d) 4) := by
  have b0 : sk_bi (0 : Int32) 4 = true := by decide
  have b1 : sk_bi (1 : Int32) 4 = true := by decide
  have b2 : sk_bi (2 : Int32) 4 = true := by decide
  have b3 : sk_bi (3 : Int32) 4 = true := by decide
  have t0 : (0 : Int32).toNatClampNeg = 0 := by decide
  have t1 : (1 : Int32).toNatClampNeg = 1 := by decide
  have t2 : (2 : Int32).toNatClampNeg = 2 := by decide
  have t3 : (3 : Int32).toNatClampNeg = 3 := by decide
  simp only [q_X9_groupMany, q_X9_groupMany_0, b0, b1, b2, b3, t0, t1, t2, t3, ob_e h (k := 0) (by omega), ob_e h (k := 1) (by omega), ob_e h (k := 2) (by omega), ob_e h (k := 3) (by omega), ↓reduceIte, kc_s]
  rw [show kc (ob d) 0 = 0 from rfl, Int32.zero_add]
theorem px_groups {d e : sk_D} (hR : sk_R2 d e) : ∃ r : Int32, q_X8_groups d = some r ∧ q_X9_groups e = some r :=
  ⟨_, c8_groups hR.2.2.1.1, by simp only [q_X9_groups, q_X9_groups_0, c9_groupMany hR.2.2.1.1, Option.bind_some]⟩
theorem px_size {d e : sk_D} (hR : sk_R2 d e) (a : Int32) : ∃ r : Int32, q_X8_size d a = some r ∧ q_X9_size e a = some r := by
  rcases hG hR.2.2.1.1 a with ⟨h8, h9⟩ | ⟨k, hk, rfl, h1, h8, h9⟩
  · exact ⟨-1, by simp only [q_X8_size, q_X8_size_0, h8, Option.bind_some, ↓reduceIte], by simp only [q_X9_size, q_X9_size_0, h9, Option.bind_some, ↓reduceIte]⟩
  · exact ⟨_, by simp only [q_X8_size, q_X8_size_0, h8, c8_countIn hR.1.1, i10, Option.bind_some, ↓reduceIte]; rfl, by simp only [q_X9_size, q_X9_size_0, h9, c9_sizeOf hR.1.1, i10, Option.bind_some, ↓reduceIte]⟩
theorem c8_instructors {d e : sk_D} (h : rI d e) : q_X8_instructors d = some (kc (ib d) 8) := by
  refine it_for0 (F := fun rec4 a => q_X8_instructors_4 rec4 d a.1 a.2) (fun i => (kc (ib d) i, nI i)) 8 (fun j hj rec => ?_) (fun rec => ?_) (by omega)
  · show q_X8_instructors_4 rec d  (kc (ib d) j) (nI j) = rec (kc (ib d) (j + 1), nI (j + 1))
    have ej := nI_clamp (n := j) (by omega)
    have bj : sk_bi (nI j) 8 = true := bi_nI (by omega) (by omega)
    have lj : ¬ (8 : Int32) ≤ nI j := le_nI (n := 8) rfl hj (by omega)
    cases hp : ib d j with
    | false => simp only [q_X8_instructors_4, q_X8_instructors_25, lj, bj, ej, (h.o0 hj hp).1, s1_nI, kc, hp, ↓reduceIte, Bool.false_eq_true]
    | true => simp only [q_X8_instructors_4, q_X8_instructors_25, lj, bj, ej, (h.o1 hj hp).1, i10, s1_nI, kc, hp, ↓reduceIte]
  · show q_X8_instructors_4 rec d  (kc (ib d) 8) (nI 8) = some (kc (ib d) 8)
    have l : (8 : Int32) ≤ nI 8 := ge_nI (n := 8) rfl (by omega) (by omega)
    simp only [q_X8_instructors_4, l, ↓reduceIte]
theorem c9_instructorMany {d e : sk_D} (h : rI d e) : q_X9_instructorMany e = some (kc (ib d) 8) := by
  refine it_for0 (F := fun rec4 a => q_X9_instructorMany_4 rec4 e a.1 a.2) (fun i => (kc (ib d) i, nI i)) 8 (fun j hj rec => ?_) (fun rec => ?_) (by omega)
  · show q_X9_instructorMany_4 rec e  (kc (ib d) j) (nI j) = rec (kc (ib d) (j + 1), nI (j + 1))
    have ej := nI_clamp (n := j) (by omega)
    have bj : sk_bi (nI j) 8 = true := bi_nI (by omega) (by omega)
    have lj : ¬ (8 : Int32) ≤ nI j := le_nI (n := 8) rfl hj (by omega)
    rw [kc_s]
    cases hp : ib d j with
    | false => simp only [q_X9_instructorMany_4, lj, bj, ej, (h.o0 hj hp).2, s1_nI, bI_f, ↓reduceIte]
    | true => simp only [q_X9_instructorMany_4, lj, bj, ej, (h.o1 hj hp).2, s1_nI, bI_t, ↓reduceIte]
  · show q_X9_instructorMany_4 rec e  (kc (ib d) 8) (nI 8) = some (kc (ib d) 8)
    have l : (8 : Int32) ≤ nI 8 := ge_nI (n := 8) rfl (by omega) (by omega)
    simp only [q_X9_instructorMany_4, l, ↓reduceIte]
theorem px_instructors {d e : sk_D} (hR : sk_R2 d e) : ∃ r : Int32, q_X8_instructors d = some r ∧ q_X9_instructors e = some r :=
  ⟨_, c8_instructors hR.2.2.2.1.1, by simp only [q_X9_instructors, q_X9_instructors_0, c9_instructorMany hR.2.2.2.1.1, Option.bind_some]⟩
theorem c8_placed {d e : sk_D} (h : rP d e) : q_X8_placed d = some (kc (plb d) 20) := by
  refine it_for0 (F := fun rec4 a => q_X8_placed_4 rec4 d a.1 a.2) (fun i => (kc (plb d) i, nI i)) 20 (fun j hj rec => ?_) (fun rec => ?_) (by omega)
  · show q_X8_placed_4 rec d  (kc (plb d) j) (nI j) = rec (kc (plb d) (j + 1), nI (j + 1))
    have ej := nI_clamp (n := j) (by omega)
    have bj : sk_bi (nI j) 20 = true := bi_nI (by omega) (by omega)
    have lj : ¬ (20 : Int32) ≤ nI j := le_nI (n := 20) rfl hj (by omega)
    rw [kc_s]
    unfold plb
    cases hp : pb d j with
    | false => simp only [q_X8_placed_4, q_X8_placed_39, lj, bj, ej, (h.p0 hj hp).1, s1_nI, Bool.false_and, bI_f, Int32.add_zero, ↓reduceIte]
    | true =>
      by_cases hf : d.1 37 j 4 = -9
      · simp only [q_X8_placed_4, q_X8_placed_39, lj, bj, ej, (h.p1 hj hp).1, i10, hf, s1_nI, Bool.true_and, not_true_eq_false, decide_false, bI_f, Int32.add_zero, ↓reduceIte]
      · simp only [q_X8_placed_4, q_X8_placed_39, lj, bj, ej, (h.p1 hj hp).1, i10, hf, s1_nI, Bool.true_and, not_false_eq_true, decide_true, bI_t, ↓reduceIte]
  · show q_X8_placed_4 rec d  (kc (plb d) 20) (nI 20) = some (kc (plb d) 20)
    have l : (20 : Int32) ≤ nI 20 := ge_nI (n := 20) rfl (by omega) (by omega)
    simp only [q_X8_placed_4, l, ↓reduceIte]
theorem c9_placedMany {d e : sk_D} (h : rP d e) : q_X9_placedMany e = some (kc (plb d) 20) := by
  refine it_for0 (F := fun rec4 a => q_X9_placedMany_4 rec4 e a.1 a.2) (fun i => (kc (plb d) i, nI i)) 20 (fun j hj rec => ?_) (fun rec => ?_) (by omega)
  · show q_X9_placedMany_4 rec e  (kc (plb d) j) (nI j) = rec (kc (plb d) (j + 1), nI (j + 1))
    have ej := nI_clamp (n := j) (by omega)
    have bj : sk_bi (nI j) 20 = true := bi_nI (by omega) (by omega)
    have lj : ¬ (20 : Int32) ≤ nI j := le_nI (n := 20) rfl hj (by omega)
    rw [kc_s]
    unfold plb
    cases hp : pb d j with
    | false => simp only [q_X9_placedMany_4, q_X9_placedMany_36, q_X9_placedMany_37, lj, bj, ej, (h.p0 hj hp).2, i01, s1_nI, Bool.false_and, bI_f, ↓reduceIte]
    | true =>
      have e4 := ((h j hj).2.2 (h.p1 hj hp).1).2.2.2.1
      by_cases hf : d.1 37 j 4 = -9
      · simp only [q_X9_placedMany_4, q_X9_placedMany_36, q_X9_placedMany_37, lj, bj, ej, (h.p1 hj hp).2, e4, hf, s1_nI, Bool.true_and, not_true_eq_false, decide_false, bI_f, ↓reduceIte]
      · simp only [q_X9_placedMany_4, q_X9_placedMany_36, q_X9_placedMany_37, lj, bj, ej, (h.p1 hj hp).2, e4, hf, s1_nI, Bool.true_and, not_false_eq_true, decide_true, bI_t, ↓reduceIte]
  · show q_X9_placedMany_4 rec e  (kc (plb d) 20) (nI 20) = some (kc (plb d) 20)
    have l : (20 : Int32) ≤ nI 20 := ge_nI (n := 20) rfl (by omega) (by omega)
    simp only [q_X9_placedMany_4, l, ↓reduceIte]
theorem px_placed {d e : sk_D} (hR : sk_R2 d e) : ∃ r : Int32, q_X8_placed d = some r ∧ q_X9_placed e = some r :=
  ⟨_, c8_placed hR.1.1, by simp only [q_X9_placed, q_X9_placed_0, c9_placedMany hR.1.1, Option.bind_some]⟩
theorem c8_outOfLevel {d e : sk_D} (hR : sk_R2 d e) : q_X8_outOfLevel d = some (kc (lvb d) 20) := by
  refine it_for0 (F := fun rec4 a => q_X8_outOfLevel_4 rec4 d a.1 a.2) (fun i => (kc (lvb d) i, nI i)) 20 (fun j hj rec => ?_) (fun rec => ?_) (by omega)
  · show q_X8_outOfLevel_4 rec d  (kc (lvb d) j) (nI j) = rec (kc (lvb d) (j + 1), nI (j + 1))
    have ej := nI_clamp (n := j) (by omega)
    have bj : sk_bi (nI j) 20 = true := bi_nI (by omega) (by omega)
    have lj : ¬ (20 : Int32) ≤ nI j := le_nI (n := 20) rfl hj (by omega)
    have h := hR.1.1
    rw [kc_s]
    unfold lvb plb
    cases hp : pb d j with
    | false => simp only [q_X8_outOfLevel_4, q_X8_outOfLevel_57, lj, bj, ej, (h.p0 hj hp).1, s1_nI, Bool.false_and, bI_f, Int32.add_zero, ↓reduceIte]
    | true =>
      rcases (hR.1.2 j hj (h.p1 hj hp).1).2.2.2.1 with hf | ⟨g, hg, hf, ho⟩
      · simp only [q_X8_outOfLevel_4, q_X8_outOfLevel_57, lj, bj, ej, (h.p1 hj hp).1, i10, hf, hR.2.2.1.1.n.1, Option.bind_some, s1_nI, Bool.true_and, not_true_eq_false, decide_false, Bool.false_and, bI_f, Int32.add_zero, ↓reduceIte]
      · have eg := nI_clamp (n := g) (by omega)
        have bg : sk_bi (nI g) 4 = true := bi_nI (by omega) (by omega)
        have ng := nm_nI (j := g) (by omega)
        by_cases hl : d.1 39 g 1 = d.1 37 j 1
        · simp only [q_X8_outOfLevel_4, q_X8_outOfLevel_57, lj, bj, ej, (h.p1 hj hp).1, i10, hf, (hR.2.2.1.1.o hg ho).1, eg, bg, ng, hl, Option.bind_some, s1_nI, Bool.true_and, not_true_eq_false, not_false_eq_true, decide_true, decide_false, bI_f, Int32.add_zero, ↓reduceIte]
        · simp only [q_X8_outOfLevel_4, q_X8_outOfLevel_57, lj, bj, ej, (h.p1 hj hp).1, i10, hf, (hR.2.2.1.1.o hg ho).1, eg, bg, ng, hl, Option.bind_some, s1_nI, Bool.true_and, not_false_eq_true, decide_true, bI_t, ↓reduceIte]
  · show q_X8_outOfLevel_4 rec d  (kc (lvb d) 20) (nI 20) = some (kc (lvb d) 20)
    have l : (20 : Int32) ≤ nI 20 := ge_nI (n := 20) rfl (by omega) (by omega)
    simp only [q_X8_outOfLevel_4, l, ↓reduceIte]
theorem c9_outMany {d e : sk_D} (hR : sk_R2 d e) : q_X9_outMany e = some (kc (lvb d) 20) := by
  refine it_for0 (F := fun rec4 a => q_X9_outMany_4 rec4 e a.1 a.2) (fun i => (kc (lvb d) i, nI i)) 20 (fun j hj rec => ?_) (fun rec => ?_) (by omega)
  · show q_X9_outMany_4 rec e  (kc (lvb d) j) (nI j) = rec (kc (lvb d) (j + 1), nI (j + 1))
    have ej := nI_clamp (n := j) (by omega)
    have bj : sk_bi (nI j) 20 = true := bi_nI (by omega) (by omega)
    have lj : ¬ (20 : Int32) ≤ nI j := le_nI (n := 20) rfl hj (by omega)
    have h := hR.1.1
    rw [kc_s]
    unfold lvb plb
    cases hp : pb d j with
    | false => simp only [q_X9_outMany_4, q_X9_outMany_31, q_X9_outMany_58, q_X9_outMany_59, lj, bj, ej, (h.p0 hj hp).2, i01, s1_nI, Bool.false_and, bI_f, ↓reduceIte]
    | true =>
      have e4 := ((h j hj).2.2 (h.p1 hj hp).1).2.2.2.1
      have e1 := ((h j hj).2.2 (h.p1 hj hp).1).1
      rcases (hR.1.2 j hj (h.p1 hj hp).1).2.2.2.1 with hf | ⟨g, hg, hf, ho⟩
      · simp only [q_X9_outMany_4, q_X9_outMany_31, q_X9_outMany_58, q_X9_outMany_59, lj, bj, ej, (h.p1 hj hp).2, e4, hf, s1_nI, Bool.true_and, not_true_eq_false, decide_false, Bool.false_and, bI_f, ↓reduceIte]
      · have eg := nI_clamp (n := g) (by omega)
        have bg : sk_bi (nI g) 4 = true := bi_nI (by omega) (by omega)
        have ng := nm_nI (j := g) (by omega)
        have el := ((hR.2.2.1.1 g hg).2.2.2.2 ho).1
        by_cases hl : d.1 39 g 1 = d.1 37 j 1
        · simp only [q_X9_outMany_4, q_X9_outMany_31, q_X9_outMany_58, q_X9_outMany_59, lj, bj, ej, (h.p1 hj hp).2, e4, e1, hf, eg, bg, ng, el, hl, s1_nI, Bool.true_and, not_true_eq_false, not_false_eq_true, decide_true, decide_false, bI_f, ↓reduceIte]
        · simp only [q_X9_outMany_4, q_X9_outMany_31, q_X9_outMany_58, q_X9_outMany_59, lj, bj, ej, (h.p1 hj hp).2, e4, e1, hf, eg, bg, ng, el, hl, s1_nI, Bool.true_and, not_false_eq_true, decide_true, bI_t, ↓reduceIte]
  · show q_X9_outMany_4 rec e  (kc (lvb d) 20) (nI 20) = some (kc (lvb d) 20)
    have l : (20 : Int32) ≤ nI 20 := ge_nI (n := 20) rfl (by omega) (by omega)
    simp only [q_X9_outMany_4, l, ↓reduceIte]
theorem px_outOfLevel {d e : sk_D} (hR : sk_R2 d e) : ∃ r : Int32, q_X8_outOfLevel d = some r ∧ q_X9_outOfLevel e = some r :=
  ⟨_, c8_outOfLevel hR, by simp only [q_X9_outOfLevel, q_X9_outOfLevel_0, c9_outMany hR, Option.bind_some]⟩
def slo (d : sk_D) (f : Int32) : Nat → Int32
  | 0 => 8
  | i + 1 => if mb d f i = true then (if d.1 37 i 1 < slo d f i then d.1 37 i 1 else slo d f i) else slo d f i
def shi (d : sk_D) (f : Int32) : Nat → Int32
  | 0 => -1
  | i + 1 => if mb d f i = true then (if shi d f i < d.1 37 i 1 then d.1 37 i 1 else shi d f i) else shi d f i
def spr (d : sk_D) (f : Int32) : Int32 := if 0 ≤ shi d f 20 then shi d f 20 - slo d f 20 else -9
theorem c8_spread {d e : sk_D} (h : rP d e) (f : Int32) : l_X8_spread_17 d sk_fu (f, (8 : Int32), (-1 : Int32), (0 : Int32)) = some (spr d f) := by
  refine it_for0 (F := fun rec4 a => q_X8_spread_17 rec4 d a.1 a.2.1 a.2.2.1 a.2.2.2) (fun i => (f, slo d f i, shi d f i, nI i)) 20 (fun j hj rec => ?_) (fun rec => ?_) (by omega)
  · show q_X8_spread_17 rec d f (slo d f j) (shi d f j) (nI j) = rec (f, slo d f (j + 1), shi d f (j + 1), nI (j + 1))
    have ej := nI_clamp (n := j) (by omega)
    have bj : sk_bi (nI j) 20 = true := bi_nI (by omega) (by omega)
    have lj : ¬ (20 : Int32) ≤ nI j := le_nI (n := 20) rfl hj (by omega)
    cases hp : mb d f j with
    | false => simp only [q_X8_spread_17, q_X8_spread_68, lj, bj, ej, m8 h f hj, hp, bI_f, Option.bind_some, s1_nI, slo, shi, ↓reduceIte, Bool.false_eq_true]
    | true => simp only [q_X8_spread_17, q_X8_spread_68, lj, bj, ej, m8 h f hj, hp, bI_t, i10, Option.bind_some, s1_nI, slo, shi, ↓reduceIte]
  · show q_X8_spread_17 rec d f (slo d f 20) (shi d f 20) (nI 20) = _
    have l : (20 : Int32) ≤ nI 20 := ge_nI (n := 20) rfl (by omega) (by omega)
    simp only [q_X8_spread_17, l, ↓reduceIte]
    unfold spr
    split <;> rfl
theorem c9_spreadOf {d e : sk_D} (h : rP d e) (f : Int32) : q_X9_spreadOf e f = some (spr d f) := by
  refine it_for0 (F := fun rec4 a => q_X9_spreadOf_8 rec4 e a.1 a.2.1 a.2.2.1 a.2.2.2) (fun i => (f, slo d f i, shi d f i, nI i)) 20 (fun j hj rec => ?_) (fun rec => ?_) (by omega)
  · show q_X9_spreadOf_8 rec e f (slo d f j) (shi d f j) (nI j) = rec (f, slo d f (j + 1), shi d f (j + 1), nI (j + 1))
    have ej := nI_clamp (n := j) (by omega)
    have bj : sk_bi (nI j) 20 = true := bi_nI (by omega) (by omega)
    have lj : ¬ (20 : Int32) ≤ nI j := le_nI (n := 20) rfl hj (by omega)
    cases hp : mb d f j with
    | false => simp only [q_X9_spreadOf_8, q_X9_spreadOf_71, lj, bj, ej, m9 h f hj, hp, bI_f, Option.bind_some, s1_nI, slo, shi, ↓reduceIte, Bool.false_eq_true]
    | true =>
      have hpb : pb d j = true := by
        unfold mb at hp
        rw [Bool.and_eq_true] at hp
        exact hp.1
      have e1 := ((h j hj).2.2 (h.p1 hj hpb).1).1
      simp only [q_X9_spreadOf_8, lj, m9 h f hj, hp, bI_t, i10, Option.bind_some, bj, ej, e1, slo, shi, ↓reduceIte]
      by_cases c1 : d.1 37 j 1 < slo d f j <;> by_cases c2 : shi d f j < d.1 37 j 1
      · simp only [ite_le, c1, c2, ↓reduceIte, q_X9_spreadOf_47, q_X9_spreadOf_70, q_X9_spreadOf_71, s1_nI, bj, ej, e1]
      · simp only [ite_le, c1, c2, ↓reduceIte, q_X9_spreadOf_47, q_X9_spreadOf_70, q_X9_spreadOf_71, s1_nI, bj, ej, e1]
      · simp only [ite_le, c1, c2, ↓reduceIte, q_X9_spreadOf_47, q_X9_spreadOf_70, q_X9_spreadOf_71, s1_nI, bj, ej, e1]
      · simp only [ite_le, c1, c2, ↓reduceIte, q_X9_spreadOf_47, q_X9_spreadOf_70, q_X9_spreadOf_71, s1_nI, bj, ej, e1]
  · show q_X9_spreadOf_8 rec e f (slo d f 20) (shi d f 20) (nI 20) = _
    have l : (20 : Int32) ≤ nI 20 := ge_nI (n := 20) rfl (by omega) (by omega)
    simp only [q_X9_spreadOf_8, l, ↓reduceIte]
    unfold spr
    split <;> rfl
theorem px_spread {d e : sk_D} (hR : sk_R2 d e) (a : Int32) : ∃ r : Int32, q_X8_spread d a = some r ∧ q_X9_spread e a = some r := by
  rcases cF a with ⟨h8, h9⟩ | ⟨k, _, hk, rfl, h8, h9⟩
  · exact ⟨-1, by simp only [q_X8_spread, q_X8_spread_0, h8, Option.bind_some, ↓reduceIte], by simp only [q_X9_spread, q_X9_spread_0, h9, Option.bind_some, ↓reduceIte]⟩
  · exact ⟨_, by simp only [q_X8_spread, q_X8_spread_0, h8, c8_spread hR.1.1, i10, Option.bind_some, ↓reduceIte]; rfl, by simp only [q_X9_spread, q_X9_spread_0, h9, c9_spreadOf hR.1.1, i10, Option.bind_some, ↓reduceIte]⟩
theorem c8_countScores (d : sk_D) (k : Nat) : q_X4_countScores d k = some (kc (sb d k) 4) := by
  refine it_for0 (F := fun rec4 a => q_X4_countScores_4 rec4 d a.1 a.2.1 a.2.2) (fun i => (k, kc (sb d k) i, nI i)) 4 (fun j hj rec => ?_) (fun rec => ?_) (by omega)
  · show q_X4_countScores_4 rec d k (kc (sb d k) j) (nI j) = rec (k, kc (sb d k) (j + 1), nI (j + 1))
    have ej := nI_clamp (n := j) (by omega)
    have bj : sk_bi (nI j) 4 = true := bi_nI (by omega) (by omega)
    have lj : ¬ (4 : Int32) ≤ nI j := le_nI (n := 4) rfl hj (by omega)
    rw [kc_s]
    unfold sb
    by_cases hf : d.1 38 k j = -9
    · simp only [q_X4_countScores_4, q_X4_countScores_23, lj, bj, ej, hf, s1_nI, not_true_eq_false, decide_false, bI_f, Int32.add_zero, ↓reduceIte]
    · simp only [q_X4_countScores_4, q_X4_countScores_23, lj, bj, ej, hf, s1_nI, not_false_eq_true, decide_true, bI_t, ↓reduceIte]
  · show q_X4_countScores_4 rec d k (kc (sb d k) 4) (nI 4) = some (kc (sb d k) 4)
    have l : (4 : Int32) ≤ nI 4 := ge_nI (n := 4) rfl (by omega) (by omega)
    simp only [q_X4_countScores_4, l, ↓reduceIte]
theorem c9_scoreMany {d e : sk_D} {k : Nat} (hk : k < 20) (h : ∀ j, j < 4 → e.1 50 0 (4 * k + j) = d.1 38 k j) : q_X9_scoreMany e (nI k) = some (kc (sb d k) 4) := by
  refine it_for0 (F := fun rec4 a => q_X9_scoreMany_4 rec4 e a.1 a.2.1 a.2.2) (fun i => (nI k, kc (sb d k) i, nI i)) 4 (fun j hj rec => ?_) (fun rec => ?_) (by omega)
  · show q_X9_scoreMany_4 rec e (nI k) (kc (sb d k) j) (nI j) = rec (nI k, kc (sb d k) (j + 1), nI (j + 1))
    have lj : ¬ (4 : Int32) ≤ nI j := le_nI (n := 4) rfl hj (by omega)
    have ek := nI_clamp (n := 4 * k + j) (by omega)
    have bk : sk_bi (nI (4 * k + j)) 80 = true := bi_nI (by omega) (by omega)
    have hh := h j hj
    rw [kc_s]
    unfold sb
    by_cases hf : d.1 38 k j = -9
    · simp only [q_X9_scoreMany_4, q_X9_scoreMany_30, lj, x4_nI, bk, ek, hh, hf, s1_nI, not_true_eq_false, decide_false, bI_f, ↓reduceIte]
    · simp only [q_X9_scoreMany_4, q_X9_scoreMany_30, lj, x4_nI, bk, ek, hh, hf, s1_nI, not_false_eq_true, decide_true, bI_t, ↓reduceIte]
  · show q_X9_scoreMany_4 rec e (nI k) (kc (sb d k) 4) (nI 4) = some (kc (sb d k) 4)
    have l : (4 : Int32) ≤ nI 4 := ge_nI (n := 4) rfl (by omega) (by omega)
    simp only [q_X9_scoreMany_4, l, ↓reduceIte]
theorem px_score (a b c : Int32) (d e : sk_D) (hR : sk_R2 d e) : ∃ (r : Int32) (d' e' : sk_D), q_X8_score d a b c = some (r, d') ∧ q_X9_score e a b c = some (r, e') ∧ sk_R2 d' e' ∧ sk_F8 d d' ∧ sk_F9 e e' := by
  rcases hP hR.1.1 a with ⟨h8, h9⟩ | ⟨k, hk, rfl, h1, h8, h9⟩
  · exact ⟨-1, d, e, by simp only [q_X8_score, q_X8_score_0, h8, Option.bind_some, ↓reduceIte], by simp only [q_X9_score, q_X9_score_0, h9, Option.bind_some, ↓reduceIte], hR, sk_F8.rf d, sk_F9.rf e⟩
  rcases cE b with ⟨g8, g9⟩ | ⟨j, _, hj, rfl, g8, g9⟩
  · exact ⟨-1, d, e, by simp only [q_X8_score, q_X8_score_0, h8, g8, i10, Option.bind_some, ↓reduceIte], by simp only [q_X9_score, q_X9_score_0, h9, g9, i10, Option.bind_some, ↓reduceIte], hR, sk_F8.rf d, sk_F9.rf e⟩
  rcases wi_cases c 0 10 0 10 rfl rfl (by omega) with ⟨f8, f9⟩ | ⟨p, _, hp, rfl, f8, f9⟩
  · exact ⟨-1, d, e, by simp only [q_X8_score, q_X8_score_0, h8, g8, f8, i10, Option.bind_some, ↓reduceIte], by simp only [q_X9_score, q_X9_score_0, h9, g9, f9, i10, Option.bind_some, ↓reduceIte], hR, sk_F8.rf d, sk_F9.rf e⟩
  have ek := nI_clamp (n := k) (by omega)
  have bk : sk_bi (nI k) 20 = true := bi_nI (by omega) (by omega)
  have ej := nI_clamp (n := j) (by omega)
  have bj : sk_bi (nI j) 4 = true := bi_nI (by omega) (by omega)
  have e4k := nI_clamp (n := 4 * k + j) (by omega)
  have b4 : sk_bi (nI (4 * k + j)) 80 = true := bi_nI (by omega) (by omega)
  obtain ⟨q1, q2, q3⟩ := hR.1.1 k hk
  obtain ⟨p1, p2, p3, p4, p5, p6⟩ := q3 h1
  have a38 (i : Nat) : (sk_wi d 38 k j (nI p)).1 38 k i = if i = j then nI p else d.1 38 k i := by
    show (if 38 = 38 ∧ k = k ∧ i = j then nI p else _) = _
    by_cases hi : i = j
    · rw [if_pos ⟨rfl, rfl, hi⟩, if_pos hi]
    · rw [if_neg (by omega), if_neg hi]
  have a50 (i : Nat) (hi : i < 4) : (sk_wi e 50 0 (4 * k + j) (nI p)).1 50 0 (4 * k + i) = if i = j then nI p else d.1 38 k i := by
    show (if 50 = 50 ∧ 0 = 0 ∧ 4 * k + i = 4 * k + j then nI p else _) = _
    by_cases hi2 : i = j
    · rw [if_pos (by omega), if_pos hi2]
    · rw [if_neg (by omega), if_neg hi2]
      exact p6 i hi
  have hR' : sk_R2 (sk_wi d 38 k j (nI p)) (sk_wi e 50 0 (4 * k + j) (nI p)) := by
    refine R2_pup hR k (fun s k' f hs n1 n2 => ?_) (fun s f hs n1 n2 => ?_) (fun _ => ?_) (fun _ _ => ?_)
    · show (if s = 38 ∧ k' = k ∧ f = j then _ else _) = _
      rw [if_neg (by omega)]
    · show (if s = 50 ∧ 0 = 0 ∧ f = 4 * k + j then _ else _) = _
      rw [if_neg (by omega)]
    · refine ⟨q1, q2, fun _ => ⟨p1, p2, p3, p4, p5, fun i hi => ?_⟩⟩
      rw [a38, a50 i hi]
    · obtain ⟨v1, v2, v3, v4, v5⟩ := hR.1.2 k hk h1
      refine ⟨v1, v2, v3, v4, fun i hi => ?_⟩
      rw [a38]
      split
      · exact .inr ⟨p, by omega, rfl⟩
      · exact v5 i hi
  have hs9 : q_X9_scoreMany (sk_wi e 50 0 (4 * k + j) (nI p)) (nI k) = some (kc (sb (sk_wi d 38 k j (nI p)) k) 4) := c9_scoreMany hk (fun i hi => by rw [a38, a50 i hi])
  refine ⟨kc (sb (sk_wi d 38 k j (nI p)) k) 4, sk_wi d 38 k j (nI p), sk_wi e 50 0 (4 * k + j) (nI p), ?_, ?_, hR', (sk_F8.rf d).wi _ _ _ _ (by omega), (sk_F9.rf e).wi _ _ _ _ (by omega)⟩
  · simp only [q_X8_score, q_X8_score_0, q_X8_score_45, h8, g8, f8, i10, Option.bind_some, ek, bk, ej, bj, c8_countScores, ↓reduceIte]
  · simp only [q_X9_score, q_X9_score_0, q_X9_score_40, h9, g9, f9, i10, Option.bind_some, x4_nI, e4k, b4, hs9, ↓reduceIte]
