/-! COUNTS *** by program (wip/whole/gen/p34.py) -/
theorem kc_s (p : Nat → Bool) (n : Nat) : kc p (n + 1) = kc p n + bI (p n) := by
  show (if p n then kc p n + 1 else kc p n) = kc p n + bI (p n)
  cases p n
  · exact (Int32.add_zero _).symm
  · rfl
theorem ite_le {α : Type} (a b : Int32) (x y : α) : (if a ≤ b then x else y) = if b < a then y else x := by
  by_cases h : a ≤ b
  · rw [if_pos h, if_neg (Int32.not_lt.mpr h)]
  · rw [if_neg h, if_pos (Int32.not_le.mp h)]
def ob (d : sk_D) (g : Nat) : Bool := decide (d.1 39 g 0 = 1)
def ib (d : sk_D) (g : Nat) : Bool := decide (d.1 42 g 0 = 1)
def sb (d : sk_D) (k j : Nat) : Bool := decide (¬ d.1 38 k j = -9)
def plb (d : sk_D) (k : Nat) : Bool := pb d k && decide (¬ d.1 37 k 4 = -9)
def lvb (d : sk_D) (k : Nat) : Bool := plb d k && decide (¬ d.1 39 (d.1 37 k 4).toNatClampNeg 1 = d.1 37 k 1)
theorem rG.o0 {d e : sk_D} (h : rG d e) {k : Nat} (hk : k < 4) (hp : ob d k = false) : d.1 39 k 0 = 0 ∧ e.1 53 0 k = 0 := by
  obtain ⟨h1, h2, _⟩ := h k hk
  rcases h1 with h1 | h1
  · exact ⟨h1, h2.trans h1⟩
  · unfold ob at hp
    rw [h1] at hp
    cases hp
theorem rG.o1 {d e : sk_D} (h : rG d e) {k : Nat} (hk : k < 4) (hp : ob d k = true) : d.1 39 k 0 = 1 ∧ e.1 53 0 k = 1 := by
  have h1 : d.1 39 k 0 = 1 := of_decide_eq_true hp
  exact ⟨h1, (h k hk).2.1.trans h1⟩
theorem rI.o0 {d e : sk_D} (h : rI d e) {k : Nat} (hk : k < 8) (hp : ib d k = false) : d.1 42 k 0 = 0 ∧ e.1 62 0 k = 0 := by
  obtain ⟨h1, h2, _⟩ := h k hk
  rcases h1 with h1 | h1
  · exact ⟨h1, h2.trans h1⟩
  · unfold ib at hp
    rw [h1] at hp
    cases hp
theorem rI.o1 {d e : sk_D} (h : rI d e) {k : Nat} (hk : k < 8) (hp : ib d k = true) : d.1 42 k 0 = 1 ∧ e.1 62 0 k = 1 := by
  have h1 : d.1 42 k 0 = 1 := of_decide_eq_true hp
  exact ⟨h1, (h k hk).2.1.trans h1⟩
theorem rG.n {d e : sk_D} (h : rG d e) : q_X8_hasGroup d (-9) = some 0 ∧ True := by
  have w : q_X8_within d (-9) 0 3 = some 0 := by
    simp only [q_X8_within, q_X8_within_0, show ((-9 : Int32) < 0) from by decide, ↓reduceIte]
  refine ⟨?_, trivial⟩
  simp only [q_X8_hasGroup, q_X8_hasGroup_0, w, Option.bind_some, ↓reduceIte]
theorem rG.o {d e : sk_D} (h : rG d e) {k : Nat} (hk : k < 4) (ho : d.1 39 k 0 = 1) : q_X8_hasGroup d (nI k) = some 1 ∧ True := by
  have ek := nI_clamp (n := k) (by omega)
  have bk : sk_bi (nI k) 4 = true := bi_nI (by omega) (by omega)
  have w := (wi_in k (a := nI k) (lo := 0) (hi := 3) 0 3 rfl rfl rfl (by omega) (by omega) (by omega)).1 d
  refine ⟨?_, trivial⟩
  simp only [q_X8_hasGroup, q_X8_hasGroup_0, w, Option.bind_some, i10, bk, ek, ho, ↓reduceIte]
theorem rI.o {d e : sk_D} (h : rI d e) {k : Nat} (hk : k < 8) (ho : d.1 42 k 0 = 1) : q_X8_hasInstructor d (nI k) = some 1 ∧ True := by
  have ek := nI_clamp (n := k) (by omega)
  have bk : sk_bi (nI k) 8 = true := bi_nI (by omega) (by omega)
  have w := (wi_in k (a := nI k) (lo := 0) (hi := 7) 0 7 rfl rfl rfl (by omega) (by omega) (by omega)).1 d
  refine ⟨?_, trivial⟩
  simp only [q_X8_hasInstructor, q_X8_hasInstructor_0, w, Option.bind_some, i10, bk, ek, ho, ↓reduceIte]
theorem rI.n {d e : sk_D} (h : rI d e) : q_X8_hasInstructor d (-9) = some 0 ∧ True := by
  have w : q_X8_within d (-9) 0 7 = some 0 := by
    simp only [q_X8_within, q_X8_within_0, show ((-9 : Int32) < 0) from by decide, ↓reduceIte]
  refine ⟨?_, trivial⟩
  simp only [q_X8_hasInstructor, q_X8_hasInstructor_0, w, Option.bind_some, ↓reduceIte]
theorem c8_countIn {d e : sk_D} (h : rP d e) (g : Int32) : q_X8_countPupilsIn d g = some (kc (gb d g) 20) := by
  refine it_for0 (F := fun rec4 a => q_X8_countPupilsIn_4 rec4 d a.1 a.2.1 a.2.2) (fun i => (g, kc (gb d g) i, nI i)) 20 (fun j hj rec => ?_) (fun rec => ?_) (by omega)
  · show q_X8_countPupilsIn_4 rec d g (kc (gb d g) j) (nI j) = rec (g, kc (gb d g) (j + 1), nI (j + 1))
    have ej := nI_clamp (n := j) (by omega)
    have bj : sk_bi (nI j) 20 = true := bi_nI (by omega) (by omega)
    have lj : ¬ (20 : Int32) ≤ nI j := le_nI (n := 20) rfl hj (by omega)
    cases hp : gb d g j with
    | false => simp only [q_X8_countPupilsIn_4, q_X8_countPupilsIn_26, lj, bj, ej, i8 h g hj, hp, bI_f, Option.bind_some, s1_nI, kc, ↓reduceIte, Bool.false_eq_true]
    | true => simp only [q_X8_countPupilsIn_4, q_X8_countPupilsIn_26, lj, bj, ej, i8 h g hj, hp, bI_t, i10, Option.bind_some, s1_nI, kc, ↓reduceIte]
  · show q_X8_countPupilsIn_4 rec d g (kc (gb d g) 20) (nI 20) = some (kc (gb d g) 20)
    have l : (20 : Int32) ≤ nI 20 := ge_nI (n := 20) rfl (by omega) (by omega)
    simp only [q_X8_countPupilsIn_4, l, ↓reduceIte]
theorem ob_e {d e : sk_D} (h : rG d e) {k : Nat} (hk : k < 4) : e.1 53 0 k = bI (ob d k) := by
  cases hp : ob d k with
  | false => exact (h.o0 hk hp).2
  | true => exact (h.o1 hk hp).2
theorem c8_placed {d e : sk_D} (h : rP d e) : q_X8_placed d = some (kc (plb d) 20) := by
  refine it_for0 (F := fun rec4 a => q_X8_placed_4 rec4 d a.1 a.2) (fun i => (kc (plb d) i, nI i)) 20 (fun j hj rec => ?_) (fun rec => ?_) (by omega)
  · show q_X8_placed_4 rec d  (kc (plb d) j) (nI j) = rec (kc (plb d) (j + 1), nI (j + 1))
    have ej := nI_clamp (n := j) (by omega)
    have bj : sk_bi (nI j) 20 = true := bi_nI (by omega) (by omega)
    have lj : ¬ (20 : Int32) ≤ nI j := le_nI (n := 20) rfl hj (by omega)
    rw [kc_s]
    unfold plb
    cases hp : pb d j with
    | false => simp only [q_X8_placed_4, q_X8_placed_39, lj, bj, ej, (h.p0 hj hp).1, s1_nI, Bool.false_and, bI_f, Int32.add_zero, ↓reduceIte]
    | true =>
      by_cases hf : d.1 37 j 4 = -9
      · simp only [q_X8_placed_4, q_X8_placed_39, lj, bj, ej, (h.p1 hj hp).1, i10, hf, s1_nI, Bool.true_and, not_true_eq_false, decide_false, bI_f, Int32.add_zero, ↓reduceIte]
      · simp only [q_X8_placed_4, q_X8_placed_39, lj, bj, ej, (h.p1 hj hp).1, i10, hf, s1_nI, Bool.true_and, not_false_eq_true, decide_true, bI_t, ↓reduceIte]
  · show q_X8_placed_4 rec d  (kc (plb d) 20) (nI 20) = some (kc (plb d) 20)
    have l : (20 : Int32) ≤ nI 20 := ge_nI (n := 20) rfl (by omega) (by omega)
    simp only [q_X8_placed_4, l, ↓reduceIte]
theorem c8_outOfLevel {d e : sk_D} (hR : sk_R2 d e) : q_X8_outOfLevel d = some (kc (lvb d) 20) := by
  refine it_for0 (F := fun rec4 a => q_X8_outOfLevel_4 rec4 d a.1 a.2) (fun i => (kc (lvb d) i, nI i)) 20 (fun j hj rec => ?_) (fun rec => ?_) (by omega)
  · show q_X8_outOfLevel_4 rec d  (kc (lvb d) j) (nI j) = rec (kc (lvb d) (j + 1), nI (j + 1))
    have ej := nI_clamp (n := j) (by omega)
    have bj : sk_bi (nI j) 20 = true := bi_nI (by omega) (by omega)
    have lj : ¬ (20 : Int32) ≤ nI j := le_nI (n := 20) rfl hj (by omega)
    have h := hR.1.1
    rw [kc_s]
    unfold lvb plb
    cases hp : pb d j with
    | false => simp only [q_X8_outOfLevel_4, q_X8_outOfLevel_57, lj, bj, ej, (h.p0 hj hp).1, s1_nI, Bool.false_and, bI_f, Int32.add_zero, ↓reduceIte]
    | true =>
      rcases (hR.1.2 j hj (h.p1 hj hp).1).2.2.2.1 with hf | ⟨g, hg, hf, ho⟩
      · simp only [q_X8_outOfLevel_4, q_X8_outOfLevel_57, lj, bj, ej, (h.p1 hj hp).1, i10, hf, hR.2.2.1.1.n.1, Option.bind_some, s1_nI, Bool.true_and, not_true_eq_false, decide_false, Bool.false_and, bI_f, Int32.add_zero, ↓reduceIte]
      · have eg := nI_clamp (n := g) (by omega)
        have bg : sk_bi (nI g) 4 = true := bi_nI (by omega) (by omega)
        have ng := nm_nI (j := g) (by omega)
        by_cases hl : d.1 39 g 1 = d.1 37 j 1
        · simp only [q_X8_outOfLevel_4, q_X8_outOfLevel_57, lj, bj, ej, (h.p1 hj hp).1, i10, hf, (hR.2.2.1.1.o hg ho).1, eg, bg, ng, hl, Option.bind_some, s1_nI, Bool.true_and, not_true_eq_false, not_false_eq_true, decide_true, decide_false, bI_f, Int32.add_zero, ↓reduceIte]
        · simp only [q_X8_outOfLevel_4, q_X8_outOfLevel_57, lj, bj, ej, (h.p1 hj hp).1, i10, hf, (hR.2.2.1.1.o hg ho).1, eg, bg, ng, hl, Option.bind_some, s1_nI, Bool.true_and, not_false_eq_true, decide_true, bI_t, ↓reduceIte]
  · show q_X8_outOfLevel_4 rec d  (kc (lvb d) 20) (nI 20) = some (kc (lvb d) 20)
    have l : (20 : Int32) ≤ nI 20 := ge_nI (n := 20) rfl (by omega) (by omega)
    simp only [q_X8_outOfLevel_4, l, ↓reduceIte]
def slo (d : sk_D) (f : Int32) : Nat → Int32
  | 0 => 8
  | i + 1 => if mb d f i = true then (if d.1 37 i 1 < slo d f i then d.1 37 i 1 else slo d f i) else slo d f i
def shi (d : sk_D) (f : Int32) : Nat → Int32
  | 0 => -1
  | i + 1 => if mb d f i = true then (if shi d f i < d.1 37 i 1 then d.1 37 i 1 else shi d f i) else shi d f i
def spr (d : sk_D) (f : Int32) : Int32 := if 0 ≤ shi d f 20 then shi d f 20 - slo d f 20 else -9
