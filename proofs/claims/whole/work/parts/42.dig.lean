/-! digest *** by hand -/
def mx (h : Int64) (v : Int32) : Int64 := (31 : Int64) * h + v.toInt64
def mS (d : sk_D) (k : Nat) (h : Int64) : Nat → Int64
  | 0 => h
  | n + 1 => mx (mS d k h n) (d.1 38 k n)
def mP (d : sk_D) (h : Int64) : Nat → Int64
  | 0 => h
  | n + 1 => if pb d n = true then mS d n (mx (mx (mx (mx (mx (mP d h n) (nI n)) (d.1 37 n 1)) (d.1 37 n 2)) (d.1 37 n 3)) (d.1 37 n 4)) 4 else mP d h n
def mF (d : sk_D) (h : Int64) : Nat → Int64
  | 0 => h
  | n + 1 => mx (mF d h n) (spr d (nI n))
def mG (d : sk_D) (h : Int64) : Nat → Int64
  | 0 => h
  | n + 1 => if ob d n = true then mx (mx (mx (mx (mx (mx (mG d h n) (nI n)) (d.1 39 n 1)) (kc (gb d (nI n)) 20)) (d.1 39 n 4)) (d.1 39 n 9)) (d.1 39 n 10) else mG d h n
def mI (d : sk_D) (h : Int64) : Nat → Int64
  | 0 => h
  | n + 1 => if ib d n = true then mx (mx (mI d h n) (nI n)) (d.1 42 n 5) else mI d h n
def mL (d : sk_D) (h : Int64) : Nat → Int64
  | 0 => h
  | n + 1 => mx (mx (mL d h n) (d.1 43 n 3)) (d.1 43 n 4)
theorem mix8 (d : sk_D) (h : Int64) (v : Int32) : q_X8_mix d h v = some (mx h v) := by
  have e : mx h v = mx h v := Eq.refl _
  rw [← e]
  exact Eq.trans rfl rfl
theorem rP.o {d e : sk_D} (h : rP d e) {k : Nat} (hk : k < 20) (ho : d.1 37 k 0 = 1) : q_X8_hasPupil d (nI k) = some 1 ∧ q_X9_hasPupil e (nI k) = some 1 := by
  rcases hP h (nI k) with ⟨h1, _⟩ | ⟨j, _, ej, _, h3⟩
  · have ek := nI_clamp (n := k) (by omega)
    have bk : sk_bi (nI k) 20 = true := bi_nI (by omega) (by omega)
    have w := (wi_in k (a := nI k) (lo := 0) (hi := 19) 0 19 rfl rfl rfl (by omega) (by omega) (by omega)).1 d
    simp only [q_X8_hasPupil, q_X8_hasPupil_0, w, Option.bind_some, i10, bk, ek, ho, ↓reduceIte] at h1
    cases h1
  · rw [ej]
    exact h3
theorem rL.o {d e : sk_D} (h : rL d e) {k : Nat} (hk : k < 3) (ho : nI k < d.1 0 0 9) : q_X8_hasLift d (nI k) = some 1 ∧ q_X9_hasLift e (nI k) = some 1 := by
  rcases hL h (nI k) with ⟨h1, _⟩ | ⟨j, _, ej, _, h3⟩
  · have w := (wi_in k (a := nI k) (lo := 0) (hi := 2) 0 2 rfl rfl rfl (by omega) (by omega) (by omega)).1 d
    have hn : ¬ d.1 0 0 9 ≤ nI k := Int32.not_le.mpr ho
    simp only [q_X8_hasLift, q_X8_hasLift_0, w, Option.bind_some, i10, hn, ↓reduceIte] at h1
    cases h1
  · rw [ej]
    exact h3
theorem isE {j : Nat} (hj : j < 4) (d : sk_D) : q_X8_isExercise d (nI j) = some 1 := by
  have w := (wi_in j (a := nI j) (lo := 0) (hi := 3) 0 3 rfl rfl rfl (by omega) (by omega) (by omega)).1 d
  simp only [q_X8_isExercise, q_X8_isExercise_0, w, nb1, Option.bind_some, ↓reduceIte]
theorem isFa {j : Nat} (hj : j < 8) (d : sk_D) : q_X8_isFamily d (nI j) = some 1 := by
  have w := (wi_in j (a := nI j) (lo := 0) (hi := 7) 0 7 rfl rfl rfl (by omega) (by omega) (by omega)).1 d
  simp only [q_X8_isFamily, q_X8_isFamily_0, w, nb1, Option.bind_some, ↓reduceIte]
theorem mS8 {d e : sk_D} (hR : rP d e) {k : Nat} (hk : k < 20) (ho : d.1 37 k 0 = 1) (h : Int64) (rec5 : (Int64 × Int32) → Option Int64) : l_X8_mixPupils_79 rec5 d sk_fu (h, nI k, (0 : Int32)) = rec5 (mS d k h 4, nI (k + 1)) := by
  refine it_for0 (F := fun rec a => q_X8_mixPupils_79 rec5 rec d a.1 a.2.1 a.2.2) (fun i => (mS d k h i, nI k, nI i)) 4 (fun j hj rec => ?_) (fun rec => ?_) (by omega)
  · show q_X8_mixPupils_79 rec5 rec d (mS d k h j) (nI k) (nI j) = rec (mS d k h (j + 1), nI k, nI (j + 1))
    have lj : ¬ (4 : Int32) ≤ nI j := le_nI (n := 4) rfl hj (by omega)
    have ek := nI_clamp (n := k) (by omega)
    have bk : sk_bi (nI k) 20 = true := bi_nI (by omega) (by omega)
    have ej := nI_clamp (n := j) (by omega)
    have bj : sk_bi (nI j) 4 = true := bi_nI (by omega) (by omega)
    simp only [q_X8_mixPupils_79, lj, q_X8_scoreOf, q_X8_scoreOf_0, (hR.o hk ho).1, isE hj, i10, bk, ek, bj, ej, mix8, Option.bind_some, s1_nI, mS, ↓reduceIte]
  · show q_X8_mixPupils_79 rec5 rec d (mS d k h 4) (nI k) (nI 4) = _
    have l : (4 : Int32) ≤ nI 4 := ge_nI (n := 4) rfl (by omega) (by omega)
    simp only [q_X8_mixPupils_79, q_X8_mixPupils_104, l, s1_nI, ↓reduceIte]
theorem mP8 {d e : sk_D} (hR : rP d e) (h : Int64) : q_X8_mixPupils d h = some (mP d h 20) := by
  refine it_for0 (F := fun rec a => q_X8_mixPupils_5 rec d a.1 a.2) (fun i => (mP d h i, nI i)) 20 (fun j hj rec => ?_) (fun rec => ?_) (by omega)
  · show q_X8_mixPupils_5 rec d (mP d h j) (nI j) = rec (mP d h (j + 1), nI (j + 1))
    have lj : ¬ (20 : Int32) ≤ nI j := le_nI (n := 20) rfl hj (by omega)
    have ej := nI_clamp (n := j) (by omega)
    have bj : sk_bi (nI j) 20 = true := bi_nI (by omega) (by omega)
    cases hp : pb d j with
    | false => simp only [q_X8_mixPupils_5, q_X8_mixPupils_104, lj, bj, ej, (hR.p0 hj hp).1, s1_nI, mP, hp, ↓reduceIte, Bool.false_eq_true]
    | true =>
      have ho := (hR.p1 hj hp).1
      simp only [q_X8_mixPupils_5, lj, bj, ej, ho, i10, mix8, q_X8_level, q_X8_level_0, q_X8_languages, q_X8_languages_0, q_X8_family, q_X8_family_0, q_X8_group, q_X8_group_0, (hR.o hj ho).1, mS8 hR hj ho, Option.bind_some, mP, hp, ↓reduceIte]
  · show q_X8_mixPupils_5 rec d (mP d h 20) (nI 20) = _
    have l : (20 : Int32) ≤ nI 20 := ge_nI (n := 20) rfl (by omega) (by omega)
    simp only [q_X8_mixPupils_5, l, ↓reduceIte]
theorem mG8 {d e : sk_D} (hR : sk_R2 d e) (h : Int64) : q_X8_mixGroups d h = some (mG d h 4) := by
  have hh := hR.2.2.1.1
  refine it_for0 (F := fun rec a => q_X8_mixGroups_5 rec d a.1 a.2) (fun i => (mG d h i, nI i)) 4 (fun j hj rec => ?_) (fun rec => ?_) (by omega)
  · show q_X8_mixGroups_5 rec d (mG d h j) (nI j) = rec (mG d h (j + 1), nI (j + 1))
    have lj : ¬ (4 : Int32) ≤ nI j := le_nI (n := 4) rfl hj (by omega)
    have ej := nI_clamp (n := j) (by omega)
    have bj : sk_bi (nI j) 4 = true := bi_nI (by omega) (by omega)
    cases hp : ob d j with
    | false => simp only [q_X8_mixGroups_5, q_X8_mixGroups_86, lj, bj, ej, (hh.o0 hj hp).1, s1_nI, mG, hp, ↓reduceIte, Bool.false_eq_true]
    | true =>
      have ho := (hh.o1 hj hp).1
      simp only [q_X8_mixGroups_5, q_X8_mixGroups_86, lj, bj, ej, ho, i10, mix8, q_X8_groupLevel, q_X8_groupLevel_0, q_X8_size, q_X8_size_0, q_X8_instructor, q_X8_instructor_0, q_X8_waited, q_X8_waited_0, q_X8_rides, q_X8_rides_0, c8_countIn hR.1.1, (hh.o hj ho).1, Option.bind_some, s1_nI, mG, hp, ↓reduceIte]
  · show q_X8_mixGroups_5 rec d (mG d h 4) (nI 4) = _
    have l : (4 : Int32) ≤ nI 4 := ge_nI (n := 4) rfl (by omega) (by omega)
    simp only [q_X8_mixGroups_5, l, ↓reduceIte]
theorem mIL8 {d e : sk_D} (hR : sk_R2 d e) (h : Int64) {n : Nat} (hn : n ≤ 3) (en : d.1 0 0 9 = nI n) : q_X8_mixInstructorsAndLifts d h = some (mL d (mI d h 8) n) := by
  have hh := hR.2.2.2.1.1
  refine it_for0 (F := fun rec a => q_X8_mixInstructorsAndLifts_5 rec d a.1 a.2) (fun i => (mI d h i, nI i)) 8 (fun j hj rec => ?_) (fun rec => ?_) (by omega)
  · show q_X8_mixInstructorsAndLifts_5 rec d (mI d h j) (nI j) = rec (mI d h (j + 1), nI (j + 1))
    have lj : ¬ (8 : Int32) ≤ nI j := le_nI (n := 8) rfl hj (by omega)
    have ej := nI_clamp (n := j) (by omega)
    have bj : sk_bi (nI j) 8 = true := bi_nI (by omega) (by omega)
    cases hp : ib d j with
    | false => simp only [q_X8_mixInstructorsAndLifts_5, q_X8_mixInstructorsAndLifts_43, lj, bj, ej, (hh.o0 hj hp).1, s1_nI, mI, hp, ↓reduceIte, Bool.false_eq_true]
    | true =>
      have ho := (hh.o1 hj hp).1
      simp only [q_X8_mixInstructorsAndLifts_5, q_X8_mixInstructorsAndLifts_43, lj, bj, ej, ho, i10, mix8, q_X8_earnings, q_X8_earnings_0, (hh.o hj ho).1, Option.bind_some, s1_nI, mI, hp, ↓reduceIte]
  · show q_X8_mixInstructorsAndLifts_5 rec d (mI d h 8) (nI 8) = _
    have l : (8 : Int32) ≤ nI 8 := ge_nI (n := 8) rfl (by omega) (by omega)
    simp only [q_X8_mixInstructorsAndLifts_5, l, ↓reduceIte]
    refine it_for0 (F := fun rec a => q_X8_mixInstructorsAndLifts_52 rec d a.1 a.2) (fun i => (mL d (mI d h 8) i, nI i)) n (fun j hj rec => ?_) (fun rec => ?_) (by omega)
    · show q_X8_mixInstructorsAndLifts_52 rec d (mL d (mI d h 8) j) (nI j) = rec (mL d (mI d h 8) (j + 1), nI (j + 1))
      have lj : ¬ nI n ≤ nI j := le_nI (n := n) rfl hj (by omega)
      have ej := nI_clamp (n := j) (by omega)
      have bj : sk_bi (nI j) 3 = true := bi_nI (by omega) (by omega)
      have hlt : nI j < d.1 0 0 9 := by rw [en]; exact nI_lt (by omega) (by omega)
      simp only [q_X8_mixInstructorsAndLifts_52, en, lj, q_X8_longestQueue, q_X8_longestQueue_0, q_X8_carried, q_X8_carried_0, (hR.2.2.2.2.1.o (k := j) (by omega) hlt).1, i10, bj, ej, mix8, Option.bind_some, s1_nI, mL, ↓reduceIte]
    · show q_X8_mixInstructorsAndLifts_52 rec d (mL d (mI d h 8) n) (nI n) = _
      have l : nI n ≤ nI n := nI_le (by omega) (by omega)
      simp only [q_X8_mixInstructorsAndLifts_52, en, l, ↓reduceIte]
theorem mx_f (h : Int64) (v : Int32) : (31 : Int64) * h + v.toInt64 = mx h v := rfl
def dgv (d : sk_D) (n nt : Nat) : Int64 := mx (mx (mx (mL d (mI d (mG d (mF d (mP d (mx (mx (mx (mx 43053 (d.1 0 0 13)) (kc (pb d) 20)) (kc (ob d) 4)) (kc (ib d) 8)) 20) 8) 4) 8) n) (kc (plb d) 20)) (kc (lvb d) 20)) (nI nt)
theorem dig8b {d e : sk_D} (hR : sk_R2 d e) {n nt : Nat} (hn : n ≤ 3) (en : d.1 0 0 9 = nI n) (t1 : d.1 35 0 1 = nI nt) (H : Int64) : l_X8_digest_48 d sk_fu (H, (0 : Int32)) = some (mx (mx (mx (mL d (mI d (mG d (mF d H 8) 4) 8) n) (kc (plb d) 20)) (kc (lvb d) 20)) (nI nt)) := by
  have h := hR.1.1
  refine it_for0 (F := fun rec a => q_X8_digest_48 rec d a.1 a.2) (fun i => (mF d H i, nI i)) 8 (fun j hj rec => ?_) (fun rec => ?_) (by omega)
  · show q_X8_digest_48 rec d (mF d H j) (nI j) = rec (mF d H (j + 1), nI (j + 1))
    have lj : ¬ (8 : Int32) ≤ nI j := le_nI (n := 8) rfl hj (by omega)
    simp only [q_X8_digest_48, lj, q_X8_spread, q_X8_spread_0, isFa hj, i10, c8_spread h, mix8, Option.bind_some, s1_nI, mF, ↓reduceIte]
  · show q_X8_digest_48 rec d (mF d H 8) (nI 8) = _
    have l : (8 : Int32) ≤ nI 8 := ge_nI (n := 8) rfl (by omega) (by omega)
    simp only [q_X8_digest_48, l, mG8 hR, mIL8 hR _ hn en, c8_placed h, c8_outOfLevel hR, t1, mix8, Option.bind_some, ↓reduceIte]
theorem dig8a {d e : sk_D} (hR : sk_R2 d e) {r : Option Int64} (hr : l_X8_digest_48 d sk_fu (mP d (mx (mx (mx (mx 43053 (d.1 0 0 13)) (kc (pb d) 20)) (kc (ob d) 4)) (kc (ib d) 8)) 20, (0 : Int32)) = r) : q_X8_digest d = r := by
  unfold q_X8_digest q_X8_digest_0
  rw [mix8, Option.bind_some, c8_pupils hR.1.1, Option.bind_some, mix8, Option.bind_some, c8_groups hR.2.2.1.1, Option.bind_some, mix8, Option.bind_some, c8_instructors hR.2.2.2.1.1, Option.bind_some, mix8, Option.bind_some, mP8 hR.1.1, Option.bind_some]
  exact hr
theorem dig8 {d e : sk_D} (hR : sk_R2 d e) {n nt : Nat} (hn : n ≤ 3) (en : d.1 0 0 9 = nI n) (t1 : d.1 35 0 1 = nI nt) : q_X8_digest d = some (dgv d n nt) := dig8a hR (dig8b hR hn en t1 _)
theorem dig9 {d e : sk_D} (hR : sk_R2 d e) {n nt : Nat} (hn : n ≤ 3) (l1 : e.1 44 0 27 = nI n) (t2 : e.1 44 0 36 = nI nt) : q_X9_digest e = some (dgv d n nt) := by
  have h := hR.1.1
  have day := hR.2.2.2.2.2.1.2.2.2.1
  have l3 := hR.2.2.2.2.1.2.2
  unfold dgv
  have e0 : (1334643 : Int64) + (d.1 0 0 13).toInt64 = mx 43053 (d.1 0 0 13) := by
    unfold mx
    rw [show (31 : Int64) * 43053 = 1334643 by decide]
  simp only [q_X9_digest, q_X9_digest_0, c9_pupilMany h, c9_groupMany hR.2.2.1.1, c9_instructorMany hR.2.2.2.1.1, day, e0, mx_f, Option.bind_some]
  generalize mx (mx (mx (mx 43053 (d.1 0 0 13)) (kc (pb d) 20)) (kc (ob d) 4)) (kc (ib d) 8) = H
  refine it_for0 (F := fun rec a => q_X9_digest_48 rec e a.1 a.2) (fun i => (mP d H i, nI i)) 20 (fun j hj rec => ?_) (fun rec => ?_) (by omega)
  · show q_X9_digest_48 rec e (mP d H j) (nI j) = rec (mP d H (j + 1), nI (j + 1))
    have lj : ¬ (20 : Int32) ≤ nI j := le_nI (n := 20) rfl hj (by omega)
    have ej := nI_clamp (n := j) (by omega)
    have bj : sk_bi (nI j) 20 = true := bi_nI (by omega) (by omega)
    cases hp : pb d j with
    | false => simp only [q_X9_digest_48, q_X9_digest_163, lj, bj, ej, (h.p0 hj hp).2, i01, s1_nI, mP, hp, ↓reduceIte, Bool.false_eq_true]
    | true =>
      obtain ⟨p1, p2, p3, p4, p5, p6⟩ := (h j hj).2.2 (h.p1 hj hp).1
      simp only [q_X9_digest_48, lj, bj, ej, (h.p1 hj hp).2, p1, p2, p3, p4, mP, hp, mx_f, ↓reduceIte]
      generalize mx (mx (mx (mx (mx (mP d H j) (nI j)) (d.1 37 j 1)) (d.1 37 j 2)) (d.1 37 j 3)) (d.1 37 j 4) = K
      refine it_for0 (F := fun rec2 a => q_X9_digest_132 rec rec2 e a.1 a.2.1 a.2.2) (fun i => (mS d j K i, nI j, nI i)) 4 (fun i hi rec2 => ?_) (fun rec2 => ?_) (by omega)
      · show q_X9_digest_132 rec rec2 e (mS d j K i) (nI j) (nI i) = rec2 (mS d j K (i + 1), nI j, nI (i + 1))
        have li : ¬ (4 : Int32) ≤ nI i := le_nI (n := 4) rfl hi (by omega)
        have e4 := nI_clamp (n := 4 * j + i) (by omega)
        have b4 : sk_bi (nI (4 * j + i)) 80 = true := bi_nI (by omega) (by omega)
        simp only [q_X9_digest_132, li, x4_nI, b4, e4, p6 i hi, s1_nI, mS, mx_f, ↓reduceIte]
      · show q_X9_digest_132 rec rec2 e (mS d j K 4) (nI j) (nI 4) = _
        have l : (4 : Int32) ≤ nI 4 := ge_nI (n := 4) rfl (by omega) (by omega)
        simp only [q_X9_digest_132, q_X9_digest_163, l, s1_nI, ↓reduceIte]
  · show q_X9_digest_48 rec e (mP d H 20) (nI 20) = _
    have l : (20 : Int32) ≤ nI 20 := ge_nI (n := 20) rfl (by omega) (by omega)
    simp only [q_X9_digest_48, l, ↓reduceIte]
    generalize mP d H 20 = H1
    refine it_for0 (F := fun rec a => q_X9_digest_171 rec e a.1 a.2) (fun i => (mF d H1 i, nI i)) 8 (fun j hj rec => ?_) (fun rec => ?_) (by omega)
    · show q_X9_digest_171 rec e (mF d H1 j) (nI j) = rec (mF d H1 (j + 1), nI (j + 1))
      have lj : ¬ (8 : Int32) ≤ nI j := le_nI (n := 8) rfl hj (by omega)
      simp only [q_X9_digest_171, lj, c9_spreadOf h, Option.bind_some, s1_nI, mF, mx_f, ↓reduceIte]
    · show q_X9_digest_171 rec e (mF d H1 8) (nI 8) = _
      have l : (8 : Int32) ≤ nI 8 := ge_nI (n := 8) rfl (by omega) (by omega)
      simp only [q_X9_digest_171, l, ↓reduceIte]
      generalize mF d H1 8 = H2
      refine it_for0 (F := fun rec a => q_X9_digest_198 rec e a.1 a.2) (fun i => (mG d H2 i, nI i)) 4 (fun j hj rec => ?_) (fun rec => ?_) (by omega)
      · show q_X9_digest_198 rec e (mG d H2 j) (nI j) = rec (mG d H2 (j + 1), nI (j + 1))
        have lj : ¬ (4 : Int32) ≤ nI j := le_nI (n := 4) rfl hj (by omega)
        have ej := nI_clamp (n := j) (by omega)
        have bj : sk_bi (nI j) 4 = true := bi_nI (by omega) (by omega)
        cases hp : ob d j with
        | false => simp only [q_X9_digest_198, q_X9_digest_291, lj, bj, ej, (hR.2.2.1.1.o0 hj hp).2, i01, s1_nI, mG, hp, ↓reduceIte, Bool.false_eq_true]
        | true =>
          obtain ⟨_, _, g3, g4, g5⟩ := hR.2.2.1.1 j hj
          obtain ⟨p1, p2, p3, p4, _⟩ := g5 (hR.2.2.1.1.o1 hj hp).1
          simp only [q_X9_digest_198, q_X9_digest_291, lj, bj, ej, (hR.2.2.1.1.o1 hj hp).2, c9_sizeOf h, p1, p4, g3, g4, Option.bind_some, s1_nI, mG, mx_f, hp, ↓reduceIte]
      · show q_X9_digest_198 rec e (mG d H2 4) (nI 4) = _
        have l : (4 : Int32) ≤ nI 4 := ge_nI (n := 4) rfl (by omega) (by omega)
        simp only [q_X9_digest_198, l, ↓reduceIte]
        generalize mG d H2 4 = H3
        refine it_for0 (F := fun rec a => q_X9_digest_299 rec e a.1 a.2) (fun i => (mI d H3 i, nI i)) 8 (fun j hj rec => ?_) (fun rec => ?_) (by omega)
        · show q_X9_digest_299 rec e (mI d H3 j) (nI j) = rec (mI d H3 (j + 1), nI (j + 1))
          have lj : ¬ (8 : Int32) ≤ nI j := le_nI (n := 8) rfl hj (by omega)
          have ej := nI_clamp (n := j) (by omega)
          have bj : sk_bi (nI j) 8 = true := bi_nI (by omega) (by omega)
          cases hp : ib d j with
          | false => simp only [q_X9_digest_299, q_X9_digest_338, lj, bj, ej, (hR.2.2.2.1.1.o0 hj hp).2, i01, s1_nI, mI, hp, ↓reduceIte, Bool.false_eq_true]
          | true =>
            obtain ⟨_, _, _, _, p5⟩ := (hR.2.2.2.1.1 j hj).2.2 (hR.2.2.2.1.1.o1 hj hp).1
            simp only [q_X9_digest_299, q_X9_digest_338, lj, bj, ej, (hR.2.2.2.1.1.o1 hj hp).2, p5, s1_nI, mI, mx_f, hp, ↓reduceIte]
        · show q_X9_digest_299 rec e (mI d H3 8) (nI 8) = _
          have l : (8 : Int32) ≤ nI 8 := ge_nI (n := 8) rfl (by omega) (by omega)
          simp only [q_X9_digest_299, l, ↓reduceIte]
          generalize mI d H3 8 = H4
          refine it_for0 (F := fun rec a => q_X9_digest_346 rec e a.1 a.2) (fun i => (mL d H4 i, nI i)) n (fun j hj rec => ?_) (fun rec => ?_) (by omega)
          · show q_X9_digest_346 rec e (mL d H4 j) (nI j) = rec (mL d H4 (j + 1), nI (j + 1))
            have lj : ¬ nI n ≤ nI j := le_nI (n := n) rfl hj (by omega)
            have ej := nI_clamp (n := j) (by omega)
            have bj : sk_bi (nI j) 3 = true := bi_nI (by omega) (by omega)
            obtain ⟨q1, q2⟩ := l3 j (by omega)
            simp only [q_X9_digest_346, l1, lj, bj, ej, q1, q2, s1_nI, mL, mx_f, ↓reduceIte]
          · show q_X9_digest_346 rec e (mL d H4 n) (nI n) = _
            have l : nI n ≤ nI n := nI_le (by omega) (by omega)
            simp only [q_X9_digest_346, l1, l, c9_placedMany h, c9_outMany hR, t2, mx_f, Option.bind_some, ↓reduceIte]
theorem px_digest {d e : sk_D} (hR : sk_R2 d e) : ∃ r : Int64, q_X8_digest d = some r ∧ q_X9_digest e = some r := by
  obtain ⟨l1, ⟨n, hn, en, l2⟩, l3⟩ := hR.2.2.2.2.1
  rw [en] at l1
  obtain ⟨nt, hnt, t1, t2, t3⟩ := hR.2.2.2.2.2.2
  have day := hR.2.2.2.2.2.1.2.2.2.1
  have h := hR.1.1
  exact ⟨dgv d n nt, dig8 hR hn en t1, dig9 hR hn l1 t2⟩
