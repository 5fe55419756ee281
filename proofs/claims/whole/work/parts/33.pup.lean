/-! PUPILS: counts, members, families kept together, tests *** by hand -/
def bI (b : Bool) : Int32 := if b then 1 else 0
theorem bI_t : bI true = 1 := rfl
theorem bI_f : bI false = 0 := rfl
theorem iff_w {α : Type} (b : Bool) (x y : α) : (if bI b = 0 then x else y) = if b = true then y else x := by cases b <;> rfl
def pb (d : sk_D) (k : Nat) : Bool := decide (d.1 37 k 0 = 1)
def mb (d : sk_D) (f : Int32) (k : Nat) : Bool := pb d k && decide (d.1 37 k 3 = f)
def gb (d : sk_D) (g : Int32) (k : Nat) : Bool := pb d k && decide (d.1 37 k 4 = g)
theorem rP.p0 {d e : sk_D} (h : rP d e) {k : Nat} (hk : k < 20) (hp : pb d k = false) : d.1 37 k 0 = 0 ∧ e.1 45 0 k = 0 := by
  obtain ⟨h1, h2, _⟩ := h k hk
  rcases h1 with h1 | h1
  · exact ⟨h1, h2.trans h1⟩
  · unfold pb at hp
    rw [h1] at hp
    cases hp
theorem rP.p1 {d e : sk_D} (h : rP d e) {k : Nat} (hk : k < 20) (hp : pb d k = true) : d.1 37 k 0 = 1 ∧ e.1 45 0 k = 1 := by
  have h1 : d.1 37 k 0 = 1 := of_decide_eq_true hp
  exact ⟨h1, (h k hk).2.1.trans h1⟩
theorem c8_pupils {d e : sk_D} (h : rP d e) : q_X8_pupils d = some (kc (pb d) 20) := by
  refine it_for0 (F := fun rec4 a => q_X8_pupils_4 rec4 d a.1 a.2) (fun i => (kc (pb d) i, nI i)) 20 (fun j hj rec => ?_) (fun rec => ?_) (by omega)
  · show q_X8_pupils_4 rec d (kc (pb d) j) (nI j) = rec (kc (pb d) (j + 1), nI (j + 1))
    have ej := nI_clamp (n := j) (by omega)
    have bj : sk_bi (nI j) 20 = true := bi_nI (by omega) (by omega)
    have lj : ¬ (20 : Int32) ≤ nI j := le_nI (n := 20) rfl hj (by omega)
    cases hp : pb d j with
    | false =>
      have h0 := (h.p0 hj hp).1
      simp only [q_X8_pupils_4, q_X8_pupils_25, lj, bj, ej, h0, s1_nI, kc, hp, ↓reduceIte, Bool.false_eq_true]
    | true =>
      have h1 := (h.p1 hj hp).1
      simp only [q_X8_pupils_4, q_X8_pupils_25, lj, bj, ej, h1, i10, s1_nI, kc, hp, ↓reduceIte]
  · show q_X8_pupils_4 rec d (kc (pb d) 20) (nI 20) = some (kc (pb d) 20)
    have l : (20 : Int32) ≤ nI 20 := ge_nI (n := 20) rfl (by omega) (by omega)
    simp only [q_X8_pupils_4, l, ↓reduceIte]
theorem c9_pupilMany {d e : sk_D} (h : rP d e) : q_X9_pupilMany e = some (kc (pb d) 20) := by
  refine it_for0 (F := fun rec4 a => q_X9_pupilMany_4 rec4 e a.1 a.2) (fun i => (kc (pb d) i, nI i)) 20 (fun j hj rec => ?_) (fun rec => ?_) (by omega)
  · show q_X9_pupilMany_4 rec e (kc (pb d) j) (nI j) = rec (kc (pb d) (j + 1), nI (j + 1))
    have ej := nI_clamp (n := j) (by omega)
    have bj : sk_bi (nI j) 20 = true := bi_nI (by omega) (by omega)
    have lj : ¬ (20 : Int32) ≤ nI j := le_nI (n := 20) rfl hj (by omega)
    cases hp : pb d j with
    | false =>
      have h0 := (h.p0 hj hp).2
      simp only [q_X9_pupilMany_4, lj, bj, ej, h0, s1_nI, kc, hp, ↓reduceIte, Bool.false_eq_true, Int32.add_zero]
    | true =>
      have h1 := (h.p1 hj hp).2
      simp only [q_X9_pupilMany_4, lj, bj, ej, h1, s1_nI, kc, hp, ↓reduceIte]
  · show q_X9_pupilMany_4 rec e (kc (pb d) 20) (nI 20) = some (kc (pb d) 20)
    have l : (20 : Int32) ≤ nI 20 := ge_nI (n := 20) rfl (by omega) (by omega)
    simp only [q_X9_pupilMany_4, l, ↓reduceIte]
theorem px_pupils {d e : sk_D} (hR : sk_R2 d e) : ∃ r : Int32, q_X8_pupils d = some r ∧ q_X9_pupils e = some r :=
  ⟨_, c8_pupils hR.1.1, by simp only [q_X9_pupils, q_X9_pupils_0, c9_pupilMany hR.1.1, Option.bind_some]⟩
theorem px_nextDay (d e : sk_D) (hR : sk_R2 d e) : ∃ (a : Int32) (d' e' : sk_D), q_X8_nextDay d = some (a, d') ∧ q_X9_nextDay e = some (a, e') ∧ sk_R2 d' e' ∧ sk_F8 d d' ∧ sk_F9 e e' := by
  refine ⟨d.1 0 0 13 + 1, sk_wi d 0 0 13 (d.1 0 0 13 + 1), sk_wi e 44 0 0 (e.1 44 0 0 + 1), rfl, ?_, ?_, (sk_F8.rf d).wi 0 0 13 _ (by omega), (sk_F9.rf e).wi 44 0 0 _ (by omega)⟩
  · rw [← hR.2.2.2.2.2.1.2.2.2.1]
    rfl
  · obtain ⟨⟨hP, wP⟩, hF, ⟨hG, wG, wD⟩, ⟨hI, wI⟩, hL, hM, hT⟩ := hR
    refine ⟨⟨hP, wP⟩, hF, ⟨hG, wG, wD⟩, ⟨hI, wI⟩, hL, ?_, hT⟩
    obtain ⟨m1, m2, m3, m4, m5⟩ := hM
    exact ⟨m1, m2, m3, congrArg (· + 1) m4, m5⟩
theorem px_setMarks (a b c : Int32) (d e : sk_D) (hR : sk_R2 d e) : ∃ (r : Int32) (d' e' : sk_D), q_X8_setMarks d a b c = some (r, d') ∧ q_X9_setMarks e a b c = some (r, e') ∧ sk_R2 d' e' ∧ sk_F8 d d' ∧ sk_F9 e e' := by
  rcases wi_cases a 0 40 0 40 rfl rfl (by omega) with ⟨h8, h9⟩ | ⟨k, _, hk, rfl, h8, h9⟩
  · exact ⟨-1, d, e, by simp only [q_X8_setMarks, q_X8_setMarks_0, h8, Option.bind_some, ↓reduceIte], by simp only [q_X9_setMarks, q_X9_setMarks_0, h9, Option.bind_some, ↓reduceIte], hR, sk_F8.rf d, sk_F9.rf e⟩
  rcases wi_cases b 0 10 0 10 rfl rfl (by omega) with ⟨g8, g9⟩ | ⟨j, _, hj, rfl, g8, g9⟩
  · exact ⟨-1, d, e, by simp only [q_X8_setMarks, q_X8_setMarks_0, h8, g8, i10, Option.bind_some, ↓reduceIte], by simp only [q_X9_setMarks, q_X9_setMarks_0, h9, g9, i10, Option.bind_some, ↓reduceIte], hR, sk_F8.rf d, sk_F9.rf e⟩
  rcases wi_cases c 0 (nI k) 0 k rfl rfl (by omega) with ⟨f8, f9⟩ | ⟨i, _, hi, rfl, f8, f9⟩
  · exact ⟨-1, d, e, by simp only [q_X8_setMarks, q_X8_setMarks_0, h8, g8, f8, i10, Option.bind_some, ↓reduceIte], by simp only [q_X9_setMarks, q_X9_setMarks_0, h9, g9, f9, i10, Option.bind_some, ↓reduceIte], hR, sk_F8.rf d, sk_F9.rf e⟩
  refine ⟨d.1 0 0 10, sk_wi (sk_wi (sk_wi d 0 0 10 (nI k)) 0 0 11 (nI j)) 0 0 12 (nI i), sk_wi (sk_wi (sk_wi e 44 0 1 (nI k)) 44 0 2 (nI j)) 44 0 3 (nI i), by simp only [q_X8_setMarks, q_X8_setMarks_0, h8, g8, f8, i10, Option.bind_some, ↓reduceIte], ?_, ?_, (((sk_F8.rf d).wi _ _ _ _ (by omega)).wi _ _ _ _ (by omega)).wi _ _ _ _ (by omega), (((sk_F9.rf e).wi _ _ _ _ (by omega)).wi _ _ _ _ (by omega)).wi _ _ _ _ (by omega)⟩
  · simp only [q_X9_setMarks, q_X9_setMarks_0, h9, g9, f9, i10, Option.bind_some, ↓reduceIte, hR.2.2.2.2.2.1.1]
  · obtain ⟨⟨hP, wP⟩, hF, ⟨hG, wG, wD⟩, ⟨hI, wI⟩, hL, hM, hT⟩ := hR
    refine ⟨⟨hP, wP⟩, hF, ⟨hG, wG, wD⟩, ⟨hI, wI⟩, hL, ?_, hT⟩
    obtain ⟨m1, m2, m3, m4, m5⟩ := hM
    exact ⟨rfl, rfl, rfl, m4, j, by omega, rfl⟩
theorem px_removePupil (a : Int32) (d e : sk_D) (hR : sk_R2 d e) : ∃ (r : Int32) (d' e' : sk_D), q_X8_removePupil d a = some (r, d') ∧ q_X9_removePupil e a = some (r, e') ∧ sk_R2 d' e' ∧ sk_F8 d d' ∧ sk_F9 e e' := by
  rcases hP hR.1.1 a with ⟨h8, h9⟩ | ⟨k, hk, rfl, h1, h8, h9⟩
  · exact ⟨-1, d, e, by simp only [q_X8_removePupil, q_X8_removePupil_0, h8, Option.bind_some, ↓reduceIte], by simp only [q_X9_removePupil, q_X9_removePupil_0, h9, Option.bind_some, ↓reduceIte], hR, sk_F8.rf d, sk_F9.rf e⟩
  have ek := nI_clamp (n := k) (by omega)
  have bk : sk_bi (nI k) 20 = true := bi_nI (by omega) (by omega)
  have hR' : sk_R2 (sk_wi d 37 k 0 0) (sk_wi e 45 0 k 0) := by
    refine R2_pup hR k (fun s k' f hs n1 n2 => ?_) (fun s f hs n1 n2 => ?_) (fun _ => ?_) (fun _ hp => ?_)
    · show (if s = 37 ∧ k' = k ∧ f = 0 then _ else _) = _
      rw [if_neg (by omega)]
    · show (if s = 45 ∧ 0 = 0 ∧ f = k then _ else _) = _
      rw [if_neg (by omega)]
    · have e1 : (sk_wi d 37 k 0 0).1 37 k 0 = 0 := if_pos ⟨rfl, rfl, rfl⟩
      have e2 : (sk_wi e 45 0 k 0).1 45 0 k = 0 := if_pos ⟨rfl, rfl, rfl⟩
      refine ⟨.inl e1, e2.trans e1.symm, fun h => ?_⟩
      rw [e1] at h
      exact absurd h (by decide)
    · have e1 : (sk_wi d 37 k 0 0).1 37 k 0 = 0 := if_pos ⟨rfl, rfl, rfl⟩
      rw [e1] at hp
      exact absurd hp (by decide)
  refine ⟨kc (pb (sk_wi d 37 k 0 0)) 20, sk_wi d 37 k 0 0, sk_wi e 45 0 k 0, ?_, ?_, hR', (sk_F8.rf d).wi _ _ _ _ (by omega), (sk_F9.rf e).wi _ _ _ _ (by omega)⟩
  · simp only [q_X8_removePupil, q_X8_removePupil_0, q_X8_removePupil_21, h8, Option.bind_some, i10, ek, bk, ↓reduceIte, c8_pupils hR'.1.1]
  · simp only [q_X9_removePupil, q_X9_removePupil_0, q_X9_removePupil_18, h9, Option.bind_some, i10, ek, bk, ↓reduceIte, c9_pupilMany hR'.1.1]
/-! families -/
theorem m8 {d e : sk_D} (h : rP d e) (f : Int32) {k : Nat} (hk : k < 20) : q_X4_isMember d k f = some (bI (mb d f k)) := by
  unfold mb
  cases hp : pb d k with
  | false => simp only [q_X4_isMember, q_X4_isMember_0, (h.p0 hk hp).1, ↓reduceIte, Bool.false_and, bI_f]
  | true =>
    by_cases hf : d.1 37 k 3 = f
    · simp only [q_X4_isMember, q_X4_isMember_0, (h.p1 hk hp).1, i10, hf, ↓reduceIte, Bool.true_and, decide_true, bI_t]
    · simp only [q_X4_isMember, q_X4_isMember_0, (h.p1 hk hp).1, i10, hf, ↓reduceIte, Bool.true_and, decide_false, bI_f]
theorem m9 {d e : sk_D} (h : rP d e) (f : Int32) {k : Nat} (hk : k < 20) : q_X9_isOf e (nI k) f = some (bI (mb d f k)) := by
  have ek := nI_clamp (n := k) (by omega)
  have bk : sk_bi (nI k) 20 = true := bi_nI (by omega) (by omega)
  unfold mb
  cases hp : pb d k with
  | false => simp only [q_X9_isOf, q_X9_isOf_0, (h.p0 hk hp).2, ek, bk, i01, ↓reduceIte, Bool.false_and, bI_f]
  | true =>
    have e3 := ((h k hk).2.2 (h.p1 hk hp).1).2.2.1
    by_cases hf : d.1 37 k 3 = f
    · simp only [q_X9_isOf, q_X9_isOf_0, (h.p1 hk hp).2, ek, bk, e3, hf, ↓reduceIte, Bool.true_and, decide_true, bI_t]
    · simp only [q_X9_isOf, q_X9_isOf_0, (h.p1 hk hp).2, ek, bk, e3, hf, ↓reduceIte, Bool.true_and, decide_false, bI_f]
theorem i8 {d e : sk_D} (h : rP d e) (g : Int32) {k : Nat} (hk : k < 20) : q_X4_isIn d k g = some (bI (gb d g k)) := by
  unfold gb
  cases hp : pb d k with
  | false => simp only [q_X4_isIn, q_X4_isIn_0, (h.p0 hk hp).1, ↓reduceIte, Bool.false_and, bI_f]
  | true =>
    by_cases hf : d.1 37 k 4 = g
    · simp only [q_X4_isIn, q_X4_isIn_0, (h.p1 hk hp).1, i10, hf, ↓reduceIte, Bool.true_and, decide_true, bI_t]
    · simp only [q_X4_isIn, q_X4_isIn_0, (h.p1 hk hp).1, i10, hf, ↓reduceIte, Bool.true_and, decide_false, bI_f]
