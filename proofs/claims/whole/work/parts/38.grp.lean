/-! GROUPS, STOPS, LIFTS, TEXT *** by hand -/
theorem gk_cases (a b c : Int32) : ((∀ d, q_X8_isGroupKind d a b c = some 0) ∧ (∀ e, q_X9_areOfGroup e a b c = some 0)) ∨ ∃ l k p, l < 8 ∧ k < 6 ∧ 1 ≤ p ∧ p ≤ 6 ∧ a = nI l ∧ b = nI k ∧ c = nI p ∧ (∀ d, q_X8_isGroupKind d (nI l) (nI k) (nI p) = some 1) ∧ (∀ e, q_X9_areOfGroup e (nI l) (nI k) (nI p) = some 1) := by
  rcases wi_cases a 0 7 0 7 rfl rfl (by omega) with ⟨h8, h9⟩ | ⟨l, _, hl, rfl, h8, h9⟩
  · exact .inl ⟨fun d => by simp only [q_X8_isGroupKind, q_X8_isGroupKind_0, h8, Option.bind_some, ↓reduceIte], fun e => by simp only [q_X9_areOfGroup, q_X9_areOfGroup_0, q_X9_isLevel, q_X9_isLevel_0, h9, nb0, Option.bind_some, ↓reduceIte]⟩
  rcases wi_cases b 0 5 0 5 rfl rfl (by omega) with ⟨g8, g9⟩ | ⟨k, _, hk, rfl, g8, g9⟩
  · exact .inl ⟨fun d => by simp only [q_X8_isGroupKind, q_X8_isGroupKind_0, h8, g8, i10, Option.bind_some, ↓reduceIte], fun e => by simp only [q_X9_areOfGroup, q_X9_areOfGroup_0, q_X9_isLevel, q_X9_isLevel_0, h9, g9, nb1, i10, Option.bind_some, ↓reduceIte]⟩
  rcases wi_cases c 1 6 1 6 rfl rfl (by omega) with ⟨f8, f9⟩ | ⟨p, hp1, hp, rfl, f8, f9⟩
  · exact .inl ⟨fun d => by simp only [q_X8_isGroupKind, q_X8_isGroupKind_0, h8, g8, f8, i10, Option.bind_some, ↓reduceIte], fun e => by simp only [q_X9_areOfGroup, q_X9_areOfGroup_0, q_X9_isLevel, q_X9_isLevel_0, h9, g9, f9, nb1, i10, Option.bind_some, ↓reduceIte]⟩
  exact .inr ⟨l, k, p, by omega, by omega, hp1, hp, rfl, rfl, rfl, fun d => by simp only [q_X8_isGroupKind, q_X8_isGroupKind_0, h8, g8, f8, i10, Option.bind_some, ↓reduceIte], fun e => by simp only [q_X9_areOfGroup, q_X9_areOfGroup_0, q_X9_isLevel, q_X9_isLevel_0, h9, g9, f9, nb1, i10, Option.bind_some, ↓reduceIte]⟩
theorem free_g {d e : sk_D} (h : rG d e) : (∃ g, g < 4 ∧ ob d g = false ∧ q_X8_freeGroupNumber d = some (nI g) ∧ q_X9_freeGroup e = some (nI g) ∧ ¬ kc (ob d) 4 = 4) ∨ (q_X8_freeGroupNumber d = some (-9) ∧ kc (ob d) 4 = 4) := by
  have step : ∀ j, j < 4 → ob d j = true → ∀ rec : Int32 → Option Int32, q_X8_freeGroupNumber_2 rec d (nI j) = rec (nI (j + 1)) ∧ q_X9_freeGroup_2 rec e (nI j) = rec (nI (j + 1)) := by
    intro j hj hp rec
    have ej := nI_clamp (n := j) (by omega)
    have bj : sk_bi (nI j) 4 = true := bi_nI (by omega) (by omega)
    have lj : ¬ (4 : Int32) ≤ nI j := le_nI (n := 4) rfl hj (by omega)
    constructor
    · simp only [q_X8_freeGroupNumber_2, lj, bj, ej, (h.o1 hj hp).1, i10, s1_nI, ↓reduceIte]
    · simp only [q_X9_freeGroup_2, bj, ej, (h.o1 hj hp).2, s1_nI, ↓reduceIte]
  rcases fst_or (fun i => !ob d i) 4 with ⟨j, hj, h2, h3⟩ | hn
  · left
    have h2' : ob d j = false := by rw [← Bool.not_eq_true']; exact h2
    have h3' : ∀ i, i < j → ob d i = true := fun i hi => by rw [← Bool.not_eq_false']; exact h3 i hi
    have ej := nI_clamp (n := j) (by omega)
    have bj : sk_bi (nI j) 4 = true := bi_nI (by omega) (by omega)
    have lj : ¬ (4 : Int32) ≤ nI j := le_nI (n := 4) rfl hj (by omega)
    refine ⟨j, hj, h2', ?_, ?_, ?_⟩
    · refine it_for0 (F := fun rec2 a => q_X8_freeGroupNumber_2 rec2 d a) (fun i => nI i) j (fun i hi rec => (step i (by omega) (h3' i hi) rec).1) (fun rec => ?_) (by omega)
      show q_X8_freeGroupNumber_2 rec d (nI j) = some (nI j)
      simp only [q_X8_freeGroupNumber_2, lj, bj, ej, (h.o0 hj h2').1, ↓reduceIte]
    · refine it_for0 (F := fun rec2 a => q_X9_freeGroup_2 rec2 e a) (fun i => nI i) j (fun i hi rec => (step i (by omega) (h3' i hi) rec).2) (fun rec => ?_) (by omega)
      show q_X9_freeGroup_2 rec e (nI j) = some (nI j)
      simp only [q_X9_freeGroup_2, bj, ej, (h.o0 hj h2').2, i01, ↓reduceIte]
    · rw [kc_kn]
      refine ne_nI (n := 4) rfl ?_ ?_
      · intro q
        have := kn_all q j hj
        rw [h2'] at this
        cases this
      · have := kn_le (ob d) 4
        omega
  · right
    have hn' : ∀ i, i < 4 → ob d i = true := fun i hi => by rw [← Bool.not_eq_false']; exact hn i hi
    refine ⟨?_, by rw [kc_kn, kn_of hn']; rfl⟩
    refine it_for0 (F := fun rec2 a => q_X8_freeGroupNumber_2 rec2 d a) (fun i => nI i) 4 (fun i hi rec => (step i (by omega) (hn' i hi) rec).1) (fun rec => ?_) (by omega)
    show q_X8_freeGroupNumber_2 rec d (nI 4) = some (-9)
    have l : (4 : Int32) ≤ nI 4 := ge_nI (n := 4) rfl (by omega) (by omega)
    simp only [q_X8_freeGroupNumber_2, l, ↓reduceIte]
def og8 (d : sk_D) (g : Nat) (v1 v2 v3 : Int32) : sk_D := sk_wi (sk_wi (sk_wi (sk_wi (sk_wi (sk_wi (sk_wi d 39 g 0 (1 : Int32)) 39 g 1 v1) 39 g 2 v2) 39 g 3 v3) 39 g 4 (-9 : Int32)) 39 g 5 (0 : Int32)) 39 g 6 (0 : Int32)
def og9 (e : sk_D) (g : Nat) (v1 v2 v3 : Int32) : sk_D := sk_wi (sk_wi (sk_wi (sk_wi (sk_wi (sk_wi (sk_wi e 53 0 g (1 : Int32)) 54 0 g v1) 55 0 g v2) 56 0 g v3) 57 0 g (-9 : Int32)) 58 0 g (0 : Int32)) 59 0 g (0 : Int32)
theorem og_R {d e : sk_D} (hR : sk_R2 d e) {g l k p : Nat} (hg : g < 4) (hl : l < 8) (hk : k < 6) (hp1 : 1 ≤ p) (hp : p ≤ 6) : sk_R2 (og8 d g (nI l) (nI k) (nI p)) (og9 e g (nI l) (nI k) (nI p)) := by
  refine R2_gr hR g (fun s k' f hs n => ?_) (fun s f hs n1 n2 => ?_) (fun _ => ?_) (fun _ => ?_) (.inl ?_) (fun _ _ _ _ => ?_)
  · unfold og8
    rw [wi_o (by omega), wi_o (by omega), wi_o (by omega), wi_o (by omega), wi_o (by omega), wi_o (by omega), wi_o (by omega)]
  · unfold og9
    rw [wi_o (by omega), wi_o (by omega), wi_o (by omega), wi_o (by omega), wi_o (by omega), wi_o (by omega), wi_o (by omega)]
  · obtain ⟨_, _, r3, r4, _⟩ := hR.2.2.1.1 g hg
    refine ⟨.inr (by simp [og8, sk_wi, sk_up]), by simp [og8, og9, sk_wi, sk_up], ?_, ?_, fun _ => ⟨by simp [og8, og9, sk_wi, sk_up], by simp [og8, og9, sk_wi, sk_up], by simp [og8, og9, sk_wi, sk_up], by simp [og8, og9, sk_wi, sk_up], by simp [og8, og9, sk_wi, sk_up], by simp [og8, og9, sk_wi, sk_up], fun j _ hj => ?_⟩⟩
    · simp [og8, og9, sk_wi, sk_up, r3]
    · simp [og8, og9, sk_wi, sk_up, r4]
    · have : (og8 d g (nI l) (nI k) (nI p)).1 39 g 6 = 0 := by simp [og8, sk_wi, sk_up]
      rw [this] at hj
      exact absurd hj (nI_pos (by omega))
  · have q0 : (og8 d g (nI l) (nI k) (nI p)).1 39 g 0 = 1 := by simp [og8, sk_wi, sk_up]
    have q1 : (og8 d g (nI l) (nI k) (nI p)).1 39 g 1 = nI l := by simp [og8, sk_wi, sk_up]
    have q2 : (og8 d g (nI l) (nI k) (nI p)).1 39 g 2 = nI k := by simp [og8, sk_wi, sk_up]
    have q3 : (og8 d g (nI l) (nI k) (nI p)).1 39 g 3 = nI p := by simp [og8, sk_wi, sk_up]
    have q4 : (og8 d g (nI l) (nI k) (nI p)).1 39 g 4 = -9 := by simp [og8, sk_wi, sk_up]
    have q5 : (og8 d g (nI l) (nI k) (nI p)).1 39 g 5 = 0 := by simp [og8, sk_wi, sk_up]
    have q6 : (og8 d g (nI l) (nI k) (nI p)).1 39 g 6 = 0 := by simp [og8, sk_wi, sk_up]
    refine ⟨fun h => absurd (q0.symm.trans h) (by decide), fun _ => ?_⟩
    rw [q1, q2, q3, q4, q5, q6]
    exact ⟨⟨l, hl, rfl⟩, ⟨k, hk, rfl⟩, ⟨p, hp1, hp, rfl⟩, .inl rfl, ⟨0, by omega, rfl⟩, 0, by omega, rfl, fun j hj => absurd hj (Nat.not_lt_zero _)⟩
  · simp [og8, sk_wi, sk_up]
  · simp [og8, sk_wi, sk_up]
theorem px_openGroup (a b c : Int32) (d e : sk_D) (hR : sk_R2 d e) : ∃ (r : Int32) (d' e' : sk_D), q_X8_openGroup d a b c = some (r, d') ∧ q_X9_openGroup e a b c = some (r, e') ∧ sk_R2 d' e' ∧ sk_F8 d d' ∧ sk_F9 e e' := by
  rcases gk_cases a b c with ⟨h8, h9⟩ | ⟨l, k, p, hl, hk, hp1, hp, rfl, rfl, rfl, h8, h9⟩
  · exact ⟨-1, d, e, by simp only [q_X8_openGroup, q_X8_openGroup_0, h8, Option.bind_some, ↓reduceIte], by simp only [q_X9_openGroup, q_X9_openGroup_0, h9, Option.bind_some, ↓reduceIte], hR, sk_F8.rf d, sk_F9.rf e⟩
  rcases free_g hR.2.2.1.1 with ⟨g, hg, _, f8, f9, fm⟩ | ⟨f8, fm⟩
  · have w := (wi_in g (a := nI g) (lo := 0) (hi := 3) 0 3 rfl rfl rfl (by omega) (by omega) (by omega)).1 d
    have eg := nI_clamp (n := g) (by omega)
    have bg : sk_bi (nI g) 4 = true := bi_nI (by omega) (by omega)
    have e1 : q_X0_begin d g (nI l) (nI k) (nI p) = some (og8 d g (nI l) (nI k) (nI p)) := rfl
    refine ⟨nI g, og8 d g (nI l) (nI k) (nI p), og9 e g (nI l) (nI k) (nI p), by simp only [q_X8_openGroup, q_X8_openGroup_0, h8, f8, w, i10, bg, eg, e1, Option.bind_some, ↓reduceIte], ?_, og_R hR hg hl hk hp1 hp, ?_, ?_⟩
    · simp only [q_X9_openGroup, q_X9_openGroup_0, h9, c9_groupMany hR.2.2.1.1, fm, f9, i10, bg, eg, Option.bind_some, ↓reduceIte]
      rfl
    · exact (((((((sk_F8.rf d).wi _ _ _ _ (by omega)).wi _ _ _ _ (by omega)).wi _ _ _ _ (by omega)).wi _ _ _ _ (by omega)).wi _ _ _ _ (by omega)).wi _ _ _ _ (by omega)).wi _ _ _ _ (by omega)
    · exact (((((((sk_F9.rf e).wi _ _ _ _ (by omega)).wi _ _ _ _ (by omega)).wi _ _ _ _ (by omega)).wi _ _ _ _ (by omega)).wi _ _ _ _ (by omega)).wi _ _ _ _ (by omega)).wi _ _ _ _ (by omega)
  · exact ⟨-3, d, e, by simp only [q_X8_openGroup, q_X8_openGroup_0, h8, f8, wi_m9 0 3 0 3 rfl rfl (by omega), i10, Option.bind_some, ↓reduceIte], by simp only [q_X9_openGroup, q_X9_openGroup_0, h9, c9_groupMany hR.2.2.1.1, fm, i10, Option.bind_some, ↓reduceIte], hR, sk_F8.rf d, sk_F9.rf e⟩
/-- one field of an open group changed -/
theorem px_clearStops (a : Int32) (d e : sk_D) (hR : sk_R2 d e) : ∃ (r : Int32) (d' e' : sk_D), q_X8_clearStops d a = some (r, d') ∧ q_X9_clearStops e a = some (r, e') ∧ sk_R2 d' e' ∧ sk_F8 d d' ∧ sk_F9 e e' := by
  rcases hG hR.2.2.1.1 a with ⟨h8, h9⟩ | ⟨g, hg, rfl, h1, h8, h9⟩
  · exact ⟨-1, d, e, by simp only [q_X8_clearStops, q_X8_clearStops_0, h8, Option.bind_some, ↓reduceIte], by simp only [q_X9_clearStops, q_X9_clearStops_0, h9, Option.bind_some, ↓reduceIte], hR, sk_F8.rf d, sk_F9.rf e⟩
  have eg := nI_clamp (n := g) (by omega)
  have bg : sk_bi (nI g) 4 = true := bi_nI (by omega) (by omega)
  obtain ⟨r1, r2, r3, r4, r5⟩ := hR.2.2.1.1 g hg
  obtain ⟨p1, p2, p3, p4, p5, p6, p7⟩ := r5 h1
  obtain ⟨s1, s2, s3, s4, s5, _⟩ := (hR.2.2.1.2.1 g hg).2 h1
  refine ⟨d.1 39 g 6, sk_wi d 39 g 6 0, sk_wi e 59 0 g 0, by simp only [q_X8_clearStops, q_X8_clearStops_0, h8, i10, bg, eg, Option.bind_some, ↓reduceIte], by simp only [q_X9_clearStops, q_X9_clearStops_0, h9, i10, bg, eg, p6, Option.bind_some, ↓reduceIte], ?_, (sk_F8.rf d).wi _ _ _ _ (by omega), (sk_F9.rf e).wi _ _ _ _ (by omega)⟩
  refine R2_gr hR g (fun s k' f hs n => wi_o (by omega)) (fun s f hs n1 n2 => wi_o (by omega)) (fun _ => ?_) (fun _ => ?_) (.inr ⟨wi_o (by omega), h1⟩) (fun _ _ _ _ => (wi_o (by omega)).trans h1)
  all_goals
    have c (s f : Nat) (hf : ¬ (s = 39 ∧ f = 6)) (k : Nat) : (sk_wi d 39 g 6 0).1 s k f = d.1 s k f := wi_o (by omega)
    have u (s f : Nat) (hs : ¬ (s = 59)) : (sk_wi e 59 0 g 0).1 s 0 f = e.1 s 0 f := wi_o (by omega)
  · unfold rG1
    simp only [c 39 0 (by omega), c 39 1 (by omega), c 39 2 (by omega), c 39 3 (by omega), c 39 4 (by omega), c 39 5 (by omega), c 39 9 (by omega), c 39 10 (by omega), u 53 _ (by omega), u 54 _ (by omega), u 55 _ (by omega), u 56 _ (by omega), u 57 _ (by omega), u 58 _ (by omega), u 71 _ (by omega), u 72 _ (by omega), u 60 _ (by omega), u 61 _ (by omega), c 40 _ (by omega), c 41 _ (by omega), c 42 _ (by omega), c 0 _ (by omega)]
    refine ⟨r1, r2, r3, r4, fun _ => ⟨p1, p2, p3, p4, p5, wi_e.trans wi_e.symm, fun j _ hj => ?_⟩⟩
    rw [wi_e] at hj
    exact absurd hj (nI_pos (by omega))
  · unfold vG1
    simp only [c 39 0 (by omega), c 39 1 (by omega), c 39 2 (by omega), c 39 3 (by omega), c 39 4 (by omega), c 39 5 (by omega), c 39 9 (by omega), c 39 10 (by omega), u 53 _ (by omega), u 54 _ (by omega), u 55 _ (by omega), u 56 _ (by omega), u 57 _ (by omega), u 58 _ (by omega), u 71 _ (by omega), u 72 _ (by omega), u 60 _ (by omega), u 61 _ (by omega), c 40 _ (by omega), c 41 _ (by omega), c 42 _ (by omega), c 0 _ (by omega)]
    refine ⟨fun h => absurd (h1.symm.trans h) (by decide), fun _ => ⟨s1, s2, s3, s4, s5, 0, by omega, wi_e, fun j hj => absurd hj (Nat.not_lt_zero _)⟩⟩
theorem px_setStart (a b : Int32) (d e : sk_D) (hR : sk_R2 d e) : ∃ (r : Int32) (d' e' : sk_D), q_X8_setStart d a b = some (r, d') ∧ q_X9_setStart e a b = some (r, e') ∧ sk_R2 d' e' ∧ sk_F8 d d' ∧ sk_F9 e e' := by
  rcases hG hR.2.2.1.1 a with ⟨h8, h9⟩ | ⟨g, hg, rfl, h1, h8, h9⟩
  · exact ⟨-1, d, e, by simp only [q_X8_setStart, q_X8_setStart_0, h8, Option.bind_some, ↓reduceIte], by simp only [q_X9_setStart, q_X9_setStart_0, h9, Option.bind_some, ↓reduceIte], hR, sk_F8.rf d, sk_F9.rf e⟩
  rcases wi_cases b 0 60 0 60 rfl rfl (by omega) with ⟨g8, g9⟩ | ⟨m, _, hm, rfl, g8, g9⟩
  · exact ⟨-1, d, e, by simp only [q_X8_setStart, q_X8_setStart_0, h8, g8, i10, Option.bind_some, ↓reduceIte], by simp only [q_X9_setStart, q_X9_setStart_0, h9, g9, i10, Option.bind_some, ↓reduceIte], hR, sk_F8.rf d, sk_F9.rf e⟩
  have eg := nI_clamp (n := g) (by omega)
  have bg : sk_bi (nI g) 4 = true := bi_nI (by omega) (by omega)
  obtain ⟨r1, r2, r3, r4, r5⟩ := hR.2.2.1.1 g hg
  obtain ⟨p1, p2, p3, p4, p5, p6, p7⟩ := r5 h1
  obtain ⟨s1, s2, s3, s4, s5, s6⟩ := (hR.2.2.1.2.1 g hg).2 h1
  refine ⟨d.1 39 g 5, sk_wi d 39 g 5 (nI m), sk_wi e 58 0 g (nI m), by simp only [q_X8_setStart, q_X8_setStart_0, h8, g8, i10, bg, eg, Option.bind_some, ↓reduceIte], by simp only [q_X9_setStart, q_X9_setStart_0, h9, g9, i10, bg, eg, p5, Option.bind_some, ↓reduceIte], ?_, (sk_F8.rf d).wi _ _ _ _ (by omega), (sk_F9.rf e).wi _ _ _ _ (by omega)⟩
  refine R2_gr hR g (fun s k' f hs n => wi_o (by omega)) (fun s f hs n1 n2 => wi_o (by omega)) (fun _ => ?_) (fun _ => ?_) (.inr ⟨wi_o (by omega), h1⟩) (fun _ _ _ _ => (wi_o (by omega)).trans h1)
  all_goals
    have c (s f : Nat) (hf : ¬ (s = 39 ∧ f = 5)) (k : Nat) : (sk_wi d 39 g 5 (nI m)).1 s k f = d.1 s k f := wi_o (by omega)
    have u (s f : Nat) (hs : ¬ (s = 58)) : (sk_wi e 58 0 g (nI m)).1 s 0 f = e.1 s 0 f := wi_o (by omega)
  · unfold rG1
    simp only [c 39 0 (by omega), c 39 1 (by omega), c 39 2 (by omega), c 39 3 (by omega), c 39 4 (by omega), c 39 6 (by omega), c 39 9 (by omega), c 39 10 (by omega), u 53 _ (by omega), u 54 _ (by omega), u 55 _ (by omega), u 56 _ (by omega), u 57 _ (by omega), u 59 _ (by omega), u 71 _ (by omega), u 72 _ (by omega), u 60 _ (by omega), u 61 _ (by omega), c 40 _ (by omega), c 41 _ (by omega), c 42 _ (by omega), c 0 _ (by omega)]
    exact ⟨r1, r2, r3, r4, fun _ => ⟨p1, p2, p3, p4, wi_e.trans wi_e.symm, p6, p7⟩⟩
  · unfold vG1
    simp only [c 39 0 (by omega), c 39 1 (by omega), c 39 2 (by omega), c 39 3 (by omega), c 39 4 (by omega), c 39 6 (by omega), c 39 9 (by omega), c 39 10 (by omega), u 53 _ (by omega), u 54 _ (by omega), u 55 _ (by omega), u 56 _ (by omega), u 57 _ (by omega), u 59 _ (by omega), u 71 _ (by omega), u 72 _ (by omega), u 60 _ (by omega), u 61 _ (by omega), c 40 _ (by omega), c 41 _ (by omega), c 42 _ (by omega), c 0 _ (by omega)]
    exact ⟨fun h => absurd (h1.symm.trans h) (by decide), fun _ => ⟨s1, s2, s3, s4, ⟨m, by omega, wi_e⟩, s6⟩⟩
theorem px_addStop (a b c : Int32) (d e : sk_D) (hR : sk_R2 d e) : ∃ (r : Int32) (d' e' : sk_D), q_X8_addStop d a b c = some (r, d') ∧ q_X9_addStop e a b c = some (r, e') ∧ sk_R2 d' e' ∧ sk_F8 d d' ∧ sk_F9 e e' := by
  rcases hG hR.2.2.1.1 a with ⟨h8, h9⟩ | ⟨g, hg, rfl, h1, h8, h9⟩
  · exact ⟨-1, d, e, by simp only [q_X8_addStop, q_X8_addStop_0, h8, Option.bind_some, ↓reduceIte], by simp only [q_X9_addStop, q_X9_addStop_0, h9, Option.bind_some, ↓reduceIte], hR, sk_F8.rf d, sk_F9.rf e⟩
  rcases hL hR.2.2.2.2.1 b with ⟨g8, g9⟩ | ⟨l, hl, rfl, hl1, g8, g9⟩
  · exact ⟨-1, d, e, by simp only [q_X8_addStop, q_X8_addStop_0, h8, g8, i10, Option.bind_some, ↓reduceIte], by simp only [q_X9_addStop, q_X9_addStop_0, h9, g9, i10, Option.bind_some, ↓reduceIte], hR, sk_F8.rf d, sk_F9.rf e⟩
  rcases wi_cases c 1 20 1 20 rfl rfl (by omega) with ⟨f8, f9⟩ | ⟨m, hm1, hm, rfl, f8, f9⟩
  · exact ⟨-1, d, e, by simp only [q_X8_addStop, q_X8_addStop_0, h8, g8, f8, i10, Option.bind_some, ↓reduceIte], by simp only [q_X9_addStop, q_X9_addStop_0, h9, g9, f9, i10, Option.bind_some, ↓reduceIte], hR, sk_F8.rf d, sk_F9.rf e⟩
  have eg := nI_clamp (n := g) (by omega)
  have bg : sk_bi (nI g) 4 = true := bi_nI (by omega) (by omega)
  obtain ⟨r1, r2, r3, r4, r5⟩ := hR.2.2.1.1 g hg
  obtain ⟨p1, p2, p3, p4, p5, p6, p7⟩ := r5 h1
  obtain ⟨s1, s2, s3, s4, s5, n, hn, en, s6⟩ := (hR.2.2.1.2.1 g hg).2 h1
  have p6' : e.1 59 0 g = nI n := p6.trans en
  by_cases hn4 : n = 4
  · subst hn4
    have w : q_X8_within d (nI 4) 0 3 = some 0 := by
      rcases wi_cases (nI 4) 0 3 0 3 rfl rfl (by omega) with ⟨q, _⟩ | ⟨k, _, hk, q, _⟩
      · exact q d
      · rw [nI_eq (by omega) (by omega)] at q
        omega
    have e4 : (nI 4 = (4 : Int32)) = True := eq_true rfl
    exact ⟨-3, d, e, by simp only [q_X8_addStop, q_X8_addStop_0, h8, g8, f8, i10, bg, eg, en, w, Option.bind_some, ↓reduceIte], by simp only [q_X9_addStop, q_X9_addStop_0, h9, g9, f9, i10, bg, eg, p6', e4, Option.bind_some, ↓reduceIte], hR, sk_F8.rf d, sk_F9.rf e⟩
  have w := (wi_in n (a := nI n) (lo := 0) (hi := 3) 0 3 rfl rfl rfl (by omega) (by omega) (by omega)).1 d
  have ne := nI_clamp (n := n) (by omega)
  have bn : sk_bi (nI n) 4 = true := bi_nI (by omega) (by omega)
  have n4 : ¬ nI n = (4 : Int32) := ne_nI (n := 4) rfl hn4 (by omega)
  have e16 := nI_clamp (n := 4 * g + n) (by omega)
  have b16 : sk_bi (nI (4 * g + n)) 16 = true := bi_nI (by omega) (by omega)
  refine ⟨nI (n + 1), sk_wi (sk_wi (sk_wi d 40 g n (nI l)) 41 g n (nI m)) 39 g 6 (nI (n + 1)), sk_wi (sk_wi (sk_wi e 60 0 (4 * g + n) (nI l)) 61 0 (4 * g + n) (nI m)) 59 0 g (nI (n + 1)), ?_, ?_, ?_, ?_, ?_⟩
  · have t1 : (sk_wi d 40 g n (nI l)).1 39 g 6 = nI n := (wi_o (by omega)).trans en
    have t2 : (sk_wi (sk_wi d 40 g n (nI l)) 41 g n (nI m)).1 39 g 6 = nI n := (wi_o (by omega)).trans t1
    simp only [q_X8_addStop, q_X8_addStop_0, q_X8_addStop_71, q_X8_addStop_79, q_X8_addStop_89, h8, g8, f8, i10, bg, eg, en, w, bn, ne, t1, t2, s1_nI, wi_e, Option.bind_some, ↓reduceIte]
  · have t1 : (sk_wi e 60 0 (4 * g + n) (nI l)).1 59 0 g = nI n := (wi_o (by omega)).trans p6'
    have t2 : (sk_wi (sk_wi e 60 0 (4 * g + n) (nI l)) 61 0 (4 * g + n) (nI m)).1 59 0 g = nI n := (wi_o (by omega)).trans t1
    simp only [q_X9_addStop, q_X9_addStop_0, q_X9_addStop_69, q_X9_addStop_79, q_X9_addStop_88, h9, g9, f9, i10, bg, eg, p6', n4, x4_nI, b16, e16, t1, t2, s1_nI, wi_e, Option.bind_some, ↓reduceIte]
  · refine R2_gr hR g (fun s k' f hs n => ?_) (fun s f hs n1 n2 => ?_) (fun _ => ?_) (fun _ => ?_) (.inr ⟨?_, h1⟩) (fun _ _ _ _ => ?_)
    · rw [wi_o (by omega), wi_o (by omega), wi_o (by omega)]
    · rw [wi_o (by omega), wi_o (by omega), wi_o (by omega)]
    · have c39 (f : Nat) (hf : f ≠ 6) : (sk_wi (sk_wi (sk_wi d 40 g n (nI l)) 41 g n (nI m)) 39 g 6 (nI (n + 1))).1 39 g f = d.1 39 g f := by
        rw [wi_o (by omega), wi_o (by omega), wi_o (by omega)]
      have c (s : Nat) (hs : 53 ≤ s ∧ s ≤ 58 ∨ 71 ≤ s) : (sk_wi (sk_wi (sk_wi e 60 0 (4 * g + n) (nI l)) 61 0 (4 * g + n) (nI m)) 59 0 g (nI (n + 1))).1 s 0 g = e.1 s 0 g := by
        rw [wi_o (by omega), wi_o (by omega), wi_o (by omega)]
      refine ⟨?_, ?_, ?_, ?_, fun _ => ⟨?_, ?_, ?_, ?_, ?_, wi_e.trans wi_e.symm, fun j hj4 hj => ?_⟩⟩
      · rw [c39 0 (by omega)]
        exact r1
      · rw [c39 0 (by omega), c 53 (by omega)]
        exact r2
      · rw [c39 9 (by omega), c 71 (by omega)]
        exact r3
      · rw [c39 10 (by omega), c 72 (by omega)]
        exact r4
      · rw [c39 1 (by omega), c 54 (by omega)]
        exact p1
      · rw [c39 2 (by omega), c 55 (by omega)]
        exact p2
      · rw [c39 3 (by omega), c 56 (by omega)]
        exact p3
      · rw [c39 4 (by omega), c 57 (by omega)]
        exact p4
      · rw [c39 5 (by omega), c 58 (by omega)]
        exact p5
      · rw [wi_e, nI_ltI (by omega) (by omega)] at hj
        by_cases ej : j = n
        · subst ej
          constructor
          · rw [wi_o (by omega), wi_o (by omega), wi_e, wi_o (by omega), wi_o (by omega), wi_e]
          · rw [wi_o (by omega), wi_e, wi_o (by omega), wi_e]
        · have hjn : nI j < d.1 39 g 6 := by
            rw [en]
            exact nI_lt (by omega) (by omega)
          obtain ⟨y1, y2⟩ := p7 j hj4 hjn
          constructor
          · rw [wi_o (by omega), wi_o (by omega), wi_o (by omega), wi_o (by omega), wi_o (by omega), wi_o (by omega)]
            exact y1
          · rw [wi_o (by omega), wi_o (by omega), wi_o (by omega), wi_o (by omega), wi_o (by omega), wi_o (by omega)]
            exact y2
    · have c39 (f : Nat) (hf : f ≠ 6) : (sk_wi (sk_wi (sk_wi d 40 g n (nI l)) 41 g n (nI m)) 39 g 6 (nI (n + 1))).1 39 g f = d.1 39 g f := by
        rw [wi_o (by omega), wi_o (by omega), wi_o (by omega)]
      have c0 (f : Nat) : (sk_wi (sk_wi (sk_wi d 40 g n (nI l)) 41 g n (nI m)) 39 g 6 (nI (n + 1))).1 0 0 f = d.1 0 0 f := by
        rw [wi_o (by omega), wi_o (by omega), wi_o (by omega)]
      have c42 (i : Nat) : (sk_wi (sk_wi (sk_wi d 40 g n (nI l)) 41 g n (nI m)) 39 g 6 (nI (n + 1))).1 42 i 0 = d.1 42 i 0 := by
        rw [wi_o (by omega), wi_o (by omega), wi_o (by omega)]
      refine ⟨fun h => ?_, fun _ => ?_⟩
      · rw [c39 0 (by omega)] at h
        exact absurd (h1.symm.trans h) (by decide)
      · rw [c39 1 (by omega), c39 2 (by omega), c39 3 (by omega), c39 4 (by omega), c39 5 (by omega), wi_e]
        simp only [c42, c0]
        refine ⟨s1, s2, s3, s4, s5, n + 1, by omega, rfl, fun j hj => ?_⟩
        by_cases ej : j = n
        · subst ej
          refine ⟨⟨l, hl, ?_, hl1⟩, m, hm1, hm, ?_⟩
          · rw [wi_o (by omega), wi_o (by omega), wi_e]
          · rw [wi_o (by omega), wi_e]
        · obtain ⟨y1, y2⟩ := s6 j (by omega)
          rw [wi_o (by omega), wi_o (by omega), wi_o (by omega), wi_o (by omega), wi_o (by omega), wi_o (by omega)]
          exact ⟨y1, y2⟩
    · rw [wi_o (by omega), wi_o (by omega), wi_o (by omega)]
    · rw [wi_o (by omega), wi_o (by omega), wi_o (by omega)]
      exact h1
  · exact (((sk_F8.rf d).wi _ _ _ _ (by omega)).wi _ _ _ _ (by omega)).wi _ _ _ _ (by omega)
  · exact (((sk_F9.rf e).wi _ _ _ _ (by omega)).wi _ _ _ _ (by omega)).wi _ _ _ _ (by omega)
