/-! dismiss, canTeach, addLift, type, clearText, pay *** by hand -/
theorem px_clearText (d e : sk_D) (hR : sk_R2 d e) : ∃ (r : Int32) (d' e' : sk_D), q_X8_clearText d = some (r, d') ∧ q_X9_clearText e = some (r, e') ∧ sk_R2 d' e' ∧ sk_F8 d d' ∧ sk_F9 e e' := by
  obtain ⟨n, hn, t1, t2, t3⟩ := hR.2.2.2.2.2.2
  refine ⟨nI n, sk_wi d 35 0 1 0, sk_wi e 44 0 36 0, ?_, ?_, ?_, (sk_F8.rf d).wi _ _ _ _ (by omega), (sk_F9.rf e).wi _ _ _ _ (by omega)⟩
  · simp only [q_X8_clearText, q_X8_clearText_0, t1]
  · simp only [q_X9_clearText, q_X9_clearText_0, t2]
  · obtain ⟨⟨hP, wP⟩, hF, ⟨hG, wG, wD⟩, ⟨hI, wI⟩, hL, hM, hT⟩ := hR
    exact ⟨⟨hP, wP⟩, hF, ⟨hG, wG, wD⟩, ⟨hI, wI⟩, hL, hM, 0, by omega, rfl, rfl, fun j hj => absurd hj (Nat.not_lt_zero _)⟩
theorem chr_dec : ∀ c, c < 127 → vp_nar .char (((nI c).toUInt32 % 65536).toInt32) = nI c := by decide +kernel
theorem px_type (a : Int32) (d e : sk_D) (hR : sk_R2 d e) : ∃ (r : Int32) (d' e' : sk_D), q_X8_type d a = some (r, d') ∧ q_X9_type e a = some (r, e') ∧ sk_R2 d' e' ∧ sk_F8 d d' ∧ sk_F9 e e' := by
  rcases wi_cases a 32 126 32 126 rfl rfl (by omega) with ⟨h8, h9⟩ | ⟨c, hc1, hc, rfl, h8, h9⟩
  · exact ⟨-1, d, e, by simp only [q_X8_type, q_X8_type_0, h8, Option.bind_some, ↓reduceIte], by simp only [q_X9_type, q_X9_type_0, h9, Option.bind_some, ↓reduceIte], hR, sk_F8.rf d, sk_F9.rf e⟩
  obtain ⟨n, hn, t1, t2, t3⟩ := hR.2.2.2.2.2.2
  by_cases hn1 : n = 100
  · subst hn1
    have w : q_X8_within d (nI 100) 0 99 = some 0 := by
      rcases wi_cases (nI 100) 0 99 0 99 rfl rfl (by omega) with ⟨q, _⟩ | ⟨k, _, hk, q, _⟩
      · exact q d
      · rw [nI_eq (by omega) (by omega)] at q
        omega
    have e4 : (nI 100 = (100 : Int32)) = True := eq_true rfl
    exact ⟨-3, d, e, by simp only [q_X8_type, q_X8_type_0, h8, i10, t1, w, Option.bind_some, ↓reduceIte], by simp only [q_X9_type, q_X9_type_0, h9, i10, t2, e4, Option.bind_some, ↓reduceIte], hR, sk_F8.rf d, sk_F9.rf e⟩
  have w := (wi_in n (a := nI n) (lo := 0) (hi := 99) 0 99 rfl rfl rfl (by omega) (by omega) (by omega)).1 d
  have en := nI_clamp (n := n) (by omega)
  have bn : sk_bi (nI n) 100 = true := bi_nI (by omega) (by omega)
  have n4 : ¬ nI n = (100 : Int32) := ne_nI (n := 100) rfl hn1 (by omega)
  have d1 : (sk_wi d 36 0 n (nI c)).1 35 0 1 = nI n := (wi_o (by omega)).trans t1
  have e1 : (sk_wi e 75 0 n (nI c)).1 44 0 36 = nI n := (wi_o (by omega)).trans t2
  refine ⟨nI (n + 1), sk_wi (sk_wi d 36 0 n (nI c)) 35 0 1 (nI (n + 1)), sk_wi (sk_wi e 75 0 n (nI c)) 44 0 36 (nI (n + 1)), ?_, ?_, ?_, ((sk_F8.rf d).wi _ _ _ _ (by omega)).wi _ _ _ _ (by omega), ((sk_F9.rf e).wi _ _ _ _ (by omega)).wi _ _ _ _ (by omega)⟩
  · simp only [q_X8_type, q_X8_type_0, q_X8_type_54, q_X8_type_66, h8, i10, t1, w, bn, en, chr_dec c (by omega), d1, s1_nI, wi_e, Option.bind_some, ↓reduceIte]
  · simp only [q_X9_type, q_X9_type_0, q_X9_type_37, q_X9_type_46, h9, i10, t2, n4, bn, en, e1, s1_nI, wi_e, Option.bind_some, ↓reduceIte]
  · obtain ⟨⟨hP, wP⟩, hF, ⟨hG, wG, wD⟩, ⟨hI, wI⟩, hL, hM, hT⟩ := hR
    refine ⟨⟨hP, wP⟩, hF, ⟨hG, wG, wD⟩, ⟨hI, wI⟩, hL, hM, n + 1, by omega, wi_e, wi_e, fun j hj => ?_⟩
    by_cases ej : j = n
    · subst ej
      rw [wi_o (by omega), wi_e, wi_o (by omega), wi_e]
      exact ⟨rfl, c, hc1, hc, rfl⟩
    · rw [wi_o (by omega), wi_o (by omega), wi_o (by omega), wi_o (by omega)]
      exact t3 j (by omega)
theorem px_addLift (a b c : Int32) (d e : sk_D) (hR : sk_R2 d e) : ∃ (r : Int32) (d' e' : sk_D), q_X8_addLift d a b c = some (r, d') ∧ q_X9_addLift e a b c = some (r, e') ∧ sk_R2 d' e' ∧ sk_F8 d d' ∧ sk_F9 e e' := by
  rcases wi_cases a 1 8 1 8 rfl rfl (by omega) with ⟨h8, h9⟩ | ⟨x, hx1, hx, rfl, h8, h9⟩
  · exact ⟨-1, d, e, by simp only [q_X8_addLift, q_X8_addLift_0, h8, Option.bind_some, ↓reduceIte], by simp only [q_X9_addLift, q_X9_addLift_0, h9, Option.bind_some, ↓reduceIte], hR, sk_F8.rf d, sk_F9.rf e⟩
  rcases wi_cases b 1 10 1 10 rfl rfl (by omega) with ⟨g8, g9⟩ | ⟨y, hy1, hy, rfl, g8, g9⟩
  · exact ⟨-1, d, e, by simp only [q_X8_addLift, q_X8_addLift_0, h8, g8, i10, Option.bind_some, ↓reduceIte], by simp only [q_X9_addLift, q_X9_addLift_0, h9, g9, i10, Option.bind_some, ↓reduceIte], hR, sk_F8.rf d, sk_F9.rf e⟩
  rcases wi_cases c 1 20 1 20 rfl rfl (by omega) with ⟨f8, f9⟩ | ⟨z, hz1, hz, rfl, f8, f9⟩
  · exact ⟨-1, d, e, by simp only [q_X8_addLift, q_X8_addLift_0, h8, g8, f8, i10, Option.bind_some, ↓reduceIte], by simp only [q_X9_addLift, q_X9_addLift_0, h9, g9, f9, i10, Option.bind_some, ↓reduceIte], hR, sk_F8.rf d, sk_F9.rf e⟩
  obtain ⟨l1, ⟨n, hn, en, l2⟩, l3⟩ := hR.2.2.2.2.1
  rw [en] at l1
  by_cases hn1 : n = 3
  · subst hn1
    have w : q_X8_within d (nI 3) 0 2 = some 0 := by
      rcases wi_cases (nI 3) 0 2 0 2 rfl rfl (by omega) with ⟨q, _⟩ | ⟨k, _, hk, q, _⟩
      · exact q d
      · rw [nI_eq (by omega) (by omega)] at q
        omega
    have e4 : (nI 3 = (3 : Int32)) = True := eq_true rfl
    exact ⟨-3, d, e, by simp only [q_X8_addLift, q_X8_addLift_0, h8, g8, f8, i10, en, w, Option.bind_some, ↓reduceIte], by simp only [q_X9_addLift, q_X9_addLift_0, h9, g9, f9, i10, l1, e4, Option.bind_some, ↓reduceIte], hR, sk_F8.rf d, sk_F9.rf e⟩
  have w := (wi_in n (a := nI n) (lo := 0) (hi := 2) 0 2 rfl rfl rfl (by omega) (by omega) (by omega)).1 d
  have nn := nI_clamp (n := n) (by omega)
  have bn : sk_bi (nI n) 3 = true := bi_nI (by omega) (by omega)
  have n4 : ¬ nI n = (3 : Int32) := ne_nI (n := 3) rfl hn1 (by omega)
  have d3 : (sk_wi (sk_wi (sk_wi d 43 n 0 (nI x)) 43 n 1 (nI y)) 43 n 2 (nI z)).1 0 0 9 = nI n := by rw [wi_o (by omega), wi_o (by omega), wi_o (by omega), en]
  have e1 : (sk_wi e 68 0 n (nI x)).1 44 0 27 = nI n := by rw [wi_o (by omega), l1]
  have e2 : (sk_wi (sk_wi e 68 0 n (nI x)) 69 0 n (nI y)).1 44 0 27 = nI n := by rw [wi_o (by omega), e1]
  have e3 : (sk_wi (sk_wi (sk_wi e 68 0 n (nI x)) 69 0 n (nI y)) 70 0 n (nI z)).1 44 0 27 = nI n := by rw [wi_o (by omega), e2]
  refine ⟨nI n, sk_wi (sk_wi (sk_wi (sk_wi d 43 n 0 (nI x)) 43 n 1 (nI y)) 43 n 2 (nI z)) 0 0 9 (nI (n + 1)), sk_wi (sk_wi (sk_wi (sk_wi e 68 0 n (nI x)) 69 0 n (nI y)) 70 0 n (nI z)) 44 0 27 (nI (n + 1)), ?_, ?_, ?_, ?_, ?_⟩
  · simp only [q_X8_addLift, q_X8_addLift_0, q_X8_addLift_78, q_X8_addLift_87, h8, g8, f8, i10, en, w, bn, nn, d3, s1_nI, wi_e, nI_pred, Option.bind_some, ↓reduceIte]
  · simp only [q_X9_addLift, q_X9_addLift_0, q_X9_addLift_58, q_X9_addLift_68, q_X9_addLift_75, q_X9_addLift_84, h9, g9, f9, i10, l1, n4, bn, nn, e1, e2, e3, s1_nI, wi_e, nI_pred, Option.bind_some, ↓reduceIte]
  · obtain ⟨⟨hP, wP⟩, hF, ⟨hG, wG, wD⟩, ⟨hI, wI⟩, hL, hM, hT⟩ := hR
    refine ⟨⟨hP, wP⟩, hF, ⟨hG, fun h hh => ?_, wD⟩, ⟨hI, wI⟩, ⟨wi_e.trans wi_e.symm, ⟨n + 1, by omega, wi_e, fun l hl => ?_⟩, fun l hl => ?_⟩, hM, hT⟩
    · obtain ⟨w1, w2⟩ := wG h hh
      refine ⟨w1, fun ho => ?_⟩
      obtain ⟨s1, s2, s3, s4, s5, s, hs, es, s6⟩ := w2 ho
      refine ⟨s1, s2, s3, s4, s5, s, hs, es, fun j hj => ?_⟩
      obtain ⟨⟨l, q1, q2, q3⟩, q4⟩ := s6 j hj
      refine ⟨⟨l, q1, q2, ?_⟩, q4⟩
      rw [wi_e]
      rw [en, nI_ltI (by omega) (by omega)] at q3
      rw [nI_ltI (by omega) (by omega)]
      omega
    · by_cases el : l = n
      · subst el
        refine ⟨by simp [sk_wi, sk_up], by simp [sk_wi, sk_up], by simp [sk_wi, sk_up], ⟨x, hx1, hx, by simp [sk_wi, sk_up]⟩, ⟨y, hy1, hy, by simp [sk_wi, sk_up]⟩, ⟨z, hz1, hz, by simp [sk_wi, sk_up]⟩⟩
      · have a (f : Nat) : (sk_wi (sk_wi (sk_wi (sk_wi d 43 n 0 (nI x)) 43 n 1 (nI y)) 43 n 2 (nI z)) 0 0 9 (nI (n + 1))).1 43 l f = d.1 43 l f := by
          rw [wi_o (by omega), wi_o (by omega), wi_o (by omega), wi_o (by omega)]
        have b (s : Nat) (hs : s ≠ 44) : (sk_wi (sk_wi (sk_wi (sk_wi e 68 0 n (nI x)) 69 0 n (nI y)) 70 0 n (nI z)) 44 0 27 (nI (n + 1))).1 s 0 l = e.1 s 0 l := by
          rw [wi_o (by omega), wi_o (by omega), wi_o (by omega), wi_o (by omega)]
        rw [a, a, a, b 68 (by omega), b 69 (by omega), b 70 (by omega)]
        exact l2 l (by omega)
    · have a (f : Nat) (hf : 3 ≤ f) : (sk_wi (sk_wi (sk_wi (sk_wi d 43 n 0 (nI x)) 43 n 1 (nI y)) 43 n 2 (nI z)) 0 0 9 (nI (n + 1))).1 43 l f = d.1 43 l f := by
        rw [wi_o (by omega), wi_o (by omega), wi_o (by omega), wi_o (by omega)]
      have b (s : Nat) (hs : 71 ≤ s) : (sk_wi (sk_wi (sk_wi (sk_wi e 68 0 n (nI x)) 69 0 n (nI y)) 70 0 n (nI z)) 44 0 27 (nI (n + 1))).1 s 0 l = e.1 s 0 l := by
        rw [wi_o (by omega), wi_o (by omega), wi_o (by omega), wi_o (by omega)]
      rw [a 3 (by omega), a 4 (by omega), b 73 (by omega), b 74 (by omega)]
      exact l3 l hl
  · exact ((((sk_F8.rf d).wi _ _ _ _ (by omega)).wi _ _ _ _ (by omega)).wi _ _ _ _ (by omega)).wi _ _ _ _ (by omega)
  · exact ((((sk_F9.rf e).wi _ _ _ _ (by omega)).wi _ _ _ _ (by omega)).wi _ _ _ _ (by omega)).wi _ _ _ _ (by omega)
/-- an instructor who can teach a group -/
def wib (a lo hi : Int32) : Bool := !decide (a < lo) && !decide (hi < a)
theorem wib8 (d : sk_D) (a lo hi : Int32) : q_X8_within d a lo hi = some (bI (wib a lo hi)) ∧ q_X9_within d a lo hi = some (bI (wib a lo hi)) := by
  unfold wib
  simp only [q_X8_within, q_X8_within_0, q_X9_within, q_X9_within_0]
  by_cases h1 : a < lo
  · rw [if_pos h1, decide_eq_true h1]
    exact ⟨rfl, rfl⟩
  · rw [if_neg h1, decide_eq_false h1]
    by_cases h2 : hi < a
    · rw [if_pos h2, decide_eq_true h2]
      exact ⟨rfl, rfl⟩
    · rw [if_neg h2, decide_eq_false h2]
      exact ⟨rfl, rfl⟩
def tcb (d : sk_D) (i g : Nat) : Bool := decide (((d.1 42 i 1) >>> ((d.1 39 g 2) &&& 31)) &&& (1 : Int32) = 1) && wib (d.1 39 g 1) (d.1 42 i 2) (d.1 42 i 3)
theorem tc8 (d : sk_D) (i g : Nat) : q_X1_teaches d i g = some (bI (tcb d i g)) := by
  unfold tcb
  simp only [q_X1_teaches, q_X1_teaches_0]
  by_cases h1 : ((d.1 42 i 1) >>> ((d.1 39 g 2) &&& 31)) &&& (1 : Int32) = 1
  · rw [if_pos h1, decide_eq_true h1, (wib8 d _ _ _).1, Bool.true_and]
    cases wib (d.1 39 g 1) (d.1 42 i 2) (d.1 42 i 3) <;> rfl
  · rw [if_neg h1, decide_eq_false h1]
    rfl
theorem tc9 {d e : sk_D} (hR : sk_R2 d e) {i g : Nat} (hi : i < 8) (hg : g < 4) (ho : d.1 39 g 0 = 1) : q_X9_isTeaching e (nI i) (nI g) = some (bI (ib d i && tcb d i g)) := by
  have ei := nI_clamp (n := i) (by omega)
  have bi : sk_bi (nI i) 8 = true := bi_nI (by omega) (by omega)
  have eg := nI_clamp (n := g) (by omega)
  have bg : sk_bi (nI g) 4 = true := bi_nI (by omega) (by omega)
  have hh := hR.2.2.2.1.1
  obtain ⟨u1, u2, _⟩ := (hR.2.2.1.1 g hg).2.2.2.2 ho
  cases hp : ib d i with
  | false => simp only [q_X9_isTeaching, q_X9_isTeaching_0, bi, ei, (hh.o0 hi hp).2, i01, Bool.false_and, bI_f, ↓reduceIte]
  | true =>
    obtain ⟨t1, t2, t3, _⟩ := (hh i hi).2.2 (hh.o1 hi hp).1
    unfold tcb
    by_cases h1 : ((d.1 42 i 1) >>> ((d.1 39 g 2) &&& 31)) &&& (1 : Int32) = 1
    · simp only [q_X9_isTeaching, q_X9_isTeaching_0, bi, ei, bg, eg, (hh.o1 hi hp).2, u1, u2, t1, t2, t3, h1, (wib8 e _ _ _).2, Option.bind_some, decide_true, Bool.true_and, ↓reduceIte]
      cases wib (d.1 39 g 1) (d.1 42 i 2) (d.1 42 i 3) <;> rfl
    · simp only [q_X9_isTeaching, q_X9_isTeaching_0, bi, ei, bg, eg, (hh.o1 hi hp).2, u1, u2, t1, t2, t3, h1, decide_false, Bool.false_and, Bool.and_false, bI_f, ↓reduceIte]
theorem px_canTeach {d e : sk_D} (hR : sk_R2 d e) (a b : Int32) : ∃ r : Int32, q_X8_canTeach d a b = some r ∧ q_X9_canTeach e a b = some r := by
  rcases hI hR.2.2.2.1.1 a with ⟨h8, h9⟩ | ⟨i, hi, rfl, h1, h8, h9⟩
  · exact ⟨-1, by simp only [q_X8_canTeach, q_X8_canTeach_0, h8, Option.bind_some, ↓reduceIte], by simp only [q_X9_canTeach, q_X9_canTeach_0, q_X9_canTeach_16, h9, Option.bind_some, ↓reduceIte]⟩
  rcases hG hR.2.2.1.1 b with ⟨g8, g9⟩ | ⟨g, hg, rfl, o1, g8, g9⟩
  · exact ⟨-1, by simp only [q_X8_canTeach, q_X8_canTeach_0, h8, g8, i10, Option.bind_some, ↓reduceIte], by simp only [q_X9_canTeach, q_X9_canTeach_0, q_X9_canTeach_16, h9, g9, i10, Option.bind_some, ↓reduceIte]⟩
  have ei := nI_clamp (n := i) (by omega)
  have bi : sk_bi (nI i) 8 = true := bi_nI (by omega) (by omega)
  have eg := nI_clamp (n := g) (by omega)
  have bg : sk_bi (nI g) 4 = true := bi_nI (by omega) (by omega)
  have hib : ib d i = true := decide_eq_true h1
  have t9 := tc9 hR hi hg o1
  rw [hib, Bool.true_and] at t9
  refine ⟨bI (tcb d i g), ?_, ?_⟩
  · simp only [q_X8_canTeach, q_X8_canTeach_0, h8, g8, i10, bi, ei, bg, eg, tc8, Option.bind_some, ↓reduceIte]
    cases tcb d i g <;> rfl
  · simp only [q_X9_canTeach, q_X9_canTeach_0, h9, g9, i10, t9, Option.bind_some, ↓reduceIte]
    cases tcb d i g <;> rfl
/-- an instructor's number freed -/
theorem R2_ins {d e d' e' : sk_D} (hR : sk_R2 d e) (hd : ∀ s k f, s < 44 → ¬ (s = 42 ∧ f = 0) → ¬ (s = 39 ∧ f = 4) → d'.1 s k f = d.1 s k f) (he : ∀ s f, 44 ≤ s → ¬ (s = 62) → ¬ (s = 57) → e'.1 s 0 f = e.1 s 0 f)
    (h1 : ∀ i, i < 8 → (d'.1 42 i 0 = 0 ∨ d'.1 42 i 0 = 1) ∧ e'.1 62 0 i = d'.1 42 i 0 ∧ (d'.1 42 i 0 = 1 → d.1 42 i 0 = 1))
    (h2 : ∀ g, g < 4 → d.1 39 g 0 = 1 → e'.1 57 0 g = d'.1 39 g 4 ∧ (d'.1 39 g 4 = -9 ∨ ∃ i, i < 8 ∧ d'.1 39 g 4 = nI i ∧ d'.1 42 i 0 = 1))
    (h3 : ∀ g h, g < 4 → h < 4 → g ≠ h → d.1 39 g 0 = 1 → d.1 39 h 0 = 1 → d'.1 39 g 4 ≠ -9 → d'.1 39 g 4 ≠ d'.1 39 h 4) : sk_R2 d' e' := by
  obtain ⟨⟨hP, wP⟩, hF, ⟨hG, wG, wD⟩, ⟨hI, wI⟩, hL, hM, hT⟩ := hR
  have a (s k f : Nat) (hs : s < 44 ∧ s ≠ 42 ∧ s ≠ 39) : d'.1 s k f = d.1 s k f := hd s k f (by omega) (by omega) (by omega)
  have a42 (k f : Nat) (hf : f ≠ 0) : d'.1 42 k f = d.1 42 k f := hd 42 k f (by omega) (by omega) (by omega)
  have a39 (k f : Nat) (hf : f ≠ 4) : d'.1 39 k f = d.1 39 k f := hd 39 k f (by omega) (by omega) (by omega)
  have b (s f : Nat) (hs : 44 ≤ s ∧ s ≠ 62 ∧ s ≠ 57) : e'.1 s 0 f = e.1 s 0 f := he s f (by omega) (by omega) (by omega)
  refine ⟨⟨?_, ?_⟩, ?_, ⟨fun g hg => ?_, fun g hg => ?_, fun g h hg hh n o1 o2 => ?_⟩, ⟨fun i hi => ?_, fun i hi ho => ?_⟩, ?_, ?_, ?_⟩
  · unfold rP at hP ⊢
    simp only [a 37 _ _ (by omega), a 38 _ _ (by omega), b 45 _ (by omega), b 46 _ (by omega), b 47 _ (by omega), b 48 _ (by omega), b 49 _ (by omega), b 50 _ (by omega), b 51 _ (by omega)]
    exact hP
  · unfold vP at wP ⊢
    simp only [a 37 _ _ (by omega), a 38 _ _ (by omega), a39 _ 0 (by omega)]
    exact wP
  · unfold rF at hF ⊢
    simp only [a 5 _ _ (by omega), b 52 _ (by omega)]
    exact hF
  · obtain ⟨q1, q2, q3, q4, q5⟩ := hG g hg
    simp only [a39 _ 0 (by omega), a39 _ 1 (by omega), a39 _ 2 (by omega), a39 _ 3 (by omega), a39 _ 5 (by omega), a39 _ 6 (by omega), a39 _ 9 (by omega), a39 _ 10 (by omega), a 40 _ _ (by omega), a 41 _ _ (by omega), b 53 _ (by omega), b 54 _ (by omega), b 55 _ (by omega), b 56 _ (by omega), b 58 _ (by omega), b 59 _ (by omega), b 60 _ (by omega), b 61 _ (by omega), b 71 _ (by omega), b 72 _ (by omega)]
    refine ⟨q1, q2, q3, q4, fun ho => ?_⟩
    obtain ⟨p1, p2, p3, p4, p5⟩ := q5 ho
    exact ⟨p1, p2, p3, (h2 g hg ho).1, p5⟩
  · obtain ⟨w1, w2⟩ := wG g hg
    simp only [a39 _ 0 (by omega), a39 _ 1 (by omega), a39 _ 2 (by omega), a39 _ 3 (by omega), a39 _ 5 (by omega), a39 _ 6 (by omega), a39 _ 9 (by omega), a39 _ 10 (by omega), a 40 _ _ (by omega), a 41 _ _ (by omega), a 0 _ _ (by omega)]
    refine ⟨w1, fun ho => ?_⟩
    obtain ⟨p1, p2, p3, p4, p5⟩ := w2 ho
    exact ⟨p1, p2, p3, (h2 g hg ho).2, p5⟩
  · rw [a39 _ 0 (by omega)] at o1 o2
    exact h3 g h hg hh n o1 o2
  · obtain ⟨q1, q2, q3⟩ := h1 i hi
    refine ⟨q1, q2, fun ho => ?_⟩
    rw [a42 _ 1 (by omega), a42 _ 2 (by omega), a42 _ 3 (by omega), a42 _ 4 (by omega), a42 _ 5 (by omega), b 63 _ (by omega), b 64 _ (by omega), b 65 _ (by omega), b 66 _ (by omega), b 67 _ (by omega)]
    exact (hI i hi).2.2 (q3 ho)
  · rw [a42 _ 1 (by omega), a42 _ 2 (by omega), a42 _ 3 (by omega), a42 _ 4 (by omega), a42 _ 5 (by omega)]
    exact wI i hi ((h1 i hi).2.2 ho)
  · unfold rL at hL ⊢
    simp only [a 43 _ _ (by omega), a 0 _ _ (by omega), b 44 _ (by omega), b 68 _ (by omega), b 69 _ (by omega), b 70 _ (by omega), b 73 _ (by omega), b 74 _ (by omega)]
    exact hL
  · unfold rM at hM ⊢
    simp only [a 0 _ _ (by omega), b 44 _ (by omega)]
    exact hM
  · unfold rT at hT ⊢
    simp only [a 35 _ _ (by omega), a 36 _ _ (by omega), b 44 _ (by omega), b 75 _ (by omega)]
    exact hT
theorem px_dismiss (a : Int32) (d e : sk_D) (hR : sk_R2 d e) : ∃ (r : Int32) (d' e' : sk_D), q_X8_dismiss d a = some (r, d') ∧ q_X9_dismiss e a = some (r, e') ∧ sk_R2 d' e' ∧ sk_F8 d d' ∧ sk_F9 e e' := by
  rcases hI hR.2.2.2.1.1 a with ⟨h8, h9⟩ | ⟨i, hi, rfl, h1, h8, h9⟩
  · exact ⟨-1, d, e, by simp only [q_X8_dismiss, q_X8_dismiss_0, h8, Option.bind_some, ↓reduceIte], by simp only [q_X9_dismiss, q_X9_dismiss_0, h9, Option.bind_some, ↓reduceIte], hR, sk_F8.rf d, sk_F9.rf e⟩
  have ei := nI_clamp (n := i) (by omega)
  have bi : sk_bi (nI i) 8 = true := bi_nI (by omega) (by omega)
  have hh := hR.2.2.1.1
  have e57 : ∀ g, g < 4 → d.1 39 g 0 = 1 → e.1 57 0 g = d.1 39 g 4 := fun g hg ho => ((hh g hg).2.2.2.2 ho).2.2.2.1
  -- the groups that don't have this instructor
  have s8 : ∀ (D : sk_D), (∀ k f, D.1 39 k f = d.1 39 k f) → ∀ j, j < 4 → (ob d j && decide (d.1 39 j 4 = nI i)) = false → ∀ rec : (sk_D × Int32 × Int32) → Option (Int32 × sk_D), q_X8_dismiss_22 rec D (nI i) (nI j) = rec (D, nI i, nI (j + 1)) := by
    intro D hD j hj hf rec
    have ej := nI_clamp (n := j) (by omega)
    have bj : sk_bi (nI j) 4 = true := bi_nI (by omega) (by omega)
    have lj : ¬ (4 : Int32) ≤ nI j := le_nI (n := 4) rfl hj (by omega)
    cases ho : ob d j with
    | false => simp only [q_X8_dismiss_22, q_X8_dismiss_65, lj, bj, ej, hD, (hh.o0 hj ho).1, s1_nI, ↓reduceIte]
    | true =>
      have hn : ¬ d.1 39 j 4 = nI i := by
        intro q
        rw [ho, decide_eq_true q] at hf
        cases hf
      simp only [q_X8_dismiss_22, q_X8_dismiss_65, lj, bj, ej, hD, (hh.o1 hj ho).1, i10, hn, s1_nI, ↓reduceIte]
  have s9 : ∀ (E : sk_D) (v : Int32), ∀ j, j < 4 → E.1 53 0 j = e.1 53 0 j → (ob d j = true → E.1 57 0 j = d.1 39 j 4) → (ob d j && decide (d.1 39 j 4 = nI i)) = false → ∀ rec : (sk_D × Int32 × Int32 × Int32) → Option (Int32 × sk_D), q_X9_dismiss_15 rec E (nI i) v (nI j) = rec (E, nI i, v, nI (j + 1)) := by
    intro E v j hj hE1 hE2 hf rec
    have ej := nI_clamp (n := j) (by omega)
    have bj : sk_bi (nI j) 4 = true := bi_nI (by omega) (by omega)
    have lj : ¬ (4 : Int32) ≤ nI j := le_nI (n := 4) rfl hj (by omega)
    cases ho : ob d j with
    | false => simp only [q_X9_dismiss_15, q_X9_dismiss_50, lj, bj, ej, hE1, (hh.o0 hj ho).2, i01, s1_nI, ↓reduceIte]
    | true =>
      have hn : ¬ d.1 39 j 4 = nI i := by
        intro q
        rw [ho, decide_eq_true q] at hf
        cases hf
      simp only [q_X9_dismiss_15, q_X9_dismiss_50, lj, bj, ej, hE1, (hh.o1 hj ho).2, hE2 ho, hn, s1_nI, ↓reduceIte]
  have l4 : (4 : Int32) ≤ nI 4 := ge_nI (n := 4) rfl (by omega) (by omega)
  rcases fst_or (fun g => ob d g && decide (d.1 39 g 4 = nI i)) 4 with ⟨g, hg, g1, g2⟩ | hn
  · have g1' : ob d g = true ∧ d.1 39 g 4 = nI i := by
      rw [Bool.and_eq_true, decide_eq_true_eq] at g1
      exact g1
    have og := (hh.o1 hg g1'.1).1
    have eg := nI_clamp (n := g) (by omega)
    have bg : sk_bi (nI g) 4 = true := bi_nI (by omega) (by omega)
    have lg : ¬ (4 : Int32) ≤ nI g := le_nI (n := 4) rfl hg (by omega)
    have uniq : ∀ h, h < 4 → h ≠ g → (ob d h && decide (d.1 39 h 4 = nI i)) = false := by
      intro h hh4 hne
      cases ho : ob d h with
      | false => rfl
      | true =>
        rw [Bool.true_and, decide_eq_false_iff_not]
        intro q
        exact hR.2.2.1.2.2 g h hg hh4 (Ne.symm hne) og (hh.o1 hh4 ho).1 (by rw [g1'.2]; exact nm_nI (by omega)) (g1'.2.trans q.symm)
    refine ⟨nI g, sk_wi (sk_wi d 42 i 0 0) 39 g 4 (-9), sk_wi (sk_wi e 57 0 g (-9)) 62 0 i 0, ?_, ?_, ?_, ?_, ?_⟩
    · simp only [q_X8_dismiss, q_X8_dismiss_0, h8, i10, bi, ei, Option.bind_some, ↓reduceIte]
      refine it_for0 (F := fun rec a => q_X8_dismiss_22 rec a.1 a.2.1 a.2.2) (fun j => (sk_wi d 42 i 0 0, nI i, nI j)) g (fun j hj rec => s8 _ (fun k f => wi_o (by omega)) j (by omega) (g2 j hj) rec) (fun rec => ?_) (by omega)
      show q_X8_dismiss_22 rec (sk_wi d 42 i 0 0) (nI i) (nI g) = _
      have r0 : (sk_wi d 42 i 0 0).1 39 g 0 = 1 := (wi_o (by omega)).trans og
      have r4 : (sk_wi d 42 i 0 0).1 39 g 4 = nI i := (wi_o (by omega)).trans g1'.2
      simp only [q_X8_dismiss_22, lg, bg, eg, r0, r4, i10, ↓reduceIte]
    · simp only [q_X9_dismiss, q_X9_dismiss_0, h9, i10, Option.bind_some, ↓reduceIte]
      refine it_for0 (F := fun rec a => q_X9_dismiss_15 rec a.1 a.2.1 a.2.2.1 a.2.2.2) (fun j => if j ≤ g then (e, nI i, -9, nI j) else (sk_wi e 57 0 g (-9), nI i, nI g, nI j)) 4 (fun j hj rec => ?_) (fun rec => ?_) (by omega)
      · by_cases c : j < g
        · rw [if_pos (show j ≤ g by omega), if_pos (show j + 1 ≤ g by omega)]
          exact s9 e (-9) j hj rfl (fun ho => e57 j hj (hh.o1 hj ho).1) (uniq j hj (by omega)) rec
        · by_cases c2 : j = g
          · subst c2
            rw [if_pos (show j ≤ j by omega), if_neg (show ¬ j + 1 ≤ j by omega)]
            show q_X9_dismiss_15 rec e (nI i) (-9) (nI j) = _
            have r4 : e.1 57 0 j = nI i := (e57 j hj og).trans g1'.2
            simp only [q_X9_dismiss_15, q_X9_dismiss_50, lg, bg, eg, (hh.o1 hj g1'.1).2, r4, s1_nI, ↓reduceIte]
          · rw [if_neg (show ¬ j ≤ g by omega), if_neg (show ¬ j + 1 ≤ g by omega)]
            exact s9 _ (nI g) j hj (wi_o (by omega)) (fun ho => (wi_o (by omega)).trans (e57 j hj (hh.o1 hj ho).1)) (uniq j hj c2) rec
      · show q_X9_dismiss_15 rec (if 4 ≤ g then (e, nI i, -9, nI 4) else (sk_wi e 57 0 g (-9), nI i, nI g, nI 4)).1 _ _ _ = _
        rw [if_neg (show ¬ 4 ≤ g by omega)]
        simp only [q_X9_dismiss_15, l4, bi, ei, ↓reduceIte]
    · refine R2_ins hR (fun s k f hs n1 n2 => ?_) (fun s f hs n1 n2 => ?_) (fun j hj => ?_) (fun h hh4 ho => ?_) (fun x y hx hy n ox oy nx => ?_)
      · rw [wi_o (by omega), wi_o (by omega)]
      · rw [wi_o (by omega), wi_o (by omega)]
      · rw [wi_o (by omega)]
        by_cases ej : j = i
        · subst ej
          rw [wi_e, wi_e]
          exact ⟨.inl rfl, rfl, fun q => absurd q (by decide)⟩
        · rw [wi_o (by omega), wi_o (by omega), wi_o (by omega)]
          exact ⟨(hR.2.2.2.1.1 j hj).1, (hR.2.2.2.1.1 j hj).2.1, fun q => q⟩
      · rw [wi_o (s' := 57) (by omega)]
        by_cases eh : h = g
        · subst eh
          rw [wi_e, wi_e]
          exact ⟨rfl, .inl rfl⟩
        · rw [wi_o (by omega), wi_o (s' := 39) (by omega), wi_o (s' := 39) (by omega)]
          refine ⟨e57 h hh4 ho, ?_⟩
          rcases ((hR.2.2.1.2.1 h hh4).2 ho).2.2.2.1 with q | ⟨y, hy, ey, oy⟩
          · exact .inl q
          · refine .inr ⟨y, hy, ey, ?_⟩
            rw [wi_o (by omega), wi_o ?_]
            · exact oy
            · rintro ⟨_, q, _⟩
              subst q
              have := uniq h hh4 eh
              rw [ey, show ob d h = true from decide_eq_true ho] at this
              rw [Bool.true_and, decide_eq_false_iff_not] at this
              exact this rfl
      · by_cases ex : x = g
        · subst ex
          rw [wi_e] at nx
          exact absurd rfl nx
        · rw [wi_o (by omega), wi_o (by omega)] at nx ⊢
          by_cases ey : y = g
          · subst ey
            rw [wi_e]
            exact nx
          · rw [wi_o (by omega), wi_o (by omega)]
            exact hR.2.2.1.2.2 x y hx hy n ox oy nx
    · exact ((sk_F8.rf d).wi _ _ _ _ (by omega)).wi _ _ _ _ (by omega)
    · exact ((sk_F9.rf e).wi _ _ _ _ (by omega)).wi _ _ _ _ (by omega)
  · refine ⟨-9, sk_wi d 42 i 0 0, sk_wi e 62 0 i 0, ?_, ?_, ?_, (sk_F8.rf d).wi _ _ _ _ (by omega), (sk_F9.rf e).wi _ _ _ _ (by omega)⟩
    · simp only [q_X8_dismiss, q_X8_dismiss_0, h8, i10, bi, ei, Option.bind_some, ↓reduceIte]
      refine it_for0 (F := fun rec a => q_X8_dismiss_22 rec a.1 a.2.1 a.2.2) (fun j => (sk_wi d 42 i 0 0, nI i, nI j)) 4 (fun j hj rec => s8 _ (fun k f => wi_o (by omega)) j hj (hn j hj) rec) (fun rec => ?_) (by omega)
      show q_X8_dismiss_22 rec (sk_wi d 42 i 0 0) (nI i) (nI 4) = _
      simp only [q_X8_dismiss_22, l4, ↓reduceIte]
    · simp only [q_X9_dismiss, q_X9_dismiss_0, h9, i10, Option.bind_some, ↓reduceIte]
      refine it_for0 (F := fun rec a => q_X9_dismiss_15 rec a.1 a.2.1 a.2.2.1 a.2.2.2) (fun j => (e, nI i, -9, nI j)) 4 (fun j hj rec => s9 e (-9) j hj rfl (fun ho => e57 j hj (hh.o1 hj ho).1) (hn j hj) rec) (fun rec => ?_) (by omega)
      show q_X9_dismiss_15 rec e (nI i) (-9) (nI 4) = _
      simp only [q_X9_dismiss_15, l4, bi, ei, ↓reduceIte]
    · refine R2_ins hR (fun s k f hs n1 n2 => wi_o (by omega)) (fun s f hs n1 n2 => wi_o (by omega)) (fun j hj => ?_) (fun h hh4 ho => ?_) (fun x y hx hy n ox oy nx => ?_)
      · by_cases ej : j = i
        · subst ej
          rw [wi_e, wi_e]
          exact ⟨.inl rfl, rfl, fun q => absurd q (by decide)⟩
        · rw [wi_o (by omega), wi_o (by omega)]
          exact ⟨(hR.2.2.2.1.1 j hj).1, (hR.2.2.2.1.1 j hj).2.1, fun q => q⟩
      · rw [wi_o (s' := 57) (by omega), wi_o (s' := 39) (by omega)]
        refine ⟨e57 h hh4 ho, ?_⟩
        rcases ((hR.2.2.1.2.1 h hh4).2 ho).2.2.2.1 with q | ⟨y, hy, ey, oy⟩
        · exact .inl q
        · refine .inr ⟨y, hy, ey, ?_⟩
          rw [wi_o ?_]
          · exact oy
          · rintro ⟨_, q, _⟩
            subst q
            have := hn h hh4
            rw [ey, show ob d h = true from decide_eq_true ho, Bool.true_and, decide_eq_false_iff_not] at this
            exact this rfl
      · rw [wi_o (by omega)] at nx
        rw [wi_o (by omega), wi_o (by omega)]
        exact hR.2.2.1.2.2 x y hx hy n ox oy nx
