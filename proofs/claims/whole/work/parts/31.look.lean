/-! WHAT THE RELATION SAYS OF AN ARGUMENT; calls that only look at one place *** by program (wip/whole/gen/p31.py) -/
theorem i01 : ((0 : Int32) = 1) = False := eq_false (by decide)
theorem nb0 : sk_nb 0 = true := by decide
theorem nb1 : sk_nb 1 = true := by decide
/-- the class's part stands still / the reference's part stands still -/
def sd8 (d d' : sk_D) : Prop := (∀ s, s = 0 ∨ s = 5 ∨ (36 ≤ s ∧ s ≤ 43) → d'.1 s = d.1 s) ∧ d'.1 35 0 1 = d.1 35 0 1
def se9 (e e' : sk_D) : Prop := (∀ s, 45 ≤ s → s ≤ 75 → e'.1 s = e.1 s) ∧ ∀ f, f = 0 ∨ f = 1 ∨ f = 2 ∨ f = 3 ∨ f = 27 ∨ f = 36 → e'.1 44 0 f = e.1 44 0 f
def sk_F8 (d d' : sk_D) : Prop := ∀ s, 44 ≤ s → d'.1 s = d.1 s
def sk_F9 (e e' : sk_D) : Prop := ∀ s, s < 44 → e'.1 s = e.1 s
theorem sd8.of {d d' : sk_D} (h : ∀ s, s < 44 → d'.1 s = d.1 s) : sd8 d d' := ⟨fun s hs => h s (by omega), by rw [h 35 (by omega)]⟩
theorem se9.of {e e' : sk_D} (h : ∀ s, 44 ≤ s → e'.1 s = e.1 s) : se9 e e' := ⟨fun s hs _ => h s (by omega), fun f _ => by rw [h 44 (by omega)]⟩
theorem sk_F8.rf (d : sk_D) : sk_F8 d d := fun _ _ => rfl
theorem sk_F9.rf (d : sk_D) : sk_F9 d d := fun _ _ => rfl
theorem sk_F8.tr {a b c : sk_D} (h : sk_F8 a b) (g : sk_F8 b c) : sk_F8 a c := fun s hs => (g s hs).trans (h s hs)
theorem sk_F9.tr {a b c : sk_D} (h : sk_F9 a b) (g : sk_F9 b c) : sk_F9 a c := fun s hs => (g s hs).trans (h s hs)
theorem sk_F8.wi {a b : sk_D} (h : sk_F8 a b) (s k f : Nat) (v : Int32) (hs : s < 44) : sk_F8 a (sk_wi b s k f v) := fun s' hs' => by
  rw [← h s' hs']
  funext k' f'
  show (if s' = s ∧ k' = k ∧ f' = f then v else b.1 s' k' f') = b.1 s' k' f'
  rw [if_neg (by omega)]
theorem sk_F9.wi {a b : sk_D} (h : sk_F9 a b) (s k f : Nat) (v : Int32) (hs : 44 ≤ s) : sk_F9 a (sk_wi b s k f v) := fun s' hs' => by
  rw [← h s' hs']
  funext k' f'
  show (if s' = s ∧ k' = k ∧ f' = f then v else b.1 s' k' f') = b.1 s' k' f'
  rw [if_neg (by omega)]
theorem sk_F8.wf {a b : sk_D} (h : sk_F8 a b) (s k : Nat) (g : Nat → Int32) (hs : s < 44) : sk_F8 a (sk_wf b s k g) := fun s' hs' => by
  rw [← h s' hs']
  funext k'
  show (if s' = s ∧ k' = k then g else b.1 s' k') = b.1 s' k'
  rw [if_neg (by omega)]
theorem sk_F9.wf {a b : sk_D} (h : sk_F9 a b) (s k : Nat) (g : Nat → Int32) (hs : 44 ≤ s) : sk_F9 a (sk_wf b s k g) := fun s' hs' => by
  rw [← h s' hs']
  funext k'
  show (if s' = s ∧ k' = k then g else b.1 s' k') = b.1 s' k'
  rw [if_neg (by omega)]
theorem R2_d {d d' e : sk_D} (hR : sk_R2 d e) (h : sd8 d d') : sk_R2 d' e := by
  obtain ⟨h, ht⟩ := h
  have e0 := h 0 (by omega)
  have e5 := h 5 (by omega)
  have e36 := h 36 (by omega)
  have e37 := h 37 (by omega)
  have e38 := h 38 (by omega)
  have e39 := h 39 (by omega)
  have e40 := h 40 (by omega)
  have e41 := h 41 (by omega)
  have e42 := h 42 (by omega)
  have e43 := h 43 (by omega)
  unfold sk_R2 rP vP rF rG vG vD rI vI rL rM rT at hR ⊢
  simp only [e0, e5, e36, e37, e38, e39, e40, e41, e42, e43, ht]
  exact hR
theorem R2_e {d e e' : sk_D} (hR : sk_R2 d e) (h : se9 e e') : sk_R2 d e' := by
  obtain ⟨h, ht⟩ := h
  have t0 := ht 0 (by omega)
  have t1 := ht 1 (by omega)
  have t2 := ht 2 (by omega)
  have t3 := ht 3 (by omega)
  have t27 := ht 27 (by omega)
  have t36 := ht 36 (by omega)
  have e45 := h 45 (by omega) (by omega)
  have e46 := h 46 (by omega) (by omega)
  have e47 := h 47 (by omega) (by omega)
  have e48 := h 48 (by omega) (by omega)
  have e49 := h 49 (by omega) (by omega)
  have e50 := h 50 (by omega) (by omega)
  have e51 := h 51 (by omega) (by omega)
  have e52 := h 52 (by omega) (by omega)
  have e53 := h 53 (by omega) (by omega)
  have e54 := h 54 (by omega) (by omega)
  have e55 := h 55 (by omega) (by omega)
  have e56 := h 56 (by omega) (by omega)
  have e57 := h 57 (by omega) (by omega)
  have e58 := h 58 (by omega) (by omega)
  have e59 := h 59 (by omega) (by omega)
  have e60 := h 60 (by omega) (by omega)
  have e61 := h 61 (by omega) (by omega)
  have e62 := h 62 (by omega) (by omega)
  have e63 := h 63 (by omega) (by omega)
  have e64 := h 64 (by omega) (by omega)
  have e65 := h 65 (by omega) (by omega)
  have e66 := h 66 (by omega) (by omega)
  have e67 := h 67 (by omega) (by omega)
  have e68 := h 68 (by omega) (by omega)
  have e69 := h 69 (by omega) (by omega)
  have e70 := h 70 (by omega) (by omega)
  have e71 := h 71 (by omega) (by omega)
  have e72 := h 72 (by omega) (by omega)
  have e73 := h 73 (by omega) (by omega)
  have e74 := h 74 (by omega) (by omega)
  have e75 := h 75 (by omega) (by omega)
  unfold sk_R2 rP rF rG rI rL rM rT at hR ⊢
  simp only [t0, t1, t2, t3, t27, t36, e45, e46, e47, e48, e49, e50, e51, e52, e53, e54, e55, e56, e57, e58, e59, e60, e61, e62, e63, e64, e65, e66, e67, e68, e69, e70, e71, e72, e73, e74, e75]
  exact hR
theorem pz_mk {X8 X9 : sk_D → Option (Int32 × sk_D)} (h : ∀ d e, sk_R2 d e → ∃ (a : Int32) (d' e' : sk_D), X8 d = some (a, d') ∧ X9 e = some (a, e') ∧ sk_R2 d' e' ∧ sk_F8 d d' ∧ sk_F9 e e') {d : sk_D} (hR : sk_R d) : ∃ (a : Int32) (d1 d2 : sk_D), X8 d = some (a, d1) ∧ X9 d1 = some (a, d2) ∧ sk_R d2 := by
  obtain ⟨a, d1, _, h1, _, _, hF, _⟩ := h d d hR
  obtain ⟨a', d1', d2, h1', h2, hR2, _, hF9⟩ := h d d1 (R2_e hR (se9.of hF))
  rw [h1] at h1'
  cases h1'
  exact ⟨a, d1, d2, h1, h2, R2_d hR2 (sd8.of hF9)⟩
theorem hP {d e : sk_D} (h : rP d e) (a : Int32) : (q_X8_hasPupil d a = some 0 ∧ q_X9_hasPupil e a = some 0) ∨ ∃ k, k < 20 ∧ a = nI k ∧ d.1 37 k 0 = 1 ∧ q_X8_hasPupil d (nI k) = some 1 ∧ q_X9_hasPupil e (nI k) = some 1 := by
  rcases wi_cases a 0 19 0 19 rfl rfl (by omega) with ⟨h8, h9⟩ | ⟨k, _, hk, rfl, h8, h9⟩
  · left
    constructor <;> simp only [q_X8_hasPupil, q_X8_hasPupil_0, q_X9_hasPupil, q_X9_hasPupil_0, h8, h9, Option.bind_some, ↓reduceIte]
  · have ek := nI_clamp (n := k) (by omega)
    have bk : sk_bi (nI k) 20 = true := bi_nI (by omega) (by omega)
    obtain ⟨h01, he, _⟩ := h k (by omega)
    rcases h01 with h0 | h1
    · left
      rw [h0] at he
      constructor <;> simp only [q_X8_hasPupil, q_X8_hasPupil_0, q_X9_hasPupil, q_X9_hasPupil_0, h8, h9, Option.bind_some, bk, ek, h0, he, i10, i01, ↓reduceIte]
    · right
      rw [h1] at he
      refine ⟨k, by omega, rfl, h1, ?_, ?_⟩ <;> simp only [q_X8_hasPupil, q_X8_hasPupil_0, q_X9_hasPupil, q_X9_hasPupil_0, h8, h9, Option.bind_some, bk, ek, h1, he, i10, ↓reduceIte]
theorem hG {d e : sk_D} (h : rG d e) (a : Int32) : (q_X8_hasGroup d a = some 0 ∧ q_X9_hasGroup e a = some 0) ∨ ∃ k, k < 4 ∧ a = nI k ∧ d.1 39 k 0 = 1 ∧ q_X8_hasGroup d (nI k) = some 1 ∧ q_X9_hasGroup e (nI k) = some 1 := by
  rcases wi_cases a 0 3 0 3 rfl rfl (by omega) with ⟨h8, h9⟩ | ⟨k, _, hk, rfl, h8, h9⟩
  · left
    constructor <;> simp only [q_X8_hasGroup, q_X8_hasGroup_0, q_X9_hasGroup, q_X9_hasGroup_0, h8, h9, Option.bind_some, ↓reduceIte]
  · have ek := nI_clamp (n := k) (by omega)
    have bk : sk_bi (nI k) 4 = true := bi_nI (by omega) (by omega)
    obtain ⟨h01, he, _⟩ := h k (by omega)
    rcases h01 with h0 | h1
    · left
      rw [h0] at he
      constructor <;> simp only [q_X8_hasGroup, q_X8_hasGroup_0, q_X9_hasGroup, q_X9_hasGroup_0, h8, h9, Option.bind_some, bk, ek, h0, he, i10, i01, ↓reduceIte]
    · right
      rw [h1] at he
      refine ⟨k, by omega, rfl, h1, ?_, ?_⟩ <;> simp only [q_X8_hasGroup, q_X8_hasGroup_0, q_X9_hasGroup, q_X9_hasGroup_0, h8, h9, Option.bind_some, bk, ek, h1, he, i10, ↓reduceIte]
theorem hI {d e : sk_D} (h : rI d e) (a : Int32) : (q_X8_hasInstructor d a = some 0 ∧ q_X9_hasInstructor e a = some 0) ∨ ∃ k, k < 8 ∧ a = nI k ∧ d.1 42 k 0 = 1 ∧ q_X8_hasInstructor d (nI k) = some 1 ∧ q_X9_hasInstructor e (nI k) = some 1 := by
  rcases wi_cases a 0 7 0 7 rfl rfl (by omega) with ⟨h8, h9⟩ | ⟨k, _, hk, rfl, h8, h9⟩
  · left
    constructor <;> simp only [q_X8_hasInstructor, q_X8_hasInstructor_0, q_X9_hasInstructor, q_X9_hasInstructor_0, h8, h9, Option.bind_some, ↓reduceIte]
  · have ek := nI_clamp (n := k) (by omega)
    have bk : sk_bi (nI k) 8 = true := bi_nI (by omega) (by omega)
    obtain ⟨h01, he, _⟩ := h k (by omega)
    rcases h01 with h0 | h1
    · left
      rw [h0] at he
      constructor <;> simp only [q_X8_hasInstructor, q_X8_hasInstructor_0, q_X9_hasInstructor, q_X9_hasInstructor_0, h8, h9, Option.bind_some, bk, ek, h0, he, i10, i01, ↓reduceIte]
    · right
      rw [h1] at he
      refine ⟨k, by omega, rfl, h1, ?_, ?_⟩ <;> simp only [q_X8_hasInstructor, q_X8_hasInstructor_0, q_X9_hasInstructor, q_X9_hasInstructor_0, h8, h9, Option.bind_some, bk, ek, h1, he, i10, ↓reduceIte]
theorem hL {d e : sk_D} (h : rL d e) (a : Int32) : (q_X8_hasLift d a = some 0 ∧ q_X9_hasLift e a = some 0) ∨ ∃ k, k < 3 ∧ a = nI k ∧ nI k < d.1 0 0 9 ∧ q_X8_hasLift d (nI k) = some 1 ∧ q_X9_hasLift e (nI k) = some 1 := by
  obtain ⟨he, ⟨n, hn, en, _⟩, _⟩ := h
  have e9 : ∀ v : Int32, q_X9_hasLift e v = (q_X9_within e v 0 (e.1 44 0 27 - 1)).bind (fun x => if sk_nb x = true then some x else none) := fun v => rfl
  rw [en] at he
  by_cases hn0 : n = 0
  · subst hn0
    left
    have en' : d.1 0 0 9 = 0 := en
    rcases wi_cases a 0 2 0 2 rfl rfl (by omega) with ⟨h8, h9⟩ | ⟨k, _, hk, rfl, h8, h9⟩
    · refine ⟨by simp only [q_X8_hasLift, q_X8_hasLift_0, h8, Option.bind_some, ↓reduceIte], ?_⟩
      rw [e9, he]
      have : q_X9_within e a 0 (nI 0 - 1) = some 0 := by
        simp only [q_X9_within, q_X9_within_0]
        by_cases h1 : a < 0
        · rw [if_pos h1]
        · rw [if_neg h1, if_pos]
          obtain ⟨j, hj, rfl⟩ := nI_of h1
          rw [Int32.lt_iff_toInt_lt, nI_toInt hj]
          have : (nI 0 - 1 : Int32).toInt = -1 := by decide
          omega
      rw [this]
      simp only [Option.bind_some, nb0, ↓reduceIte]
    · refine ⟨by simp only [q_X8_hasLift, q_X8_hasLift_0, h8, Option.bind_some, i10, en', nI_pos' (n := k) (by omega), ↓reduceIte], ?_⟩
      rw [e9, he]
      have : q_X9_within e (nI k) 0 (nI 0 - 1) = some 0 := by
        simp only [q_X9_within, q_X9_within_0]
        rw [if_neg (nI_pos (by omega)), if_pos]
        rw [Int32.lt_iff_toInt_lt, nI_toInt (by omega)]
        have : (nI 0 - 1 : Int32).toInt = -1 := by decide
        omega
      rw [this]
      simp only [Option.bind_some, nb0, ↓reduceIte]
  · have e1 : nI n - 1 = nI (n - 1) := by
      obtain ⟨m, rfl⟩ : ∃ m, n = m + 1 := ⟨n - 1, by omega⟩
      exact nI_pred m
    rcases wi_cases a 0 (nI n - 1) 0 (n - 1) rfl e1 (by omega) with ⟨h8, h9⟩ | ⟨k, _, hk, rfl, h8, h9⟩
    · left
      constructor
      · rcases wi_cases a 0 2 0 2 rfl rfl (by omega) with ⟨g8, g9⟩ | ⟨k, _, hk, rfl, g8, g9⟩
        · simp only [q_X8_hasLift, q_X8_hasLift_0, g8, Option.bind_some, ↓reduceIte]
        · have : d.1 0 0 9 ≤ nI k := by
            rw [en]
            apply Classical.byContradiction
            intro hc
            rw [nI_leI (by omega) (by omega)] at hc
            have := (wi_in k (a := nI k) (lo := 0) (hi := nI n - 1) 0 (n - 1) rfl rfl e1 (by omega) (by omega) (by omega)).1 d
            rw [h8 d] at this
            cases this
          simp only [q_X8_hasLift, q_X8_hasLift_0, g8, Option.bind_some, i10, this, ↓reduceIte]
      · rw [e9, he, h9 e]
        simp only [Option.bind_some, nb0, ↓reduceIte]
    · right
      have g8 := (wi_in k (a := nI k) (lo := 0) (hi := 2) 0 2 rfl rfl rfl (by omega) (by omega) (by omega)).1 d
      have hlt : nI k < d.1 0 0 9 := by
        rw [en]
        exact nI_lt (by omega) (by omega)
      have hnle : ¬ d.1 0 0 9 ≤ nI k := by
        rw [en]
        exact nI_ge (by omega) (by omega)
      refine ⟨k, by omega, rfl, hlt, ?_, ?_⟩
      · simp only [q_X8_hasLift, q_X8_hasLift_0, g8, Option.bind_some, i10, hnle, ↓reduceIte]
      · rw [e9, he, h9 e]
        simp only [Option.bind_some, nb1, ↓reduceIte]
theorem cF (a : Int32) : ((∀ d, q_X8_isFamily d a = some 0) ∧ (∀ d, q_X9_isFamily d a = some 0)) ∨ ∃ k, 0 ≤ k ∧ k ≤ 7 ∧ a = nI k ∧ (∀ d, q_X8_isFamily d (nI k) = some 1) ∧ (∀ d, q_X9_isFamily d (nI k) = some 1) := by
  rcases wi_cases a 0 7 0 7 rfl rfl (by omega) with ⟨h8, h9⟩ | ⟨k, h1, hk, rfl, h8, h9⟩
  · left
    constructor <;> intro d <;> simp only [q_X8_isFamily, q_X8_isFamily_0, q_X9_isFamily, q_X9_isFamily_0, h8, h9, Option.bind_some, nb0, ↓reduceIte]
  · right
    refine ⟨k, h1, hk, rfl, ?_, ?_⟩ <;> intro d <;> simp only [q_X8_isFamily, q_X8_isFamily_0, q_X9_isFamily, q_X9_isFamily_0, h8, h9, Option.bind_some, nb1, ↓reduceIte]
theorem cE (a : Int32) : ((∀ d, q_X8_isExercise d a = some 0) ∧ (∀ d, q_X9_isExercise d a = some 0)) ∨ ∃ k, 0 ≤ k ∧ k ≤ 3 ∧ a = nI k ∧ (∀ d, q_X8_isExercise d (nI k) = some 1) ∧ (∀ d, q_X9_isExercise d (nI k) = some 1) := by
  rcases wi_cases a 0 3 0 3 rfl rfl (by omega) with ⟨h8, h9⟩ | ⟨k, h1, hk, rfl, h8, h9⟩
  · left
    constructor <;> intro d <;> simp only [q_X8_isExercise, q_X8_isExercise_0, q_X9_isExercise, q_X9_isExercise_0, h8, h9, Option.bind_some, nb0, ↓reduceIte]
  · right
    refine ⟨k, h1, hk, rfl, ?_, ?_⟩ <;> intro d <;> simp only [q_X8_isExercise, q_X8_isExercise_0, q_X9_isExercise, q_X9_isExercise_0, h8, h9, Option.bind_some, nb1, ↓reduceIte]
theorem cLv (a : Int32) : ((∀ d, q_X9_isLevel d a = some 0)) ∨ ∃ k, 0 ≤ k ∧ k ≤ 7 ∧ a = nI k ∧ (∀ d, q_X9_isLevel d (nI k) = some 1) := by
  rcases wi_cases a 0 7 0 7 rfl rfl (by omega) with ⟨h8, h9⟩ | ⟨k, h1, hk, rfl, h8, h9⟩
  · left
    intro d <;> simp only [q_X9_isLevel, q_X9_isLevel_0, h8, h9, Option.bind_some, nb0, ↓reduceIte]
  · right
    refine ⟨k, h1, hk, rfl, ?_⟩ <;> intro d <;> simp only [q_X9_isLevel, q_X9_isLevel_0, h8, h9, Option.bind_some, nb1, ↓reduceIte]
theorem cLa (a : Int32) : ((∀ d, q_X9_isLanguages d a = some 0)) ∨ ∃ k, 1 ≤ k ∧ k ≤ 63 ∧ a = nI k ∧ (∀ d, q_X9_isLanguages d (nI k) = some 1) := by
  rcases wi_cases a 1 63 1 63 rfl rfl (by omega) with ⟨h8, h9⟩ | ⟨k, h1, hk, rfl, h8, h9⟩
  · left
    intro d <;> simp only [q_X9_isLanguages, q_X9_isLanguages_0, h8, h9, Option.bind_some, nb0, ↓reduceIte]
  · right
    refine ⟨k, h1, hk, rfl, ?_⟩ <;> intro d <;> simp only [q_X9_isLanguages, q_X9_isLanguages_0, h8, h9, Option.bind_some, nb1, ↓reduceIte]
theorem cTi (a : Int32) : ((∀ d, q_X9_isTime d a = some 0)) ∨ ∃ k, 1 ≤ k ∧ k ≤ 180 ∧ a = nI k ∧ (∀ d, q_X9_isTime d (nI k) = some 1) := by
  rcases wi_cases a 1 180 1 180 rfl rfl (by omega) with ⟨h8, h9⟩ | ⟨k, h1, hk, rfl, h8, h9⟩
  · left
    intro d <;> simp only [q_X9_isTime, q_X9_isTime_0, h8, h9, Option.bind_some, nb0, ↓reduceIte]
  · right
    refine ⟨k, h1, hk, rfl, ?_⟩ <;> intro d <;> simp only [q_X9_isTime, q_X9_isTime_0, h8, h9, Option.bind_some, nb1, ↓reduceIte]
theorem x4_nI (k j : Nat) : (4 : Int32) * nI k + nI j = nI (4 * k + j) := by
  have h : (4 : Int32) * nI k = nI (4 * k) := by
    show Int32.ofNat 4 * Int32.ofNat k = Int32.ofNat (4 * k)
    rw [Int32.ofNat_mul]
  rw [h, nI_add]
theorem px_level {d e : sk_D} (hR : sk_R2 d e) (a : Int32) : ∃ r : Int32, q_X8_level d a = some r ∧ q_X9_level e a = some r := by
  rcases hP hR.1.1 a with ⟨h8, h9⟩ | ⟨k, hk, rfl, h1, h8, h9⟩
  · exact ⟨-1, by simp only [q_X8_level, q_X8_level_0, h8, Option.bind_some, ↓reduceIte], by simp only [q_X9_level, q_X9_level_0, h9, Option.bind_some, ↓reduceIte]⟩
  · have ek := nI_clamp (n := k) (by omega)
    have bk : sk_bi (nI k) 20 = true := bi_nI (by omega) (by omega)
    have hf := ((hR.1.1 k hk).2.2 h1).1
    exact ⟨d.1 37 k 1, by simp only [q_X8_level, q_X8_level_0, h8, Option.bind_some, i10, bk, ek, ↓reduceIte], by simp only [q_X9_level, q_X9_level_0, h9, Option.bind_some, i10, bk, ek, hf, ↓reduceIte]⟩
theorem px_languages {d e : sk_D} (hR : sk_R2 d e) (a : Int32) : ∃ r : Int32, q_X8_languages d a = some r ∧ q_X9_languages e a = some r := by
  rcases hP hR.1.1 a with ⟨h8, h9⟩ | ⟨k, hk, rfl, h1, h8, h9⟩
  · exact ⟨-1, by simp only [q_X8_languages, q_X8_languages_0, h8, Option.bind_some, ↓reduceIte], by simp only [q_X9_languages, q_X9_languages_0, h9, Option.bind_some, ↓reduceIte]⟩
  · have ek := nI_clamp (n := k) (by omega)
    have bk : sk_bi (nI k) 20 = true := bi_nI (by omega) (by omega)
    have hf := ((hR.1.1 k hk).2.2 h1).2.1
    exact ⟨d.1 37 k 2, by simp only [q_X8_languages, q_X8_languages_0, h8, Option.bind_some, i10, bk, ek, ↓reduceIte], by simp only [q_X9_languages, q_X9_languages_0, h9, Option.bind_some, i10, bk, ek, hf, ↓reduceIte]⟩
theorem px_family {d e : sk_D} (hR : sk_R2 d e) (a : Int32) : ∃ r : Int32, q_X8_family d a = some r ∧ q_X9_family e a = some r := by
  rcases hP hR.1.1 a with ⟨h8, h9⟩ | ⟨k, hk, rfl, h1, h8, h9⟩
  · exact ⟨-1, by simp only [q_X8_family, q_X8_family_0, h8, Option.bind_some, ↓reduceIte], by simp only [q_X9_family, q_X9_family_0, h9, Option.bind_some, ↓reduceIte]⟩
  · have ek := nI_clamp (n := k) (by omega)
    have bk : sk_bi (nI k) 20 = true := bi_nI (by omega) (by omega)
    have hf := ((hR.1.1 k hk).2.2 h1).2.2.1
    exact ⟨d.1 37 k 3, by simp only [q_X8_family, q_X8_family_0, h8, Option.bind_some, i10, bk, ek, ↓reduceIte], by simp only [q_X9_family, q_X9_family_0, h9, Option.bind_some, i10, bk, ek, hf, ↓reduceIte]⟩
theorem px_group {d e : sk_D} (hR : sk_R2 d e) (a : Int32) : ∃ r : Int32, q_X8_group d a = some r ∧ q_X9_group e a = some r := by
  rcases hP hR.1.1 a with ⟨h8, h9⟩ | ⟨k, hk, rfl, h1, h8, h9⟩
  · exact ⟨-1, by simp only [q_X8_group, q_X8_group_0, h8, Option.bind_some, ↓reduceIte], by simp only [q_X9_group, q_X9_group_0, h9, Option.bind_some, ↓reduceIte]⟩
  · have ek := nI_clamp (n := k) (by omega)
    have bk : sk_bi (nI k) 20 = true := bi_nI (by omega) (by omega)
    have hf := ((hR.1.1 k hk).2.2 h1).2.2.2.1
    exact ⟨d.1 37 k 4, by simp only [q_X8_group, q_X8_group_0, h8, Option.bind_some, i10, bk, ek, ↓reduceIte], by simp only [q_X9_group, q_X9_group_0, h9, Option.bind_some, i10, bk, ek, hf, ↓reduceIte]⟩
theorem px_groupLevel {d e : sk_D} (hR : sk_R2 d e) (a : Int32) : ∃ r : Int32, q_X8_groupLevel d a = some r ∧ q_X9_groupLevel e a = some r := by
  rcases hG hR.2.2.1.1 a with ⟨h8, h9⟩ | ⟨k, hk, rfl, h1, h8, h9⟩
  · exact ⟨-1, by simp only [q_X8_groupLevel, q_X8_groupLevel_0, h8, Option.bind_some, ↓reduceIte], by simp only [q_X9_groupLevel, q_X9_groupLevel_0, h9, Option.bind_some, ↓reduceIte]⟩
  · have ek := nI_clamp (n := k) (by omega)
    have bk : sk_bi (nI k) 4 = true := bi_nI (by omega) (by omega)
    have hf := ((hR.2.2.1.1 k hk).2.2.2.2 h1).1
    exact ⟨d.1 39 k 1, by simp only [q_X8_groupLevel, q_X8_groupLevel_0, h8, Option.bind_some, i10, bk, ek, ↓reduceIte], by simp only [q_X9_groupLevel, q_X9_groupLevel_0, h9, Option.bind_some, i10, bk, ek, hf, ↓reduceIte]⟩
theorem px_instructor {d e : sk_D} (hR : sk_R2 d e) (a : Int32) : ∃ r : Int32, q_X8_instructor d a = some r ∧ q_X9_instructor e a = some r := by
  rcases hG hR.2.2.1.1 a with ⟨h8, h9⟩ | ⟨k, hk, rfl, h1, h8, h9⟩
  · exact ⟨-1, by simp only [q_X8_instructor, q_X8_instructor_0, h8, Option.bind_some, ↓reduceIte], by simp only [q_X9_instructor, q_X9_instructor_0, h9, Option.bind_some, ↓reduceIte]⟩
  · have ek := nI_clamp (n := k) (by omega)
    have bk : sk_bi (nI k) 4 = true := bi_nI (by omega) (by omega)
    have hf := ((hR.2.2.1.1 k hk).2.2.2.2 h1).2.2.2.1
    exact ⟨d.1 39 k 4, by simp only [q_X8_instructor, q_X8_instructor_0, h8, Option.bind_some, i10, bk, ek, ↓reduceIte], by simp only [q_X9_instructor, q_X9_instructor_0, h9, Option.bind_some, i10, bk, ek, hf, ↓reduceIte]⟩
theorem px_waited {d e : sk_D} (hR : sk_R2 d e) (a : Int32) : ∃ r : Int32, q_X8_waited d a = some r ∧ q_X9_waited e a = some r := by
  rcases hG hR.2.2.1.1 a with ⟨h8, h9⟩ | ⟨k, hk, rfl, h1, h8, h9⟩
  · exact ⟨-1, by simp only [q_X8_waited, q_X8_waited_0, h8, Option.bind_some, ↓reduceIte], by simp only [q_X9_waited, q_X9_waited_0, h9, Option.bind_some, ↓reduceIte]⟩
  · have ek := nI_clamp (n := k) (by omega)
    have bk : sk_bi (nI k) 4 = true := bi_nI (by omega) (by omega)
    have hf := (hR.2.2.1.1 k hk).2.2.1
    exact ⟨d.1 39 k 9, by simp only [q_X8_waited, q_X8_waited_0, h8, Option.bind_some, i10, bk, ek, ↓reduceIte], by simp only [q_X9_waited, q_X9_waited_0, h9, Option.bind_some, i10, bk, ek, hf, ↓reduceIte]⟩
theorem px_rides {d e : sk_D} (hR : sk_R2 d e) (a : Int32) : ∃ r : Int32, q_X8_rides d a = some r ∧ q_X9_rides e a = some r := by
  rcases hG hR.2.2.1.1 a with ⟨h8, h9⟩ | ⟨k, hk, rfl, h1, h8, h9⟩
  · exact ⟨-1, by simp only [q_X8_rides, q_X8_rides_0, h8, Option.bind_some, ↓reduceIte], by simp only [q_X9_rides, q_X9_rides_0, h9, Option.bind_some, ↓reduceIte]⟩
  · have ek := nI_clamp (n := k) (by omega)
    have bk : sk_bi (nI k) 4 = true := bi_nI (by omega) (by omega)
    have hf := (hR.2.2.1.1 k hk).2.2.2.1
    exact ⟨d.1 39 k 10, by simp only [q_X8_rides, q_X8_rides_0, h8, Option.bind_some, i10, bk, ek, ↓reduceIte], by simp only [q_X9_rides, q_X9_rides_0, h9, Option.bind_some, i10, bk, ek, hf, ↓reduceIte]⟩
theorem px_earnings {d e : sk_D} (hR : sk_R2 d e) (a : Int32) : ∃ r : Int32, q_X8_earnings d a = some r ∧ q_X9_earnings e a = some r := by
  rcases hI hR.2.2.2.1.1 a with ⟨h8, h9⟩ | ⟨k, hk, rfl, h1, h8, h9⟩
  · exact ⟨-1, by simp only [q_X8_earnings, q_X8_earnings_0, h8, Option.bind_some, ↓reduceIte], by simp only [q_X9_earnings, q_X9_earnings_0, h9, Option.bind_some, ↓reduceIte]⟩
  · have ek := nI_clamp (n := k) (by omega)
    have bk : sk_bi (nI k) 8 = true := bi_nI (by omega) (by omega)
    have hf := ((hR.2.2.2.1.1 k hk).2.2 h1).2.2.2.2
    exact ⟨d.1 42 k 5, by simp only [q_X8_earnings, q_X8_earnings_0, h8, Option.bind_some, i10, bk, ek, ↓reduceIte], by simp only [q_X9_earnings, q_X9_earnings_0, h9, Option.bind_some, i10, bk, ek, hf, ↓reduceIte]⟩
theorem px_longestQueue {d e : sk_D} (hR : sk_R2 d e) (a : Int32) : ∃ r : Int32, q_X8_longestQueue d a = some r ∧ q_X9_longestQueue e a = some r := by
  rcases hL hR.2.2.2.2.1 a with ⟨h8, h9⟩ | ⟨k, hk, rfl, h1, h8, h9⟩
  · exact ⟨-1, by simp only [q_X8_longestQueue, q_X8_longestQueue_0, h8, Option.bind_some, ↓reduceIte], by simp only [q_X9_longestQueue, q_X9_longestQueue_0, h9, Option.bind_some, ↓reduceIte]⟩
  · have ek := nI_clamp (n := k) (by omega)
    have bk : sk_bi (nI k) 3 = true := bi_nI (by omega) (by omega)
    have hf := (hR.2.2.2.2.1.2.2 k hk).1
    exact ⟨d.1 43 k 3, by simp only [q_X8_longestQueue, q_X8_longestQueue_0, h8, Option.bind_some, i10, bk, ek, ↓reduceIte], by simp only [q_X9_longestQueue, q_X9_longestQueue_0, h9, Option.bind_some, i10, bk, ek, hf, ↓reduceIte]⟩
theorem px_carried {d e : sk_D} (hR : sk_R2 d e) (a : Int32) : ∃ r : Int32, q_X8_carried d a = some r ∧ q_X9_carried e a = some r := by
  rcases hL hR.2.2.2.2.1 a with ⟨h8, h9⟩ | ⟨k, hk, rfl, h1, h8, h9⟩
  · exact ⟨-1, by simp only [q_X8_carried, q_X8_carried_0, h8, Option.bind_some, ↓reduceIte], by simp only [q_X9_carried, q_X9_carried_0, h9, Option.bind_some, ↓reduceIte]⟩
  · have ek := nI_clamp (n := k) (by omega)
    have bk : sk_bi (nI k) 3 = true := bi_nI (by omega) (by omega)
    have hf := (hR.2.2.2.2.1.2.2 k hk).2
    exact ⟨d.1 43 k 4, by simp only [q_X8_carried, q_X8_carried_0, h8, Option.bind_some, i10, bk, ek, ↓reduceIte], by simp only [q_X9_carried, q_X9_carried_0, h9, Option.bind_some, i10, bk, ek, hf, ↓reduceIte]⟩
theorem px_scoreOf {d e : sk_D} (hR : sk_R2 d e) (a b : Int32) : ∃ r : Int32, q_X8_scoreOf d a b = some r ∧ q_X9_scoreOf e a b = some r := by
  rcases hP hR.1.1 a with ⟨h8, h9⟩ | ⟨k, hk, rfl, h1, h8, h9⟩
  · exact ⟨-1, by simp only [q_X8_scoreOf, q_X8_scoreOf_0, h8, Option.bind_some, ↓reduceIte], by simp only [q_X9_scoreOf, q_X9_scoreOf_0, h9, Option.bind_some, ↓reduceIte]⟩
  · rcases cE b with ⟨g8, g9⟩ | ⟨j, _, hj, rfl, g8, g9⟩
    · exact ⟨-1, by simp only [q_X8_scoreOf, q_X8_scoreOf_0, h8, g8, Option.bind_some, i10, ↓reduceIte], by simp only [q_X9_scoreOf, q_X9_scoreOf_0, h9, g9, Option.bind_some, i10, ↓reduceIte]⟩
    · have ek := nI_clamp (n := k) (by omega)
      have bk : sk_bi (nI k) 20 = true := bi_nI (by omega) (by omega)
      have ej := nI_clamp (n := j) (by omega)
      have bj : sk_bi (nI j) 4 = true := bi_nI (by omega) (by omega)
      have hf := ((hR.1.1 k hk).2.2 h1).2.2.2.2.2 j (by omega)
      have e4 : (4 : Int32) * nI k + nI j = nI (4 * k + j) := x4_nI k j
      have e4k := nI_clamp (n := 4 * k + j) (by omega)
      have b4 : sk_bi (nI (4 * k + j)) 80 = true := bi_nI (by omega) (by omega)
      exact ⟨d.1 38 k j, by simp only [q_X8_scoreOf, q_X8_scoreOf_0, h8, g8, Option.bind_some, i10, bk, ek, bj, ej, ↓reduceIte], by simp only [q_X9_scoreOf, q_X9_scoreOf_0, h9, g9, Option.bind_some, i10, e4, e4k, b4, hf, ↓reduceIte]⟩
