/-! WHAT THE RELATION SAYS OF AN ARGUMENT; calls that only look at one place *** by program (wip/whole/gen/p31.py) -/
theorem i01 : ((0 : Int32) = 1) = False := eq_false (by decide)
theorem nb0 : sk_nb 0 = true := by decide
theorem nb1 : sk_nb 1 = true := by decide
/-- the class's part stands still / the reference's part stands still -/
def sd8 (d d' : sk_D) : Prop := (∀ s, s = 0 ∨ s = 5 ∨ (36 ≤ s ∧ s ≤ 43) → d'.1 s = d.1 s) ∧ d'.1 35 0 1 = d.1 35 0 1
def se9 (e e' : sk_D) : Prop := (∀ s, 45 ≤ s → s ≤ 75 → e'.1 s = e.1 s) ∧ ∀ f, f = 0 ∨ f = 1 ∨ f = 2 ∨ f = 3 ∨ f = 27 ∨ f = 36 → e'.1 44 0 f = e.1 44 0 f
def sk_F8 (d d' : sk_D) : Prop := ∀ s, 44 ≤ s → d'.1 s = d.1 s
def sk_F9 (e e' : sk_D) : Prop := ∀ s, s < 44 → e'.1 s = e.1 s
theorem sd8.of {d d' : sk_D} (h : ∀ s, s < 44 → d'.1 s = d.1 s) : sd8 d d' := ⟨fun s hs => h s (by omega), by rw [h 35 (by omega)]⟩
theorem se9.of {e e' : sk_D} (h : ∀ s, 44 ≤ s → e'.1 s = e.1 s) : se9 e e' := ⟨fun s hs _ => h s (by omega), fun f _ => by rw [h 44 (by omega)]⟩
theorem sk_F8.rf (d : sk_D) : sk_F8 d d := fun _ _ => rfl
theorem sk_F9.rf (d : sk_D) : sk_F9 d d := fun _ _ => rfl
theorem sk_F8.tr {a b c : sk_D} (h : sk_F8 a b) (g : sk_F8 b c) : sk_F8 a c := fun s hs => (g s hs).trans (h s hs)
theorem sk_F9.tr {a b c : sk_D} (h : sk_F9 a b) (g : sk_F9 b c) : sk_F9 a c := fun s hs => (g s hs).trans (h s hs)
theorem sk_F8.wi {a b : sk_D} (h : sk_F8 a b) (s k f : Nat) (v : Int32) (hs : s < 44) : sk_F8 a (sk_wi b s k f v) := fun s' hs' => by
  rw [← h s' hs']
  funext k' f'
  show (if s' = s ∧ k' = k ∧ f' = f then v else b.1 s' k' f') = b.1 s' k' f'
  rw [if_neg (by omega)]
theorem sk_F9.wi {a b : sk_D} (h : sk_F9 a b) (s k f : Nat) (v : Int32) (hs : 44 ≤ s) : sk_F9 a (sk_wi b s k f v) := fun s' hs' => by
  rw [← h s' hs']
  funext k' f'
  show (if s' = s ∧ k' = k ∧ f' = f then v else b.1 s' k' f') = b.1 s' k' f'
  rw [if_neg (by omega)]
theorem sk_F8.wf {a b : sk_D} (h : sk_F8 a b) (s k : Nat) (g : Nat → Int32) (hs : s < 44) : sk_F8 a (sk_wf b s k g) := fun s' hs' => by
  rw [← h s' hs']
  funext k'
  show (if s' = s ∧ k' = k then g else b.1 s' k') = b.1 s' k'
  rw [if_neg (by omega)]
theorem sk_F9.wf {a b : sk_D} (h : sk_F9 a b) (s k : Nat) (g : Nat → Int32) (hs : 44 ≤ s) : sk_F9 a (sk_wf b s k g) := fun s' hs' => by
  rw [← h s' hs']
  funext k'
  show (if s' = s ∧ k' = k then g else b.1 s' k') = b.1 s' k'
  rw [if_neg (by omega)]
theorem R2_d {d d' e : sk_D} (hR : sk_R2 d e) (h : sd8 d d') : sk_R2 d' e := by
  obtain ⟨h, ht⟩ := h
  have e0 := h 0 (by omega)
  have e5 := h 5 (by omega)
  have e36 := h 36 (by omega)
  have e37 := h 37 (by omega)
  have e38 := h 38 (by omega)
  have e39 := h 39 (by omega)
  have e40 := h 40 (by omega)
  have e41 := h 41 (by omega)
  have e42 := h 42 (by omega)
  have e43 := h 43 (by omega)
  unfold sk_R2 rP vP rF rG vG vD rI vI rL rM rT at hR ⊢
  simp only [e0, e5, e36, e37, e38, e39, e40, e41, e42, e43, ht]
  exact hR
theorem R2_e {d e e' : sk_D} (hR : sk_R2 d e) (h : se9 e e') : sk_R2 d e' := by
  obtain ⟨h, ht⟩ := h
  have t0 := ht 0 (by omega)
  have t1 := ht 1 (by omega)
  have t2 := ht 2 (by omega)
  have t3 := ht 3 (by omega)
  have t27 := ht 27 (by omega)
  have t36 := ht 36 (by omega)
  have e45 := h 45 (by omega) (by omega)
  have e46 := h 46 (by omega) (by omega)
  have e47 := h 47 (by omega) (by omega)
  have e48 := h 48 (by omega) (by omega)
  have e49 := h 49 (by omega) (by omega)
  have e50 := h 50 (by omega) (by omega)
  have e51 := h 51 (by omega) (by omega)
  have e52 := h 52 (by omega) (by omega)
  have e53 := h 53 (by omega) (by omega)
  have e54 := h 54 (by omega) (by omega)
  have e55 := h 55 (by omega) (by omega)
  have e56 := h 56 (by omega) (by omega)
  have e57 := h 57 (by omega) (by omega)
  have e58 := h 58 (by omega) (by omega)
  have e59 := h 59 (by omega) (by omega)
  have e60 := h 60 (by omega) (by omega)
  have e61 := h 61 (by omega) (by omega)
  have e62 := h 62 (by omega) (by omega)
  have e63 := h 63 (by omega) (by omega)
  have e64 := h 64 (by omega) (by omega)
  have e65 := h 65 (by omega) (by omega)
  have e66 := h 66 (by omega) (by omega)
  have e67 := h 67 (by omega) (by omega)
  have e68 := h 68 (by omega) (by omega)
  have e69 := h 69 (by omega) (by omega)
  have e70 := h 70 (by omega) (by omega)
  have e71 := h 71 (by omega) (by omega)
  have e72 := h 72 (by omega) (by omega)
  have e73 := h 73 (by omega) (by omega)
  have e74 := h 74 (by omega) (by omega)
  have e75 := h 75 (by omega) (by omega)
  unfold sk_R2 rP rF rG rI rL rM rT at hR ⊢
  simp only [t0, t1, t2, t3, t27, t36, e45, e46, e47, e48, e49, e50, e51, e52, e53, e54, e55, e56, e57, e58, e59, e60, e61, e62, e63, e64, e65, e66, e67, e68, e69, e70, e71, e72, e73, e74, e75]
  exact hR
theorem hP {d e : sk_D} (h : rP d e) (a : Int32) : (q_X8_hasPupil d a = some 0 ∧ True) ∨ ∃ k, k < 20 ∧ a = nI k ∧ d.1 37 k 0 = 1 ∧ q_X8_hasPupil d (nI k) = some 1 ∧ True := by
  rcases wi_cases a 0 19 0 19 rfl rfl (by omega) with ⟨h8, _⟩ | ⟨k, _, hk, rfl, h8, _⟩
  · left
    refine ⟨?_, trivial⟩
    simp only [q_X8_hasPupil, q_X8_hasPupil_0, h8, Option.bind_some, ↓reduceIte]
  · have ek := nI_clamp (n := k) (by omega)
    have bk : sk_bi (nI k) 20 = true := bi_nI (by omega) (by omega)
    obtain ⟨h01, _⟩ := h k (by omega)
    rcases h01 with h0 | h1
    · left
      refine ⟨?_, trivial⟩
      simp only [q_X8_hasPupil, q_X8_hasPupil_0, h8, Option.bind_some, bk, ek, h0, i10, i01, ↓reduceIte]
    · right
      refine ⟨k, by omega, rfl, h1, ?_, trivial⟩
      simp only [q_X8_hasPupil, q_X8_hasPupil_0, h8, Option.bind_some, bk, ek, h1, i10, ↓reduceIte]
theorem hG {d e : sk_D} (h : rG d e) (a : Int32) : (q_X8_hasGroup d a = some 0 ∧ True) ∨ ∃ k, k < 4 ∧ a = nI k ∧ d.1 39 k 0 = 1 ∧ q_X8_hasGroup d (nI k) = some 1 ∧ True := by
  rcases wi_cases a 0 3 0 3 rfl rfl (by omega) with ⟨h8, _⟩ | ⟨k, _, hk, rfl, h8, _⟩
  · left
    refine ⟨?_, trivial⟩
    simp only [q_X8_hasGroup, q_X8_hasGroup_0, h8, Option.bind_some, ↓reduceIte]
  · have ek := nI_clamp (n := k) (by omega)
    have bk : sk_bi (nI k) 4 = true := bi_nI (by omega) (by omega)
    obtain ⟨h01, _⟩ := h k (by omega)
    rcases h01 with h0 | h1
    · left
      refine ⟨?_, trivial⟩
      simp only [q_X8_hasGroup, q_X8_hasGroup_0, h8, Option.bind_some, bk, ek, h0, i10, i01, ↓reduceIte]
    · right
      refine ⟨k, by omega, rfl, h1, ?_, trivial⟩
      simp only [q_X8_hasGroup, q_X8_hasGroup_0, h8, Option.bind_some, bk, ek, h1, i10, ↓reduceIte]
theorem hI {d e : sk_D} (h : rI d e) (a : Int32) : (q_X8_hasInstructor d a = some 0 ∧ True) ∨ ∃ k, k < 8 ∧ a = nI k ∧ d.1 42 k 0 = 1 ∧ q_X8_hasInstructor d (nI k) = some 1 ∧ True := by
  rcases wi_cases a 0 7 0 7 rfl rfl (by omega) with ⟨h8, _⟩ | ⟨k, _, hk, rfl, h8, _⟩
  · left
    refine ⟨?_, trivial⟩
    simp only [q_X8_hasInstructor, q_X8_hasInstructor_0, h8, Option.bind_some, ↓reduceIte]
  · have ek := nI_clamp (n := k) (by omega)
    have bk : sk_bi (nI k) 8 = true := bi_nI (by omega) (by omega)
    obtain ⟨h01, _⟩ := h k (by omega)
    rcases h01 with h0 | h1
    · left
      refine ⟨?_, trivial⟩
      simp only [q_X8_hasInstructor, q_X8_hasInstructor_0, h8, Option.bind_some, bk, ek, h0, i10, i01, ↓reduceIte]
    · right
      refine ⟨k, by omega, rfl, h1, ?_, trivial⟩
      simp only [q_X8_hasInstructor, q_X8_hasInstructor_0, h8, Option.bind_some, bk, ek, h1, i10, ↓reduceIte]
theorem x4_nI (k j : Nat) : (4 : Int32) * nI k + nI j = nI (4 * k + j) := by
  have h : (4 : Int32) * nI k = nI (4 * k) := by
    show Int32.ofNat 4 * Int32.ofNat k = Int32.ofNat (4 * k)
    rw [Int32.ofNat_mul]
  rw [h, nI_add]
