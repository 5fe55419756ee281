/-! closeGroup, hire, dismiss, canTeach, addLift, type, clearText *** by hand -/
/-- the groups of pupils set, those with p / all, the first n of them -/
def sg8 (p : Nat → Bool) (v : Nat → Int32) (d : sk_D) : Nat → sk_D
  | 0 => d
  | n + 1 => if p n = true then sk_wi (sg8 p v d n) 37 n 4 (v n) else sg8 p v d n
def sg9 (v : Nat → Int32) (e : sk_D) : Nat → sk_D
  | 0 => e
  | n + 1 => sk_wi (sg9 v e n) 49 0 n (v n)
theorem sg8_o (p : Nat → Bool) (v : Nat → Int32) (d : sk_D) : ∀ (n s k j : Nat), ¬ (s = 37 ∧ j = 4 ∧ k < n) → (sg8 p v d n).1 s k j = d.1 s k j
  | 0, _, _, _, _ => rfl
  | n + 1, s, k, j, h => by
    show (if p n = true then sk_wi (sg8 p v d n) 37 n 4 (v n) else sg8 p v d n).1 s k j = _
    split
    · rw [wi_o (by omega), sg8_o p v d n s k j (by omega)]
    · exact sg8_o p v d n s k j (by omega)
theorem sg8_g (p : Nat → Bool) (v : Nat → Int32) (d : sk_D) : ∀ (n k : Nat), k < n → (sg8 p v d n).1 37 k 4 = if p k = true then v k else d.1 37 k 4
  | 0, k, h => absurd h (Nat.not_lt_zero _)
  | n + 1, k, h => by
    show (if p n = true then sk_wi (sg8 p v d n) 37 n 4 (v n) else sg8 p v d n).1 37 k 4 = _
    by_cases e : k = n
    · subst e
      by_cases hp : p k = true
      · rw [if_pos hp, if_pos hp, wi_e]
      · rw [if_neg hp, if_neg hp, sg8_o _ _ _ _ _ _ _ (by omega)]
    · by_cases hp : p n = true
      · rw [if_pos hp, wi_o (by omega), sg8_g p v d n k (by omega)]
      · rw [if_neg hp, sg8_g p v d n k (by omega)]
theorem sg9_o (v : Nat → Int32) (e : sk_D) : ∀ (n s k j : Nat), ¬ (s = 49 ∧ k = 0 ∧ j < n) → (sg9 v e n).1 s k j = e.1 s k j
  | 0, _, _, _, _ => rfl
  | n + 1, s, k, j, h => by
    show (sk_wi (sg9 v e n) 49 0 n (v n)).1 s k j = _
    rw [wi_o (by omega), sg9_o v e n s k j (by omega)]
theorem sg9_g (v : Nat → Int32) (e : sk_D) : ∀ (n k : Nat), k < n → (sg9 v e n).1 49 0 k = v k
  | 0, k, h => absurd h (Nat.not_lt_zero _)
  | n + 1, k, h => by
    show (sk_wi (sg9 v e n) 49 0 n (v n)).1 49 0 k = _
    by_cases e1 : k = n
    · subst e1
      exact wi_e
    · rw [wi_o (by omega), sg9_g v e n k (by omega)]
theorem sg8_F (p : Nat → Bool) (v : Nat → Int32) (d : sk_D) : ∀ n, sk_F8 d (sg8 p v d n)
  | 0 => sk_F8.rf d
  | n + 1 => by
    show sk_F8 d (if p n = true then sk_wi (sg8 p v d n) 37 n 4 (v n) else sg8 p v d n)
    split
    · exact (sg8_F p v d n).wi _ _ _ _ (by omega)
    · exact sg8_F p v d n
theorem sg9_F (v : Nat → Int32) (e : sk_D) : ∀ n, sk_F9 e (sg9 v e n)
  | 0 => sk_F9.rf e
  | n + 1 => (sg9_F v e n).wi _ _ _ _ (by omega)
theorem free_i {d e : sk_D} (h : rI d e) : (∃ g, g < 8 ∧ ib d g = false ∧ (∀ i, i < g → ib d i = true) ∧ q_X8_freeInstructorNumber d = some (nI g) ∧ ¬ kc (ib d) 8 = 8) ∨ (q_X8_freeInstructorNumber d = some (-9) ∧ kc (ib d) 8 = 8) := by
  have step : ∀ j, j < 8 → ib d j = true → ∀ rec : Int32 → Option Int32, q_X8_freeInstructorNumber_2 rec d (nI j) = rec (nI (j + 1)) := by
    intro j hj hp rec
    have ej := nI_clamp (n := j) (by omega)
    have bj : sk_bi (nI j) 8 = true := bi_nI (by omega) (by omega)
    have lj : ¬ (8 : Int32) ≤ nI j := le_nI (n := 8) rfl hj (by omega)
    simp only [q_X8_freeInstructorNumber_2, lj, bj, ej, (h.o1 hj hp).1, i10, s1_nI, ↓reduceIte]
  rcases fst_or (fun i => !ib d i) 8 with ⟨j, hj, h2, h3⟩ | hn
  · left
    have h2' : ib d j = false := by rw [← Bool.not_eq_true']; exact h2
    have h3' : ∀ i, i < j → ib d i = true := fun i hi => by rw [← Bool.not_eq_false']; exact h3 i hi
    have ej := nI_clamp (n := j) (by omega)
    have bj : sk_bi (nI j) 8 = true := bi_nI (by omega) (by omega)
    have lj : ¬ (8 : Int32) ≤ nI j := le_nI (n := 8) rfl hj (by omega)
    refine ⟨j, hj, h2', h3', ?_, ?_⟩
    · refine it_for0 (F := fun rec2 a => q_X8_freeInstructorNumber_2 rec2 d a) (fun i => nI i) j (fun i hi rec => step i (by omega) (h3' i hi) rec) (fun rec => ?_) (by omega)
      show q_X8_freeInstructorNumber_2 rec d (nI j) = some (nI j)
      simp only [q_X8_freeInstructorNumber_2, lj, bj, ej, (h.o0 hj h2').1, ↓reduceIte]
    · rw [kc_kn]
      refine ne_nI (n := 8) rfl ?_ ?_
      · intro q
        have := kn_all q j hj
        rw [h2'] at this
        cases this
      · have := kn_le (ib d) 8
        omega
  · right
    have hn' : ∀ i, i < 8 → ib d i = true := fun i hi => by rw [← Bool.not_eq_false']; exact hn i hi
    refine ⟨?_, by rw [kc_kn, kn_of hn']; rfl⟩
    refine it_for0 (F := fun rec2 a => q_X8_freeInstructorNumber_2 rec2 d a) (fun i => nI i) 8 (fun i hi rec => step i (by omega) (hn' i hi) rec) (fun rec => ?_) (by omega)
    show q_X8_freeInstructorNumber_2 rec d (nI 8) = some (-9)
    have l : (8 : Int32) ≤ nI 8 := ge_nI (n := 8) rfl (by omega) (by omega)
    simp only [q_X8_freeInstructorNumber_2, l, ↓reduceIte]
def hi8 (d : sk_D) (g : Nat) (v1 v2 v3 v4 : Int32) : sk_D := sk_wi (sk_wi (sk_wi (sk_wi (sk_wi (sk_wi d 42 g 0 (1 : Int32)) 42 g 1 v1) 42 g 2 v2) 42 g 3 v3) 42 g 4 v4) 42 g 5 (0 : Int32)
def hi9 (e : sk_D) (g : Nat) (v1 v2 v3 v4 : Int32) : sk_D := sk_wi (sk_wi (sk_wi (sk_wi (sk_wi (sk_wi e 62 0 g (1 : Int32)) 63 0 g v1) 64 0 g v2) 65 0 g v3) 66 0 g v4) 67 0 g (0 : Int32)
theorem hi_R {d e : sk_D} (hR : sk_R2 d e) {g a l p w : Nat} (hg : g < 8) (ha : a < 64) (hl : l < 8) (hp : p < 8) (hw1 : 1 ≤ w) (hw : w ≤ 999999) : sk_R2 (hi8 d g (nI a) (nI l) (nI p) (nI w)) (hi9 e g (nI a) (nI l) (nI p) (nI w)) := by
  have q0 : (hi8 d g (nI a) (nI l) (nI p) (nI w)).1 42 g 0 = 1 := by simp [hi8, sk_wi, sk_up]
  have q1 : (hi8 d g (nI a) (nI l) (nI p) (nI w)).1 42 g 1 = nI a := by simp [hi8, sk_wi, sk_up]
  have q2 : (hi8 d g (nI a) (nI l) (nI p) (nI w)).1 42 g 2 = nI l := by simp [hi8, sk_wi, sk_up]
  have q3 : (hi8 d g (nI a) (nI l) (nI p) (nI w)).1 42 g 3 = nI p := by simp [hi8, sk_wi, sk_up]
  have q4 : (hi8 d g (nI a) (nI l) (nI p) (nI w)).1 42 g 4 = nI w := by simp [hi8, sk_wi, sk_up]
  have q5 : (hi8 d g (nI a) (nI l) (nI p) (nI w)).1 42 g 5 = 0 := by simp [hi8, sk_wi, sk_up]
  have qo (s k f : Nat) (h : ¬ (s = 42 ∧ k = g)) : (hi8 d g (nI a) (nI l) (nI p) (nI w)).1 s k f = d.1 s k f := by
    unfold hi8
    rw [wi_o (by omega), wi_o (by omega), wi_o (by omega), wi_o (by omega), wi_o (by omega), wi_o (by omega)]
  have ro (s f : Nat) (h : ¬ (62 ≤ s ∧ s ≤ 67 ∧ f = g)) : (hi9 e g (nI a) (nI l) (nI p) (nI w)).1 s 0 f = e.1 s 0 f := by
    unfold hi9
    rw [wi_o (by omega), wi_o (by omega), wi_o (by omega), wi_o (by omega), wi_o (by omega), wi_o (by omega)]
  obtain ⟨⟨hP, wP⟩, hF, ⟨hG, wG, wD⟩, ⟨hI, wI⟩, hL, hM, hT⟩ := hR
  refine ⟨⟨hP, wP⟩, hF, ⟨hG, fun h hh => ?_, wD⟩, ⟨fun i hi => ?_, fun i hi ho => ?_⟩, hL, hM, hT⟩
  · obtain ⟨w1, w2⟩ := wG h hh
    refine ⟨w1, fun ho => ?_⟩
    obtain ⟨s1, s2, s3, s4, s5, s6⟩ := w2 ho
    refine ⟨s1, s2, s3, ?_, s5, s6⟩
    rcases s4 with s4 | ⟨i, hi, ei, oi⟩
    · exact .inl s4
    · refine .inr ⟨i, hi, ei, ?_⟩
      by_cases e1 : i = g
      · subst e1
        exact q0
      · rw [qo 42 i 0 (by omega)]
        exact oi
  · by_cases e1 : i = g
    · subst e1
      rw [q0, q1, q2, q3, q4, q5]
      exact ⟨.inr rfl, by simp [hi9, sk_wi, sk_up], fun _ => ⟨by simp [hi9, sk_wi, sk_up], by simp [hi9, sk_wi, sk_up], by simp [hi9, sk_wi, sk_up], by simp [hi9, sk_wi, sk_up], by simp [hi9, sk_wi, sk_up]⟩⟩
    · rw [qo 42 i 0 (by omega), qo 42 i 1 (by omega), qo 42 i 2 (by omega), qo 42 i 3 (by omega), qo 42 i 4 (by omega), qo 42 i 5 (by omega), ro 62 i (by omega), ro 63 i (by omega), ro 64 i (by omega), ro 65 i (by omega), ro 66 i (by omega), ro 67 i (by omega)]
      exact hI i hi
  · by_cases e1 : i = g
    · subst e1
      rw [q1, q2, q3, q4, q5]
      exact ⟨⟨a, ha, rfl⟩, ⟨l, hl, rfl⟩, ⟨p, hp, rfl⟩, ⟨w, hw1, hw, rfl⟩, by decide⟩
    · rw [qo 42 i 0 (by omega)] at ho
      rw [qo 42 i 1 (by omega), qo 42 i 2 (by omega), qo 42 i 3 (by omega), qo 42 i 4 (by omega), qo 42 i 5 (by omega)]
      exact wI i hi ho
