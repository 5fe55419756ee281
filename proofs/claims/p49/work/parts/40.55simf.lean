/-! simulate, bestStart *** by hand -/
theorem SS.fr58 {n : Nat} {st p : Nat → Nat} {d e d' e' : sk_D} (h : SS n st p d e) (h8 : ∀ s k f, s < 24 ∨ 34 < s → d'.1 s k f = d.1 s k f) (h9 : ∀ s k f, s ≠ 58 → s < 84 → e'.1 s k f = e.1 s k f) : SS n st p d' e' := by
  unfold SS at h ⊢
  simp only [h8 39 _ _ (by omega), h8 40 _ _ (by omega), h8 41 _ _ (by omega), h8 43 _ _ (by omega), h8 0 _ _ (by omega), h9 59 _ _ (by omega) (by omega), h9 60 _ _ (by omega) (by omega), h9 61 _ _ (by omega) (by omega), h9 44 _ _ (by omega) (by omega), h9 68 _ _ (by omega) (by omega), h9 69 _ _ (by omega) (by omega), h9 70 _ _ (by omega) (by omega)]
  exact h
def kg8 (d : sk_D) : Nat → sk_D
  | 0 => d
  | n + 1 => sk_wi (sk_wi (kg8 d n) 39 n 9 (d.1 26 0 n)) 39 n 10 (d.1 27 0 n)
def kl8 (d : sk_D) : Nat → sk_D
  | 0 => d
  | n + 1 => sk_wi (sk_wi (kl8 d n) 43 n 3 (d.1 28 0 n)) 43 n 4 (d.1 29 0 n)
def kg9 (e : sk_D) : Nat → sk_D
  | 0 => e
  | n + 1 => sk_wi (sk_wi (kg9 e n) 71 0 n (e.1 90 0 n)) 72 0 n (e.1 91 0 n)
def kl9 (e : sk_D) : Nat → sk_D
  | 0 => e
  | n + 1 => sk_wi (sk_wi (kl9 e n) 73 0 n (e.1 92 0 n)) 74 0 n (e.1 93 0 n)
theorem kg8_o (d : sk_D) : ∀ (n s k f : Nat), ¬ (s = 39 ∧ k < n ∧ (f = 9 ∨ f = 10)) → (kg8 d n).1 s k f = d.1 s k f
  | 0, _, _, _, _ => rfl
  | n + 1, s, k, f, h => by
    show (sk_wi (sk_wi (kg8 d n) 39 n 9 _) 39 n 10 _).1 s k f = _
    rw [wi_o (by omega), wi_o (by omega), kg8_o d n s k f (by omega)]
theorem kg8_g (d : sk_D) : ∀ (n k : Nat), k < n → (kg8 d n).1 39 k 9 = d.1 26 0 k ∧ (kg8 d n).1 39 k 10 = d.1 27 0 k
  | 0, k, h => absurd h (Nat.not_lt_zero _)
  | n + 1, k, h => by
    by_cases e1 : k = n
    · subst e1
      exact ⟨(wi_o (by omega)).trans wi_e, wi_e⟩
    · have ih := kg8_g d n k (by omega)
      exact ⟨(wi_o (by omega)).trans ((wi_o (by omega)).trans ih.1), (wi_o (by omega)).trans ((wi_o (by omega)).trans ih.2)⟩
theorem kl8_o (d : sk_D) : ∀ (n s k f : Nat), ¬ (s = 43 ∧ k < n ∧ (f = 3 ∨ f = 4)) → (kl8 d n).1 s k f = d.1 s k f
  | 0, _, _, _, _ => rfl
  | n + 1, s, k, f, h => by
    show (sk_wi (sk_wi (kl8 d n) 43 n 3 _) 43 n 4 _).1 s k f = _
    rw [wi_o (by omega), wi_o (by omega), kl8_o d n s k f (by omega)]
theorem kl8_g (d : sk_D) : ∀ (n k : Nat), k < n → (kl8 d n).1 43 k 3 = d.1 28 0 k ∧ (kl8 d n).1 43 k 4 = d.1 29 0 k
  | 0, k, h => absurd h (Nat.not_lt_zero _)
  | n + 1, k, h => by
    by_cases e1 : k = n
    · subst e1
      exact ⟨(wi_o (by omega)).trans wi_e, wi_e⟩
    · have ih := kl8_g d n k (by omega)
      exact ⟨(wi_o (by omega)).trans ((wi_o (by omega)).trans ih.1), (wi_o (by omega)).trans ((wi_o (by omega)).trans ih.2)⟩
theorem kg9_o (e : sk_D) : ∀ (n s k f : Nat), ¬ ((s = 71 ∨ s = 72) ∧ f < n) → (kg9 e n).1 s k f = e.1 s k f
  | 0, _, _, _, _ => rfl
  | n + 1, s, k, f, h => by
    show (sk_wi (sk_wi (kg9 e n) 71 0 n _) 72 0 n _).1 s k f = _
    rw [wi_o (by omega), wi_o (by omega), kg9_o e n s k f (by omega)]
theorem kg9_g (e : sk_D) : ∀ (n k : Nat), k < n → (kg9 e n).1 71 0 k = e.1 90 0 k ∧ (kg9 e n).1 72 0 k = e.1 91 0 k
  | 0, k, h => absurd h (Nat.not_lt_zero _)
  | n + 1, k, h => by
    by_cases e1 : k = n
    · subst e1
      exact ⟨(wi_o (by omega)).trans wi_e, wi_e⟩
    · have ih := kg9_g e n k (by omega)
      exact ⟨(wi_o (by omega)).trans ((wi_o (by omega)).trans ih.1), (wi_o (by omega)).trans ((wi_o (by omega)).trans ih.2)⟩
theorem kl9_o (e : sk_D) : ∀ (n s k f : Nat), ¬ ((s = 73 ∨ s = 74) ∧ f < n) → (kl9 e n).1 s k f = e.1 s k f
  | 0, _, _, _, _ => rfl
  | n + 1, s, k, f, h => by
    show (sk_wi (sk_wi (kl9 e n) 73 0 n _) 74 0 n _).1 s k f = _
    rw [wi_o (by omega), wi_o (by omega), kl9_o e n s k f (by omega)]
theorem kl9_g (e : sk_D) : ∀ (n k : Nat), k < n → (kl9 e n).1 73 0 k = e.1 92 0 k ∧ (kl9 e n).1 74 0 k = e.1 93 0 k
  | 0, k, h => absurd h (Nat.not_lt_zero _)
  | n + 1, k, h => by
    by_cases e1 : k = n
    · subst e1
      exact ⟨(wi_o (by omega)).trans wi_e, wi_e⟩
    · have ih := kl9_g e n k (by omega)
      exact ⟨(wi_o (by omega)).trans ((wi_o (by omega)).trans ih.1), (wi_o (by omega)).trans ((wi_o (by omega)).trans ih.2)⟩
theorem keep8 (d : sk_D) : q_X8_keepResults d = some (kl8 (kg8 d 4) 3) := by
  refine it_for0 (F := fun rec a => q_X8_keepResults_2 rec a.1 a.2) (fun i => (kg8 d i, nI i)) 4 (fun j hj rec => ?_) (fun rec => ?_) (by omega)
  · show q_X8_keepResults_2 rec (kg8 d j) (nI j) = rec (kg8 d (j + 1), nI (j + 1))
    have ej := nI_clamp (n := j) (by omega)
    have bj : sk_bi (nI j) 4 = true := bi_nI (by omega) (by omega)
    have lj : ¬ (4 : Int32) ≤ nI j := le_nI (n := 4) rfl hj (by omega)
    have o26 : (kg8 d j).1 26 0 j = d.1 26 0 j := kg8_o d j 26 0 j (by omega)
    have o27 : (sk_wi (kg8 d j) 39 j 9 (d.1 26 0 j)).1 27 0 j = d.1 27 0 j := (wi_o (by omega)).trans (kg8_o d j 27 0 j (by omega))
    simp only [q_X8_keepResults_2, q_X8_keepResults_39, lj, bj, ej, o26, o27, s1_nI, kg8, ↓reduceIte]
  · show q_X8_keepResults_2 rec (kg8 d 4) (nI 4) = _
    have l : (4 : Int32) ≤ nI 4 := ge_nI (n := 4) rfl (by omega) (by omega)
    simp only [q_X8_keepResults_2, l, ↓reduceIte]
    refine it_for0 (F := fun rec a => q_X8_keepResults_51 rec a.1 a.2) (fun i => (kl8 (kg8 d 4) i, nI i)) 3 (fun j hj rec => ?_) (fun rec => ?_) (by omega)
    · show q_X8_keepResults_51 rec (kl8 (kg8 d 4) j) (nI j) = rec (kl8 (kg8 d 4) (j + 1), nI (j + 1))
      have ej := nI_clamp (n := j) (by omega)
      have bj : sk_bi (nI j) 3 = true := bi_nI (by omega) (by omega)
      have lj : ¬ (3 : Int32) ≤ nI j := le_nI (n := 3) rfl hj (by omega)
      have o28 : (kl8 (kg8 d 4) j).1 28 0 j = (kg8 d 4).1 28 0 j := kl8_o _ j 28 0 j (by omega)
      have o29 : (sk_wi (kl8 (kg8 d 4) j) 43 j 3 ((kg8 d 4).1 28 0 j)).1 29 0 j = (kg8 d 4).1 29 0 j := (wi_o (by omega)).trans (kl8_o _ j 29 0 j (by omega))
      simp only [q_X8_keepResults_51, q_X8_keepResults_88, lj, bj, ej, o28, o29, s1_nI, kl8, ↓reduceIte]
    · show q_X8_keepResults_51 rec (kl8 (kg8 d 4) 3) (nI 3) = _
      have l3 : (3 : Int32) ≤ nI 3 := ge_nI (n := 3) rfl (by omega) (by omega)
      simp only [q_X8_keepResults_51, l3, ↓reduceIte]
def ssm4 (f : Nat → Int32) : Nat → Int32
  | 0 => 0
  | n + 1 => ssm4 f n + f n
