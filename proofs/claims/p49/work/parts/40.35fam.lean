/-! FAMILIES KEPT TOGETHER; addPupil, setTogether, grade *** by hand -/
/-- the group of the last member among the first i; whether two followed each other with different ones -/
def lgo (d : sk_D) (f : Int32) : Nat → Option Int32
  | 0 => none
  | i + 1 => if mb d f i = true then some (d.1 37 i 4) else lgo d f i
def brk (d : sk_D) (f : Int32) : Nat → Bool
  | 0 => false
  | i + 1 => brk d f i || (mb d f i && (match lgo d f i with
    | some g => decide (¬ d.1 37 i 4 = g)
    | none => false))
theorem mb_p {d : sk_D} {f : Int32} {k : Nat} (h : mb d f k = true) : pb d k = true := by
  unfold mb at h
  rw [Bool.and_eq_true] at h
  exact h.1
theorem brk_up {d : sk_D} {f : Int32} : ∀ {i j : Nat}, i ≤ j → brk d f i = true → brk d f j = true
  | i, 0, h, hb => by
    have e : i = 0 := by omega
    subst e
    exact hb
  | i, j + 1, h, hb => by
    by_cases e : i = j + 1
    · subst e
      exact hb
    · have h1 : brk d f j = true := brk_up (i := i) (j := j) (by omega) hb
      show (brk d f j || _) = true
      rw [h1]
      rfl
theorem c8_one {d e : sk_D} (h : rP d e) (f : Int32) : q_X8_isInOnePlace d f = some (bI (!brk d f 20)) := by
  have step : ∀ j, j < 20 → brk d f j = false → ∀ rec : (Int32 × Int32 × Int32 × Int32) → Option Int32, q_X8_isInOnePlace_8 rec d f (bI (lgo d f j).isSome) ((lgo d f j).getD (-9)) (nI j) = if brk d f (j + 1) = true then some 0 else rec (f, bI (lgo d f (j + 1)).isSome, (lgo d f (j + 1)).getD (-9), nI (j + 1)) := by
    intro j hj hb rec
    have ej := nI_clamp (n := j) (by omega)
    have bj : sk_bi (nI j) 20 = true := bi_nI (by omega) (by omega)
    have lj : ¬ (20 : Int32) ≤ nI j := le_nI (n := 20) rfl hj (by omega)
    cases hm : mb d f j with
    | false =>
      simp only [q_X8_isInOnePlace_8, q_X8_isInOnePlace_62, lj, bj, ej, m8 h f hj, hm, bI_f, Option.bind_some, s1_nI, lgo, brk, hb, Bool.false_and, Bool.or_self, ↓reduceIte, Bool.false_eq_true]
    | true =>
      cases hl : lgo d f j with
      | none => simp only [q_X8_isInOnePlace_8, q_X8_isInOnePlace_49, q_X8_isInOnePlace_62, lj, bj, ej, m8 h f hj, hm, bI_t, bI_f, i10, Option.bind_some, s1_nI, lgo, brk, hb, hl, Option.isSome_none, Option.isSome_some, Option.getD_none, Option.getD_some, Bool.true_and, Bool.or_self, ↓reduceIte, Bool.false_eq_true]
      | some g =>
        by_cases hg : d.1 37 j 4 = g
        · simp only [q_X8_isInOnePlace_8, q_X8_isInOnePlace_49, q_X8_isInOnePlace_62, lj, bj, ej, m8 h f hj, hm, bI_t, bI_f, i10, Option.bind_some, s1_nI, lgo, brk, hb, hl, hg, Option.isSome_some, Option.getD_some, Bool.true_and, Bool.or_self, not_true_eq_false, decide_false, ↓reduceIte, Bool.false_eq_true]
        · simp only [q_X8_isInOnePlace_8, q_X8_isInOnePlace_49, q_X8_isInOnePlace_62, lj, bj, ej, m8 h f hj, hm, bI_t, bI_f, i10, Option.bind_some, s1_nI, lgo, brk, hb, hl, hg, Option.isSome_some, Option.getD_some, Bool.true_and, Bool.or_true, not_false_eq_true, decide_true, ↓reduceIte]
  rcases fst_or (fun i => brk d f (i + 1)) 20 with ⟨j, hj, h2, h3⟩ | hn
  · have hb : ∀ i, i ≤ j → brk d f i = false := by
      intro i hi
      cases i with
      | zero => rfl
      | succ i => exact h3 i (by omega)
    rw [brk_up (i := j + 1) (j := 20) (by omega) h2]
    refine it_for0 (F := fun rec8 a => q_X8_isInOnePlace_8 rec8 d a.1 a.2.1 a.2.2.1 a.2.2.2) (fun i => (f, bI (lgo d f i).isSome, (lgo d f i).getD (-9), nI i)) j (fun i hi rec => ?_) (fun rec => ?_) (by omega)
    · exact (step i (by omega) (hb i (by omega)) rec).trans (if_neg (by rw [hb (i + 1) (by omega)]; exact Bool.false_ne_true))
    · exact (step j hj (hb j (by omega)) rec).trans (if_pos h2)
  · have hb : ∀ i, i ≤ 20 → brk d f i = false := by
      intro i hi
      cases i with
      | zero => rfl
      | succ i => exact hn i (by omega)
    rw [hb 20 (by omega)]
    refine it_for0 (F := fun rec8 a => q_X8_isInOnePlace_8 rec8 d a.1 a.2.1 a.2.2.1 a.2.2.2) (fun i => (f, bI (lgo d f i).isSome, (lgo d f i).getD (-9), nI i)) 20 (fun i hi rec => ?_) (fun rec => ?_) (by omega)
    · exact (step i (by omega) (hb i (by omega)) rec).trans (if_neg (by rw [hb (i + 1) (by omega)]; exact Bool.false_ne_true))
    · show q_X8_isInOnePlace_8 rec d f _ _ (nI 20) = some 1
      have l : (20 : Int32) ≤ nI 20 := ge_nI (n := 20) rfl (by omega) (by omega)
      simp only [q_X8_isInOnePlace_8, l, ↓reduceIte]
/-- members with a group -/
def mgb (d : sk_D) (f : Int32) (k : Nat) : Bool := mb d f k && decide (¬ d.1 37 k 4 = -9)
def lv8 (d : sk_D) (f : Int32) : Nat → sk_D
  | 0 => d
  | i + 1 => if mgb d f i = true then sk_wi (lv8 d f i) 37 i 4 (-9) else lv8 d f i
def lv9 (d e : sk_D) (f : Int32) : Nat → sk_D
  | 0 => e
  | i + 1 => if mgb d f i = true then sk_wi (lv9 d e f i) 49 0 i (-9) else lv9 d e f i
theorem lv8_o (d : sk_D) (f : Int32) : ∀ (n s k j : Nat), ¬ (s = 37 ∧ j = 4) → (lv8 d f n).1 s k j = d.1 s k j
  | 0, _, _, _, _ => rfl
  | n + 1, s, k, j, h => by
    show (if mgb d f n = true then sk_wi (lv8 d f n) 37 n 4 (-9) else lv8 d f n).1 s k j = _
    split
    · show (if s = 37 ∧ k = n ∧ j = 4 then _ else (lv8 d f n).1 s k j) = _
      rw [if_neg (by omega), lv8_o d f n s k j h]
    · exact lv8_o d f n s k j h
theorem lv8_g (d : sk_D) (f : Int32) : ∀ (n k : Nat), (lv8 d f n).1 37 k 4 = if k < n ∧ mgb d f k = true then -9 else d.1 37 k 4
  | 0, k => by rw [if_neg (by omega)]; rfl
  | n + 1, k => by
    show (if mgb d f n = true then sk_wi (lv8 d f n) 37 n 4 (-9) else lv8 d f n).1 37 k 4 = _
    by_cases hm : mgb d f n = true
    · rw [if_pos hm]
      show (if 37 = 37 ∧ k = n ∧ 4 = 4 then (-9 : Int32) else (lv8 d f n).1 37 k 4) = _
      by_cases e : k = n
      · subst e
        rw [if_pos ⟨rfl, rfl, rfl⟩, if_pos ⟨by omega, hm⟩]
      · rw [if_neg (by omega), lv8_g d f n k]
        by_cases c : k < n ∧ mgb d f k = true
        · rw [if_pos c, if_pos ⟨by omega, c.2⟩]
        · rw [if_neg c, if_neg (fun q => c ⟨by omega, q.2⟩)]
    · rw [if_neg hm, lv8_g d f n k]
      by_cases c : k < n ∧ mgb d f k = true
      · rw [if_pos c, if_pos ⟨by omega, c.2⟩]
      · rw [if_neg c, if_neg (fun q => ?_)]
        by_cases e : k = n
        · subst e
          exact hm q.2
        · exact c ⟨by omega, q.2⟩
theorem lv9_o (d e : sk_D) (f : Int32) : ∀ (n s k j : Nat), ¬ (s = 49 ∧ k = 0) → (lv9 d e f n).1 s k j = e.1 s k j
  | 0, _, _, _, _ => rfl
  | n + 1, s, k, j, h => by
    show (if mgb d f n = true then sk_wi (lv9 d e f n) 49 0 n (-9) else lv9 d e f n).1 s k j = _
    split
    · show (if s = 49 ∧ k = 0 ∧ j = n then _ else (lv9 d e f n).1 s k j) = _
      rw [if_neg (by omega), lv9_o d e f n s k j h]
    · exact lv9_o d e f n s k j h
theorem lv9_g (d e : sk_D) (f : Int32) : ∀ (n k : Nat), (lv9 d e f n).1 49 0 k = if k < n ∧ mgb d f k = true then -9 else e.1 49 0 k
  | 0, k => by rw [if_neg (by omega)]; rfl
  | n + 1, k => by
    show (if mgb d f n = true then sk_wi (lv9 d e f n) 49 0 n (-9) else lv9 d e f n).1 49 0 k = _
    by_cases hm : mgb d f n = true
    · rw [if_pos hm]
      show (if 49 = 49 ∧ 0 = 0 ∧ k = n then (-9 : Int32) else (lv9 d e f n).1 49 0 k) = _
      by_cases e1 : k = n
      · subst e1
        rw [if_pos ⟨rfl, rfl, rfl⟩, if_pos ⟨by omega, hm⟩]
      · rw [if_neg (by omega), lv9_g d e f n k]
        by_cases c : k < n ∧ mgb d f k = true
        · rw [if_pos c, if_pos ⟨by omega, c.2⟩]
        · rw [if_neg c, if_neg (fun q => c ⟨by omega, q.2⟩)]
    · rw [if_neg hm, lv9_g d e f n k]
      by_cases c : k < n ∧ mgb d f k = true
      · rw [if_pos c, if_pos ⟨by omega, c.2⟩]
      · rw [if_neg c, if_neg (fun q => ?_)]
        by_cases e1 : k = n
        · subst e1
          exact hm q.2
        · exact c ⟨by omega, q.2⟩
theorem lv8_F (d : sk_D) (f : Int32) : ∀ n, sk_F8 d (lv8 d f n)
  | 0 => sk_F8.rf d
  | n + 1 => by
    show sk_F8 d (if mgb d f n = true then sk_wi (lv8 d f n) 37 n 4 (-9) else lv8 d f n)
    split
    · exact (lv8_F d f n).wi _ _ _ _ (by omega)
    · exact lv8_F d f n
theorem lv9_F (d e : sk_D) (f : Int32) : ∀ n, sk_F9 e (lv9 d e f n)
  | 0 => sk_F9.rf e
  | n + 1 => by
    show sk_F9 e (if mgb d f n = true then sk_wi (lv9 d e f n) 49 0 n (-9) else lv9 d e f n)
    split
    · exact (lv9_F d e f n).wi _ _ _ _ (by omega)
    · exact lv9_F d e f n
theorem lv_R {d e : sk_D} (hR : sk_R2 d e) (f : Int32) : sk_R2 (lv8 d f 20) (lv9 d e f 20) := by
  refine R2_grp hR (fun s k j _ h => lv8_o d f 20 s k j h) (fun s j _ h => lv9_o d e f 20 s 0 j (by omega)) (fun k hk hp => ?_)
  rw [lv8_g, lv9_g, ((hR.1.1 k hk).2.2 hp).2.2.2.1]
  refine ⟨rfl, ?_⟩
  split
  · exact .inl rfl
  · exact (hR.1.2 k hk hp).2.2.2.1
theorem rP_lv {d e : sk_D} (h : rP d e) (f : Int32) (n : Nat) {k : Nat} (hk : k < 20) : q_X4_isMember (lv8 d f n) k f = some (bI (mb d f k)) := by
  have e0 := lv8_o d f n 37 k 0 (by omega)
  have e3 := lv8_o d f n 37 k 3 (by omega)
  rw [← m8 h f hk]
  simp only [q_X4_isMember, q_X4_isMember_0, e0, e3]
theorem c8_leave {d e : sk_D} (h : rP d e) (f : Int32) : l_X8_separateIfBroken_30 sk_fu (d, f, (0 : Int32), (0 : Int32)) = some (kc (mgb d f) 20, lv8 d f 20) := by
  refine it_for0 (F := fun rec a => q_X8_separateIfBroken_30 rec a.1 a.2.1 a.2.2.1 a.2.2.2) (fun i => (lv8 d f i, f, kc (mgb d f) i, nI i)) 20 (fun j hj rec => ?_) (fun rec => ?_) (by omega)
  · show q_X8_separateIfBroken_30 rec (lv8 d f j) f (kc (mgb d f) j) (nI j) = rec (lv8 d f (j + 1), f, kc (mgb d f) (j + 1), nI (j + 1))
    have ej := nI_clamp (n := j) (by omega)
    have bj : sk_bi (nI j) 20 = true := bi_nI (by omega) (by omega)
    have lj : ¬ (20 : Int32) ≤ nI j := le_nI (n := 20) rfl hj (by omega)
    have eg : (lv8 d f j).1 37 j 4 = d.1 37 j 4 := by
      rw [lv8_g, if_neg (by omega)]
    cases hm : mb d f j with
    | false =>
      have hm2 : mgb d f j = false := by unfold mgb; rw [hm]; rfl
      simp only [q_X8_separateIfBroken_30, q_X8_separateIfBroken_77, lj, bj, ej, rP_lv h f j hj, hm, hm2, bI_f, Option.bind_some, s1_nI, kc, lv8, ↓reduceIte, Bool.false_eq_true]
    | true =>
      by_cases hg : d.1 37 j 4 = -9
      · have hm2 : mgb d f j = false := by unfold mgb; rw [hm, hg]; rfl
        simp only [q_X8_separateIfBroken_30, q_X8_separateIfBroken_77, lj, bj, ej, rP_lv h f j hj, hm, hm2, eg, hg, bI_t, i10, Option.bind_some, s1_nI, kc, lv8, ↓reduceIte, Bool.false_eq_true]
      · have hm2 : mgb d f j = true := by unfold mgb; rw [hm, decide_eq_true hg]; rfl
        simp only [q_X8_separateIfBroken_30, q_X8_separateIfBroken_77, lj, bj, ej, rP_lv h f j hj, hm, hm2, eg, hg, bI_t, i10, Option.bind_some, s1_nI, kc, lv8, ↓reduceIte]
  · show q_X8_separateIfBroken_30 rec (lv8 d f 20) f (kc (mgb d f) 20) (nI 20) = _
    have l : (20 : Int32) ≤ nI 20 := ge_nI (n := 20) rfl (by omega) (by omega)
    simp only [q_X8_separateIfBroken_30, l, ↓reduceIte]
theorem lgo_m1 {d : sk_D} (hv : vP d) (f : Int32) : ∀ n, n ≤ 20 → lgo d f n ≠ some (-1)
  | 0, _ => fun h => by cases h
  | n + 1, hn => by
    show (if mb d f n = true then some (d.1 37 n 4) else lgo d f n) ≠ some (-1)
    split
    · rename_i hm
      intro h
      have h1 : d.1 37 n 4 = -1 := Option.some.inj h
      have hp : d.1 37 n 0 = 1 := of_decide_eq_true (mb_p hm)
      rcases (hv n (by omega) hp).2.2.2.1 with h2 | ⟨g, hg, h2, _⟩
      · rw [h1] at h2
        exact absurd h2 (by decide)
      · rw [h1] at h2
        exact nm1_nI (j := g) (by omega) h2.symm
    · exact lgo_m1 hv f n (by omega)
