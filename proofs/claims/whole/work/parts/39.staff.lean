/-! closeGroup, hire, dismiss, canTeach, addLift, type, clearText *** by hand -/
/-- the groups of pupils set, those with p / all, the first n of them -/
def sg8 (p : Nat → Bool) (v : Nat → Int32) (d : sk_D) : Nat → sk_D
  | 0 => d
  | n + 1 => if p n = true then sk_wi (sg8 p v d n) 37 n 4 (v n) else sg8 p v d n
def sg9 (v : Nat → Int32) (e : sk_D) : Nat → sk_D
  | 0 => e
  | n + 1 => sk_wi (sg9 v e n) 49 0 n (v n)
theorem sg8_o (p : Nat → Bool) (v : Nat → Int32) (d : sk_D) : ∀ (n s k j : Nat), ¬ (s = 37 ∧ j = 4 ∧ k < n) → (sg8 p v d n).1 s k j = d.1 s k j
  | 0, _, _, _, _ => rfl
  | n + 1, s, k, j, h => by
    show (if p n = true then sk_wi (sg8 p v d n) 37 n 4 (v n) else sg8 p v d n).1 s k j = _
    split
    · rw [wi_o (by omega), sg8_o p v d n s k j (by omega)]
    · exact sg8_o p v d n s k j (by omega)
theorem sg8_g (p : Nat → Bool) (v : Nat → Int32) (d : sk_D) : ∀ (n k : Nat), k < n → (sg8 p v d n).1 37 k 4 = if p k = true then v k else d.1 37 k 4
  | 0, k, h => absurd h (Nat.not_lt_zero _)
  | n + 1, k, h => by
    show (if p n = true then sk_wi (sg8 p v d n) 37 n 4 (v n) else sg8 p v d n).1 37 k 4 = _
    by_cases e : k = n
    · subst e
      by_cases hp : p k = true
      · rw [if_pos hp, if_pos hp, wi_e]
      · rw [if_neg hp, if_neg hp, sg8_o _ _ _ _ _ _ _ (by omega)]
    · by_cases hp : p n = true
      · rw [if_pos hp, wi_o (by omega), sg8_g p v d n k (by omega)]
      · rw [if_neg hp, sg8_g p v d n k (by omega)]
theorem sg9_o (v : Nat → Int32) (e : sk_D) : ∀ (n s k j : Nat), ¬ (s = 49 ∧ k = 0 ∧ j < n) → (sg9 v e n).1 s k j = e.1 s k j
  | 0, _, _, _, _ => rfl
  | n + 1, s, k, j, h => by
    show (sk_wi (sg9 v e n) 49 0 n (v n)).1 s k j = _
    rw [wi_o (by omega), sg9_o v e n s k j (by omega)]
theorem sg9_g (v : Nat → Int32) (e : sk_D) : ∀ (n k : Nat), k < n → (sg9 v e n).1 49 0 k = v k
  | 0, k, h => absurd h (Nat.not_lt_zero _)
  | n + 1, k, h => by
    show (sk_wi (sg9 v e n) 49 0 n (v n)).1 49 0 k = _
    by_cases e1 : k = n
    · subst e1
      exact wi_e
    · rw [wi_o (by omega), sg9_g v e n k (by omega)]
theorem sg8_F (p : Nat → Bool) (v : Nat → Int32) (d : sk_D) : ∀ n, sk_F8 d (sg8 p v d n)
  | 0 => sk_F8.rf d
  | n + 1 => by
    show sk_F8 d (if p n = true then sk_wi (sg8 p v d n) 37 n 4 (v n) else sg8 p v d n)
    split
    · exact (sg8_F p v d n).wi _ _ _ _ (by omega)
    · exact sg8_F p v d n
theorem sg9_F (v : Nat → Int32) (e : sk_D) : ∀ n, sk_F9 e (sg9 v e n)
  | 0 => sk_F9.rf e
  | n + 1 => (sg9_F v e n).wi _ _ _ _ (by omega)
theorem px_closeGroup (a : Int32) (d e : sk_D) (hR : sk_R2 d e) : ∃ (r : Int32) (d' e' : sk_D), q_X8_closeGroup d a = some (r, d') ∧ q_X9_closeGroup e a = some (r, e') ∧ sk_R2 d' e' ∧ sk_F8 d d' ∧ sk_F9 e e' := by
  rcases hG hR.2.2.1.1 a with ⟨h8, h9⟩ | ⟨g, hg, rfl, h1, h8, h9⟩
  · exact ⟨-1, d, e, by simp only [q_X8_closeGroup, q_X8_closeGroup_0, h8, Option.bind_some, ↓reduceIte], by simp only [q_X9_closeGroup, q_X9_closeGroup_0, h9, Option.bind_some, ↓reduceIte], hR, sk_F8.rf d, sk_F9.rf e⟩
  have eg := nI_clamp (n := g) (by omega)
  have bg : sk_bi (nI g) 4 = true := bi_nI (by omega) (by omega)
  have h := hR.1.1
  generalize hV : (fun k => if e.1 49 0 k = nI g then (-9 : Int32) else e.1 49 0 k) = V
  generalize hD : sg8 (gb d (nI g)) (fun _ => -9) d 20 = D
  generalize hE : sg9 V e 20 = E
  have L8 : l_X8_closeGroup_14 sk_fu (d, nI g, (0 : Int32), (0 : Int32)) = some (kc (gb d (nI g)) 20, sk_wi (sk_wi (sk_wi (sk_wi D 39 g 0 (0 : Int32)) 39 g 4 (-9 : Int32)) 39 g 9 (0 : Int32)) 39 g 10 (0 : Int32)) := by
    rw [← hD]
    refine it_for0 (F := fun rec a => q_X8_closeGroup_14 rec a.1 a.2.1 a.2.2.1 a.2.2.2) (fun i => (sg8 (gb d (nI g)) (fun _ => -9) d i, nI g, kc (gb d (nI g)) i, nI i)) 20 (fun j hj rec => ?_) (fun rec => ?_) (by omega)
    · show q_X8_closeGroup_14 rec (sg8 (gb d (nI g)) (fun _ => -9) d j) (nI g) (kc (gb d (nI g)) j) (nI j) = rec (sg8 (gb d (nI g)) (fun _ => -9) d (j + 1), nI g, kc (gb d (nI g)) (j + 1), nI (j + 1))
      have ej := nI_clamp (n := j) (by omega)
      have bj : sk_bi (nI j) 20 = true := bi_nI (by omega) (by omega)
      have lj : ¬ (20 : Int32) ≤ nI j := le_nI (n := 20) rfl hj (by omega)
      have ii : q_X4_isIn (sg8 (gb d (nI g)) (fun _ => -9) d j) j (nI g) = some (bI (gb d (nI g) j)) := by
        rw [← i8 h (nI g) hj]
        simp only [q_X4_isIn, q_X4_isIn_0, sg8_o (gb d (nI g)) (fun _ => -9) d j 37 j 0 (by omega), sg8_o (gb d (nI g)) (fun _ => -9) d j 37 j 4 (by omega)]
      cases hp : gb d (nI g) j with
      | false => simp only [q_X8_closeGroup_14, q_X8_closeGroup_47, lj, bj, ej, ii, hp, bI_f, Option.bind_some, s1_nI, kc, sg8, ↓reduceIte, Bool.false_eq_true]
      | true => simp only [q_X8_closeGroup_14, q_X8_closeGroup_47, lj, bj, ej, ii, hp, bI_t, i10, Option.bind_some, s1_nI, kc, sg8, ↓reduceIte]
    · show q_X8_closeGroup_14 rec (sg8 (gb d (nI g)) (fun _ => -9) d 20) (nI g) (kc (gb d (nI g)) 20) (nI 20) = _
      have l : (20 : Int32) ≤ nI 20 := ge_nI (n := 20) rfl (by omega) (by omega)
      simp only [q_X8_closeGroup_14, l, bg, eg, q_X0_end, q_X0_end_0, Option.bind_some, ↓reduceIte]
  have L9 : l_X9_closeGroup_18 sk_fu (e, nI g, kc (gb d (nI g)) 20, (0 : Int32)) = some (kc (gb d (nI g)) 20, sk_wi (sk_wi (sk_wi E 53 0 g (0 : Int32)) 71 0 g (0 : Int32)) 72 0 g (0 : Int32)) := by
    rw [← hE]
    refine it_for0 (F := fun rec a => q_X9_closeGroup_18 rec a.1 a.2.1 a.2.2.1 a.2.2.2) (fun i => (sg9 V e i, nI g, kc (gb d (nI g)) 20, nI i)) 20 (fun j hj rec => ?_) (fun rec => ?_) (by omega)
    · show q_X9_closeGroup_18 rec (sg9 V e j) (nI g) (kc (gb d (nI g)) 20) (nI j) = rec (sg9 V e (j + 1), nI g, kc (gb d (nI g)) 20, nI (j + 1))
      have ej := nI_clamp (n := j) (by omega)
      have bj : sk_bi (nI j) 20 = true := bi_nI (by omega) (by omega)
      have lj : ¬ (20 : Int32) ≤ nI j := le_nI (n := 20) rfl hj (by omega)
      have r49 : (sg9 V e j).1 49 0 j = e.1 49 0 j := sg9_o V e j 49 0 j (by omega)
      by_cases hc : e.1 49 0 j = nI g
      · have hv : V j = -9 := by rw [← hV]; exact if_pos hc
        simp only [q_X9_closeGroup_18, q_X9_closeGroup_50, lj, bj, ej, r49, hc, hv, s1_nI, sg9, ↓reduceIte]
      · have hv : V j = e.1 49 0 j := by rw [← hV]; exact if_neg hc
        simp only [q_X9_closeGroup_18, q_X9_closeGroup_50, lj, bj, ej, r49, hc, hv, s1_nI, sg9, ↓reduceIte]
    · show q_X9_closeGroup_18 rec (sg9 V e 20) (nI g) (kc (gb d (nI g)) 20) (nI 20) = _
      have l : (20 : Int32) ≤ nI 20 := ge_nI (n := 20) rfl (by omega) (by omega)
      simp only [q_X9_closeGroup_18, l, bg, eg, ↓reduceIte]
  have Do (s k j : Nat) (hh : ¬ (s = 37 ∧ j = 4)) : D.1 s k j = d.1 s k j := by rw [← hD, sg8_o _ _ _ _ _ _ _ (by omega)]
  have Eo (s j : Nat) (hh : s ≠ 49) : E.1 s 0 j = e.1 s 0 j := by rw [← hE, sg9_o _ _ _ _ _ _ (by omega)]
  have DE : ∀ k, k < 20 → d.1 37 k 0 = 1 → E.1 49 0 k = D.1 37 k 4 ∧ (D.1 37 k 4 = -9 ∨ D.1 37 k 4 = d.1 37 k 4 ∧ ¬ d.1 37 k 4 = nI g) := by
    intro k hk hp
    have e4 := ((h k hk).2.2 hp).2.2.2.1
    have hVk : V k = if e.1 49 0 k = nI g then (-9 : Int32) else e.1 49 0 k := by rw [← hV]
    rw [← hD, ← hE, sg8_g _ _ _ _ _ hk, sg9_g _ _ _ _ hk, hVk, e4]
    have hpb : pb d k = true := decide_eq_true hp
    by_cases hc : d.1 37 k 4 = nI g
    · have hgb : gb d (nI g) k = true := by unfold gb; rw [hpb, decide_eq_true hc]; rfl
      simp only [hc, hgb, ↓reduceIte]
      exact ⟨trivial, .inl trivial⟩
    · have hgb : gb d (nI g) k = false := by unfold gb; rw [hpb, decide_eq_false hc]; rfl
      simp only [hc, hgb, ↓reduceIte, Bool.false_eq_true]
      exact ⟨trivial, .inr ⟨trivial, fun q => q⟩⟩
  have hR1 : sk_R2 D E := by
    refine R2_grp hR (fun s k f _ n => Do s k f n) (fun s f _ n => Eo s f n) (fun k hk hp => ?_)
    obtain ⟨a1, a2⟩ := DE k hk hp
    refine ⟨a1, ?_⟩
    rcases a2 with a2 | ⟨a2, _⟩
    · exact .inl a2
    · rw [a2]
      exact (hR.1.2 k hk hp).2.2.2.1
  refine ⟨kc (gb d (nI g)) 20, _, _, by simp only [q_X8_closeGroup, q_X8_closeGroup_0, h8, i10, L8, Option.bind_some, ↓reduceIte]; rfl, by simp only [q_X9_closeGroup, q_X9_closeGroup_0, h9, i10, c9_sizeOf h, L9, Option.bind_some, ↓reduceIte]; rfl, ?_, ?_, ?_⟩
  · refine R2_gr hR1 g (fun s k f hs n => ?_) (fun s f hs n1 n2 => ?_) (fun _ => ?_) (fun _ => ?_) (.inl ?_) (fun k hk hp hq => ?_)
    · rw [wi_o (by omega), wi_o (by omega), wi_o (by omega), wi_o (by omega)]
    · rw [wi_o (by omega), wi_o (by omega), wi_o (by omega)]
    · have z0 : (sk_wi (sk_wi (sk_wi (sk_wi D 39 g 0 (0 : Int32)) 39 g 4 (-9 : Int32)) 39 g 9 (0 : Int32)) 39 g 10 (0 : Int32)).1 39 g 0 = 0 := by simp [sk_wi, sk_up]
      refine ⟨.inl z0, by simp [sk_wi, sk_up], by simp [sk_wi, sk_up], by simp [sk_wi, sk_up], fun hh => ?_⟩
      rw [z0] at hh
      exact absurd hh (by decide)
    · have z0 : (sk_wi (sk_wi (sk_wi (sk_wi D 39 g 0 (0 : Int32)) 39 g 4 (-9 : Int32)) 39 g 9 (0 : Int32)) 39 g 10 (0 : Int32)).1 39 g 0 = 0 := by simp [sk_wi, sk_up]
      refine ⟨fun _ => ⟨by simp [sk_wi, sk_up], by simp [sk_wi, sk_up]⟩, fun hh => ?_⟩
      rw [z0] at hh
      exact absurd hh (by decide)
    · simp [sk_wi, sk_up]
    · rw [Do 37 k 0 (by omega)] at hp
      obtain ⟨_, a2⟩ := DE k hk hp
      rcases a2 with a2 | ⟨a2, a3⟩
      · rw [hq] at a2
        exact absurd a2 (nm_nI (by omega))
      · rw [hq] at a2
        exact absurd a2.symm a3
  · rw [← hD]
    exact ((((sg8_F _ _ d 20).wi _ _ _ _ (by omega)).wi _ _ _ _ (by omega)).wi _ _ _ _ (by omega)).wi _ _ _ _ (by omega)
  · rw [← hE]
    exact (((sg9_F _ e 20).wi _ _ _ _ (by omega)).wi _ _ _ _ (by omega)).wi _ _ _ _ (by omega)
theorem free_i {d e : sk_D} (h : rI d e) : (∃ g, g < 8 ∧ ib d g = false ∧ (∀ i, i < g → ib d i = true) ∧ q_X8_freeInstructorNumber d = some (nI g) ∧ ¬ kc (ib d) 8 = 8) ∨ (q_X8_freeInstructorNumber d = some (-9) ∧ kc (ib d) 8 = 8) := by
  have step : ∀ j, j < 8 → ib d j = true → ∀ rec : Int32 → Option Int32, q_X8_freeInstructorNumber_2 rec d (nI j) = rec (nI (j + 1)) := by
    intro j hj hp rec
    have ej := nI_clamp (n := j) (by omega)
    have bj : sk_bi (nI j) 8 = true := bi_nI (by omega) (by omega)
    have lj : ¬ (8 : Int32) ≤ nI j := le_nI (n := 8) rfl hj (by omega)
    simp only [q_X8_freeInstructorNumber_2, lj, bj, ej, (h.o1 hj hp).1, i10, s1_nI, ↓reduceIte]
  rcases fst_or (fun i => !ib d i) 8 with ⟨j, hj, h2, h3⟩ | hn
  · left
    have h2' : ib d j = false := by rw [← Bool.not_eq_true']; exact h2
    have h3' : ∀ i, i < j → ib d i = true := fun i hi => by rw [← Bool.not_eq_false']; exact h3 i hi
    have ej := nI_clamp (n := j) (by omega)
    have bj : sk_bi (nI j) 8 = true := bi_nI (by omega) (by omega)
    have lj : ¬ (8 : Int32) ≤ nI j := le_nI (n := 8) rfl hj (by omega)
    refine ⟨j, hj, h2', h3', ?_, ?_⟩
    · refine it_for0 (F := fun rec2 a => q_X8_freeInstructorNumber_2 rec2 d a) (fun i => nI i) j (fun i hi rec => step i (by omega) (h3' i hi) rec) (fun rec => ?_) (by omega)
      show q_X8_freeInstructorNumber_2 rec d (nI j) = some (nI j)
      simp only [q_X8_freeInstructorNumber_2, lj, bj, ej, (h.o0 hj h2').1, ↓reduceIte]
    · rw [kc_kn]
      refine ne_nI (n := 8) rfl ?_ ?_
      · intro q
        have := kn_all q j hj
        rw [h2'] at this
        cases this
      · have := kn_le (ib d) 8
        omega
  · right
    have hn' : ∀ i, i < 8 → ib d i = true := fun i hi => by rw [← Bool.not_eq_false']; exact hn i hi
    refine ⟨?_, by rw [kc_kn, kn_of hn']; rfl⟩
    refine it_for0 (F := fun rec2 a => q_X8_freeInstructorNumber_2 rec2 d a) (fun i => nI i) 8 (fun i hi rec => step i (by omega) (hn' i hi) rec) (fun rec => ?_) (by omega)
    show q_X8_freeInstructorNumber_2 rec d (nI 8) = some (-9)
    have l : (8 : Int32) ≤ nI 8 := ge_nI (n := 8) rfl (by omega) (by omega)
    simp only [q_X8_freeInstructorNumber_2, l, ↓reduceIte]
def hi8 (d : sk_D) (g : Nat) (v1 v2 v3 v4 : Int32) : sk_D := sk_wi (sk_wi (sk_wi (sk_wi (sk_wi (sk_wi d 42 g 0 (1 : Int32)) 42 g 1 v1) 42 g 2 v2) 42 g 3 v3) 42 g 4 v4) 42 g 5 (0 : Int32)
def hi9 (e : sk_D) (g : Nat) (v1 v2 v3 v4 : Int32) : sk_D := sk_wi (sk_wi (sk_wi (sk_wi (sk_wi (sk_wi e 62 0 g (1 : Int32)) 63 0 g v1) 64 0 g v2) 65 0 g v3) 66 0 g v4) 67 0 g (0 : Int32)
theorem hi_R {d e : sk_D} (hR : sk_R2 d e) {g a l p w : Nat} (hg : g < 8) (ha : a < 64) (hl : l < 8) (hp : p < 8) (hw1 : 1 ≤ w) (hw : w ≤ 999999) : sk_R2 (hi8 d g (nI a) (nI l) (nI p) (nI w)) (hi9 e g (nI a) (nI l) (nI p) (nI w)) := by
  have q0 : (hi8 d g (nI a) (nI l) (nI p) (nI w)).1 42 g 0 = 1 := by simp [hi8, sk_wi, sk_up]
  have q1 : (hi8 d g (nI a) (nI l) (nI p) (nI w)).1 42 g 1 = nI a := by simp [hi8, sk_wi, sk_up]
  have q2 : (hi8 d g (nI a) (nI l) (nI p) (nI w)).1 42 g 2 = nI l := by simp [hi8, sk_wi, sk_up]
  have q3 : (hi8 d g (nI a) (nI l) (nI p) (nI w)).1 42 g 3 = nI p := by simp [hi8, sk_wi, sk_up]
  have q4 : (hi8 d g (nI a) (nI l) (nI p) (nI w)).1 42 g 4 = nI w := by simp [hi8, sk_wi, sk_up]
  have q5 : (hi8 d g (nI a) (nI l) (nI p) (nI w)).1 42 g 5 = 0 := by simp [hi8, sk_wi, sk_up]
  have qo (s k f : Nat) (h : ¬ (s = 42 ∧ k = g)) : (hi8 d g (nI a) (nI l) (nI p) (nI w)).1 s k f = d.1 s k f := by
    unfold hi8
    rw [wi_o (by omega), wi_o (by omega), wi_o (by omega), wi_o (by omega), wi_o (by omega), wi_o (by omega)]
  have ro (s f : Nat) (h : ¬ (62 ≤ s ∧ s ≤ 67 ∧ f = g)) : (hi9 e g (nI a) (nI l) (nI p) (nI w)).1 s 0 f = e.1 s 0 f := by
    unfold hi9
    rw [wi_o (by omega), wi_o (by omega), wi_o (by omega), wi_o (by omega), wi_o (by omega), wi_o (by omega)]
  obtain ⟨⟨hP, wP⟩, hF, ⟨hG, wG, wD⟩, ⟨hI, wI⟩, hL, hM, hT⟩ := hR
  refine ⟨⟨hP, wP⟩, hF, ⟨hG, fun h hh => ?_, wD⟩, ⟨fun i hi => ?_, fun i hi ho => ?_⟩, hL, hM, hT⟩
  · obtain ⟨w1, w2⟩ := wG h hh
    refine ⟨w1, fun ho => ?_⟩
    obtain ⟨s1, s2, s3, s4, s5, s6⟩ := w2 ho
    refine ⟨s1, s2, s3, ?_, s5, s6⟩
    rcases s4 with s4 | ⟨i, hi, ei, oi⟩
    · exact .inl s4
    · refine .inr ⟨i, hi, ei, ?_⟩
      by_cases e1 : i = g
      · subst e1
        exact q0
      · rw [qo 42 i 0 (by omega)]
        exact oi
  · by_cases e1 : i = g
    · subst e1
      rw [q0, q1, q2, q3, q4, q5]
      exact ⟨.inr rfl, by simp [hi9, sk_wi, sk_up], fun _ => ⟨by simp [hi9, sk_wi, sk_up], by simp [hi9, sk_wi, sk_up], by simp [hi9, sk_wi, sk_up], by simp [hi9, sk_wi, sk_up], by simp [hi9, sk_wi, sk_up]⟩⟩
    · rw [qo 42 i 0 (by omega), qo 42 i 1 (by omega), qo 42 i 2 (by omega), qo 42 i 3 (by omega), qo 42 i 4 (by omega), qo 42 i 5 (by omega), ro 62 i (by omega), ro 63 i (by omega), ro 64 i (by omega), ro 65 i (by omega), ro 66 i (by omega), ro 67 i (by omega)]
      exact hI i hi
  · by_cases e1 : i = g
    · subst e1
      rw [q1, q2, q3, q4, q5]
      exact ⟨⟨a, ha, rfl⟩, ⟨l, hl, rfl⟩, ⟨p, hp, rfl⟩, ⟨w, hw1, hw, rfl⟩, by decide⟩
    · rw [qo 42 i 0 (by omega)] at ho
      rw [qo 42 i 1 (by omega), qo 42 i 2 (by omega), qo 42 i 3 (by omega), qo 42 i 4 (by omega), qo 42 i 5 (by omega)]
      exact wI i hi ho
theorem px_hire (a b c w : Int32) (d e : sk_D) (hR : sk_R2 d e) : ∃ (r : Int32) (d' e' : sk_D), q_X8_hire d a b c w = some (r, d') ∧ q_X9_hire e a b c w = some (r, e') ∧ sk_R2 d' e' ∧ sk_F8 d d' ∧ sk_F9 e e' := by
  rcases wi_cases a 1 63 1 63 rfl rfl (by omega) with ⟨h8, h9⟩ | ⟨l, hl1, hl, rfl, h8, h9⟩
  · exact ⟨-1, d, e, by simp only [q_X8_hire, q_X8_hire_0, h8, Option.bind_some, ↓reduceIte], by simp only [q_X9_hire, q_X9_hire_0, q_X9_isLanguages, q_X9_isLanguages_0, h9, nb0, Option.bind_some, ↓reduceIte], hR, sk_F8.rf d, sk_F9.rf e⟩
  rcases wi_cases b 0 7 0 7 rfl rfl (by omega) with ⟨f8, f9⟩ | ⟨lo, _, hlo, rfl, f8, f9⟩
  · have g8 : ∀ x, q_X8_hire d (nI l) b c x = some (-1, d) := by
      intro x
      rcases wi_cases x 1 999999 1 999999 rfl rfl (by omega) with ⟨u8, _⟩ | ⟨y, _, _, rfl, u8, _⟩
      · simp only [q_X8_hire, q_X8_hire_0, h8, u8, i10, Option.bind_some, ↓reduceIte]
      · simp only [q_X8_hire, q_X8_hire_0, h8, u8, f8, i10, Option.bind_some, ↓reduceIte]
    exact ⟨-1, d, e, g8 w, by simp only [q_X9_hire, q_X9_hire_0, q_X9_isLanguages, q_X9_isLanguages_0, q_X9_isLevel, q_X9_isLevel_0, h9, f9, nb0, nb1, i10, Option.bind_some, ↓reduceIte], hR, sk_F8.rf d, sk_F9.rf e⟩
  rcases wi_cases c (nI lo) 7 lo 7 rfl rfl (by omega) with ⟨t8, t9⟩ | ⟨hp, hhi1, hhi, rfl, t8, t9⟩
  · have g8 : ∀ x, q_X8_hire d (nI l) (nI lo) c x = some (-1, d) := by
      intro x
      rcases wi_cases x 1 999999 1 999999 rfl rfl (by omega) with ⟨u8, _⟩ | ⟨y, _, _, rfl, u8, _⟩
      · simp only [q_X8_hire, q_X8_hire_0, h8, u8, i10, Option.bind_some, ↓reduceIte]
      · simp only [q_X8_hire, q_X8_hire_0, h8, u8, f8, t8, i10, Option.bind_some, ↓reduceIte]
    exact ⟨-1, d, e, g8 w, by simp only [q_X9_hire, q_X9_hire_0, q_X9_isLanguages, q_X9_isLanguages_0, q_X9_isLevel, q_X9_isLevel_0, h9, f9, t9, nb1, i10, Option.bind_some, ↓reduceIte], hR, sk_F8.rf d, sk_F9.rf e⟩
  rcases wi_cases w 1 999999 1 999999 rfl rfl (by omega) with ⟨g8, g9⟩ | ⟨wg, hw1, hw, rfl, g8, g9⟩
  · exact ⟨-1, d, e, by simp only [q_X8_hire, q_X8_hire_0, h8, g8, i10, Option.bind_some, ↓reduceIte], by simp only [q_X9_hire, q_X9_hire_0, q_X9_isLanguages, q_X9_isLanguages_0, q_X9_isLevel, q_X9_isLevel_0, h9, f9, t9, g9, nb1, i10, Option.bind_some, ↓reduceIte], hR, sk_F8.rf d, sk_F9.rf e⟩
  rcases free_i hR.2.2.2.1.1 with ⟨g, hg, g0, gi, r8, fm⟩ | ⟨r8, fm⟩
  · have wn := (wi_in g (a := nI g) (lo := 0) (hi := 7) 0 7 rfl rfl rfl (by omega) (by omega) (by omega)).1 d
    have eg := nI_clamp (n := g) (by omega)
    have bg : sk_bi (nI g) 8 = true := bi_nI (by omega) (by omega)
    have e1 : q_X1_begin d g (nI l) (nI lo) (nI hp) (nI wg) = some (hi8 d g (nI l) (nI lo) (nI hp) (nI wg)) := rfl
    refine ⟨nI g, hi8 d g (nI l) (nI lo) (nI hp) (nI wg), hi9 e g (nI l) (nI lo) (nI hp) (nI wg), by simp only [q_X8_hire, q_X8_hire_0, h8, g8, f8, t8, r8, wn, i10, bg, eg, e1, Option.bind_some, ↓reduceIte], ?_, hi_R hR hg (by omega) (by omega) (by omega) hw1 hw, ?_, ?_⟩
    · simp only [q_X9_hire, q_X9_hire_0, q_X9_isLanguages, q_X9_isLanguages_0, q_X9_isLevel, q_X9_isLevel_0, h9, f9, t9, g9, nb1, i10, c9_instructorMany hR.2.2.2.1.1, fm, Option.bind_some, ↓reduceIte]
      refine it_for0 (F := fun rec53 a => q_X9_hire_53 rec53 a.1 a.2.1 a.2.2.1 a.2.2.2.1 a.2.2.2.2.1 a.2.2.2.2.2) (fun i => (e, nI l, nI lo, nI hp, nI wg, nI i)) g (fun i hi rec => ?_) (fun rec => ?_) (by omega)
      · show q_X9_hire_53 rec e (nI l) (nI lo) (nI hp) (nI wg) (nI i) = rec (e, nI l, nI lo, nI hp, nI wg, nI (i + 1))
        have ei := nI_clamp (n := i) (by omega)
        have bi : sk_bi (nI i) 8 = true := bi_nI (by omega) (by omega)
        simp only [q_X9_hire_53, bi, ei, (hR.2.2.2.1.1.o1 (by omega) (gi i hi)).2, s1_nI, ↓reduceIte]
      · show q_X9_hire_53 rec e (nI l) (nI lo) (nI hp) (nI wg) (nI g) = _
        simp only [q_X9_hire_53, bg, eg, (hR.2.2.2.1.1.o0 hg g0).2, i01, ↓reduceIte]
        rfl
    · exact ((((((sk_F8.rf d).wi _ _ _ _ (by omega)).wi _ _ _ _ (by omega)).wi _ _ _ _ (by omega)).wi _ _ _ _ (by omega)).wi _ _ _ _ (by omega)).wi _ _ _ _ (by omega)
    · exact ((((((sk_F9.rf e).wi _ _ _ _ (by omega)).wi _ _ _ _ (by omega)).wi _ _ _ _ (by omega)).wi _ _ _ _ (by omega)).wi _ _ _ _ (by omega)).wi _ _ _ _ (by omega)
  · exact ⟨-3, d, e, by simp only [q_X8_hire, q_X8_hire_0, h8, g8, f8, t8, r8, wi_m9 0 7 0 7 rfl rfl (by omega), i10, Option.bind_some, ↓reduceIte], by simp only [q_X9_hire, q_X9_hire_0, q_X9_isLanguages, q_X9_isLanguages_0, q_X9_isLevel, q_X9_isLevel_0, h9, f9, t9, g9, nb1, i10, c9_instructorMany hR.2.2.2.1.1, fm, Option.bind_some, ↓reduceIte], hR, sk_F8.rf d, sk_F9.rf e⟩
