/-! simulate, bestStart *** by hand -/
theorem SS.fr58 {n : Nat} {st p : Nat → Nat} {d e d' e' : sk_D} (h : SS n st p d e) (h8 : ∀ s k f, s < 24 ∨ 34 < s → d'.1 s k f = d.1 s k f) (h9 : ∀ s k f, s ≠ 58 → s < 84 → e'.1 s k f = e.1 s k f) : SS n st p d' e' := by
  unfold SS at h ⊢
  simp only [h8 39 _ _ (by omega), h8 40 _ _ (by omega), h8 41 _ _ (by omega), h8 43 _ _ (by omega), h8 0 _ _ (by omega), h9 59 _ _ (by omega) (by omega), h9 60 _ _ (by omega) (by omega), h9 61 _ _ (by omega) (by omega), h9 44 _ _ (by omega) (by omega), h9 68 _ _ (by omega) (by omega), h9 69 _ _ (by omega) (by omega), h9 70 _ _ (by omega) (by omega)]
  exact h
/-- a run from its beginning: ds, es are what the beginning sees, t the starts -/
theorem whole_run {d e ds es D : sk_D} (hR : sk_R2 d e) (hRs : sk_R2 ds es) {M : Nat} (hM : M ≤ 180) (t : Nat → Nat) (ht : ∀ g, g < 4 → prs d g ≠ 0 → t g ≤ 60 ∧ D.1 25 0 g = nI (t g) ∧ es.1 58 0 g = nI (t g))
    (hp : ∀ g, prs ds g = prs d g ∧ tpb ds g = tpb d g) (hes : ∀ s k f, s ≠ 58 → s < 84 → es.1 s k f = e.1 s k f)
    (hD : ∀ g, g < 4 → D.1 24 0 g = nI (prs d g) ∧ D.1 26 0 g = 0 ∧ D.1 27 0 g = 0 ∧ D.1 30 0 g = 0 ∧ D.1 31 0 g = 0) (hDl : ∀ l, l < 3 → D.1 28 0 l = 0 ∧ D.1 29 0 l = 0 ∧ D.1 34 0 l = 0) (hDf : ∀ s k f, s < 24 ∨ 34 < s → D.1 s k f = d.1 s k f) :
    ∃ D' E', q_X6_run D (D.1 0 0 9) (nI M) = some D' ∧ q_X9_goThrough es (nI M) = some E' ∧ FS8 D D' ∧ (∀ s k f, s < 84 → E'.1 s k f = es.1 s k f) ∧
      (∀ g, g < 4 → E'.1 90 0 g = D'.1 26 0 g ∧ E'.1 91 0 g = D'.1 27 0 g ∧ (prs d g = 0 → D'.1 26 0 g = 0 ∧ D'.1 27 0 g = 0) ∧ ∃ w, w ≤ 3780 ∧ D'.1 26 0 g = nI w) ∧ ∀ l, l < 3 → E'.1 92 0 l = D'.1 28 0 l ∧ E'.1 93 0 l = D'.1 29 0 l := by
  obtain ⟨n, hS⟩ := SS_of hR
  have b9 := begin9 hRs
  generalize hE2 : bl9 (ba9 ds es 4) 3 = E2 at b9
  have o9 (s k f : Nat) (h : s < 84 ∨ 93 < s) : E2.1 s k f = es.1 s k f := by
    rw [← hE2, bl9_o _ _ _ _ _ (by omega), ba9_o _ _ _ _ _ _ (by omega)]
  have vE : ∀ g, g < 4 → E2.1 84 0 g = nI (prs d g) ∧ E2.1 85 0 g = 0 ∧ E2.1 86 0 g = (if tpb d g = true then es.1 58 0 g else -9) ∧ E2.1 87 0 g = nI (4 * g) ∧ E2.1 90 0 g = 0 ∧ E2.1 91 0 g = 0 := by
    intro g hg
    have h := ba9_g ds es 4 g hg
    rw [(hp g).1, (hp g).2] at h
    rw [← hE2, bl9_o _ _ _ _ _ (by omega), bl9_o _ _ _ _ _ (by omega), bl9_o _ _ _ _ _ (by omega), bl9_o _ _ _ _ _ (by omega), bl9_o _ _ _ _ _ (by omega), bl9_o _ _ _ _ _ (by omega)]
    exact h
  have vL : ∀ l, l < 3 → E2.1 89 0 l = 0 ∧ E2.1 92 0 l = 0 ∧ E2.1 93 0 l = 0 := fun l hl => by
    rw [← hE2]
    exact bl9_g _ 3 l hl
  have m0 : MR n (stf d) (prs d) 0 D E2 := by
    refine MR_0 hS t (fun g hg hpg => ?_) (fun g hg hpg => ?_) hD hDl (fun g hg => ?_) vL
    · obtain ⟨a1, a2, a3⟩ := ht g hg hpg
      have htp : tpb d g = true := by
        cases h : tpb d g with
        | true => rfl
        | false => exact absurd (prs_0.mpr h) hpg
      refine ⟨a1, a2, ?_⟩
      rw [(vE g hg).2.2.1, if_pos htp]
      exact a3
    · rw [(vE g hg).2.2.1, if_neg (by rw [prs_0.mp hpg]; exact Bool.false_ne_true)]
    · obtain ⟨b1, b2, b3, b4, b5, b6⟩ := vE g hg
      exact ⟨b1, b2, b4, b5, b6⟩
  have hS2 : SS n (stf d) (prs d) D E2 := hS.fr58 hDf (fun s k f h58 hs => by
    rw [o9 s k f (.inl hs)]
    exact hes s k f h58 hs)
  obtain ⟨D', E', q1, q2, q3, q4, q5⟩ := runs hM hS2 m0
  refine ⟨D', E', ?_, ?_, q2, fun s k f hs => ?_, fun g hg => ?_, fun l hl => ?_⟩
  · rw [hS2.2.2.1]
    exact q4
  · simp only [q_X9_goThrough, q_X9_goThrough_0, b9, Option.bind_some]
    exact q5
  · rw [q3 s k f (by omega), o9 s k f (by omega)]
  · obtain ⟨W, T, A, L, Q, dy, iv, h90, h92⟩ := q1
    obtain ⟨z1, z2, w, z3, z4⟩ := h90 g hg
    exact ⟨z1, (dy.1 g hg).2.2.2.2.2.2.1, z2, w, by omega, z4⟩
  · obtain ⟨W, T, A, L, Q, dy, iv, h90, h92⟩ := q1
    exact ⟨h92 l hl, (dy.2 l hl).2.2.1⟩
def kg8 (d : sk_D) : Nat → sk_D
  | 0 => d
  | n + 1 => sk_wi (sk_wi (kg8 d n) 39 n 9 (d.1 26 0 n)) 39 n 10 (d.1 27 0 n)
def kl8 (d : sk_D) : Nat → sk_D
  | 0 => d
  | n + 1 => sk_wi (sk_wi (kl8 d n) 43 n 3 (d.1 28 0 n)) 43 n 4 (d.1 29 0 n)
def kg9 (e : sk_D) : Nat → sk_D
  | 0 => e
  | n + 1 => sk_wi (sk_wi (kg9 e n) 71 0 n (e.1 90 0 n)) 72 0 n (e.1 91 0 n)
def kl9 (e : sk_D) : Nat → sk_D
  | 0 => e
  | n + 1 => sk_wi (sk_wi (kl9 e n) 73 0 n (e.1 92 0 n)) 74 0 n (e.1 93 0 n)
theorem kg8_o (d : sk_D) : ∀ (n s k f : Nat), ¬ (s = 39 ∧ k < n ∧ (f = 9 ∨ f = 10)) → (kg8 d n).1 s k f = d.1 s k f
  | 0, _, _, _, _ => rfl
  | n + 1, s, k, f, h => by
    show (sk_wi (sk_wi (kg8 d n) 39 n 9 _) 39 n 10 _).1 s k f = _
    rw [wi_o (by omega), wi_o (by omega), kg8_o d n s k f (by omega)]
theorem kg8_g (d : sk_D) : ∀ (n k : Nat), k < n → (kg8 d n).1 39 k 9 = d.1 26 0 k ∧ (kg8 d n).1 39 k 10 = d.1 27 0 k
  | 0, k, h => absurd h (Nat.not_lt_zero _)
  | n + 1, k, h => by
    by_cases e1 : k = n
    · subst e1
      exact ⟨(wi_o (by omega)).trans wi_e, wi_e⟩
    · have ih := kg8_g d n k (by omega)
      exact ⟨(wi_o (by omega)).trans ((wi_o (by omega)).trans ih.1), (wi_o (by omega)).trans ((wi_o (by omega)).trans ih.2)⟩
theorem kl8_o (d : sk_D) : ∀ (n s k f : Nat), ¬ (s = 43 ∧ k < n ∧ (f = 3 ∨ f = 4)) → (kl8 d n).1 s k f = d.1 s k f
  | 0, _, _, _, _ => rfl
  | n + 1, s, k, f, h => by
    show (sk_wi (sk_wi (kl8 d n) 43 n 3 _) 43 n 4 _).1 s k f = _
    rw [wi_o (by omega), wi_o (by omega), kl8_o d n s k f (by omega)]
theorem kl8_g (d : sk_D) : ∀ (n k : Nat), k < n → (kl8 d n).1 43 k 3 = d.1 28 0 k ∧ (kl8 d n).1 43 k 4 = d.1 29 0 k
  | 0, k, h => absurd h (Nat.not_lt_zero _)
  | n + 1, k, h => by
    by_cases e1 : k = n
    · subst e1
      exact ⟨(wi_o (by omega)).trans wi_e, wi_e⟩
    · have ih := kl8_g d n k (by omega)
      exact ⟨(wi_o (by omega)).trans ((wi_o (by omega)).trans ih.1), (wi_o (by omega)).trans ((wi_o (by omega)).trans ih.2)⟩
theorem kg9_o (e : sk_D) : ∀ (n s k f : Nat), ¬ ((s = 71 ∨ s = 72) ∧ f < n) → (kg9 e n).1 s k f = e.1 s k f
  | 0, _, _, _, _ => rfl
  | n + 1, s, k, f, h => by
    show (sk_wi (sk_wi (kg9 e n) 71 0 n _) 72 0 n _).1 s k f = _
    rw [wi_o (by omega), wi_o (by omega), kg9_o e n s k f (by omega)]
theorem kg9_g (e : sk_D) : ∀ (n k : Nat), k < n → (kg9 e n).1 71 0 k = e.1 90 0 k ∧ (kg9 e n).1 72 0 k = e.1 91 0 k
  | 0, k, h => absurd h (Nat.not_lt_zero _)
  | n + 1, k, h => by
    by_cases e1 : k = n
    · subst e1
      exact ⟨(wi_o (by omega)).trans wi_e, wi_e⟩
    · have ih := kg9_g e n k (by omega)
      exact ⟨(wi_o (by omega)).trans ((wi_o (by omega)).trans ih.1), (wi_o (by omega)).trans ((wi_o (by omega)).trans ih.2)⟩
theorem kl9_o (e : sk_D) : ∀ (n s k f : Nat), ¬ ((s = 73 ∨ s = 74) ∧ f < n) → (kl9 e n).1 s k f = e.1 s k f
  | 0, _, _, _, _ => rfl
  | n + 1, s, k, f, h => by
    show (sk_wi (sk_wi (kl9 e n) 73 0 n _) 74 0 n _).1 s k f = _
    rw [wi_o (by omega), wi_o (by omega), kl9_o e n s k f (by omega)]
theorem kl9_g (e : sk_D) : ∀ (n k : Nat), k < n → (kl9 e n).1 73 0 k = e.1 92 0 k ∧ (kl9 e n).1 74 0 k = e.1 93 0 k
  | 0, k, h => absurd h (Nat.not_lt_zero _)
  | n + 1, k, h => by
    by_cases e1 : k = n
    · subst e1
      exact ⟨(wi_o (by omega)).trans wi_e, wi_e⟩
    · have ih := kl9_g e n k (by omega)
      exact ⟨(wi_o (by omega)).trans ((wi_o (by omega)).trans ih.1), (wi_o (by omega)).trans ((wi_o (by omega)).trans ih.2)⟩
theorem keep8 (d : sk_D) : q_X8_keepResults d = some (kl8 (kg8 d 4) 3) := by
  refine it_for0 (F := fun rec a => q_X8_keepResults_2 rec a.1 a.2) (fun i => (kg8 d i, nI i)) 4 (fun j hj rec => ?_) (fun rec => ?_) (by omega)
  · show q_X8_keepResults_2 rec (kg8 d j) (nI j) = rec (kg8 d (j + 1), nI (j + 1))
    have ej := nI_clamp (n := j) (by omega)
    have bj : sk_bi (nI j) 4 = true := bi_nI (by omega) (by omega)
    have lj : ¬ (4 : Int32) ≤ nI j := le_nI (n := 4) rfl hj (by omega)
    have o26 : (kg8 d j).1 26 0 j = d.1 26 0 j := kg8_o d j 26 0 j (by omega)
    have o27 : (sk_wi (kg8 d j) 39 j 9 (d.1 26 0 j)).1 27 0 j = d.1 27 0 j := (wi_o (by omega)).trans (kg8_o d j 27 0 j (by omega))
    simp only [q_X8_keepResults_2, q_X8_keepResults_39, lj, bj, ej, o26, o27, s1_nI, kg8, ↓reduceIte]
  · show q_X8_keepResults_2 rec (kg8 d 4) (nI 4) = _
    have l : (4 : Int32) ≤ nI 4 := ge_nI (n := 4) rfl (by omega) (by omega)
    simp only [q_X8_keepResults_2, l, ↓reduceIte]
    refine it_for0 (F := fun rec a => q_X8_keepResults_51 rec a.1 a.2) (fun i => (kl8 (kg8 d 4) i, nI i)) 3 (fun j hj rec => ?_) (fun rec => ?_) (by omega)
    · show q_X8_keepResults_51 rec (kl8 (kg8 d 4) j) (nI j) = rec (kl8 (kg8 d 4) (j + 1), nI (j + 1))
      have ej := nI_clamp (n := j) (by omega)
      have bj : sk_bi (nI j) 3 = true := bi_nI (by omega) (by omega)
      have lj : ¬ (3 : Int32) ≤ nI j := le_nI (n := 3) rfl hj (by omega)
      have o28 : (kl8 (kg8 d 4) j).1 28 0 j = (kg8 d 4).1 28 0 j := kl8_o _ j 28 0 j (by omega)
      have o29 : (sk_wi (kl8 (kg8 d 4) j) 43 j 3 ((kg8 d 4).1 28 0 j)).1 29 0 j = (kg8 d 4).1 29 0 j := (wi_o (by omega)).trans (kl8_o _ j 29 0 j (by omega))
      simp only [q_X8_keepResults_51, q_X8_keepResults_88, lj, bj, ej, o28, o29, s1_nI, kl8, ↓reduceIte]
    · show q_X8_keepResults_51 rec (kl8 (kg8 d 4) 3) (nI 3) = _
      have l3 : (3 : Int32) ≤ nI 3 := ge_nI (n := 3) rfl (by omega) (by omega)
      simp only [q_X8_keepResults_51, l3, ↓reduceIte]
def ssm4 (f : Nat → Int32) : Nat → Int32
  | 0 => 0
  | n + 1 => ssm4 f n + f n
theorem px_simulate (a : Int32) (d e : sk_D) (hR : sk_R2 d e) : ∃ (r : Int32) (d' e' : sk_D), q_X8_simulate d a = some (r, d') ∧ q_X9_simulate e a = some (r, e') ∧ sk_R2 d' e' ∧ sk_F8 d d' ∧ sk_F9 e e' := by
  rcases wi_cases a 1 180 1 180 rfl rfl (by omega) with ⟨h8, h9⟩ | ⟨M, hM1, hM, rfl, h8, h9⟩
  · exact ⟨-1, d, e, by simp only [q_X8_simulate, q_X8_simulate_0, h8, Option.bind_some, ↓reduceIte], by simp only [q_X9_simulate, q_X9_simulate_0, q_X9_isTime, q_X9_isTime_0, h9, nb0, Option.bind_some, ↓reduceIte], hR, sk_F8.rf d, sk_F9.rf e⟩
  obtain ⟨b1, b2, b3⟩ := bg8_v (cp8 d 4)
  obtain ⟨D, hD⟩ : ∃ D, bg8 (cp8 d 4) = D := ⟨_, rfl⟩
  rw [hD] at b1 b2 b3
  have D24 : ∀ g, g < 4 → D.1 24 0 g = nI (prs d g) := fun g hg => (b3 24 0 g (by omega)).trans (cp8_g d 4 g hg)
  have DF : ∀ s k f, s < 24 ∨ 34 < s → D.1 s k f = d.1 s k f := fun s k f hs => (b3 s k f (by omega)).trans (cp8_o d 4 s k f (by omega))
  have st5 : ∀ g, g < 4 → prs d g ≠ 0 → ∃ s, s ≤ 60 ∧ d.1 39 g 5 = nI s ∧ e.1 58 0 g = nI s := by
    intro g hg hp
    have htp : tpb d g = true := by
      cases h : tpb d g with
      | true => rfl
      | false => exact absurd (prs_0.mpr h) hp
    obtain ⟨ho, _⟩ := tpb_o hR hg htp
    obtain ⟨_, _, _, _, ⟨s, hs, es⟩, _⟩ := (hR.2.2.1.2.1 g hg).2 ho
    exact ⟨s, by omega, es, (((hR.2.2.1.1 g hg).2.2.2.2 ho).2.2.2.2.1).trans es⟩
  obtain ⟨D', E', r1, r2, r3, r4, r5, r6⟩ := whole_run (D := D) hR hR hM (fun g => (d.1 39 g 5).toNatClampNeg) (fun g hg hp => by
      obtain ⟨s, hs, e1, e2⟩ := st5 g hg hp
      have c : (d.1 39 g 5).toNatClampNeg = s := by rw [e1, nI_clamp (by omega)]
      rw [(b1 g hg).1, cp8_o d 4 39 g 5 (by omega), c]
      exact ⟨hs, e1, e2⟩) (fun g => ⟨rfl, rfl⟩) (fun _ _ _ _ _ => rfl) (fun g hg => ⟨D24 g hg, (b1 g hg).2⟩) b2 DF
  have wF : ∀ g, g < 4 → (kl8 (kg8 D' 4) 3).1 39 g 9 = D'.1 26 0 g := fun g hg => (kl8_o _ 3 39 g 9 (by omega)).trans (kg8_g D' 4 g hg).1
  have wG : ∀ g, g < 4 → (kl8 (kg8 D' 4) 3).1 39 g 10 = D'.1 27 0 g := fun g hg => (kl8_o _ 3 39 g 10 (by omega)).trans (kg8_g D' 4 g hg).2
  have oD (s k f : Nat) (h : ¬ (24 ≤ s ∧ s ≤ 34)) (h2 : ¬ (s = 39 ∧ (f = 9 ∨ f = 10))) (h3 : ¬ (s = 43 ∧ (f = 3 ∨ f = 4))) : (kl8 (kg8 D' 4) 3).1 s k f = d.1 s k f := by
    rw [kl8_o _ _ _ _ _ (by omega), kg8_o _ _ _ _ _ (by omega), r3 s k f (by omega), DF s k f (by omega)]
  have oE (s k f : Nat) (h : s < 84) (h2 : ¬ (71 ≤ s ∧ s ≤ 74)) : (kl9 (kg9 E' 4) 3).1 s k f = e.1 s k f := by
    rw [kl9_o _ _ _ _ _ (by omega), kg9_o _ _ _ _ _ (by omega), r4 s k f h]
  refine ⟨ssm4 (fun g => D'.1 26 0 g) 4, kl8 (kg8 D' 4) 3, kl9 (kg9 E' 4) 3, ?_, ?_, ?_, ?_, ?_⟩
  · simp only [q_X8_simulate, q_X8_simulate_0, h8, i10, count8 hR, begin8, hD, r1, keep8, Option.bind_some, ↓reduceIte]
    refine it_for0 (F := fun rec a => q_X8_simulate_56 rec a.1 a.2.1 a.2.2) (fun i => (kl8 (kg8 D' 4) 3, ssm4 (fun g => D'.1 26 0 g) i, nI i)) 4 (fun j hj rec => ?_) (fun rec => ?_) (by omega)
    · show q_X8_simulate_56 rec (kl8 (kg8 D' 4) 3) (ssm4 (fun g => D'.1 26 0 g) j) (nI j) = rec (kl8 (kg8 D' 4) 3, ssm4 (fun g => D'.1 26 0 g) (j + 1), nI (j + 1))
      have ej := nI_clamp (n := j) (by omega)
      have bj : sk_bi (nI j) 4 = true := bi_nI (by omega) (by omega)
      have lj : ¬ (4 : Int32) ≤ nI j := le_nI (n := 4) rfl hj (by omega)
      simp only [q_X8_simulate_56, lj, bj, ej, wF j hj, s1_nI, ssm4, ↓reduceIte]
    · show q_X8_simulate_56 rec (kl8 (kg8 D' 4) 3) (ssm4 (fun g => D'.1 26 0 g) 4) (nI 4) = _
      have l : (4 : Int32) ≤ nI 4 := ge_nI (n := 4) rfl (by omega) (by omega)
      simp only [q_X8_simulate_56, l, ↓reduceIte]
  · simp only [q_X9_simulate, q_X9_simulate_0, q_X9_isTime, q_X9_isTime_0, h9, nb1, i10, r2, Option.bind_some, ↓reduceIte]
    refine it_for0 (F := fun rec a => q_X9_simulate_18 rec a.1 a.2.1 a.2.2) (fun i => (kg9 E' i, ssm4 (fun g => D'.1 26 0 g) i, nI i)) 4 (fun j hj rec => ?_) (fun rec => ?_) (by omega)
    · show q_X9_simulate_18 rec (kg9 E' j) (ssm4 (fun g => D'.1 26 0 g) j) (nI j) = rec (kg9 E' (j + 1), ssm4 (fun g => D'.1 26 0 g) (j + 1), nI (j + 1))
      have ej := nI_clamp (n := j) (by omega)
      have bj : sk_bi (nI j) 4 = true := bi_nI (by omega) (by omega)
      have lj : ¬ (4 : Int32) ≤ nI j := le_nI (n := 4) rfl hj (by omega)
      have o90 : (kg9 E' j).1 90 0 j = E'.1 90 0 j := kg9_o E' j 90 0 j (by omega)
      have o91 : (sk_wi (kg9 E' j) 71 0 j (E'.1 90 0 j)).1 91 0 j = E'.1 91 0 j := (wi_o (by omega)).trans (kg9_o E' j 91 0 j (by omega))
      have o90' : (sk_wi (sk_wi (kg9 E' j) 71 0 j (E'.1 90 0 j)) 72 0 j (E'.1 91 0 j)).1 90 0 j = D'.1 26 0 j := (wi_o (by omega)).trans ((wi_o (by omega)).trans (o90.trans (r5 j hj).1))
      simp only [q_X9_simulate_18, q_X9_simulate_45, q_X9_simulate_53, lj, bj, ej, o90, o91, o90', s1_nI, ssm4, kg9, ↓reduceIte]
    · show q_X9_simulate_18 rec (kg9 E' 4) (ssm4 (fun g => D'.1 26 0 g) 4) (nI 4) = _
      have l : (4 : Int32) ≤ nI 4 := ge_nI (n := 4) rfl (by omega) (by omega)
      simp only [q_X9_simulate_18, l, ↓reduceIte]
      refine it_for0 (F := fun rec a => q_X9_simulate_64 rec a.1 a.2.1 a.2.2) (fun i => (kl9 (kg9 E' 4) i, ssm4 (fun g => D'.1 26 0 g) 4, nI i)) 3 (fun j hj rec => ?_) (fun rec => ?_) (by omega)
      · show q_X9_simulate_64 rec (kl9 (kg9 E' 4) j) (ssm4 (fun g => D'.1 26 0 g) 4) (nI j) = rec (kl9 (kg9 E' 4) (j + 1), ssm4 (fun g => D'.1 26 0 g) 4, nI (j + 1))
        have ej := nI_clamp (n := j) (by omega)
        have bj : sk_bi (nI j) 3 = true := bi_nI (by omega) (by omega)
        have lj : ¬ (3 : Int32) ≤ nI j := le_nI (n := 3) rfl hj (by omega)
        have o92 : (kl9 (kg9 E' 4) j).1 92 0 j = (kg9 E' 4).1 92 0 j := kl9_o _ j 92 0 j (by omega)
        have o93 : (sk_wi (kl9 (kg9 E' 4) j) 73 0 j ((kg9 E' 4).1 92 0 j)).1 93 0 j = (kg9 E' 4).1 93 0 j := (wi_o (by omega)).trans (kl9_o _ j 93 0 j (by omega))
        simp only [q_X9_simulate_64, q_X9_simulate_91, lj, bj, ej, o92, o93, s1_nI, kl9, ↓reduceIte]
      · show q_X9_simulate_64 rec (kl9 (kg9 E' 4) 3) (ssm4 (fun g => D'.1 26 0 g) 4) (nI 3) = _
        have l3 : (3 : Int32) ≤ nI 3 := ge_nI (n := 3) rfl (by omega) (by omega)
        simp only [q_X9_simulate_64, l3, ↓reduceIte]
  · obtain ⟨⟨hP, wP⟩, hF, ⟨hG, vG', wD⟩, ⟨hI, wI⟩, hL, hM', hT⟩ := hR
    have e71 : ∀ g, g < 4 → (kl9 (kg9 E' 4) 3).1 71 0 g = D'.1 26 0 g := fun g hg => by rw [kl9_o _ _ _ _ _ (by omega), (kg9_g E' 4 g hg).1, (r5 g hg).1]
    have e72 : ∀ g, g < 4 → (kl9 (kg9 E' 4) 3).1 72 0 g = D'.1 27 0 g := fun g hg => by rw [kl9_o _ _ _ _ _ (by omega), (kg9_g E' 4 g hg).2, (r5 g hg).2.1]
    have a39 (k f : Nat) (hf : f < 9) : (kl8 (kg8 D' 4) 3).1 39 k f = d.1 39 k f := oD 39 k f (by omega) (by omega) (by omega)
    have a (s k f : Nat) (hs : s = 0 ∨ s = 5 ∨ 35 ≤ s ∧ s ≤ 38 ∨ 40 ≤ s ∧ s ≤ 42) : (kl8 (kg8 D' 4) 3).1 s k f = d.1 s k f := oD s k f (by omega) (by omega) (by omega)
    have a43 (k f : Nat) (hf : f < 3) : (kl8 (kg8 D' 4) 3).1 43 k f = d.1 43 k f := oD 43 k f (by omega) (by omega) (by omega)
    have b (s f : Nat) (hs : 44 ≤ s ∧ s ≤ 70 ∨ s = 75) : (kl9 (kg9 E' 4) 3).1 s 0 f = e.1 s 0 f := oE s 0 f (by omega) (by omega)
    refine ⟨⟨?_, ?_⟩, ?_, ⟨fun g hg => ?_, fun g hg => ?_, ?_⟩, ⟨?_, ?_⟩, ?_, ?_, ?_⟩
    · unfold rP at hP ⊢
      simp only [a 37 _ _ (by omega), a 38 _ _ (by omega), b 45 _ (by omega), b 46 _ (by omega), b 47 _ (by omega), b 48 _ (by omega), b 49 _ (by omega), b 50 _ (by omega), b 51 _ (by omega)]
      exact hP
    · unfold vP at wP ⊢
      simp only [a 37 _ _ (by omega), a 38 _ _ (by omega), a39 _ 0 (by omega)]
      exact wP
    · unfold rF at hF ⊢
      simp only [a 5 _ _ (by omega), b 52 _ (by omega)]
      exact hF
    · obtain ⟨q1, q2, q3, q4, q5⟩ := hG g hg
      rw [wF g hg, wG g hg, e71 g hg, e72 g hg]
      simp only [a39 _ 0 (by omega), a39 _ 1 (by omega), a39 _ 2 (by omega), a39 _ 3 (by omega), a39 _ 4 (by omega), a39 _ 5 (by omega), a39 _ 6 (by omega), a 40 _ _ (by omega), a 41 _ _ (by omega), b 53 _ (by omega), b 54 _ (by omega), b 55 _ (by omega), b 56 _ (by omega), b 57 _ (by omega), b 58 _ (by omega), b 59 _ (by omega), b 60 _ (by omega), b 61 _ (by omega)]
      exact ⟨q1, q2, trivial, trivial, q5⟩
    · obtain ⟨q1, q2⟩ := vG' g hg
      rw [wF g hg, wG g hg]
      simp only [a39 _ 0 (by omega), a39 _ 1 (by omega), a39 _ 2 (by omega), a39 _ 3 (by omega), a39 _ 4 (by omega), a39 _ 5 (by omega), a39 _ 6 (by omega), a 40 _ _ (by omega), a 41 _ _ (by omega), a 42 _ _ (by omega), a 0 _ _ (by omega)]
      refine ⟨fun h0 => (r5 g hg).2.2.1 (prs_0.mpr ?_), q2⟩
      unfold tpb acb ob
      rw [h0]
      rfl
    · unfold vD at wD ⊢
      simp only [a39 _ 0 (by omega), a39 _ 4 (by omega)]
      exact wD
    · unfold rI at hI ⊢
      simp only [a 42 _ _ (by omega), b 62 _ (by omega), b 63 _ (by omega), b 64 _ (by omega), b 65 _ (by omega), b 66 _ (by omega), b 67 _ (by omega)]
      exact hI
    · unfold vI at wI ⊢
      simp only [a 42 _ _ (by omega)]
      exact wI
    · obtain ⟨l1, l2, l3⟩ := hL
      refine ⟨?_, ?_, fun l hl => ?_⟩
      · rw [b 44 _ (by omega), a 0 _ _ (by omega)]
        exact l1
      · simp only [a 0 _ _ (by omega), a43 _ 0 (by omega), a43 _ 1 (by omega), a43 _ 2 (by omega), b 68 _ (by omega), b 69 _ (by omega), b 70 _ (by omega)]
        exact l2
      · rw [(kl9_g (kg9 E' 4) 3 l hl).1, (kl9_g (kg9 E' 4) 3 l hl).2, (kl8_g (kg8 D' 4) 3 l hl).1, (kl8_g (kg8 D' 4) 3 l hl).2, kg9_o _ _ _ _ _ (by omega), kg9_o _ _ _ _ _ (by omega), kg8_o _ _ _ _ _ (by omega), kg8_o _ _ _ _ _ (by omega)]
        exact r6 l hl
    · unfold rM at hM' ⊢
      simp only [a 0 _ _ (by omega), b 44 _ (by omega)]
      exact hM'
    · unfold rT at hT ⊢
      simp only [a 35 _ _ (by omega), a 36 _ _ (by omega), b 44 _ (by omega), b 75 _ (by omega)]
      exact hT
  · intro s hs
    funext k f
    exact oD s k f (by omega) (by omega) (by omega)
  · intro s hs
    funext k f
    exact oE s k f (by omega) (by omega)
