/-! THE SIMULATION: its beginning *** by hand -/
def tpb (d : sk_D) (g : Nat) : Bool := acb d g && !decide (d.1 39 g 6 ≤ 0)
theorem tp8 {d e : sk_D} (hR : sk_R2 d e) {g : Nat} (hg : g < 4) : q_X8_takesPart d (nI g) = some (bI (tpb d g)) := by
  have eg := nI_clamp (n := g) (by omega)
  have bg : sk_bi (nI g) 4 = true := bi_nI (by omega) (by omega)
  unfold tpb
  cases ha : acb d g with
  | false => simp only [q_X8_takesPart, q_X8_takesPart_0, ac8 hR hg, ha, bI_f, Option.bind_some, Bool.false_and, ↓reduceIte]
  | true =>
    by_cases c : d.1 39 g 6 ≤ 0
    · simp only [q_X8_takesPart, q_X8_takesPart_0, ac8 hR hg, ha, bI_t, bI_f, i10, bg, eg, c, Option.bind_some, Bool.true_and, decide_true, Bool.not_true, ↓reduceIte]
    · simp only [q_X8_takesPart, q_X8_takesPart_0, ac8 hR hg, ha, bI_t, i10, bg, eg, c, Option.bind_some, Bool.true_and, decide_false, Bool.not_false, ↓reduceIte]
theorem tpb_o {d e : sk_D} (hR : sk_R2 d e) {g : Nat} (hg : g < 4) (h : tpb d g = true) : d.1 39 g 0 = 1 ∧ acb d g = true ∧ ∃ s, 1 ≤ s ∧ s ≤ 4 ∧ d.1 39 g 6 = nI s := by
  unfold tpb at h
  rw [Bool.and_eq_true, Bool.not_eq_true', decide_eq_false_iff_not] at h
  have ho := acb_o hR.2.2.1.1 hg h.1
  obtain ⟨_, _, _, _, _, s, hs, es, _⟩ := (hR.2.2.1.2.1 g hg).2 ho
  refine ⟨ho, h.1, s, ?_, hs, es⟩
  have h2 := h.2
  rw [es] at h2
  apply Classical.byContradiction
  intro c
  have : s = 0 := by omega
  subst this
  exact h2 (by decide)
/-- the persons of a group that takes part -/
def prs (d : sk_D) (g : Nat) : Nat := if tpb d g = true then (if d.1 39 g 4 = -9 then kn (gb d (nI g)) 20 else kn (gb d (nI g)) 20 + 1) else 0
theorem prs_le (d : sk_D) (g : Nat) : prs d g ≤ 21 := by
  have := kn_le (gb d (nI g)) 20
  unfold prs
  split
  · split <;> omega
  · omega
theorem prs_pos {d : sk_D} {g : Nat} (ha : tpb d g = true) : 0 < kn (gb d (nI g)) 20 := by
  unfold tpb acb at ha
  rw [Bool.and_eq_true, Bool.and_eq_true, decide_eq_true_eq] at ha
  exact ha.1.2
theorem prs_0 {d : sk_D} {g : Nat} : prs d g = 0 ↔ tpb d g = false := by
  unfold prs
  cases ha : tpb d g with
  | false => exact ⟨fun _ => rfl, fun _ => if_neg Bool.false_ne_true⟩
  | true =>
    have := prs_pos ha
    rw [if_pos rfl]
    refine ⟨fun h => ?_, fun h => by cases h⟩
    split at h <;> omega
def cp8 (d : sk_D) : Nat → sk_D
  | 0 => d
  | n + 1 => sk_wi (cp8 d n) 24 0 n (nI (prs d n))
theorem cp8_o (d : sk_D) : ∀ (n s k f : Nat), ¬ (s = 24 ∧ f < n) → (cp8 d n).1 s k f = d.1 s k f
  | 0, _, _, _, _ => rfl
  | n + 1, s, k, f, h => by
    show (sk_wi (cp8 d n) 24 0 n _).1 s k f = _
    rw [wi_o (by omega), cp8_o d n s k f (by omega)]
theorem cp8_g (d : sk_D) : ∀ (n k : Nat), k < n → (cp8 d n).1 24 0 k = nI (prs d k)
  | 0, k, h => absurd h (Nat.not_lt_zero _)
  | n + 1, k, h => by
    show (sk_wi (cp8 d n) 24 0 n (nI (prs d n))).1 24 0 k = _
    by_cases e1 : k = n
    · subst e1
      exact wi_e
    · rw [wi_o (by omega), cp8_g d n k (by omega)]
theorem sites_same {d d' : sk_D} (h37 : ∀ k f, d'.1 37 k f = d.1 37 k f) (h39 : ∀ k f, f ≠ 5 → d'.1 39 k f = d.1 39 k f) (g : Nat) : tpb d' g = tpb d g ∧ gb d' (nI g) = gb d (nI g) ∧ prs d' g = prs d g := by
  have ge : gb d' (nI g) = gb d (nI g) := by
    funext k
    unfold gb pb
    rw [h37, h37]
  have ht : tpb d' g = tpb d g := by
    unfold tpb
    rw [acb_same h37 (fun k => h39 k 0 (by omega)), h39 _ _ (by omega)]
  refine ⟨ht, ge, ?_⟩
  unfold prs
  rw [ht, ge, h39 _ _ (by omega)]
theorem count8 {d e : sk_D} (hR : sk_R2 d e) : q_X8_countPersons d = some (cp8 d 4) := by
  refine it_for0 (F := fun rec a => q_X8_countPersons_2 rec a.1 a.2) (fun i => (cp8 d i, nI i)) 4 (fun j hj rec => ?_) (fun rec => ?_) (by omega)
  · show q_X8_countPersons_2 rec (cp8 d j) (nI j) = rec (cp8 d (j + 1), nI (j + 1))
    have ej := nI_clamp (n := j) (by omega)
    have bj : sk_bi (nI j) 4 = true := bi_nI (by omega) (by omega)
    have lj : ¬ (4 : Int32) ≤ nI j := le_nI (n := 4) rfl hj (by omega)
    have hRj : sk_R2 (cp8 d j) e := R2_d hR (sd8.ne (fun s k f hs => cp8_o d j s k f (by omega)))
    obtain ⟨s1, s2, s3⟩ := sites_same (d := d) (d' := cp8 d j) (fun k f => cp8_o d j 37 k f (by omega)) (fun k f _ => cp8_o d j 39 k f (by omega)) j
    have t8 := tp8 hRj hj
    rw [s1] at t8
    have c8 := c8_countIn hRj.1.1 (nI j)
    rw [s2, kc_kn] at c8
    have o4 : (cp8 d j).1 39 j 4 = d.1 39 j 4 := cp8_o d j 39 j 4 (by omega)
    cases ht : tpb d j with
    | false =>
      rw [ht] at t8
      have hp : prs d j = 0 := prs_0.mpr ht
      have z : ((0 : Int32) ≤ 0) = True := eq_true (by decide)
      simp only [q_X8_countPersons_2, q_X8_countPersons_24, q_X8_countPersons_57, q_X8_countPersons_58, lj, t8, bI_f, z, bj, ej, s1_nI, cp8, hp, Option.bind_some, ↓reduceIte]
      rfl
    | true =>
      rw [ht] at t8
      have hpos := prs_pos ht
      have hk20 := kn20 (gb d (nI j))
      have n0 : ¬ nI (kn (gb d (nI j)) 20) ≤ (0 : Int32) := nI_nle hpos hk20
      by_cases c : d.1 39 j 4 = -9
      · have hp : prs d j = kn (gb d (nI j)) 20 := by
          unfold prs
          rw [if_pos ht, if_pos c]
        simp only [q_X8_countPersons_2, q_X8_countPersons_24, q_X8_countPersons_57, q_X8_countPersons_58, lj, t8, bI_t, i10, c8, n0, o4, c, bj, ej, s1_nI, cp8, hp, Option.bind_some, ↓reduceIte]
      · have hp : prs d j = kn (gb d (nI j)) 20 + 1 := by
          unfold prs
          rw [if_pos ht, if_neg c]
        simp only [q_X8_countPersons_2, q_X8_countPersons_24, q_X8_countPersons_57, q_X8_countPersons_58, lj, t8, bI_t, i10, c8, n0, o4, c, bj, ej, s1_nI, cp8, hp, Option.bind_some, ↓reduceIte]
  · show q_X8_countPersons_2 rec (cp8 d 4) (nI 4) = _
    have l : (4 : Int32) ≤ nI 4 := ge_nI (n := 4) rfl (by omega) (by omega)
    simp only [q_X8_countPersons_2, l, ↓reduceIte]
def ar8 (d : sk_D) : Nat → sk_D
  | 0 => d
  | n + 1 => sk_wi (ar8 d n) 25 0 n (d.1 39 n 5)
theorem ar8_o (d : sk_D) : ∀ (n s k f : Nat), ¬ (s = 25 ∧ f < n) → (ar8 d n).1 s k f = d.1 s k f
  | 0, _, _, _, _ => rfl
  | n + 1, s, k, f, h => by
    show (sk_wi (ar8 d n) 25 0 n _).1 s k f = _
    rw [wi_o (by omega), ar8_o d n s k f (by omega)]
theorem ar8_g (d : sk_D) : ∀ (n k : Nat), k < n → (ar8 d n).1 25 0 k = d.1 39 k 5
  | 0, k, h => absurd h (Nat.not_lt_zero _)
  | n + 1, k, h => by
    show (sk_wi (ar8 d n) 25 0 n (d.1 39 n 5)).1 25 0 k = _
    by_cases e1 : k = n
    · subst e1
      exact wi_e
    · rw [wi_o (by omega), ar8_g d n k (by omega)]
def bg8 (d : sk_D) : sk_D := sk_fi (sk_fi (sk_fi (sk_fi (sk_fi (sk_fi (sk_fi (ar8 d 4) 26 0 4 0) 27 0 4 0) 28 0 3 0) 29 0 3 0) 30 0 4 0) 31 0 4 0) 34 0 3 0
theorem begin8 (d : sk_D) : q_X6_begin d = some (bg8 d) := by
  refine it_for0 (F := fun rec a => q_X6_begin_2 rec a.1 a.2) (fun i => (ar8 d i, nI i)) 4 (fun j hj rec => ?_) (fun rec => ?_) (by omega)
  · show q_X6_begin_2 rec (ar8 d j) (nI j) = rec (ar8 d (j + 1), nI (j + 1))
    have ej := nI_clamp (n := j) (by omega)
    have bj : sk_bi (nI j) 4 = true := bi_nI (by omega) (by omega)
    have lj : ¬ (4 : Int32) ≤ nI j := le_nI (n := 4) rfl hj (by omega)
    have o5 : (ar8 d j).1 39 j 5 = d.1 39 j 5 := ar8_o d j 39 j 5 (by omega)
    simp only [q_X6_begin_2, lj, bj, ej, o5, s1_nI, ar8, ↓reduceIte]
  · show q_X6_begin_2 rec (ar8 d 4) (nI 4) = _
    have l : (4 : Int32) ≤ nI 4 := ge_nI (n := 4) rfl (by omega) (by omega)
    simp only [q_X6_begin_2, q_X6_begin_38, q_X6_begin_46, q_X6_begin_54, q_X6_begin_62, q_X6_begin_70, q_X6_begin_78, l, ↓reduceIte]
    rfl
theorem bg8_v (d : sk_D) : (∀ g, g < 4 → (bg8 d).1 25 0 g = d.1 39 g 5 ∧ (bg8 d).1 26 0 g = 0 ∧ (bg8 d).1 27 0 g = 0 ∧ (bg8 d).1 30 0 g = 0 ∧ (bg8 d).1 31 0 g = 0) ∧ (∀ l, l < 3 → (bg8 d).1 28 0 l = 0 ∧ (bg8 d).1 29 0 l = 0 ∧ (bg8 d).1 34 0 l = 0) ∧ FS8 d (bg8 d) := by
  unfold bg8
  refine ⟨fun g hg => ⟨?_, ?_, ?_, ?_, ?_⟩, fun l hl => ⟨?_, ?_, ?_⟩, fun s k f hs => ?_⟩
  · rw [fi_o (by omega), fi_o (by omega), fi_o (by omega), fi_o (by omega), fi_o (by omega), fi_o (by omega), fi_o (by omega), ar8_g d 4 g hg]
  · rw [fi_o (by omega), fi_o (by omega), fi_o (by omega), fi_o (by omega), fi_o (by omega), fi_o (by omega), fi_e hg]
  · rw [fi_o (by omega), fi_o (by omega), fi_o (by omega), fi_o (by omega), fi_o (by omega), fi_e hg]
  · rw [fi_o (by omega), fi_o (by omega), fi_e hg]
  · rw [fi_o (by omega), fi_e hg]
  · rw [fi_o (by omega), fi_o (by omega), fi_o (by omega), fi_o (by omega), fi_e hl]
  · rw [fi_o (by omega), fi_o (by omega), fi_o (by omega), fi_e hl]
  · rw [fi_e hl]
  · rw [fi_o (by omega), fi_o (by omega), fi_o (by omega), fi_o (by omega), fi_o (by omega), fi_o (by omega), fi_o (by omega), ar8_o d 4 s k f (by omega)]
/-- the reference's beginning, v its arrivals -/
def ba9 (d e : sk_D) : Nat → sk_D
  | 0 => e
  | n + 1 => sk_wi (sk_wi (sk_wi (sk_wi (sk_wi (sk_wi (ba9 d e n) 84 0 n (nI (prs d n))) 85 0 n 0) 86 0 n (if tpb d n = true then e.1 58 0 n else -9)) 87 0 n (nI (4 * n))) 90 0 n 0) 91 0 n 0
theorem ba9_o (d e : sk_D) : ∀ (n s k f : Nat), ¬ ((84 ≤ s ∧ s ≤ 87 ∨ s = 90 ∨ s = 91) ∧ f < n) → (ba9 d e n).1 s k f = e.1 s k f
  | 0, _, _, _, _ => rfl
  | n + 1, s, k, f, h => by
    show (sk_wi (sk_wi (sk_wi (sk_wi (sk_wi (sk_wi (ba9 d e n) 84 0 n _) 85 0 n _) 86 0 n _) 87 0 n _) 90 0 n _) 91 0 n _).1 s k f = _
    rw [wi_o (by omega), wi_o (by omega), wi_o (by omega), wi_o (by omega), wi_o (by omega), wi_o (by omega), ba9_o d e n s k f (by omega)]
theorem ba9_g (d e : sk_D) : ∀ (n k : Nat), k < n → (ba9 d e n).1 84 0 k = nI (prs d k) ∧ (ba9 d e n).1 85 0 k = 0 ∧ (ba9 d e n).1 86 0 k = (if tpb d k = true then e.1 58 0 k else -9) ∧ (ba9 d e n).1 87 0 k = nI (4 * k) ∧ (ba9 d e n).1 90 0 k = 0 ∧ (ba9 d e n).1 91 0 k = 0
  | 0, k, h => absurd h (Nat.not_lt_zero _)
  | n + 1, k, h => by
    by_cases e1 : k = n
    · subst e1
      simp [ba9, sk_wi, sk_up]
    · have ih := ba9_g d e n k (by omega)
      have o (s : Nat) : (ba9 d e (n + 1)).1 s 0 k = (ba9 d e n).1 s 0 k := by
        show (sk_wi (sk_wi (sk_wi (sk_wi (sk_wi (sk_wi (ba9 d e n) 84 0 n _) 85 0 n _) 86 0 n _) 87 0 n _) 90 0 n _) 91 0 n _).1 s 0 k = _
        rw [wi_o (by omega), wi_o (by omega), wi_o (by omega), wi_o (by omega), wi_o (by omega), wi_o (by omega)]
      rw [o, o, o, o, o, o]
      exact ih
def bl9 (e : sk_D) : Nat → sk_D
  | 0 => e
  | n + 1 => sk_wi (sk_wi (sk_wi (bl9 e n) 89 0 n 0) 92 0 n 0) 93 0 n 0
theorem bl9_o (e : sk_D) : ∀ (n s k f : Nat), ¬ ((s = 89 ∨ s = 92 ∨ s = 93) ∧ f < n) → (bl9 e n).1 s k f = e.1 s k f
  | 0, _, _, _, _ => rfl
  | n + 1, s, k, f, h => by
    show (sk_wi (sk_wi (sk_wi (bl9 e n) 89 0 n _) 92 0 n _) 93 0 n _).1 s k f = _
    rw [wi_o (by omega), wi_o (by omega), wi_o (by omega), bl9_o e n s k f (by omega)]
theorem bl9_g (e : sk_D) : ∀ (n k : Nat), k < n → (bl9 e n).1 89 0 k = 0 ∧ (bl9 e n).1 92 0 k = 0 ∧ (bl9 e n).1 93 0 k = 0
  | 0, k, h => absurd h (Nat.not_lt_zero _)
  | n + 1, k, h => by
    by_cases e1 : k = n
    · subst e1
      simp [bl9, sk_wi, sk_up]
    · have ih := bl9_g e n k (by omega)
      have o (s : Nat) : (bl9 e (n + 1)).1 s 0 k = (bl9 e n).1 s 0 k := by
        show (sk_wi (sk_wi (sk_wi (bl9 e n) 89 0 n _) 92 0 n _) 93 0 n _).1 s 0 k = _
        rw [wi_o (by omega), wi_o (by omega), wi_o (by omega)]
      rw [o, o, o]
      exact ih
theorem x4s_nI (k : Nat) : (4 : Int32) * nI k = nI (4 * k) := by
  have := x4_nI k 0
  rw [show nI 0 = (0 : Int32) from rfl, Int32.add_zero, Nat.add_zero] at this
  exact this
def stf (d : sk_D) (g : Nat) : Nat := (d.1 39 g 6).toNatClampNeg
theorem SS_of {d e : sk_D} (hR : sk_R2 d e) : ∃ n, SS n (stf d) (prs d) d e := by
  obtain ⟨l1, ⟨n, hn, en, l2⟩, _⟩ := hR.2.2.2.2.1
  refine ⟨n, fun g hg => ⟨prs_le d g, fun hp => ?_⟩, hn, en, l1.trans en, fun l hl => ?_⟩
  · have ht : tpb d g = true := by
      cases h : tpb d g with
      | true => rfl
      | false => exact absurd (prs_0.mpr h) hp
    obtain ⟨ho, _, s, hs1, hs, es⟩ := tpb_o hR hg ht
    have hst : stf d g = s := by
      unfold stf
      rw [es, nI_clamp (by omega)]
    rw [hst]
    obtain ⟨_, _, _, _, _, p6, p7⟩ := (hR.2.2.1.1 g hg).2.2.2.2 ho
    obtain ⟨_, _, _, _, _, s', hs', es', w⟩ := (hR.2.2.1.2.1 g hg).2 ho
    have e1 : s' = s := by
      rw [es, nI_eq (by omega) (by omega)] at es'
      exact es'.symm
    subst e1
    refine ⟨hs1, hs, es, p6.trans es, fun j hj => ?_⟩
    obtain ⟨⟨l, hl, el, hl2⟩, y, hy1, hy2, ey⟩ := w j hj
    obtain ⟨q1, q2⟩ := p7 j (by omega) (by rw [es]; exact nI_lt hj (by omega))
    refine ⟨l, y, ?_, hy1, hy2, el, q1.trans el, ey, q2.trans ey⟩
    rw [en, nI_ltI (by omega) (by omega)] at hl2
    exact hl2
  · obtain ⟨q1, q2, q3, ⟨s, hs1, hs2, es⟩, ⟨i, hi1, hi2, ei⟩, ⟨r, hr1, hr2, er⟩⟩ := l2 l hl
    exact ⟨s, i, r, hs1, hs2, hi1, hi2, hr1, hr2, es, q1.trans es, ei, q2.trans ei, er, q3.trans er⟩
