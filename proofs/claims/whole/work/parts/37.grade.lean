/-! grade *** by hand -/
def ftb (lp la lg ll : Int32) : Bool := !decide ((1 : Int32) < (if 0 ≤ lg - lp then lg - lp else 0 - (lg - lp))) && decide ((la >>> (ll &&& 31)) &&& (1 : Int32) = 1)
theorem suits8 (d : sk_D) (g k : Nat) : q_X0_suits d g k = some (bI (ftb (d.1 37 k 1) (d.1 37 k 2) (d.1 39 g 1) (d.1 39 g 2))) := by
  unfold ftb
  simp only [q_X0_suits, q_X0_suits_0]
  by_cases h1 : (1 : Int32) < (if 0 ≤ ((d.1 39 g 1) - (d.1 37 k 1)) then ((d.1 39 g 1) - (d.1 37 k 1)) else 0 - ((d.1 39 g 1) - (d.1 37 k 1)))
  · rw [if_pos h1, decide_eq_true h1]
    rfl
  · rw [if_neg h1, decide_eq_false h1]
    by_cases h2 : (((d.1 37 k 2) >>> ((d.1 39 g 2) &&& 31)) &&& (1 : Int32)) = (1 : Int32)
    · rw [if_pos h2, decide_eq_true h2]
      rfl
    · rw [if_neg h2, decide_eq_false h2]
      rfl
theorem fit_dec : ∀ a, a < 8 → ∀ b, b < 8 → ((nI a - nI b : Int32) < -1 ∨ (1 : Int32) < nI a - nI b ↔ (1 : Int32) < (if 0 ≤ nI b - nI a then nI b - nI a else 0 - (nI b - nI a))) := by decide +kernel
theorem fit9 (e : sk_D) {k a b : Nat} (hk : k < 20) (ha : a < 8) (hb : b < 8) (e1 : e.1 46 0 k = nI a) (ll : Int32) : q_X9_isFitting e (nI k) (nI b) ll = some (bI (ftb (nI a) (e.1 47 0 k) (nI b) ll)) := by
  have ek := nI_clamp (n := k) (by omega)
  have bk : sk_bi (nI k) 20 = true := bi_nI (by omega) (by omega)
  have hd := fit_dec a ha b hb
  have w : q_X9_within e (nI a - nI b) (-1) 1 = some (if (1 : Int32) < (if 0 ≤ nI b - nI a then nI b - nI a else 0 - (nI b - nI a)) then 0 else 1) := by
    simp only [q_X9_within, q_X9_within_0]
    by_cases c : (1 : Int32) < (if 0 ≤ nI b - nI a then nI b - nI a else 0 - (nI b - nI a))
    · rw [if_pos c]
      rcases hd.mpr c with q | q
      · rw [if_pos q]
      · by_cases q2 : (nI a - nI b : Int32) < -1
        · rw [if_pos q2]
        · rw [if_neg q2, if_pos q]
    · rw [if_neg c, if_neg (fun q => c (hd.mp (.inl q))), if_neg (fun q => c (hd.mp (.inr q)))]
  unfold ftb
  simp only [q_X9_isFitting, q_X9_isFitting_0, bk, ek, e1, w, Option.bind_some, ↓reduceIte]
  by_cases c : (1 : Int32) < (if 0 ≤ nI b - nI a then nI b - nI a else 0 - (nI b - nI a))
  · rw [if_pos c, if_pos rfl, decide_eq_true c]
    rfl
  · rw [if_neg c, if_neg (by decide), decide_eq_false c]
    by_cases h2 : (((e.1 47 0 k) >>> (ll &&& 31)) &&& (1 : Int32)) = (1 : Int32)
    · rw [if_pos h2, decide_eq_true h2]
      rfl
    · rw [if_neg h2, decide_eq_false h2]
      rfl
/-- sum, lowest, all good: of the first n scores -/
def ssm (d : sk_D) (k : Nat) : Nat → Int32
  | 0 => 0
  | n + 1 => ssm d k n + d.1 38 k n
def slw (d : sk_D) (k : Nat) : Nat → Int32
  | 0 => 10
  | n + 1 => if d.1 38 k n < slw d k n then d.1 38 k n else slw d k n
def sgd (d : sk_D) (m : Int32) (k : Nat) : Nat → Bool
  | 0 => true
  | n + 1 => sgd d m k n && !decide (d.1 38 k n < m)
theorem slw_gd (d : sk_D) (m : Int32) (k : Nat) (hm : ¬ (10 : Int32) < m) : ∀ n, slw d k n < m ↔ sgd d m k n = false
  | 0 => ⟨fun h => absurd h hm, fun h => by cases h⟩
  | n + 1 => by
    have ih := slw_gd d m k hm n
    show (if d.1 38 k n < slw d k n then d.1 38 k n else slw d k n) < m ↔ (sgd d m k n && !decide (d.1 38 k n < m)) = false
    by_cases h1 : d.1 38 k n < m
    · rw [decide_eq_true h1]
      refine ⟨fun _ => Bool.and_false _, fun _ => ?_⟩
      split
      · exact h1
      · rename_i c
        rw [Int32.lt_iff_toInt_lt] at *
        omega
    · rw [decide_eq_false h1, Bool.not_false, Bool.and_true, ← ih]
      split
      · rename_i c
        rw [Int32.lt_iff_toInt_lt] at *
        rw [Int32.lt_iff_toInt_lt]
        omega
      · exact Iff.rfl
theorem c8_sum (d : sk_D) (k : Nat) : q_X4_sumScores d k = some (ssm d k 4) := by
  refine it_for0 (F := fun rec4 a => q_X4_sumScores_4 rec4 d a.1 a.2.1 a.2.2) (fun i => (k, ssm d k i, nI i)) 4 (fun j hj rec => ?_) (fun rec => ?_) (by omega)
  · show q_X4_sumScores_4 rec d k (ssm d k j) (nI j) = rec (k, ssm d k (j + 1), nI (j + 1))
    have ej := nI_clamp (n := j) (by omega)
    have bj : sk_bi (nI j) 4 = true := bi_nI (by omega) (by omega)
    have lj : ¬ (4 : Int32) ≤ nI j := le_nI (n := 4) rfl hj (by omega)
    simp only [q_X4_sumScores_4, lj, bj, ej, s1_nI, ssm, ↓reduceIte]
  · show q_X4_sumScores_4 rec d k (ssm d k 4) (nI 4) = _
    have l : (4 : Int32) ≤ nI 4 := ge_nI (n := 4) rfl (by omega) (by omega)
    simp only [q_X4_sumScores_4, l, ↓reduceIte]
theorem c8_low (d : sk_D) (k : Nat) : q_X4_lowestScore d k = some (slw d k 4) := by
  refine it_for0 (F := fun rec4 a => q_X4_lowestScore_5 rec4 d a.1 a.2.1 a.2.2) (fun i => (k, slw d k i, nI i)) 4 (fun j hj rec => ?_) (fun rec => ?_) (by omega)
  · show q_X4_lowestScore_5 rec d k (slw d k j) (nI j) = rec (k, slw d k (j + 1), nI (j + 1))
    have ej := nI_clamp (n := j) (by omega)
    have bj : sk_bi (nI j) 4 = true := bi_nI (by omega) (by omega)
    have lj : ¬ (4 : Int32) ≤ nI j := le_nI (n := 4) rfl hj (by omega)
    simp only [q_X4_lowestScore_5, lj, bj, ej, s1_nI, slw, ↓reduceIte]
  · show q_X4_lowestScore_5 rec d k (slw d k 4) (nI 4) = _
    have l : (4 : Int32) ≤ nI 4 := ge_nI (n := 4) rfl (by omega) (by omega)
    simp only [q_X4_lowestScore_5, l, ↓reduceIte]
/-- the level after the test -/
def nlv (S pass drop : Int32) (good : Bool) (lv : Int32) : Int32 := if good = true ∧ ¬ S < pass then (if (7 : Int32) ≤ lv then 7 else lv + 1) else if drop ≤ S then lv else if lv ≤ 0 then 0 else lv - 1
theorem up_dec : ∀ a, a < 8 → (if (7 : Int32) < nI a + 1 then (7 : Int32) else nI a + 1) = (if (7 : Int32) ≤ nI a then 7 else nI a + 1) := by decide +kernel
theorem dn_dec : ∀ a, a < 8 → (if nI a - (1 : Int32) < 0 then (0 : Int32) else nI a - 1) = (if nI a ≤ 0 then 0 else nI a - 1) := by decide +kernel
theorem nlv_ok (S pass drop : Int32) (good : Bool) : ∀ a, a < 8 → ∃ b, b < 8 ∧ nlv S pass drop good (nI a) = nI b := by
  intro a ha
  have h1 : ∀ a, a < 8 → ∃ b, b < 8 ∧ (if (7 : Int32) ≤ nI a then (7 : Int32) else nI a + 1) = nI b := by decide +kernel
  have h2 : ∀ a, a < 8 → ∃ b, b < 8 ∧ (if nI a ≤ (0 : Int32) then (0 : Int32) else nI a - 1) = nI b := by decide +kernel
  unfold nlv
  split
  · exact h1 a ha
  · split
    · exact ⟨a, ha, rfl⟩
    · exact h2 a ha
theorem c8_after (d : sk_D) (k : Nat) {a : Nat} (ha : a < 8) (hl : d.1 37 k 1 = nI a) (hm : ¬ (10 : Int32) < d.1 0 0 11) : q_X8_levelAfterTest d k = some (nlv (ssm d k 4) (d.1 0 0 10) (d.1 0 0 12) (sgd d (d.1 0 0 11) k 4) (nI a)) := by
  have h36 : q_X8_levelAfterTest_36 d k (ssm d k 4) = some (if d.1 0 0 12 ≤ ssm d k 4 then nI a else if nI a ≤ 0 then 0 else nI a - 1) := by
    simp only [q_X8_levelAfterTest_36, hl]
    by_cases c : d.1 0 0 12 ≤ ssm d k 4
    · rw [if_pos c, if_pos c]
    · rw [if_neg c, if_neg c, dn_dec a ha]
  simp only [q_X8_levelAfterTest, q_X8_levelAfterTest_0, c8_sum, c8_low, Option.bind_some, h36, hl, up_dec a ha]
  have hg := slw_gd d (d.1 0 0 11) k hm 4
  unfold nlv
  by_cases c1 : ssm d k 4 < d.1 0 0 10
  · have hn : ¬ (sgd d (d.1 0 0 11) k 4 = true ∧ ¬ ssm d k 4 < d.1 0 0 10) := fun q => q.2 c1
    rw [if_pos c1, if_neg hn]
  · rw [if_neg c1]
    by_cases c2 : slw d k 4 < d.1 0 0 11
    · have hn : ¬ (sgd d (d.1 0 0 11) k 4 = true ∧ ¬ ssm d k 4 < d.1 0 0 10) := fun q => by
        have q1 := q.1
        rw [hg.mp c2] at q1
        exact Bool.false_ne_true q1
      rw [if_pos c2, if_neg hn]
    · have c3 : sgd d (d.1 0 0 11) k 4 = true := by
        rw [← Bool.not_eq_false]
        exact fun q => c2 (hg.mpr q)
      have hy : sgd d (d.1 0 0 11) k 4 = true ∧ ¬ ssm d k 4 < d.1 0 0 10 := ⟨c3, c1⟩
      rw [if_neg c2, if_pos hy]
theorem c9_126 (e : sk_D) {k a : Nat} (hk : k < 20) (he : e.1 46 0 k = nI a) (S : Int32) (good : Bool) (s0 : Bool) (h0 : s0 = true ↔ good = true ∧ ¬ S < e.1 44 0 1) :
    q_X9_grade_126 e (nI k) S (bI s0) = q_X9_grade_193 (sk_wi e 46 0 k (nlv S (e.1 44 0 1) (e.1 44 0 3) good (nI a))) (nI k) := by
  have ek := nI_clamp (n := k) (by omega)
  have bk : sk_bi (nI k) 20 = true := bi_nI (by omega) (by omega)
  unfold nlv
  cases s0 with
  | true =>
    rw [if_pos (h0.mp rfl)]
    simp only [q_X9_grade_126, q_X9_grade_162, bk, ek, bI_t, i10, he, ↓reduceIte]
    split <;> rfl
  | false =>
    rw [if_neg (fun q => absurd (h0.mpr q) Bool.false_ne_true)]
    simp only [q_X9_grade_126, q_X9_grade_192, bk, ek, bI_f, he, ↓reduceIte]
    by_cases c : e.1 44 0 3 ≤ S
    · rw [if_pos c, if_pos c, ← he, wi_same]
    · rw [if_neg c, if_neg c]
      split <;> rfl
theorem sgd_t {d : sk_D} {m : Int32} {k n : Nat} : sgd d m k (n + 1) = true ↔ sgd d m k n = true ∧ ¬ d.1 38 k n < m := by
  show (sgd d m k n && !decide (d.1 38 k n < m)) = true ↔ _
  rw [Bool.and_eq_true, Bool.not_eq_true', decide_eq_false_iff_not]
theorem c9_loop {d e : sk_D} {k a : Nat} (hk : k < 20) (he : e.1 46 0 k = nI a) (hs : ∀ j, j < 4 → e.1 50 0 (4 * k + j) = d.1 38 k j) :
    l_X9_grade_42 sk_fu (e, nI k, (0 : Int32), (1 : Int32), (0 : Int32)) = q_X9_grade_193 (sk_wi (sc9 e k 4) 46 0 k (nlv (ssm d k 4) (e.1 44 0 1) (e.1 44 0 3) (sgd d (e.1 44 0 2) k 4) (nI a))) (nI k) := by
  refine it_for0 (F := fun rec42 a => q_X9_grade_42 rec42 a.1 a.2.1 a.2.2.1 a.2.2.2.1 a.2.2.2.2) (fun i => (sc9 e k i, nI k, ssm d k i, bI (sgd d (e.1 44 0 2) k i), nI i)) 4 (fun j hj rec => ?_) (fun rec => ?_) (by omega)
  · show q_X9_grade_42 rec (sc9 e k j) (nI k) (ssm d k j) (bI (sgd d (e.1 44 0 2) k j)) (nI j) = rec (sc9 e k (j + 1), nI k, ssm d k (j + 1), bI (sgd d (e.1 44 0 2) k (j + 1)), nI (j + 1))
    have lj : ¬ (4 : Int32) ≤ nI j := le_nI (n := 4) rfl hj (by omega)
    have ek := nI_clamp (n := 4 * k + j) (by omega)
    have bk : sk_bi (nI (4 * k + j)) 80 = true := bi_nI (by omega) (by omega)
    have r50 : (sc9 e k j).1 50 0 (4 * k + j) = d.1 38 k j := by rw [sc9_o e k j 50 (4 * k + j) (by omega), hs j hj]
    have r44 : (sc9 e k j).1 44 0 2 = e.1 44 0 2 := sc9_o e k j 44 2 (by omega)
    cases hg : sgd d (e.1 44 0 2) k j with
    | false => simp only [q_X9_grade_42, q_X9_grade_88, q_X9_grade_89, lj, x4_nI, bk, ek, r50, hg, bI_f, s1_nI, ssm, sgd, sc9, Bool.false_and, ↓reduceIte]
    | true =>
      by_cases hc : d.1 38 k j < e.1 44 0 2
      · simp only [q_X9_grade_42, q_X9_grade_88, q_X9_grade_89, lj, x4_nI, bk, ek, r50, r44, hg, hc, bI_t, bI_f, i10, s1_nI, ssm, sgd, sc9, decide_true, Bool.not_true, Bool.and_false, ↓reduceIte]
      · simp only [q_X9_grade_42, q_X9_grade_88, q_X9_grade_89, lj, x4_nI, bk, ek, r50, r44, hg, hc, bI_t, bI_f, i10, s1_nI, ssm, sgd, sc9, decide_false, Bool.not_false, Bool.and_true, ↓reduceIte]
  · show q_X9_grade_42 rec (sc9 e k 4) (nI k) (ssm d k 4) (bI (sgd d (e.1 44 0 2) k 4)) (nI 4) = _
    have l : (4 : Int32) ≤ nI 4 := ge_nI (n := 4) rfl (by omega) (by omega)
    have r1 : (sc9 e k 4).1 44 0 1 = e.1 44 0 1 := sc9_o e k 4 44 1 (by omega)
    have r3 : (sc9 e k 4).1 44 0 3 = e.1 44 0 3 := sc9_o e k 4 44 3 (by omega)
    have r46 : (sc9 e k 4).1 46 0 k = nI a := (sc9_o e k 4 46 k (by omega)).trans he
    have t (s0 : Bool) (h0) := c9_126 (sc9 e k 4) hk r46 (ssm d k 4) (sgd d (e.1 44 0 2) k 4) s0 h0
    rw [r1, r3] at t
    cases hg : sgd d (e.1 44 0 2) k 4 with
    | false =>
      have t0 := t false (by rw [hg]; exact ⟨fun q => (by cases q), fun q => absurd q.1 (by decide)⟩)
      rw [hg] at t0
      simp only [q_X9_grade_42, q_X9_grade_125, l, bI_f, ↓reduceIte]
      exact t0
    | true =>
      by_cases hc : ssm d k 4 < e.1 44 0 1
      · have t0 := t false (by rw [hg]; exact ⟨fun q => (by cases q), fun q => absurd hc q.2⟩)
        rw [hg] at t0
        simp only [q_X9_grade_42, q_X9_grade_125, l, bI_t, i10, r1, hc, ↓reduceIte]
        exact t0
      · have t0 := t true (by rw [hg]; exact ⟨fun _ => ⟨rfl, hc⟩, fun _ => rfl⟩)
        rw [hg] at t0
        simp only [q_X9_grade_42, l, bI_t, i10, r1, hc, ↓reduceIte]
        exact t0
theorem px_grade (a : Int32) (d e : sk_D) (hR : sk_R2 d e) : ∃ (r : Int32) (d' e' : sk_D), q_X8_grade d a = some (r, d') ∧ q_X9_grade e a = some (r, e') ∧ sk_R2 d' e' ∧ sk_F8 d d' ∧ sk_F9 e e' := by
  rcases hP hR.1.1 a with ⟨h8, h9⟩ | ⟨k, hk, rfl, h1, h8, h9⟩
  · exact ⟨-1, d, e, by simp only [q_X8_grade, q_X8_grade_0, h8, Option.bind_some, ↓reduceIte], by simp only [q_X9_grade, q_X9_grade_0, h9, Option.bind_some, ↓reduceIte], hR, sk_F8.rf d, sk_F9.rf e⟩
  have ek := nI_clamp (n := k) (by omega)
  have bk : sk_bi (nI k) 20 = true := bi_nI (by omega) (by omega)
  obtain ⟨_, _, q3⟩ := hR.1.1 k hk
  obtain ⟨p1, p2, p3, p4, p5, p6⟩ := q3 h1
  obtain ⟨⟨lv, hlv, elv⟩, v2, v3, v4, v5⟩ := hR.1.2 k hk h1
  have s9 := c9_scoreMany hk p6
  obtain ⟨m1, m2, m3, m4, m5⟩ := hR.2.2.2.2.2.1
  by_cases hc : kc (sb d k) 4 < (4 : Int32)
  · exact ⟨-2, d, e, by simp only [q_X8_grade, q_X8_grade_0, h8, i10, bk, ek, c8_countScores, hc, Option.bind_some, ↓reduceIte], by simp only [q_X9_grade, q_X9_grade_0, h9, i10, s9, hc, Option.bind_some, ↓reduceIte], hR, sk_F8.rf d, sk_F9.rf e⟩
  by_cases hd : d.1 37 k 5 = d.1 0 0 13
  · exact ⟨-2, d, e, by simp only [q_X8_grade, q_X8_grade_0, h8, i10, bk, ek, c8_countScores, hc, hd, Option.bind_some, ↓reduceIte], by simp only [q_X9_grade, q_X9_grade_0, h9, i10, s9, hc, bk, ek, p5, m4, hd, Option.bind_some, ↓reduceIte], hR, sk_F8.rf d, sk_F9.rf e⟩
  have hm10 : ¬ (10 : Int32) < d.1 0 0 11 := by
    obtain ⟨m, hm, em⟩ := m5
    rw [em]
    have := nI_nlt (a := 10) (b := m) (by omega) (by omega)
    exact this
  have e46 : e.1 46 0 k = nI lv := p1.trans elv
  have a8 := c8_after d k hlv elv hm10
  have a9 := c9_loop hk e46 p6
  rw [m1, m2, m3] at a9
  obtain ⟨nl, hnl, enl⟩ := nlv_ok (ssm d k 4) (d.1 0 0 10) (d.1 0 0 12) (sgd d (d.1 0 0 11) k 4) lv hlv
  rw [enl] at a8 a9
  -- the states before the group is looked at
  generalize hD : sk_wi (sk_fi (sk_wi d 37 k 1 (nI nl)) 38 k 4 (-9)) 37 k 5 (d.1 0 0 13) = D
  generalize hE : sk_wi (sk_wi (sc9 e k 4) 46 0 k (nI nl)) 51 0 k (d.1 0 0 13) = E
  have D1 : D.1 37 k 1 = nI nl := by rw [← hD, wi_o (by omega), fi_o (by omega), wi_e]
  have D5 : D.1 37 k 5 = d.1 0 0 13 := by rw [← hD, wi_e]
  have Do (s k' f : Nat) (h : ¬ (s = 37 ∧ k' = k ∧ (f = 1 ∨ f = 5))) (h2 : ¬ (s = 38 ∧ k' = k)) : D.1 s k' f = d.1 s k' f := by
    rw [← hD, wi_o (by omega), fi_o (by omega), wi_o (by omega)]
  have D38 (j : Nat) (hj : j < 4) : D.1 38 k j = -9 := by rw [← hD, wi_o (by omega), fi_e hj]
  have E46 : E.1 46 0 k = nI nl := by rw [← hE, wi_o (by omega), wi_e]
  have E51 : E.1 51 0 k = d.1 0 0 13 := by rw [← hE, wi_e]
  have Eo (s f : Nat) (h : ¬ ((s = 46 ∨ s = 51) ∧ f = k)) (h2 : ¬ (s = 50 ∧ 4 * k ≤ f ∧ f < 4 * k + 4)) : E.1 s 0 f = e.1 s 0 f := by
    rw [← hE, wi_o (by omega), wi_o (by omega), sc9_o _ _ _ _ _ (by omega)]
  have E50 (j : Nat) (hj : j < 4) : E.1 50 0 (4 * k + j) = -9 := by rw [← hE, wi_o (by omega), wi_o (by omega), sc9_e _ _ _ _ hj]
  have FD : sk_F8 d D := by
    rw [← hD]
    exact (((sk_F8.rf d).wi _ _ _ _ (by omega)).fi _ _ _ _ (by omega)).wi _ _ _ _ (by omega)
  have FE : sk_F9 e E := by
    rw [← hE]
    exact ((sc9_F e k 4).wi _ _ _ _ (by omega)).wi _ _ _ _ (by omega)
  have hR1 : sk_R2 D E := by
    refine R2_pup hR k (fun s k' f hs n1 n2 => Do s k' f (by omega) (by omega)) (fun s f hs n1 n2 => Eo s f (by omega) (by omega)) (fun _ => ?_) (fun _ hp => ?_)
    · refine ⟨?_, ?_, fun _ => ⟨E46.trans D1.symm, ?_, ?_, ?_, E51.trans D5.symm, fun j hj => (E50 j hj).trans (D38 j hj).symm⟩⟩
      · rw [Do 37 k 0 (by omega) (by omega)]
        exact .inr h1
      · rw [Do 37 k 0 (by omega) (by omega), Eo 45 k (by omega) (by omega)]
        exact (hR.1.1 k hk).2.1
      · rw [Do 37 k 2 (by omega) (by omega), Eo 47 k (by omega) (by omega)]
        exact p2
      · rw [Do 37 k 3 (by omega) (by omega), Eo 48 k (by omega) (by omega)]
        exact p3
      · rw [Do 37 k 4 (by omega) (by omega), Eo 49 k (by omega) (by omega)]
        exact p4
    · rw [D1, Do 37 k 2 (by omega) (by omega), Do 37 k 3 (by omega) (by omega), Do 37 k 4 (by omega) (by omega)]
      refine ⟨⟨nl, hnl, rfl⟩, v2, v3, ?_, fun j hj => .inl (D38 j hj)⟩
      rcases v4 with v4 | ⟨g, hg, eg, og⟩
      · exact .inl v4
      · exact .inr ⟨g, hg, eg, by rw [Do 39 g 0 (by omega) (by omega)]; exact og⟩
  have g8 : q_X8_grade d (nI k) = q_X8_grade_62 D k k := by
    have t1 : (sk_fi (sk_wi d 37 k 1 (nI nl)) 38 k 4 (-9)).1 0 0 13 = d.1 0 0 13 := by rw [fi_o (by omega), wi_o (by omega)]
    simp only [q_X8_grade, q_X8_grade_0, h8, i10, bk, ek, c8_countScores, hc, hd, a8, q_X8_grade_49, q_X4_clearScores, q_X4_clearScores_0, t1, hD, Option.bind_some, ↓reduceIte]
  have g9 : q_X9_grade e (nI k) = q_X9_grade_208 E (nI k) (nI k) := by
    have t1 : (sk_wi (sc9 e k 4) 46 0 k (nI nl)).1 44 0 0 = d.1 0 0 13 := by
      rw [wi_o (by omega), sc9_o _ _ _ _ _ (by omega)]
      exact m4
    simp only [q_X9_grade, q_X9_grade_0, h9, i10, s9, hc, bk, ek, p5, m4, hd, a9, q_X9_grade_193, t1, hE, Option.bind_some, ↓reduceIte]
  have E49 : E.1 49 0 k = d.1 37 k 4 := (Eo 49 k (by omega) (by omega)).trans p4
  have D4 : D.1 37 k 4 = d.1 37 k 4 := Do 37 k 4 (by omega) (by omega)
  have fin8 : ∀ r : sk_D, r.1 37 k 1 = nI nl → some (r.1 37 k 1, r) = some (nI nl, r) := fun r h => by rw [h]
  rcases v4 with v4 | ⟨g, hg, eg, og⟩
  · refine ⟨nI nl, D, E, ?_, ?_, hR1, FD, FE⟩
    · rw [g8]
      simp only [q_X8_grade_62, D4, v4, hR1.2.2.1.1.n.1, D1, Option.bind_some, ↓reduceIte]
    · rw [g9]
      simp only [q_X9_grade_208, q_X9_grade_259, bk, ek, E49, v4, E46, ↓reduceIte]
  · have ekg := nI_clamp (n := g) (by omega)
    have bg : sk_bi (nI g) 4 = true := bi_nI (by omega) (by omega)
    have ng := nm_nI (j := g) (by omega)
    have og' : D.1 39 g 0 = 1 := (Do 39 g 0 (by omega) (by omega)).trans og
    obtain ⟨u1, u2, _⟩ := (hR1.2.2.1.1 g hg).2.2.2.2 og'
    obtain ⟨lg, hlg, elg⟩ := ((hR1.2.2.1.2.1 g hg).2 og').1
    have sv := suits8 D g k
    have fv := fit9 E hk hnl hlg E46 (E.1 55 0 g)
    have e54 : E.1 54 0 g = nI lg := u1.trans elg
    have e47 : E.1 47 0 k = D.1 37 k 2 := by
      rw [Do 37 k 2 (by omega) (by omega), Eo 47 k (by omega) (by omega)]
      exact p2
    rw [e47, u2] at fv
    rw [D1, elg] at sv
    cases hft : ftb (nI nl) (D.1 37 k 2) (nI lg) (D.1 39 g 2) with
    | true =>
      rw [hft] at sv fv
      refine ⟨nI nl, D, E, ?_, ?_, hR1, FD, FE⟩
      · rw [g8]
        simp only [q_X8_grade_62, D4, eg, (hR1.2.2.1.1.o hg og').1, i10, bg, ekg, sv, bI_t, D1, Option.bind_some, ↓reduceIte]
      · rw [g9]
        simp only [q_X9_grade_208, q_X9_grade_259, bk, ek, E49, eg, ng, bg, ekg, e54, u2, fv, bI_t, i10, E46, Option.bind_some, ↓reduceIte]
    | false =>
      rw [hft] at sv fv
      have hR2 : sk_R2 (sk_wi D 37 k 4 (-9)) (sk_wi E 49 0 k (-9)) := by
        refine R2_grp hR1 (fun s k' f hs n => wi_o (by omega)) (fun s f hs n => wi_o (by omega)) (fun j hj hp => ?_)
        by_cases ej : j = k
        · subst ej
          rw [wi_e, wi_e]
          exact ⟨rfl, .inl rfl⟩
        · rw [wi_o (by omega), wi_o (by omega)]
          exact ⟨((hR1.1.1 j hj).2.2 hp).2.2.2.1, (hR1.1.2 j hj hp).2.2.2.1⟩
      have d3 : (sk_wi D 37 k 4 (-9)).1 37 k 3 = d.1 37 k 3 := by rw [wi_o (by omega), Do 37 k 3 (by omega) (by omega)]
      have e3 : (sk_wi E 49 0 k (-9)).1 48 0 k = d.1 37 k 3 := by
        rw [wi_o (by omega), Eo 48 k (by omega) (by omega)]
        exact p3
      obtain ⟨r, d', e', w1, w2, hR3, f8, f9, o8, o9⟩ := px_rule hR2 (d.1 37 k 3) v3
      have c1 : d'.1 37 k 1 = nI nl := by rw [o8 37 k 1 (by omega), wi_o (by omega), D1]
      have c2 : e'.1 46 0 k = nI nl := by rw [o9 46 0 k (by omega), wi_o (by omega), E46]
      refine ⟨nI nl, d', e', ?_, ?_, hR3, sk_F8.tr (FD.wi _ _ _ _ (by omega)) f8, sk_F9.tr (FE.wi _ _ _ _ (by omega)) f9⟩
      · rw [g8]
        simp only [q_X8_grade_62, q_X8_grade_95, D4, eg, (hR1.2.2.1.1.o hg og').1, i10, bg, ekg, sv, bI_f, d3, w1, c1, Option.bind_some, ↓reduceIte]
      · rw [g9]
        simp only [q_X9_grade_208, q_X9_grade_254, q_X9_grade_259, bk, ek, E49, eg, ng, bg, ekg, e54, u2, fv, bI_f, e3, w2, c2, Option.bind_some, ↓reduceIte]
