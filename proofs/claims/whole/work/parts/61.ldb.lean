/-! load: an entry in both *** by hand -/
def AF8 (d d' : sk_D) : Prop := ∀ s k f, ¬ (s = 35 ∧ (f = 2 ∨ 4 ≤ f)) → d'.1 s k f = d.1 s k f
def AF9 (e e' : sk_D) : Prop := ∀ s k f, ¬ (s = 44 ∧ 56 ≤ f) → e'.1 s k f = e.1 s k f
theorem AF8.rf (d : sk_D) : AF8 d d := fun _ _ _ _ => rfl
theorem AF9.rf (d : sk_D) : AF9 d d := fun _ _ _ _ => rfl
theorem AF8.tr {a b c : sk_D} (h : AF8 a b) (g : AF8 b c) : AF8 a c := fun s k f hs => (g s k f hs).trans (h s k f hs)
theorem AF9.tr {a b c : sk_D} (h : AF9 a b) (g : AF9 b c) : AF9 a c := fun s k f hs => (g s k f hs).trans (h s k f hs)
theorem AF8.wi {a b : sk_D} (h : AF8 a b) (f : Nat) (v : Int32) (hf : f = 2 ∨ 4 ≤ f) : AF8 a (sk_wi b 35 0 f v) := fun s k f' hs => (wi_o (by omega)).trans (h s k f' hs)
theorem AF9.wi {a b : sk_D} (h : AF9 a b) (f : Nat) (v : Int32) (hf : 56 ≤ f) : AF9 a (sk_wi b 44 0 f v) := fun s k f' hs => (wi_o (by omega)).trans (h s k f' hs)
theorem AF8.of {x : Nat} {a b : sk_D} (h : RF8 x a b) (hx : x = 2 ∨ 4 ≤ x) : AF8 a b := fun s k f hs => h s k f (by omega)
theorem AF9.of {x : Nat} {a b : sk_D} (h : RF9 x a b) (hx : 56 ≤ x) : AF9 a b := fun s k f hs => h s k f (by omega)
theorem PT.w8 {n : Nat} {c : Nat → Nat} {a : Nat} {d e : sk_D} (h : PT n c a d e) (f : Nat) (v : Int32) (hf : f ≠ 1 ∧ f ≠ 2) : PT n c a (sk_wi d 35 0 f v) e := h.mk8 (fun _ => wi_o (by omega)) (wi_o (by omega)) (fun _ => rfl) rfl h.2.1 ((wi_o (by omega)).trans h.2.2.2.2.1) h.2.2.2.2.2.1
theorem PT.w9 {n : Nat} {c : Nat → Nat} {a : Nat} {d e : sk_D} (h : PT n c a d e) (f : Nat) (v : Int32) (hf : f ≠ 36 ∧ f ≠ 56) : PT n c a d (sk_wi e 44 0 f v) := h.mk8 (fun _ => rfl) rfl (fun _ => wi_o (by omega)) (wi_o (by omega)) h.2.1 h.2.2.2.2.1 ((wi_o (by omega)).trans h.2.2.2.2.2.1)
theorem dg2 {n : Nat} {c : Nat → Nat} {a : Nat} {d e : sk_D} (h : PT n c a d e) :
    (∃ v, v ≤ 9 ∧ a < n ∧ q_X5_readDigit d 0 9 = some (nI v, sk_wi d 35 0 2 (nI (a + 1))) ∧ q_X9_next e = some (nI (48 + v)) ∧ q_X9_within e (nI (48 + v)) 48 57 = some 1) ∨ (∃ x, q_X5_readDigit d 0 9 = some (-48, d) ∧ q_X9_next e = some x ∧ q_X9_within e x 48 57 = some 0) := by
  have e48 (x : Nat) : (48 : Int32) + nI x = nI (48 + x) := nI_add 48 x
  have e480 : (48 : Int32) + 0 = nI 48 := by decide
  have e489 : (48 : Int32) + 9 = nI 57 := by decide
  rcases rs8 h 48 57 (by omega) (by omega) with ⟨ha, h1, h2, hr⟩ | ⟨hn, hr⟩
  · left
    obtain ⟨v, hv⟩ : ∃ v, c a = 48 + v := ⟨c a - 48, by omega⟩
    rcases nx9 h with ⟨_, hn9⟩ | ⟨q, _⟩
    · rw [hv] at hr hn9
      have sv : nI (48 + v) - (48 : Int32) = nI v := by
        rw [show (48 : Int32) = nI 48 from rfl, pk_sub (by omega), show 48 + v - 48 = v by omega]
      refine ⟨v, by omega, ha, ?_, hn9, ?_⟩
      · simp only [q_X5_readDigit, q_X5_readDigit_0, e480, e489, hr, sv, Option.bind_some]
      · exact (wi_in (48 + v) (a := nI (48 + v)) (lo := 48) (hi := 57) 48 57 rfl rfl rfl (by omega) (by omega) (by omega)).2 e
    · exact absurd ha q
  · right
    have z48 : (0 : Int32) - 48 = -48 := by decide
    have r8 : q_X5_readDigit d 0 9 = some (-48, d) := by
      simp only [q_X5_readDigit, q_X5_readDigit_0, e480, e489, hr, z48, Option.bind_some]
    rcases nx9 h with ⟨ha, hn9⟩ | ⟨q, hn9⟩
    · refine ⟨nI (c a), r8, hn9, ?_⟩
      rcases wi_cases (nI (c a)) 48 57 48 57 rfl rfl (by omega) with ⟨_, q⟩ | ⟨k, hk1, hk2, ek, _⟩
      · exact q _
      · exfalso
        have hc := h.2.2.2.2.2.2 a ha
        rw [nI_eq (by omega) (by omega)] at ek
        omega
    · refine ⟨-1, r8, hn9, ?_⟩
      rcases wi_cases (-1) 48 57 48 57 rfl rfl (by omega) with ⟨_, q2⟩ | ⟨k, hk1, hk2, ek, _⟩
      · exact q2 _
      · exact absurd ek.symm (nm1_nI (by omega))
/-- the wage -/
theorem wage {n : Nat} {c : Nat → Nat} {a : Nat} {d e : sk_D} (h : PT n c a d e) :
    ∃ a' d' e', a ≤ a' ∧ PT n c a' d' e' ∧ RF8 11 d d' ∧ RF9 60 e e' ∧ ((q_X5_readWage d = some (0, d') ∧ q_X9_readsWage e = some (0, e')) ∨ (q_X5_readWage d = some (1, d') ∧ q_X9_readsWage e = some (1, e') ∧ ∃ w, 1 ≤ w ∧ w ≤ 999999 ∧ d'.1 35 0 11 = nI w ∧ e'.1 44 0 60 = nI w)) := by
  rcases dgi h 1 9 (by omega) with ⟨v, e1, hv1, hv2, ha, hP, r8, r9, e60, f9⟩ | ⟨e1, hP, r8, r9, f9⟩
  · have r8' : q_X5_readDigit d 1 9 = some (nI v, sk_wi d 35 0 2 (nI (a + 1))) := r8
    have r9' : q_X9_readsDigit e 1 9 = some (1, e1) := r9
    have p0 : (0 : Int32) ≤ nI v := nI_pos' (by omega)
    have key := it_pr0 (F := fun rec a => q_X5_readWage_22 rec a.1 a.2) (F' := fun rec a => q_X9_readsWage_19 rec a.1 a.2.1 a.2.2) (fun x => some ((1 : Int32), x)) (fun (x : Nat × sk_D) => q_X9_readsWage_67 x.2 (nI x.1))
      (fun j x x' => ∃ w a' d' e', j ≤ 5 ∧ x = (d', nI (j + 1)) ∧ x' = (e', nI w, nI j) ∧ 1 ≤ w ∧ w < 10 ^ (j + 1) ∧ a ≤ a' ∧ PT n c a' d' e' ∧ d'.1 35 0 11 = nI w ∧ RF8 11 d d' ∧ RF9 60 e e')
      (fun x x' => ∃ a', 1 ≤ x'.1 ∧ x'.1 ≤ 999999 ∧ a ≤ a' ∧ PT n c a' x x'.2 ∧ x.1 35 0 11 = nI x'.1 ∧ RF8 11 d x ∧ RF9 60 e x'.2) 5 (by
        rintro j x x' ⟨w, a', d', e', hj, rfl, rfl, hw1, hw, haa, hP, h11, h8, h9⟩
        have hw6 : w ≤ 999999 := by
          have : 10 ^ (j + 1) ≤ 10 ^ 6 := Nat.pow_le_pow_right (by omega) (by omega)
          have e6 : (10 : Nat) ^ 6 = 1000000 := by decide
          omega
        by_cases c5 : j = 5
        · subst c5
          left
          have l : (6 : Int32) ≤ nI (5 + 1) := ge_nI (n := 6) rfl (by omega) (by omega)
          have l5 : (5 : Int32) ≤ nI 5 := ge_nI (n := 5) rfl (by omega) (by omega)
          refine ⟨d', (w, e'), ⟨a', hw1, hw6, haa, hP, h11, h8, h9⟩, fun rec => ?_, fun rec => ?_⟩
          · show q_X5_readWage_22 rec d' (nI (5 + 1)) = _
            simp only [q_X5_readWage_22, l, ↓reduceIte]
          · show q_X9_readsWage_19 rec e' (nI w) (nI 5) = _
            simp only [q_X9_readsWage_19, l5, ↓reduceIte]
        · have l : ¬ (6 : Int32) ≤ nI (j + 1) := le_nI (n := 6) rfl (by omega) (by omega)
          have l5 : ¬ (5 : Int32) ≤ nI j := le_nI (n := 5) rfl (by omega) (by omega)
          rcases dg2 hP with ⟨u, hu, ha', s8, s9, w9⟩ | ⟨y, s8, s9, w9⟩
          · right
            refine ⟨by omega, ?_⟩
            have p1 : (0 : Int32) ≤ nI u := nI_pos' (by omega)
            have o11 : (sk_wi d' 35 0 2 (nI (a' + 1))).1 35 0 11 = nI w := (wi_o (by omega)).trans h11
            have s1 : (10 : Int32) * nI w + nI u = nI (10 * w + u) := by
              rw [show (10 : Int32) = nI 10 from rfl, pk_mul, nI_add]
            have s2 : (10 : Int32) * nI w + nI (48 + u) - 48 = nI (10 * w + u) := by
              rw [show (10 : Int32) = nI 10 from rfl, pk_mul, nI_add, show (48 : Int32) = nI 48 from rfl, pk_sub (by omega), show 10 * w + (48 + u) - 48 = 10 * w + u by omega]
            refine ⟨(sk_wi (sk_wi d' 35 0 2 (nI (a' + 1))) 35 0 11 (nI (10 * w + u)), nI (j + 1 + 1)), (sk_wi e' 44 0 56 (nI (a' + 1)), nI (10 * w + u), nI (j + 1)), ⟨10 * w + u, a' + 1, _, _, by omega, rfl, rfl, by omega, ?_, by omega, ?_, wi_e, ?_, ?_⟩, fun rec => ?_, fun rec => ?_⟩
            · have : (10 : Nat) ^ (j + 1 + 1) = 10 ^ (j + 1) * 10 := Nat.pow_succ 10 (j + 1)
              omega
            · exact hP.mk8 (fun f => (wi_o (by omega)).trans (wi_o (by omega))) ((wi_o (by omega)).trans (wi_o (by omega))) (fun f => wi_o (by omega)) (wi_o (by omega)) (by omega) ((wi_o (by omega)).trans wi_e) wi_e
            · exact h8.tr (fun s k f hs => (wi_o (by omega)).trans (wi_o (by omega)))
            · exact h9.tr (fun s k f hs => wi_o (by omega))
            · show q_X5_readWage_22 rec d' (nI (j + 1)) = _
              simp only [q_X5_readWage_22, l, s8, p1, o11, s1, s1_nI, Option.bind_some, ↓reduceIte]
            · show q_X9_readsWage_19 rec e' (nI w) (nI j) = _
              simp only [q_X9_readsWage_19, l5, s9, w9, i10, s2, hP.2.2.2.2.2.1, s1_nI, Option.bind_some, ↓reduceIte]
          · left
            have p1 : ¬ (0 : Int32) ≤ -48 := by decide
            refine ⟨d', (w, e'), ⟨a', hw1, hw6, haa, hP, h11, h8, h9⟩, fun rec => ?_, fun rec => ?_⟩
            · show q_X5_readWage_22 rec d' (nI (j + 1)) = _
              simp only [q_X5_readWage_22, l, s8, p1, Option.bind_some, ↓reduceIte]
            · show q_X9_readsWage_19 rec e' (nI w) (nI j) = _
              simp only [q_X9_readsWage_19, l5, s9, w9, Option.bind_some, ↓reduceIte]) (by omega) (sk_wi (sk_wi d 35 0 2 (nI (a + 1))) 35 0 11 (nI v), (1 : Int32)) (e1, nI v, (0 : Int32))
      ⟨v, a + 1, _, _, by omega, rfl, rfl, by omega, by show v < 10 ^ 1; omega, by omega, hP.w8 11 (nI v) (by omega), wi_e, fun s k f hs => (wi_o (by omega)).trans (wi_o (by omega)), f9⟩
    obtain ⟨x, x', ⟨a', hw1, hw6, haa, hP', h11, h8, h9⟩, k8, k9⟩ := key
    refine ⟨a', x, sk_wi x'.2 44 0 60 (nI x'.1), haa, hP'.w9 60 _ (by omega), h8, h9.tr (fun s k f hs => wi_o (by omega)), .inr ⟨?_, ?_, x'.1, hw1, hw6, h11, wi_e⟩⟩
    · have o11 : (sk_wi (sk_wi d 35 0 2 (nI (a + 1))) 35 0 11 (nI v)).1 35 0 11 = nI v := wi_e
      unfold q_X5_readWage q_X5_readWage_0
      rw [r8', Option.bind_some]
      unfold q_X5_readWage_12
      rw [o11, if_pos p0]
      exact k8
    · unfold q_X9_readsWage q_X9_readsWage_0
      rw [r9', Option.bind_some, if_neg ne10, e60]
      exact k9
  · have r8' : q_X5_readDigit d 1 9 = some (-48, d) := r8
    have r9' : q_X9_readsDigit e 1 9 = some (0, e1) := r9
    have p0 : ¬ (0 : Int32) ≤ -48 := by decide
    refine ⟨a, sk_wi d 35 0 11 (-48), e1, by omega, hP.w8 11 _ (by omega), fun s k f hs => wi_o (by omega), f9, .inl ⟨?_, ?_⟩⟩
    · have o11 : (sk_wi d 35 0 11 (-48)).1 35 0 11 = -48 := wi_e
      simp only [q_X5_readWage, q_X5_readWage_0, q_X5_readWage_12, r8', o11, p0, Option.bind_some, ↓reduceIte]
    · simp only [q_X9_readsWage, q_X9_readsWage_0, r9', Option.bind_some, ↓reduceIte]
theorem n48 : ((-48 : Int32) < 0) = True := eq_true (by decide)
theorem p48 : ((0 : Int32) ≤ -48) = False := eq_false (by decide)
theorem f0 {α : Type} (x y : α) : (if (if (0 : Nat) = 0 then (0 : Int32) else 1) = 0 then x else y) = x := rfl
/-- a pupil's entry behind its letter -/
theorem rdP {n : Nat} {c : Nat → Nat} {a : Nat} {d e : sk_D} (h : PT n c a d e) :
    ∃ a' d' e', a ≤ a' ∧ PT n c a' d' e' ∧ AF8 d d' ∧ AF9 e e' ∧ ((q_X5_readPupil d = some (0, d') ∧ q_X9_readsPupil e = some (0, e')) ∨ (q_X5_readPupil d = some (1, d') ∧ q_X9_readsPupil e = some (1, e') ∧ ∃ lv m fm, lv < 8 ∧ 1 ≤ m ∧ m < 64 ∧ (fm = -9 ∨ ∃ f, f < 8 ∧ fm = nI f) ∧ d'.1 35 0 4 = nI lv ∧ d'.1 35 0 5 = nI m ∧ d'.1 35 0 6 = fm ∧ e'.1 44 0 58 = nI lv ∧ e'.1 44 0 57 = nI m ∧ e'.1 44 0 59 = fm)) := by
  rcases dgi h 0 7 (by omega) with ⟨lv, e1, _, hlv, ha, hP, r8, r9, e60, f9⟩ | ⟨e1, hP, r8, r9, f9⟩
  · have r8' : q_X5_readDigit d 0 7 = some (nI lv, sk_wi d 35 0 2 (nI (a + 1))) := r8
    have r9' : q_X9_readsDigit e 0 7 = some (1, e1) := r9
    obtain ⟨D1, hD1⟩ : ∃ D1, sk_wi (sk_wi d 35 0 2 (nI (a + 1))) 35 0 4 (nI lv) = D1 := ⟨_, rfl⟩
    obtain ⟨E1, hE1⟩ : ∃ E1, sk_wi e1 44 0 58 (nI lv) = E1 := ⟨_, rfl⟩
    have hP1 : PT n c (a + 1) D1 E1 := by
      rw [← hD1, ← hE1]
      exact (hP.w8 4 _ (by omega)).w9 58 _ (by omega)
    have A1 : AF8 d D1 := by
      rw [← hD1]
      exact ((AF8.rf d).wi 2 _ (by omega)).wi 4 _ (by omega)
    have B1 : AF9 e E1 := by
      rw [← hE1]
      exact (AF9.of f9 (by omega)).wi 58 _ (by omega)
    have d4 : D1.1 35 0 4 = nI lv := by rw [← hD1]; exact wi_e
    have e58 : E1.1 44 0 58 = nI lv := by rw [← hE1]; exact wi_e
    have np : ¬ nI lv < (0 : Int32) := nI_pos (by omega)
    have s8 : q_X5_readPupil d = q_X5_readPupil_12 D1 := by
      simp only [q_X5_readPupil, q_X5_readPupil_0, r8', hD1, Option.bind_some]
    have s9 : q_X9_readsPupil e = q_X9_readsPupil_21 E1 := by
      simp only [q_X9_readsPupil, q_X9_readsPupil_0, r9', i10, e60, hE1, Option.bind_some, ↓reduceIte]
    obtain ⟨m, a2, D2, E2, haa, hP2, hm, d5, e57, g8, g9, l8, l9⟩ := lngs hP1
    have d4' : D2.1 35 0 4 = nI lv := (g8 35 0 4 (by omega)).trans d4
    have e58' : E2.1 44 0 58 = nI lv := (g9 44 0 58 (by omega)).trans e58
    by_cases hm0 : m = 0
    · refine ⟨a2, D2, E2, by omega, hP2, A1.tr (AF8.of g8 (by omega)), B1.tr (AF9.of g9 (by omega)), .inl ⟨?_, ?_⟩⟩
      · rw [s8]
        simp only [q_X5_readPupil_12, d4, np, l8, hm0, Option.bind_some, ↓reduceIte]
      · rw [s9]
        simp only [q_X9_readsPupil_21, l9, hm0, Option.bind_some, ↓reduceIte]
    · obtain ⟨D3, hD3⟩ : ∃ D3, sk_wi D2 35 0 6 (-9) = D3 := ⟨_, rfl⟩
      obtain ⟨E3, hE3⟩ : ∃ E3, sk_wi E2 44 0 59 (-9) = E3 := ⟨_, rfl⟩
      have hP3 : PT n c a2 D3 E3 := by
        rw [← hD3, ← hE3]
        exact (hP2.w8 6 _ (by omega)).w9 59 _ (by omega)
      have A3 : AF8 d D3 := by
        rw [← hD3]
        exact (A1.tr (AF8.of g8 (by omega))).wi 6 _ (by omega)
      have B3 : AF9 e E3 := by
        rw [← hE3]
        exact (B1.tr (AF9.of g9 (by omega))).wi 59 _ (by omega)
      have t8 : q_X5_readPupil d = q_X5_readPupil_36 D3 := by
        rw [s8]
        simp only [q_X5_readPupil_12, d4, np, l8, hm0, i10, hD3, Option.bind_some, ↓reduceIte]
      have t9 : q_X9_readsPupil e = q_X9_readsPupil_38 E3 := by
        rw [s9]
        simp only [q_X9_readsPupil_21, l9, hm0, i10, hE3, Option.bind_some, ↓reduceIte]
      have v8 : D3.1 35 0 4 = nI lv ∧ D3.1 35 0 5 = nI m ∧ D3.1 35 0 6 = -9 := by
        rw [← hD3]
        exact ⟨(wi_o (by omega)).trans d4', (wi_o (by omega)).trans d5, wi_e⟩
      have v9 : E3.1 44 0 58 = nI lv ∧ E3.1 44 0 57 = nI m ∧ E3.1 44 0 59 = -9 := by
        rw [← hE3]
        exact ⟨(wi_o (by omega)).trans e58', (wi_o (by omega)).trans e57, wi_e⟩
      -- the semicolon
      have semi : ∀ a4 D4 E4 fm, a ≤ a4 → PT n c a4 D4 E4 → AF8 d D4 → AF9 e E4 → (fm = -9 ∨ ∃ f, f < 8 ∧ fm = nI f) → D4.1 35 0 4 = nI lv ∧ D4.1 35 0 5 = nI m ∧ D4.1 35 0 6 = fm → E4.1 44 0 58 = nI lv ∧ E4.1 44 0 57 = nI m ∧ E4.1 44 0 59 = fm → q_X5_readPupil d = q_X5_readPupil_62 D4 → q_X9_readsPupil e = q_X9_readsPupil_64 E4 →
          ∃ a' d' e', a ≤ a' ∧ PT n c a' d' e' ∧ AF8 d d' ∧ AF9 e e' ∧ ((q_X5_readPupil d = some (0, d') ∧ q_X9_readsPupil e = some (0, e')) ∨ (q_X5_readPupil d = some (1, d') ∧ q_X9_readsPupil e = some (1, e') ∧ ∃ lv m fm, lv < 8 ∧ 1 ≤ m ∧ m < 64 ∧ (fm = -9 ∨ ∃ f, f < 8 ∧ fm = nI f) ∧ d'.1 35 0 4 = nI lv ∧ d'.1 35 0 5 = nI m ∧ d'.1 35 0 6 = fm ∧ e'.1 44 0 58 = nI lv ∧ e'.1 44 0 57 = nI m ∧ e'.1 44 0 59 = fm)) := by
        intro a4 D4 E4 fm h1 h2 h3 h4 h5 h6 h7 q8 q9
        rcases skp h2 59 (by omega) with ⟨ha4, hP4, k8, k9⟩ | ⟨k8, k9⟩
        · have k8' : q_X5_skip D4 59 = some (1, sk_wi D4 35 0 2 (nI (a4 + 1))) := k8
          have k9' : q_X9_takes E4 59 = some (1, sk_wi E4 44 0 56 (nI (a4 + 1))) := k9
          refine ⟨a4 + 1, _, _, by omega, hP4, h3.wi 2 _ (by omega), h4.wi 56 _ (by omega), .inr ⟨?_, ?_, lv, m, fm, by omega, by omega, hm, h5, ?_⟩⟩
          · rw [q8]
            simp only [q_X5_readPupil_62, k8', nb1, Option.bind_some, ↓reduceIte]
          · rw [q9]
            simp only [q_X9_readsPupil_64, k9', nb1, Option.bind_some, ↓reduceIte]
          · rw [wi_o (by omega), wi_o (by omega), wi_o (by omega), wi_o (by omega), wi_o (by omega), wi_o (by omega)]
            exact ⟨h6.1, h6.2.1, h6.2.2, h7.1, h7.2.1, h7.2.2⟩
        · have k8' : q_X5_skip D4 59 = some (0, D4) := k8
          have k9' : q_X9_takes E4 59 = some (0, E4) := k9
          refine ⟨a4, D4, E4, h1, h2, h3, h4, .inl ⟨?_, ?_⟩⟩
          · rw [q8]
            simp only [q_X5_readPupil_62, k8', nb0, Option.bind_some, ↓reduceIte]
          · rw [q9]
            simp only [q_X9_readsPupil_64, k9', nb0, Option.bind_some, ↓reduceIte]
      rcases skp hP3 47 (by omega) with ⟨ha3, hP4, k8, k9⟩ | ⟨k8, k9⟩
      · have k8' : q_X5_skip D3 47 = some (1, sk_wi D3 35 0 2 (nI (a2 + 1))) := k8
        have k9' : q_X9_takes E3 47 = some (1, sk_wi E3 44 0 56 (nI (a2 + 1))) := k9
        obtain ⟨D4, hD4⟩ : ∃ D4, sk_wi D3 35 0 2 (nI (a2 + 1)) = D4 := ⟨_, rfl⟩
        obtain ⟨E4, hE4⟩ : ∃ E4, sk_wi E3 44 0 56 (nI (a2 + 1)) = E4 := ⟨_, rfl⟩
        rw [hD4] at k8' hP4
        rw [hE4] at k9' hP4
        have A4 : AF8 d D4 := by rw [← hD4]; exact A3.wi 2 _ (by omega)
        have B4 : AF9 e E4 := by rw [← hE4]; exact B3.wi 56 _ (by omega)
        have w8 : D4.1 35 0 4 = nI lv ∧ D4.1 35 0 5 = nI m := by
          rw [← hD4]
          exact ⟨(wi_o (by omega)).trans v8.1, (wi_o (by omega)).trans v8.2.1⟩
        have w9 : E4.1 44 0 58 = nI lv ∧ E4.1 44 0 57 = nI m := by
          rw [← hE4]
          exact ⟨(wi_o (by omega)).trans v9.1, (wi_o (by omega)).trans v9.2.1⟩
        rcases dgi hP4 0 7 (by omega) with ⟨fv, e5, _, hfv, ha5, hP5, x8, x9, y60, z9⟩ | ⟨e5, hP5, x8, x9, z9⟩
        · have x8' : q_X5_readDigit D4 0 7 = some (nI fv, sk_wi D4 35 0 2 (nI (a2 + 1 + 1))) := x8
          have x9' : q_X9_readsDigit E4 0 7 = some (1, e5) := x9
          have pf : (0 : Int32) ≤ nI fv := nI_pos' (by omega)
          refine semi (a2 + 1 + 1) (sk_wi (sk_wi D4 35 0 2 (nI (a2 + 1 + 1))) 35 0 6 (nI fv)) (sk_wi e5 44 0 59 (nI fv)) (nI fv) (by omega) ((hP5.w8 6 _ (by omega)).w9 59 _ (by omega)) ((A4.wi 2 _ (by omega)).wi 6 _ (by omega)) ((B4.tr (AF9.of z9 (by omega))).wi 59 _ (by omega)) (.inr ⟨fv, by omega, rfl⟩) ⟨?_, ?_, wi_e⟩ ⟨?_, ?_, wi_e⟩ ?_ ?_
          · rw [wi_o (by omega), wi_o (by omega)]
            exact w8.1
          · rw [wi_o (by omega), wi_o (by omega)]
            exact w8.2
          · rw [wi_o (by omega), z9 44 0 58 (by omega)]
            exact w9.1
          · rw [wi_o (by omega), z9 44 0 57 (by omega)]
            exact w9.2
          · rw [t8]
            have o6 : (sk_wi (sk_wi D4 35 0 2 (nI (a2 + 1 + 1))) 35 0 6 (nI fv)).1 35 0 6 = nI fv := wi_e
            simp only [q_X5_readPupil_36, q_X5_readPupil_54, k8', i10, x8', o6, pf, Option.bind_some, ↓reduceIte]
          · rw [t9]
            simp only [q_X9_readsPupil_38, k9', i10, x9', y60, Option.bind_some, ↓reduceIte]
        · have x8' : q_X5_readDigit D4 0 7 = some (-48, D4) := x8
          have x9' : q_X9_readsDigit E4 0 7 = some (0, e5) := x9
          refine ⟨a2 + 1, sk_wi D4 35 0 6 (-48), e5, by omega, hP5.w8 6 _ (by omega), A4.wi 6 _ (by omega), B4.tr (AF9.of z9 (by omega)), .inl ⟨?_, ?_⟩⟩
          · rw [t8]
            have o6 : (sk_wi D4 35 0 6 (-48)).1 35 0 6 = -48 := wi_e
            simp only [q_X5_readPupil_36, q_X5_readPupil_54, k8', i10, x8', o6, p48, Option.bind_some, ↓reduceIte]
          · rw [t9]
            simp only [q_X9_readsPupil_38, k9', i10, x9', Option.bind_some, ↓reduceIte]
      · have k8' : q_X5_skip D3 47 = some (0, D3) := k8
        have k9' : q_X9_takes E3 47 = some (0, E3) := k9
        refine semi a2 D3 E3 (-9) (by omega) hP3 A3 B3 (.inl rfl) v8 v9 ?_ ?_
        · rw [t8]
          simp only [q_X5_readPupil_36, k8', Option.bind_some, ↓reduceIte]
        · rw [t9]
          simp only [q_X9_readsPupil_38, k9', Option.bind_some, ↓reduceIte]
  · have r8' : q_X5_readDigit d 0 7 = some (-48, d) := r8
    have r9' : q_X9_readsDigit e 0 7 = some (0, e1) := r9
    refine ⟨a, sk_wi d 35 0 4 (-48), e1, by omega, hP.w8 4 _ (by omega), (AF8.rf d).wi 4 _ (by omega), AF9.of f9 (by omega), .inl ⟨?_, ?_⟩⟩
    · have o4 : (sk_wi d 35 0 4 (-48)).1 35 0 4 = -48 := wi_e
      simp only [q_X5_readPupil, q_X5_readPupil_0, q_X5_readPupil_12, r8', o4, n48, Option.bind_some, ↓reduceIte]
    · simp only [q_X9_readsPupil, q_X9_readsPupil_0, r9', Option.bind_some, ↓reduceIte]
