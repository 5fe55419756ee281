/-! load: groups' and instructors' entries, the entry *** by hand -/
theorem rdG {n : Nat} {c : Nat → Nat} {a : Nat} {d e : sk_D} (h : PT n c a d e) :
    ∃ a' d' e', a ≤ a' ∧ PT n c a' d' e' ∧ AF8 d d' ∧ AF9 e e' ∧ ((q_X5_readGroup d = some (0, d') ∧ q_X9_readsGroup e = some (0, e')) ∨ (q_X5_readGroup d = some (1, d') ∧ q_X9_readsGroup e = some (1, e') ∧ ∃ lv la cp, lv < 8 ∧ la < 6 ∧ 1 ≤ cp ∧ cp ≤ 6 ∧ d'.1 35 0 4 = nI lv ∧ d'.1 35 0 7 = nI la ∧ d'.1 35 0 8 = nI cp ∧ e'.1 44 0 58 = nI lv ∧ e'.1 44 0 59 = nI la ∧ e'.1 44 0 60 = nI cp)) := by
  rcases dgi h 0 7 (by omega) with ⟨lv, e1, _, hlv, ha, hP, r8, r9, e60, f9⟩ | ⟨e1, hP, r8, r9, f9⟩
  · have r8' : q_X5_readDigit d 0 7 = some (nI lv, sk_wi d 35 0 2 (nI (a + 1))) := r8
    have r9' : q_X9_readsDigit e 0 7 = some (1, e1) := r9
    obtain ⟨D1, hD1⟩ : ∃ D1, sk_wi (sk_wi d 35 0 2 (nI (a + 1))) 35 0 4 (nI lv) = D1 := ⟨_, rfl⟩
    obtain ⟨E1, hE1⟩ : ∃ E1, sk_wi e1 44 0 58 (nI lv) = E1 := ⟨_, rfl⟩
    have hP1 : PT n c (a + 1) D1 E1 := by
      rw [← hD1, ← hE1]
      exact (hP.w8 4 _ (by omega)).w9 58 _ (by omega)
    have A1 : AF8 d D1 := by
      rw [← hD1]
      exact ((AF8.rf d).wi 2 _ (by omega)).wi 4 _ (by omega)
    have B1 : AF9 e E1 := by
      rw [← hE1]
      exact (AF9.of f9 (by omega)).wi 58 _ (by omega)
    have d4 : D1.1 35 0 4 = nI lv := by rw [← hD1]; exact wi_e
    have e58 : E1.1 44 0 58 = nI lv := by rw [← hE1]; exact wi_e
    have np : (0 : Int32) ≤ nI lv := nI_pos' (by omega)
    have s8 : q_X5_readGroup d = q_X5_readGroup_12 D1 := by
      simp only [q_X5_readGroup, q_X5_readGroup_0, r8', hD1, Option.bind_some]
    have s9 : q_X9_readsGroup e = q_X9_readsGroup_21 E1 := by
      simp only [q_X9_readsGroup, q_X9_readsGroup_0, r9', i10, e60, hE1, Option.bind_some, ↓reduceIte]
    rcases lng hP1 0 (by omega) with ⟨v, _, hv2, ha1, hc, l8, l9, w9⟩ | ⟨y, l8, l9, w9⟩
    · have l8' : q_X5_readLanguage D1 0 = some (nI v, sk_wi D1 35 0 2 (nI (a + 1 + 1))) := l8
      have w9' : q_X9_within E1 (nI (97 + v)) 97 102 = some 1 := w9
      have sv : nI (97 + v) - (97 : Int32) = nI v := by
        rw [show (97 : Int32) = nI 97 from rfl, pk_sub (by omega), show 97 + v - 97 = v by omega]
      obtain ⟨D2, hD2⟩ : ∃ D2, sk_wi (sk_wi D1 35 0 2 (nI (a + 1 + 1))) 35 0 7 (nI v) = D2 := ⟨_, rfl⟩
      obtain ⟨E2, hE2⟩ : ∃ E2, sk_wi (sk_wi E1 44 0 59 (nI v)) 44 0 56 (nI (a + 1 + 1)) = E2 := ⟨_, rfl⟩
      have hP2 : PT n c (a + 1 + 1) D2 E2 := by
        rw [← hD2, ← hE2]
        exact hP1.mk8 (fun f => (wi_o (by omega)).trans (wi_o (by omega))) ((wi_o (by omega)).trans (wi_o (by omega))) (fun f => (wi_o (by omega)).trans (wi_o (by omega))) ((wi_o (by omega)).trans (wi_o (by omega))) (by omega) ((wi_o (by omega)).trans wi_e) wi_e
      have A2 : AF8 d D2 := by
        rw [← hD2]
        exact (A1.wi 2 _ (by omega)).wi 7 _ (by omega)
      have B2 : AF9 e E2 := by
        rw [← hE2]
        exact (B1.wi 59 _ (by omega)).wi 56 _ (by omega)
      have d7 : D2.1 35 0 4 = nI lv ∧ D2.1 35 0 7 = nI v := by
        rw [← hD2]
        exact ⟨(wi_o (by omega)).trans ((wi_o (by omega)).trans d4), wi_e⟩
      have e59 : E2.1 44 0 58 = nI lv ∧ E2.1 44 0 59 = nI v := by
        rw [← hE2]
        exact ⟨(wi_o (by omega)).trans ((wi_o (by omega)).trans e58), (wi_o (by omega)).trans wi_e⟩
      have o56 : (sk_wi E1 44 0 59 (nI v)).1 44 0 56 = nI (a + 1) := (wi_o (by omega)).trans hP1.2.2.2.2.2.1
      have pv : (0 : Int32) ≤ nI v := nI_pos' (by omega)
      have t8 : q_X5_readGroup d = q_X5_readGroup_30 D2 := by
        rw [s8]
        simp only [q_X5_readGroup_12, d4, np, l8', hD2, Option.bind_some, ↓reduceIte]
      have t9 : q_X9_readsGroup e = q_X9_readsGroup_61 E2 := by
        rw [s9]
        simp only [q_X9_readsGroup_21, q_X9_readsGroup_49, l9, w9', i10, sv, o56, s1_nI, hE2, Option.bind_some, ↓reduceIte]
      rcases dgi hP2 1 6 (by omega) with ⟨cp, e3, hc1, hc2, ha3, hP3, x8, x9, y60, z9⟩ | ⟨e3, hP3, x8, x9, z9⟩
      · have x8' : q_X5_readDigit D2 1 6 = some (nI cp, sk_wi D2 35 0 2 (nI (a + 1 + 1 + 1))) := x8
        have x9' : q_X9_readsDigit E2 1 6 = some (1, e3) := x9
        have np8 : ¬ nI cp ≤ (0 : Int32) := nI_nle (by omega) (by omega)
        obtain ⟨D3, hD3⟩ : ∃ D3, sk_wi (sk_wi D2 35 0 2 (nI (a + 1 + 1 + 1))) 35 0 8 (nI cp) = D3 := ⟨_, rfl⟩
        have hP3' : PT n c (a + 1 + 1 + 1) D3 e3 := by
          rw [← hD3]
          exact hP3.w8 8 _ (by omega)
        have A3 : AF8 d D3 := by
          rw [← hD3]
          exact (A2.wi 2 _ (by omega)).wi 8 _ (by omega)
        have B3 : AF9 e e3 := B2.tr (AF9.of z9 (by omega))
        have d8 : D3.1 35 0 4 = nI lv ∧ D3.1 35 0 7 = nI v ∧ D3.1 35 0 8 = nI cp := by
          rw [← hD3]
          exact ⟨(wi_o (by omega)).trans ((wi_o (by omega)).trans d7.1), (wi_o (by omega)).trans ((wi_o (by omega)).trans d7.2), wi_e⟩
        have v9 : e3.1 44 0 58 = nI lv ∧ e3.1 44 0 59 = nI v := ⟨(z9 44 0 58 (by omega)).trans e59.1, (z9 44 0 59 (by omega)).trans e59.2⟩
        rcases skp hP3' 59 (by omega) with ⟨ha4, hP4, k8, k9⟩ | ⟨k8, k9⟩
        · have k8' : q_X5_skip D3 59 = some (1, sk_wi D3 35 0 2 (nI (a + 1 + 1 + 1 + 1))) := k8
          have k9' : q_X9_takes e3 59 = some (1, sk_wi e3 44 0 56 (nI (a + 1 + 1 + 1 + 1))) := k9
          refine ⟨a + 1 + 1 + 1 + 1, _, _, by omega, hP4, A3.wi 2 _ (by omega), B3.wi 56 _ (by omega), .inr ⟨?_, ?_, lv, v, cp, by omega, by omega, hc1, hc2, ?_⟩⟩
          · rw [t8]
            simp only [q_X5_readGroup_30, q_X5_readGroup_50, d7.2, pv, x8', hD3, d8.2.2, np8, k8', i10, Option.bind_some, ↓reduceIte]
          · rw [t9]
            simp only [q_X9_readsGroup_61, x9', i10, k9', Option.bind_some, ↓reduceIte]
          · rw [wi_o (by omega), wi_o (by omega), wi_o (by omega), wi_o (by omega), wi_o (by omega), wi_o (by omega)]
            exact ⟨d8.1, d8.2.1, d8.2.2, v9.1, v9.2, y60⟩
        · have k8' : q_X5_skip D3 59 = some (0, D3) := k8
          have k9' : q_X9_takes e3 59 = some (0, e3) := k9
          refine ⟨a + 1 + 1 + 1, D3, e3, by omega, hP3', A3, B3, .inl ⟨?_, ?_⟩⟩
          · rw [t8]
            simp only [q_X5_readGroup_30, q_X5_readGroup_50, d7.2, pv, x8', hD3, d8.2.2, np8, k8', Option.bind_some, ↓reduceIte]
          · rw [t9]
            simp only [q_X9_readsGroup_61, x9', i10, k9', Option.bind_some, ↓reduceIte]
      · have x8' : q_X5_readDigit D2 1 6 = some (-48, D2) := x8
        have x9' : q_X9_readsDigit E2 1 6 = some (0, e3) := x9
        have l48 : ((-48 : Int32) ≤ 0) = True := eq_true (by decide)
        refine ⟨a + 1 + 1, sk_wi D2 35 0 8 (-48), e3, by omega, hP3.w8 8 _ (by omega), A2.wi 8 _ (by omega), B2.tr (AF9.of z9 (by omega)), .inl ⟨?_, ?_⟩⟩
        · rw [t8]
          have o8 : (sk_wi D2 35 0 8 (-48)).1 35 0 8 = -48 := wi_e
          simp only [q_X5_readGroup_30, q_X5_readGroup_50, d7.2, pv, x8', o8, l48, Option.bind_some, ↓reduceIte]
        · rw [t9]
          simp only [q_X9_readsGroup_61, x9', Option.bind_some, ↓reduceIte]
    · have l8' : q_X5_readLanguage D1 0 = some (-97, D1) := l8
      have w9' : q_X9_within E1 y 97 102 = some 0 := w9
      have p97 : ((0 : Int32) ≤ -97) = False := eq_false (by decide)
      refine ⟨a + 1, sk_wi D1 35 0 7 (-97), E1, by omega, hP1.w8 7 _ (by omega), A1.wi 7 _ (by omega), B1, .inl ⟨?_, ?_⟩⟩
      · rw [s8]
        have o7 : (sk_wi D1 35 0 7 (-97)).1 35 0 7 = -97 := wi_e
        simp only [q_X5_readGroup_12, q_X5_readGroup_30, d4, np, l8', o7, p97, Option.bind_some, ↓reduceIte]
      · rw [s9]
        simp only [q_X9_readsGroup_21, l9, w9', Option.bind_some, ↓reduceIte]
  · have r8' : q_X5_readDigit d 0 7 = some (-48, d) := r8
    have r9' : q_X9_readsDigit e 0 7 = some (0, e1) := r9
    refine ⟨a, sk_wi d 35 0 4 (-48), e1, by omega, hP.w8 4 _ (by omega), (AF8.rf d).wi 4 _ (by omega), AF9.of f9 (by omega), .inl ⟨?_, ?_⟩⟩
    · have o4 : (sk_wi d 35 0 4 (-48)).1 35 0 4 = -48 := wi_e
      simp only [q_X5_readGroup, q_X5_readGroup_0, q_X5_readGroup_12, r8', o4, p48, Option.bind_some, ↓reduceIte]
    · simp only [q_X9_readsGroup, q_X9_readsGroup_0, r9', Option.bind_some, ↓reduceIte]
theorem rdI {n : Nat} {c : Nat → Nat} {a : Nat} {d e : sk_D} (h : PT n c a d e) :
    ∃ a' d' e', a ≤ a' ∧ PT n c a' d' e' ∧ AF8 d d' ∧ AF9 e e' ∧ ((q_X5_readInstructor d = some (0, d') ∧ q_X9_readsInstructor e = some (0, e')) ∨ (q_X5_readInstructor d = some (1, d') ∧ q_X9_readsInstructor e = some (1, e') ∧ ∃ m lo hi w, 1 ≤ m ∧ m < 64 ∧ lo ≤ hi ∧ hi < 8 ∧ 1 ≤ w ∧ w ≤ 999999 ∧ d'.1 35 0 5 = nI m ∧ d'.1 35 0 9 = nI lo ∧ d'.1 35 0 10 = nI hi ∧ d'.1 35 0 11 = nI w ∧ e'.1 44 0 57 = nI m ∧ e'.1 44 0 58 = nI lo ∧ e'.1 44 0 59 = nI hi ∧ e'.1 44 0 60 = nI w)) := by
  obtain ⟨m, a1, D1, E1, haa, hP1, hm, d5, e57, g8, g9, l8, l9⟩ := lngs h
  have A1 : AF8 d D1 := AF8.of g8 (by omega)
  have B1 : AF9 e E1 := AF9.of g9 (by omega)
  by_cases hm0 : m = 0
  · refine ⟨a1, D1, E1, haa, hP1, A1, B1, .inl ⟨?_, ?_⟩⟩
    · simp only [q_X5_readInstructor, q_X5_readInstructor_0, l8, hm0, Option.bind_some, ↓reduceIte]
    · simp only [q_X9_readsInstructor, q_X9_readsInstructor_0, l9, hm0, Option.bind_some, ↓reduceIte]
  rcases dgi hP1 0 7 (by omega) with ⟨lo, e2, _, hlo, ha1, hP2, r8, r9, e60, f9⟩ | ⟨e2, hP2, r8, r9, f9⟩
  · have r8' : q_X5_readDigit D1 0 7 = some (nI lo, sk_wi D1 35 0 2 (nI (a1 + 1))) := r8
    have r9' : q_X9_readsDigit E1 0 7 = some (1, e2) := r9
    obtain ⟨D2, hD2⟩ : ∃ D2, sk_wi (sk_wi D1 35 0 2 (nI (a1 + 1))) 35 0 9 (nI lo) = D2 := ⟨_, rfl⟩
    obtain ⟨E2, hE2⟩ : ∃ E2, sk_wi e2 44 0 58 (nI lo) = E2 := ⟨_, rfl⟩
    have hP2' : PT n c (a1 + 1) D2 E2 := by
      rw [← hD2, ← hE2]
      exact (hP2.w8 9 _ (by omega)).w9 58 _ (by omega)
    have A2 : AF8 d D2 := by
      rw [← hD2]
      exact (A1.wi 2 _ (by omega)).wi 9 _ (by omega)
    have B2 : AF9 e E2 := by
      rw [← hE2]
      exact (B1.tr (AF9.of f9 (by omega))).wi 58 _ (by omega)
    have v8 : D2.1 35 0 5 = nI m ∧ D2.1 35 0 9 = nI lo := by
      rw [← hD2]
      exact ⟨(wi_o (by omega)).trans ((wi_o (by omega)).trans d5), wi_e⟩
    have v9 : E2.1 44 0 57 = nI m ∧ E2.1 44 0 58 = nI lo := by
      rw [← hE2]
      exact ⟨(wi_o (by omega)).trans ((f9 44 0 57 (by omega)).trans e57), wi_e⟩
    have pl : (0 : Int32) ≤ nI lo := nI_pos' (by omega)
    have t8 : q_X5_readInstructor d = q_X5_readInstructor_21 D2 := by
      simp only [q_X5_readInstructor, q_X5_readInstructor_0, l8, hm0, i10, r8', hD2, Option.bind_some, ↓reduceIte]
    have t9 : q_X9_readsInstructor e = q_X9_readsInstructor_29 E2 := by
      simp only [q_X9_readsInstructor, q_X9_readsInstructor_0, l9, hm0, i10, r9', e60, hE2, Option.bind_some, ↓reduceIte]
    rcases dgi hP2' lo 7 (by omega) with ⟨hi, e3, hhi1, hhi, ha2, hP3, x8, x9, y60, z9⟩ | ⟨e3, hP3, x8, x9, z9⟩
    · have x8' : q_X5_readDigit D2 (nI lo) 7 = some (nI hi, sk_wi D2 35 0 2 (nI (a1 + 1 + 1))) := x8
      have x9' : q_X9_readsDigit E2 (nI lo) 7 = some (1, e3) := x9
      obtain ⟨D3, hD3⟩ : ∃ D3, sk_wi (sk_wi D2 35 0 2 (nI (a1 + 1 + 1))) 35 0 10 (nI hi) = D3 := ⟨_, rfl⟩
      obtain ⟨E3, hE3⟩ : ∃ E3, sk_wi e3 44 0 59 (nI hi) = E3 := ⟨_, rfl⟩
      have hP3' : PT n c (a1 + 1 + 1) D3 E3 := by
        rw [← hD3, ← hE3]
        exact (hP3.w8 10 _ (by omega)).w9 59 _ (by omega)
      have A3 : AF8 d D3 := by
        rw [← hD3]
        exact (A2.wi 2 _ (by omega)).wi 10 _ (by omega)
      have B3 : AF9 e E3 := by
        rw [← hE3]
        exact (B2.tr (AF9.of z9 (by omega))).wi 59 _ (by omega)
      have u8 : D3.1 35 0 5 = nI m ∧ D3.1 35 0 9 = nI lo ∧ D3.1 35 0 10 = nI hi := by
        rw [← hD3]
        exact ⟨(wi_o (by omega)).trans ((wi_o (by omega)).trans v8.1), (wi_o (by omega)).trans ((wi_o (by omega)).trans v8.2), wi_e⟩
      have u9 : E3.1 44 0 57 = nI m ∧ E3.1 44 0 58 = nI lo ∧ E3.1 44 0 59 = nI hi := by
        rw [← hE3]
        exact ⟨(wi_o (by omega)).trans ((z9 44 0 57 (by omega)).trans v9.1), (wi_o (by omega)).trans ((z9 44 0 58 (by omega)).trans v9.2), wi_e⟩
      have ph : ¬ nI hi < (0 : Int32) := nI_pos (by omega)
      have s8 : q_X5_readInstructor d = q_X5_readInstructor_44 D3 := by
        rw [t8]
        simp only [q_X5_readInstructor_21, v8.2, pl, x8', hD3, Option.bind_some, ↓reduceIte]
      have s9 : q_X9_readsInstructor e = q_X9_readsInstructor_53 E3 := by
        rw [t9]
        simp only [q_X9_readsInstructor_29, v9.2, x9', i10, y60, hE3, Option.bind_some, ↓reduceIte]
      rcases skp hP3' 58 (by omega) with ⟨ha4, hP4, k8, k9⟩ | ⟨k8, k9⟩
      · have k8' : q_X5_skip D3 58 = some (1, sk_wi D3 35 0 2 (nI (a1 + 1 + 1 + 1))) := k8
        have k9' : q_X9_takes E3 58 = some (1, sk_wi E3 44 0 56 (nI (a1 + 1 + 1 + 1))) := k9
        obtain ⟨a5, D5, E5, h5a, hP5, g5, g5', hw⟩ := wage hP4
        have A5 : AF8 d D5 := (A3.wi 2 _ (by omega)).tr (AF8.of g5 (by omega))
        have B5 : AF9 e E5 := (B3.wi 56 _ (by omega)).tr (AF9.of g5' (by omega))
        rcases hw with ⟨w8, w9⟩ | ⟨w8, w9, w, hw1, hw2, d11, e60'⟩
        · refine ⟨a5, D5, E5, by omega, hP5, A5, B5, .inl ⟨?_, ?_⟩⟩
          · rw [s8]
            simp only [q_X5_readInstructor_44, u8.2.2, ph, k8', i10, w8, Option.bind_some, ↓reduceIte]
          · rw [s9]
            simp only [q_X9_readsInstructor_53, k9', i10, w9, Option.bind_some, ↓reduceIte]
        · have y8 : D5.1 35 0 5 = nI m ∧ D5.1 35 0 9 = nI lo ∧ D5.1 35 0 10 = nI hi := by
            rw [g5 35 0 5 (by omega), g5 35 0 9 (by omega), g5 35 0 10 (by omega), wi_o (by omega), wi_o (by omega), wi_o (by omega)]
            exact u8
          have y9 : E5.1 44 0 57 = nI m ∧ E5.1 44 0 58 = nI lo ∧ E5.1 44 0 59 = nI hi := by
            rw [g5' 44 0 57 (by omega), g5' 44 0 58 (by omega), g5' 44 0 59 (by omega), wi_o (by omega), wi_o (by omega), wi_o (by omega)]
            exact u9
          rcases skp hP5 59 (by omega) with ⟨ha6, hP6, j8, j9⟩ | ⟨j8, j9⟩
          · have j8' : q_X5_skip D5 59 = some (1, sk_wi D5 35 0 2 (nI (a5 + 1))) := j8
            have j9' : q_X9_takes E5 59 = some (1, sk_wi E5 44 0 56 (nI (a5 + 1))) := j9
            refine ⟨a5 + 1, _, _, by omega, hP6, A5.wi 2 _ (by omega), B5.wi 56 _ (by omega), .inr ⟨?_, ?_, m, lo, hi, w, by omega, hm, hhi1, by omega, hw1, hw2, ?_⟩⟩
            · rw [s8]
              simp only [q_X5_readInstructor_44, u8.2.2, ph, k8', i10, w8, j8', Option.bind_some, ↓reduceIte]
            · rw [s9]
              simp only [q_X9_readsInstructor_53, k9', i10, w9, j9', Option.bind_some, ↓reduceIte]
            · rw [wi_o (by omega), wi_o (by omega), wi_o (by omega), wi_o (by omega), wi_o (by omega), wi_o (by omega), wi_o (by omega), wi_o (by omega)]
              exact ⟨y8.1, y8.2.1, y8.2.2, d11, y9.1, y9.2.1, y9.2.2, e60'⟩
          · have j8' : q_X5_skip D5 59 = some (0, D5) := j8
            have j9' : q_X9_takes E5 59 = some (0, E5) := j9
            refine ⟨a5, D5, E5, by omega, hP5, A5, B5, .inl ⟨?_, ?_⟩⟩
            · rw [s8]
              simp only [q_X5_readInstructor_44, u8.2.2, ph, k8', i10, w8, j8', Option.bind_some, ↓reduceIte]
            · rw [s9]
              simp only [q_X9_readsInstructor_53, k9', i10, w9, j9', Option.bind_some, ↓reduceIte]
      · have k8' : q_X5_skip D3 58 = some (0, D3) := k8
        have k9' : q_X9_takes E3 58 = some (0, E3) := k9
        refine ⟨a1 + 1 + 1, D3, E3, by omega, hP3', A3, B3, .inl ⟨?_, ?_⟩⟩
        · rw [s8]
          simp only [q_X5_readInstructor_44, u8.2.2, ph, k8', Option.bind_some, ↓reduceIte]
        · rw [s9]
          simp only [q_X9_readsInstructor_53, k9', Option.bind_some, ↓reduceIte]
    · have x8' : q_X5_readDigit D2 (nI lo) 7 = some (-48, D2) := x8
      have x9' : q_X9_readsDigit E2 (nI lo) 7 = some (0, e3) := x9
      refine ⟨a1 + 1, sk_wi D2 35 0 10 (-48), e3, by omega, hP3.w8 10 _ (by omega), A2.wi 10 _ (by omega), B2.tr (AF9.of z9 (by omega)), .inl ⟨?_, ?_⟩⟩
      · rw [t8]
        have o10 : (sk_wi D2 35 0 10 (-48)).1 35 0 10 = -48 := wi_e
        simp only [q_X5_readInstructor_21, q_X5_readInstructor_44, v8.2, pl, x8', o10, n48, Option.bind_some, ↓reduceIte]
      · rw [t9]
        simp only [q_X9_readsInstructor_29, v9.2, x9', Option.bind_some, ↓reduceIte]
  · have r8' : q_X5_readDigit D1 0 7 = some (-48, D1) := r8
    have r9' : q_X9_readsDigit E1 0 7 = some (0, e2) := r9
    refine ⟨a1, sk_wi D1 35 0 9 (-48), e2, haa, hP2.w8 9 _ (by omega), A1.wi 9 _ (by omega), B1.tr (AF9.of f9 (by omega)), .inl ⟨?_, ?_⟩⟩
    · have o9 : (sk_wi D1 35 0 9 (-48)).1 35 0 9 = -48 := wi_e
      simp only [q_X5_readInstructor, q_X5_readInstructor_0, q_X5_readInstructor_21, l8, hm0, i10, r8', o9, p48, Option.bind_some, ↓reduceIte]
    · simp only [q_X9_readsInstructor, q_X9_readsInstructor_0, l9, hm0, i10, r9', Option.bind_some, ↓reduceIte]
def EF8 (d d' : sk_D) : Prop := ∀ s k f, ¬ (s = 35 ∧ 2 ≤ f) → d'.1 s k f = d.1 s k f
theorem EF8.of {a b c : sk_D} {f : Nat} {v : Int32} (h : EF8 a b) (hf : 2 ≤ f) (g : AF8 (sk_wi b 35 0 f v) c) : EF8 a c := fun s k f' hs => (g s k f' (by omega)).trans ((wi_o (by omega)).trans (h s k f' hs))
/-- what an entry that was read says -/
def KD (d' e' : sk_D) (en : Int32 → Option (Int32 × sk_D)) : Prop :=
  (d'.1 35 0 3 = 112 ∧ (∃ lv m fm, lv < 8 ∧ 1 ≤ m ∧ m < 64 ∧ (fm = -9 ∨ ∃ f, f < 8 ∧ fm = nI f) ∧ d'.1 35 0 4 = nI lv ∧ d'.1 35 0 5 = nI m ∧ d'.1 35 0 6 = fm ∧ e'.1 44 0 58 = nI lv ∧ e'.1 44 0 57 = nI m ∧ e'.1 44 0 59 = fm) ∧ ∀ v1, en v1 = if v1 = 0 then some (0, e') else (q_X9_addPupil e' (e'.1 44 0 58) (e'.1 44 0 57) (e'.1 44 0 59)).bind fun x => some (x.1, x.2)) ∨
  (d'.1 35 0 3 = 103 ∧ (∃ lv la cp, lv < 8 ∧ la < 6 ∧ 1 ≤ cp ∧ cp ≤ 6 ∧ d'.1 35 0 4 = nI lv ∧ d'.1 35 0 7 = nI la ∧ d'.1 35 0 8 = nI cp ∧ e'.1 44 0 58 = nI lv ∧ e'.1 44 0 59 = nI la ∧ e'.1 44 0 60 = nI cp) ∧ ∀ v1, en v1 = if v1 = 0 then some (0, e') else (q_X9_openGroup e' (e'.1 44 0 58) (e'.1 44 0 59) (e'.1 44 0 60)).bind fun x => some (x.1, x.2)) ∨
  (d'.1 35 0 3 = 105 ∧ (∃ m lo hi w, 1 ≤ m ∧ m < 64 ∧ lo ≤ hi ∧ hi < 8 ∧ 1 ≤ w ∧ w ≤ 999999 ∧ d'.1 35 0 5 = nI m ∧ d'.1 35 0 9 = nI lo ∧ d'.1 35 0 10 = nI hi ∧ d'.1 35 0 11 = nI w ∧ e'.1 44 0 57 = nI m ∧ e'.1 44 0 58 = nI lo ∧ e'.1 44 0 59 = nI hi ∧ e'.1 44 0 60 = nI w) ∧ ∀ v1, en v1 = if v1 = 0 then some (0, e') else (q_X9_hire e' (e'.1 44 0 57) (e'.1 44 0 58) (e'.1 44 0 59) (e'.1 44 0 60)).bind fun x => some (x.1, x.2))
theorem pent {n : Nat} {c : Nat → Nat} {a : Nat} {d e : sk_D} (h : PT n c a d e) :
    ∃ a' d' e', a ≤ a' ∧ PT n c a' d' e' ∧ EF8 d d' ∧ AF9 e e' ∧ ((q_X5_readEntry d = some (0, d') ∧ ∀ v1, q_X9_entry e v1 = some (-1, e')) ∨ (a < a' ∧ q_X5_readEntry d = some (1, d') ∧ KD d' e' (q_X9_entry e))) := by
  have rf : EF8 d d := fun _ _ _ _ => rfl
  rcases skp h 112 (by omega) with ⟨ha, hP, k8, k9⟩ | ⟨k8, k9⟩
  · have k8' : q_X5_skip d 112 = some (1, sk_wi d 35 0 2 (nI (a + 1))) := k8
    have k9' : q_X9_takes e 112 = some (1, sk_wi e 44 0 56 (nI (a + 1))) := k9
    have E1 : EF8 d (sk_wi d 35 0 2 (nI (a + 1))) := fun s k f hs => wi_o (by omega)
    obtain ⟨a', D, E, haa, hP', g8, g9, hh⟩ := rdP (hP.w8 3 112 (by omega))
    have hd3 : D.1 35 0 3 = 112 := (g8 35 0 3 (by omega)).trans wi_e
    rcases hh with ⟨r8, r9⟩ | ⟨r8, r9, hdat⟩
    · refine ⟨a', D, E, by omega, hP', E1.of (by omega) g8, ((AF9.rf e).wi 56 _ (by omega)).tr g9, .inl ⟨?_, fun v1 => ?_⟩⟩
      · simp only [q_X5_readEntry, q_X5_readEntry_0, q_X5_readEntry_16, k8', i10, r8, nb0, Option.bind_some, ↓reduceIte]
      · simp only [q_X9_entry, q_X9_entry_0, k9', i10, r9, Option.bind_some, ↓reduceIte]
    · refine ⟨a', D, E, by omega, hP', E1.of (by omega) g8, ((AF9.rf e).wi 56 _ (by omega)).tr g9, .inr ⟨by omega, ?_, .inl ⟨hd3, hdat, fun v1 => ?_⟩⟩⟩
      · simp only [q_X5_readEntry, q_X5_readEntry_0, q_X5_readEntry_16, k8', i10, r8, nb1, Option.bind_some, ↓reduceIte]
      · simp only [q_X9_entry, q_X9_entry_0, k9', i10, r9, Option.bind_some, ↓reduceIte]
  · have k8' : q_X5_skip d 112 = some (0, d) := k8
    have k9' : q_X9_takes e 112 = some (0, e) := k9
    rcases skp h 103 (by omega) with ⟨ha, hP, l8, l9⟩ | ⟨l8, l9⟩
    · have l8' : q_X5_skip d 103 = some (1, sk_wi d 35 0 2 (nI (a + 1))) := l8
      have l9' : q_X9_takes e 103 = some (1, sk_wi e 44 0 56 (nI (a + 1))) := l9
      have E1 : EF8 d (sk_wi d 35 0 2 (nI (a + 1))) := fun s k f hs => wi_o (by omega)
      obtain ⟨a', D, E, haa, hP', g8, g9, hh⟩ := rdG (hP.w8 3 103 (by omega))
      have hd3 : D.1 35 0 3 = 103 := (g8 35 0 3 (by omega)).trans wi_e
      rcases hh with ⟨r8, r9⟩ | ⟨r8, r9, hdat⟩
      · refine ⟨a', D, E, by omega, hP', E1.of (by omega) g8, ((AF9.rf e).wi 56 _ (by omega)).tr g9, .inl ⟨?_, fun v1 => ?_⟩⟩
        · simp only [q_X5_readEntry, q_X5_readEntry_0, q_X5_readEntry_36, k8', l8', i10, r8, nb0, Option.bind_some, ↓reduceIte]
        · simp only [q_X9_entry, q_X9_entry_0, k9', l9', i10, r9, Option.bind_some, ↓reduceIte]
      · refine ⟨a', D, E, by omega, hP', E1.of (by omega) g8, ((AF9.rf e).wi 56 _ (by omega)).tr g9, .inr ⟨by omega, ?_, .inr (.inl ⟨hd3, hdat, fun v1 => ?_⟩)⟩⟩
        · simp only [q_X5_readEntry, q_X5_readEntry_0, q_X5_readEntry_36, k8', l8', i10, r8, nb1, Option.bind_some, ↓reduceIte]
        · simp only [q_X9_entry, q_X9_entry_0, k9', l9', i10, r9, Option.bind_some, ↓reduceIte]
    · have l8' : q_X5_skip d 103 = some (0, d) := l8
      have l9' : q_X9_takes e 103 = some (0, e) := l9
      have E0 : EF8 d (sk_wi d 35 0 3 105) := fun s k f hs => wi_o (by omega)
      have hP0 : PT n c a (sk_wi d 35 0 3 105) e := h.w8 3 105 (by omega)
      rcases skp hP0 105 (by omega) with ⟨ha, hP, m8, m9⟩ | ⟨m8, m9⟩
      · have m8' : q_X5_skip (sk_wi d 35 0 3 105) 105 = some (1, sk_wi (sk_wi d 35 0 3 105) 35 0 2 (nI (a + 1))) := m8
        have m9' : q_X9_takes e 105 = some (1, sk_wi e 44 0 56 (nI (a + 1))) := m9
        obtain ⟨a', D, E, haa, hP', g8, g9, hh⟩ := rdI hP
        have hd3 : D.1 35 0 3 = 105 := (g8 35 0 3 (by omega)).trans ((wi_o (by omega)).trans wi_e)
        have EE : EF8 d D := fun s k f hs => (g8 s k f (by omega)).trans ((wi_o (by omega)).trans (wi_o (by omega)))
        rcases hh with ⟨r8, r9⟩ | ⟨r8, r9, hdat⟩
        · refine ⟨a', D, E, by omega, hP', EE, ((AF9.rf e).wi 56 _ (by omega)).tr g9, .inl ⟨?_, fun v1 => ?_⟩⟩
          · simp only [q_X5_readEntry, q_X5_readEntry_0, q_X5_readEntry_49, k8', l8', m8', i10, r8, Option.bind_some, ↓reduceIte]
          · simp only [q_X9_entry, q_X9_entry_0, k9', l9', m9', i10, r9, Option.bind_some, ↓reduceIte]
        · refine ⟨a', D, E, by omega, hP', EE, ((AF9.rf e).wi 56 _ (by omega)).tr g9, .inr ⟨by omega, ?_, .inr (.inr ⟨hd3, hdat, fun v1 => ?_⟩)⟩⟩
          · simp only [q_X5_readEntry, q_X5_readEntry_0, q_X5_readEntry_49, k8', l8', m8', i10, r8, Option.bind_some, ↓reduceIte]
          · simp only [q_X9_entry, q_X9_entry_0, k9', l9', m9', i10, r9, Option.bind_some, ↓reduceIte]
      · have m8' : q_X5_skip (sk_wi d 35 0 3 105) 105 = some (0, sk_wi d 35 0 3 105) := m8
        have m9' : q_X9_takes e 105 = some (0, e) := m9
        refine ⟨a, sk_wi d 35 0 3 105, e, by omega, hP0, E0, AF9.rf e, .inl ⟨?_, fun v1 => ?_⟩⟩
        · simp only [q_X5_readEntry, q_X5_readEntry_0, q_X5_readEntry_49, k8', l8', m8', Option.bind_some, ↓reduceIte]
        · simp only [q_X9_entry, q_X9_entry_0, k9', l9', m9', Option.bind_some, ↓reduceIte]
