/-! load: reading in both *** by hand -/
def PT (n : Nat) (c : Nat → Nat) (a : Nat) (d e : sk_D) : Prop := n ≤ 100 ∧ a ≤ n ∧ d.1 35 0 1 = nI n ∧ e.1 44 0 36 = nI n ∧ d.1 35 0 2 = nI a ∧ e.1 44 0 56 = nI a ∧ ∀ j, j < n → d.1 36 0 j = nI (c j) ∧ e.1 75 0 j = nI (c j) ∧ 32 ≤ c j ∧ c j ≤ 126
/-- frames: fields x, y of the roster / of the reference besides the place -/
def RF8 (x : Nat) (d d' : sk_D) : Prop := ∀ s k f, ¬ (s = 35 ∧ (f = 2 ∨ f = x)) → d'.1 s k f = d.1 s k f
def RF9 (x : Nat) (e e' : sk_D) : Prop := ∀ s k f, ¬ (s = 44 ∧ (f = 56 ∨ f = x)) → e'.1 s k f = e.1 s k f
theorem RF8.rf (x : Nat) (d : sk_D) : RF8 x d d := fun _ _ _ _ => rfl
theorem RF9.rf (x : Nat) (d : sk_D) : RF9 x d d := fun _ _ _ _ => rfl
theorem RF8.tr {x : Nat} {a b c : sk_D} (h : RF8 x a b) (g : RF8 x b c) : RF8 x a c := fun s k f hs => (g s k f hs).trans (h s k f hs)
theorem RF9.tr {x : Nat} {a b c : sk_D} (h : RF9 x a b) (g : RF9 x b c) : RF9 x a c := fun s k f hs => (g s k f hs).trans (h s k f hs)
theorem RF8.up {x y : Nat} {a b : sk_D} (h : RF8 x a b) (hx : x = 2 ∨ x = y) : RF8 y a b := fun s k f hs => h s k f (by omega)
theorem RF9.up {x y : Nat} {a b : sk_D} (h : RF9 x a b) (hx : x = 56 ∨ x = y) : RF9 y a b := fun s k f hs => h s k f (by omega)
/-- the text and its place out of what stands -/
theorem PT.mk8 {n : Nat} {c : Nat → Nat} {a a' : Nat} {d e d' e' : sk_D} (h : PT n c a d e) (h8 : ∀ f, d'.1 36 0 f = d.1 36 0 f) (h1 : d'.1 35 0 1 = d.1 35 0 1) (h9 : ∀ f, e'.1 75 0 f = e.1 75 0 f) (h2 : e'.1 44 0 36 = e.1 44 0 36) (ha : a' ≤ n) (p8 : d'.1 35 0 2 = nI a') (p9 : e'.1 44 0 56 = nI a') : PT n c a' d' e' := by
  obtain ⟨q1, q2, q3, q4, q5, q6, q7⟩ := h
  refine ⟨q1, ha, h1.trans q3, h2.trans q4, p8, p9, fun j hj => ?_⟩
  rw [h8, h9]
  exact q7 j hj
theorem rs8 {n : Nat} {c : Nat → Nat} {a : Nat} {d e : sk_D} (h : PT n c a d e) (lo hi : Nat) (hlo : lo < 1000) (hhi : hi < 1000) : (a < n ∧ lo ≤ c a ∧ c a ≤ hi ∧ q_X5_readSign d (nI lo) (nI hi) = some (nI (c a), sk_wi d 35 0 2 (nI (a + 1)))) ∨ (¬ (a < n ∧ lo ≤ c a ∧ c a ≤ hi) ∧ q_X5_readSign d (nI lo) (nI hi) = some (0, d)) := by
  obtain ⟨q1, q2, q3, q4, q5, q6, q7⟩ := h
  have n0 : ¬ nI a < (0 : Int32) := nI_pos (by omega)
  by_cases ha : a < n
  · obtain ⟨t1, t2, t3, t4⟩ := q7 a ha
    have l1 : ¬ nI n ≤ nI a := nI_ge ha (by omega)
    have l2 : nI a < (100 : Int32) := nI_lt (b := 100) (by omega) (by omega)
    have ba : sk_bi (nI a) 100 = true := bi_nI (by omega) (by omega)
    have ea := nI_clamp (n := a) (by omega)
    by_cases c1 : c a < lo
    · right
      have l3 : nI (c a) < nI lo := nI_lt c1 (by omega)
      refine ⟨by omega, ?_⟩
      simp only [q_X5_readSign, q_X5_readSign_0, q3, q5, n0, l1, l2, ba, ea, t1, l3, ↓reduceIte]
    · have l3 : ¬ nI (c a) < nI lo := nI_nlt (by omega) (by omega)
      by_cases c2 : c a ≤ hi
      · left
        have l4 : nI (c a) ≤ nI hi := nI_le c2 (by omega)
        refine ⟨ha, by omega, c2, ?_⟩
        simp only [q_X5_readSign, q_X5_readSign_0, q3, q5, n0, l1, l2, ba, ea, t1, l3, l4, s1_nI, ↓reduceIte]
      · right
        have l4 : ¬ nI (c a) ≤ nI hi := nI_ge (by omega) (by omega)
        refine ⟨by omega, ?_⟩
        simp only [q_X5_readSign, q_X5_readSign_0, q3, q5, n0, l1, l2, ba, ea, t1, l3, l4, ↓reduceIte]
  · right
    have l1 : nI n ≤ nI a := nI_le (by omega) (by omega)
    refine ⟨fun q => ha q.1, ?_⟩
    simp only [q_X5_readSign, q_X5_readSign_0, q3, q5, n0, l1, ↓reduceIte]
theorem nx9 {n : Nat} {c : Nat → Nat} {a : Nat} {d e : sk_D} (h : PT n c a d e) : (a < n ∧ q_X9_next e = some (nI (c a))) ∨ (¬ a < n ∧ q_X9_next e = some (-1)) := by
  obtain ⟨q1, q2, q3, q4, q5, q6, q7⟩ := h
  by_cases ha : a < n
  · obtain ⟨t1, t2, t3, t4⟩ := q7 a ha
    have l1 : ¬ nI n ≤ nI a := nI_ge ha (by omega)
    have ba : sk_bi (nI a) 100 = true := bi_nI (by omega) (by omega)
    have ea := nI_clamp (n := a) (by omega)
    exact .inl ⟨ha, by simp only [q_X9_next, q_X9_next_0, q4, q6, l1, ba, ea, t2, ↓reduceIte]⟩
  · have l1 : nI n ≤ nI a := nI_le (by omega) (by omega)
    exact .inr ⟨ha, by simp only [q_X9_next, q_X9_next_0, q4, q6, l1, ↓reduceIte]⟩
theorem wi_id {e : sk_D} {a : Nat} (h : e.1 44 0 56 = nI a) : sk_wi e 44 0 56 (nI a) = e := by
  rw [← h]
  exact wi_same e 44 0 56
/-- one sign -/
theorem skp {n : Nat} {c : Nat → Nat} {a : Nat} {d e : sk_D} (h : PT n c a d e) (s : Nat) (hs : 32 ≤ s ∧ s ≤ 126) :
    (a < n ∧ PT n c (a + 1) (sk_wi d 35 0 2 (nI (a + 1))) (sk_wi e 44 0 56 (nI (a + 1))) ∧ q_X5_skip d (nI s) = some (1, sk_wi d 35 0 2 (nI (a + 1))) ∧ q_X9_takes e (nI s) = some (1, sk_wi e 44 0 56 (nI (a + 1)))) ∨ (q_X5_skip d (nI s) = some (0, d) ∧ q_X9_takes e (nI s) = some (0, e)) := by
  have h6 := h.2.2.2.2.2.1
  have hid := wi_id h6
  rcases rs8 h s s (by omega) (by omega) with ⟨ha, h1, h2, hr⟩ | ⟨hn, hr⟩
  · left
    have ec : c a = s := by omega
    rcases nx9 h with ⟨_, hn9⟩ | ⟨q, _⟩
    · rw [ec] at hr hn9
      refine ⟨ha, h.mk8 (fun f => wi_o (by omega)) (wi_o (by omega)) (fun f => wi_o (by omega)) (wi_o (by omega)) (by omega) wi_e wi_e, ?_, ?_⟩
      · simp only [q_X5_skip, q_X5_skip_0, hr, Option.bind_some, ↓reduceIte]
      · simp only [q_X9_takes, q_X9_takes_0, q_X9_takes_13, q_X9_takes_28, hn9, i10, nb1, h6, s1_nI, Option.bind_some, ↓reduceIte]
    · exact absurd ha q
  · right
    have z : ¬ (0 : Int32) = nI s := fun q => nI_ne0 (n := s) (by omega) (by omega) q.symm
    refine ⟨by simp only [q_X5_skip, q_X5_skip_0, hr, z, Option.bind_some, ↓reduceIte], ?_⟩
    have nz : q_X9_takes e (nI s) = q_X9_takes_13 e 0 := by
      rcases nx9 h with ⟨ha, hn9⟩ | ⟨q, hn9⟩
      · have : ¬ nI (c a) = nI s := ne_nI (n := s) rfl (by omega) (by have := (h.2.2.2.2.2.2 a ha).2.2; omega)
        simp only [q_X9_takes, q_X9_takes_0, hn9, this, Option.bind_some, ↓reduceIte]
      · have : ¬ (-1 : Int32) = nI s := fun q => nm1_nI (j := s) (by omega) q.symm
        simp only [q_X9_takes, q_X9_takes_0, hn9, this, Option.bind_some, ↓reduceIte]
    rw [nz]
    simp only [q_X9_takes_13, q_X9_takes_28, nb0, h6, Int32.add_zero, hid, ↓reduceIte]
/-- one digit -/
theorem dgi {n : Nat} {c : Nat → Nat} {a : Nat} {d e : sk_D} (h : PT n c a d e) (lo hi : Nat) (hl : lo ≤ 9 ∧ hi ≤ 9) :
    (∃ v e', lo ≤ v ∧ v ≤ hi ∧ a < n ∧ PT n c (a + 1) (sk_wi d 35 0 2 (nI (a + 1))) e' ∧ q_X5_readDigit d (nI lo) (nI hi) = some (nI v, sk_wi d 35 0 2 (nI (a + 1))) ∧ q_X9_readsDigit e (nI lo) (nI hi) = some (1, e') ∧ e'.1 44 0 60 = nI v ∧ RF9 60 e e') ∨ (∃ e', PT n c a d e' ∧ q_X5_readDigit d (nI lo) (nI hi) = some (-48, d) ∧ q_X9_readsDigit e (nI lo) (nI hi) = some (0, e') ∧ RF9 60 e e') := by
  have h6 := h.2.2.2.2.2.1
  have e48 (x : Nat) : (48 : Int32) + nI x = nI (48 + x) := nI_add 48 x
  rcases rs8 h (48 + lo) (48 + hi) (by omega) (by omega) with ⟨ha, h1, h2, hr⟩ | ⟨hn, hr⟩
  · left
    obtain ⟨v, hv⟩ : ∃ v, c a = 48 + v := ⟨c a - 48, by omega⟩
    rcases nx9 h with ⟨_, hn9⟩ | ⟨q, _⟩
    · rw [hv] at hr hn9
      have sv : nI (48 + v) - (48 : Int32) = nI v := by
        rw [show (48 : Int32) = nI 48 from rfl, pk_sub (by omega), show 48 + v - 48 = v by omega]
      have np : ¬ nI (48 + v) < (0 : Int32) := nI_pos (by omega)
      have w9 := (wi_in v (a := nI v) (lo := nI lo) (hi := nI hi) lo hi rfl rfl rfl (by omega) (by omega) (by omega)).2
      have n2 : q_X9_next (sk_wi e 44 0 60 (nI v)) = some (nI (48 + v)) := by
        rw [← hn9]
        simp only [q_X9_next, q_X9_next_0, wi_o (d := e) (s := 44) (k := 0) (f := 60) (s' := 44) (k' := 0) (f' := 36) (v := nI v) (by omega), wi_o (d := e) (s := 44) (k := 0) (f := 60) (s' := 44) (k' := 0) (f' := 56) (v := nI v) (by omega), wi_o (d := e) (s := 44) (k := 0) (f := 60) (s' := 75) (k' := 0) (f' := (e.1 44 0 56).toNatClampNeg) (v := nI v) (by omega)]
      have n56 : (sk_wi e 44 0 60 (nI v)).1 44 0 56 = nI a := (wi_o (by omega)).trans h6
      have n60 : (sk_wi e 44 0 60 (nI v)).1 44 0 60 = nI v := wi_e
      refine ⟨v, sk_wi (sk_wi e 44 0 60 (nI v)) 44 0 56 (nI (a + 1)), by omega, by omega, ha, ?_, ?_, ?_, (wi_o (by omega)).trans wi_e, fun s k f hs => (wi_o (by omega)).trans (wi_o (by omega))⟩
      · exact h.mk8 (fun f => wi_o (by omega)) (wi_o (by omega)) (fun f => (wi_o (by omega)).trans (wi_o (by omega))) ((wi_o (by omega)).trans (wi_o (by omega))) (by omega) wi_e wi_e
      · simp only [q_X5_readDigit, q_X5_readDigit_0, e48, hr, sv, Option.bind_some]
      · simp only [q_X9_readsDigit, q_X9_readsDigit_0, q_X9_readsDigit_12, q_X9_readsDigit_35, q_X9_readsDigit_50, hn9, sv, n2, np, n60, w9, i10, nb1, n56, s1_nI, Option.bind_some, ↓reduceIte]
    · exact absurd ha q
  · right
    have z48 : (0 : Int32) - 48 = -48 := by decide
    have r8 : q_X5_readDigit d (nI lo) (nI hi) = some (-48, d) := by
      simp only [q_X5_readDigit, q_X5_readDigit_0, e48, hr, z48, Option.bind_some]
    have fin : ∀ x : Int32, q_X9_readsDigit_34 (sk_wi e 44 0 60 x) = some (0, sk_wi e 44 0 60 x) := by
      intro x
      have n56 : (sk_wi e 44 0 60 x).1 44 0 56 = nI a := (wi_o (by omega)).trans h6
      have hid := wi_id n56
      simp only [q_X9_readsDigit_34, q_X9_readsDigit_35, q_X9_readsDigit_50, nb0, n56, Int32.add_zero, hid, ↓reduceIte]
    have pt : ∀ x : Int32, PT n c a d (sk_wi e 44 0 60 x) := fun x => h.mk8 (fun f => rfl) rfl (fun f => wi_o (by omega)) (wi_o (by omega)) h.2.1 h.2.2.2.2.1 ((wi_o (by omega)).trans h6)
    rcases nx9 h with ⟨ha, hn9⟩ | ⟨q, hn9⟩
    · refine ⟨sk_wi e 44 0 60 (nI (c a) - 48), pt _, r8, ?_, fun s k f hs => wi_o (by omega)⟩
      have n2 : q_X9_next (sk_wi e 44 0 60 (nI (c a) - 48)) = some (nI (c a)) := by
        rcases nx9 (pt (nI (c a) - 48)) with ⟨_, q⟩ | ⟨q, _⟩
        · exact q
        · exact absurd ha q
      have hc := h.2.2.2.2.2.2 a ha
      have np : ¬ nI (c a) < (0 : Int32) := nI_pos (by omega)
      have n60 : (sk_wi e 44 0 60 (nI (c a) - 48)).1 44 0 60 = nI (c a) - 48 := wi_e
      have w9 : q_X9_within (sk_wi e 44 0 60 (nI (c a) - 48)) (nI (c a) - 48) (nI lo) (nI hi) = some 0 := by
        rcases wi_cases (nI (c a) - 48) (nI lo) (nI hi) lo hi rfl rfl (by omega) with ⟨_, q⟩ | ⟨k, hk1, hk2, ek, _⟩
        · exact q _
        · exfalso
          have : (nI (c a) - nI 48).toInt = (c a : Int) - (48 : Nat) := pk_sub_toInt (by omega) (by omega)
          have ek2 : nI (c a) - nI 48 = nI k := ek
          rw [ek2, nI_toInt (by omega)] at this
          omega
      simp only [q_X9_readsDigit, q_X9_readsDigit_0, q_X9_readsDigit_12, hn9, n2, np, n60, w9, fin, Option.bind_some, ↓reduceIte]
    · refine ⟨sk_wi e 44 0 60 (-1 - 48), pt _, r8, ?_, fun s k f hs => wi_o (by omega)⟩
      have n2 : q_X9_next (sk_wi e 44 0 60 (-1 - 48)) = some (-1) := by
        rcases nx9 (pt (-1 - 48)) with ⟨q2, _⟩ | ⟨_, q2⟩
        · exact absurd q2 q
        · exact q2
      have np : ((-1 : Int32) < 0) = True := eq_true (by decide)
      simp only [q_X9_readsDigit, q_X9_readsDigit_0, q_X9_readsDigit_12, hn9, n2, np, fin, Option.bind_some, ↓reduceIte]
theorem lg_all : (List.range 64).all (fun m => (List.range 6).all (fun v => decide (nI m ||| ((1 : Int32) <<< (nI v &&& 31)) = nI (m ||| 2 ^ v)) && Nat.blt (m ||| 2 ^ v) 64 && Nat.blt 0 (m ||| 2 ^ v))) = true := by decide +kernel
theorem lg_dec (m : Nat) (hm : m < 64) (v : Nat) (hv : v < 6) : ∃ m', 1 ≤ m' ∧ m' < 64 ∧ nI m ||| ((1 : Int32) <<< (nI v &&& 31)) = nI m' := by
  have h := List.all_eq_true.mp (List.all_eq_true.mp lg_all m (List.mem_range.mpr hm)) v (List.mem_range.mpr hv)
  rw [Bool.and_eq_true, Bool.and_eq_true, decide_eq_true_eq] at h
  exact ⟨m ||| 2 ^ v, Nat.le_of_ble_eq_true h.2, Nat.le_of_ble_eq_true h.1.2, h.1.1⟩
/-- one language -/
theorem lng {n : Nat} {c : Nat → Nat} {a : Nat} {d e : sk_D} (h : PT n c a d e) (lo : Nat) (hl : lo ≤ 6) :
    (∃ v, lo ≤ v ∧ v ≤ 5 ∧ a < n ∧ c a = 97 + v ∧ q_X5_readLanguage d (nI lo) = some (nI v, sk_wi d 35 0 2 (nI (a + 1))) ∧ q_X9_next e = some (nI (97 + v)) ∧ q_X9_within e (nI (97 + v)) (nI (97 + lo)) 102 = some 1) ∨ (∃ x, q_X5_readLanguage d (nI lo) = some (-97, d) ∧ q_X9_next e = some x ∧ q_X9_within e x (nI (97 + lo)) 102 = some 0) := by
  have e97 : (97 : Int32) + nI lo = nI (97 + lo) := nI_add 97 lo
  have c102 : (102 : Int32) = nI 102 := rfl
  rcases rs8 h (97 + lo) 102 (by omega) (by omega) with ⟨ha, h1, h2, hr⟩ | ⟨hn, hr⟩
  · left
    obtain ⟨v, hv⟩ : ∃ v, c a = 97 + v := ⟨c a - 97, by omega⟩
    rcases nx9 h with ⟨_, hn9⟩ | ⟨q, _⟩
    · rw [hv] at hr hn9
      have sv : nI (97 + v) - (97 : Int32) = nI v := by
        rw [show (97 : Int32) = nI 97 from rfl, pk_sub (by omega), show 97 + v - 97 = v by omega]
      refine ⟨v, by omega, by omega, ha, hv, ?_, hn9, ?_⟩
      · rw [← c102] at hr
        simp only [q_X5_readLanguage, q_X5_readLanguage_0, e97, hr, sv, Option.bind_some]
      · exact (wi_in (97 + v) (a := nI (97 + v)) (lo := nI (97 + lo)) (hi := 102) (97 + lo) 102 rfl rfl rfl (by omega) (by omega) (by omega)).2 e
    · exact absurd ha q
  · right
    have z97 : (0 : Int32) - 97 = -97 := by decide
    rw [← c102] at hr
    have r8 : q_X5_readLanguage d (nI lo) = some (-97, d) := by
      simp only [q_X5_readLanguage, q_X5_readLanguage_0, e97, hr, z97, Option.bind_some]
    rcases nx9 h with ⟨ha, hn9⟩ | ⟨q, hn9⟩
    · refine ⟨nI (c a), r8, hn9, ?_⟩
      rcases wi_cases (nI (c a)) (nI (97 + lo)) 102 (97 + lo) 102 rfl rfl (by omega) with ⟨_, q⟩ | ⟨k, hk1, hk2, ek, _⟩
      · exact q _
      · exfalso
        have hc := h.2.2.2.2.2.2 a ha
        rw [nI_eq (by omega) (by omega)] at ek
        omega
    · refine ⟨-1, r8, hn9, ?_⟩
      rcases wi_cases (-1) (nI (97 + lo)) 102 (97 + lo) 102 rfl rfl (by omega) with ⟨_, q2⟩ | ⟨k, hk1, hk2, ek, _⟩
      · exact q2 _
      · exact absurd ek.symm (nm1_nI (by omega))
/-- the languages -/
theorem lngs {n : Nat} {c : Nat → Nat} {a : Nat} {d e : sk_D} (h : PT n c a d e) :
    ∃ m a' d' e', a ≤ a' ∧ PT n c a' d' e' ∧ m < 64 ∧ d'.1 35 0 5 = nI m ∧ e'.1 44 0 57 = nI m ∧ RF8 5 d d' ∧ RF9 57 e e' ∧ q_X5_readLanguages d = some (if m = 0 then 0 else 1, d') ∧ q_X9_readsSet e = some (if m = 0 then 0 else 1, e') := by
  have key := it_pr0 (F := fun rec a => q_X5_readLanguages_9 rec a.1 a.2.1 a.2.2) (F' := fun rec a => q_X9_readsSet_10 rec a.1 a.2.1 a.2.2) (fun x => q_X5_readLanguages_50 x) (fun x => q_X9_readsSet_70 x)
    (fun j x x' => ∃ lo m a' d' e', j ≤ 6 ∧ x = (d', nI lo, nI j) ∧ x' = (e', nI (97 + lo), nI j) ∧ lo ≤ 6 ∧ a ≤ a' ∧ PT n c a' d' e' ∧ m < 64 ∧ d'.1 35 0 5 = nI m ∧ e'.1 44 0 57 = nI m ∧ RF8 5 d d' ∧ RF9 57 e e')
    (fun x x' => ∃ m a', a ≤ a' ∧ PT n c a' x x' ∧ m < 64 ∧ x.1 35 0 5 = nI m ∧ x'.1 44 0 57 = nI m ∧ RF8 5 d x ∧ RF9 57 e x') 6 (by
      rintro j x x' ⟨lo, m, a', d', e', hj, rfl, rfl, hlo, haa, hP, hm, h5, h57, h8, h9⟩
      by_cases c6 : j = 6
      · subst c6
        left
        have l : (6 : Int32) ≤ nI 6 := ge_nI (n := 6) rfl (by omega) (by omega)
        refine ⟨d', e', ⟨m, a', haa, hP, hm, h5, h57, h8, h9⟩, fun rec => ?_, fun rec => ?_⟩
        · show q_X5_readLanguages_9 rec d' (nI lo) (nI 6) = _
          simp only [q_X5_readLanguages_9, l, ↓reduceIte]
        · show q_X9_readsSet_10 rec e' (nI (97 + lo)) (nI 6) = _
          simp only [q_X9_readsSet_10, l, ↓reduceIte]
      · have lj : ¬ (6 : Int32) ≤ nI j := le_nI (n := 6) rfl (by omega) (by omega)
        rcases lng hP lo hlo with ⟨v, hv1, hv2, ha, hc, r8, n9, w9⟩ | ⟨y, r8, n9, w9⟩
        · right
          refine ⟨by omega, ?_⟩
          obtain ⟨m', hm1, hm', em'⟩ := lg_dec m hm v (by omega)
          have sv : nI (97 + v) - (97 : Int32) = nI v := by
            rw [show (97 : Int32) = nI 97 from rfl, pk_sub (by omega), show 97 + v - 97 = v by omega]
          have p0 : (0 : Int32) ≤ nI v := nI_pos' (by omega)
          have o5 : (sk_wi d' 35 0 2 (nI (a' + 1))).1 35 0 5 = nI m := (wi_o (by omega)).trans h5
          have o56 : (sk_wi e' 44 0 57 (nI m')).1 44 0 56 = nI a' := (wi_o (by omega)).trans hP.2.2.2.2.2.1
          have n9' : q_X9_next (sk_wi e' 44 0 57 (nI m')) = some (nI (97 + v)) := by
            have hP' : PT n c a' d' (sk_wi e' 44 0 57 (nI m')) := hP.mk8 (fun f => rfl) rfl (fun f => wi_o (by omega)) (wi_o (by omega)) hP.2.1 hP.2.2.2.2.1 o56
            rcases nx9 hP' with ⟨_, q⟩ | ⟨q, _⟩
            · rw [q, hc]
            · exact absurd ha q
          refine ⟨(sk_wi (sk_wi d' 35 0 2 (nI (a' + 1))) 35 0 5 (nI m'), nI (v + 1), nI (j + 1)), (sk_wi (sk_wi e' 44 0 57 (nI m')) 44 0 56 (nI (a' + 1)), nI (97 + (v + 1)), nI (j + 1)), ⟨v + 1, m', a' + 1, _, _, by omega, rfl, rfl, by omega, by omega, ?_, hm', wi_e, ?_, ?_, ?_⟩, fun rec => ?_, fun rec => ?_⟩
          · exact hP.mk8 (fun f => (wi_o (by omega)).trans (wi_o (by omega))) ((wi_o (by omega)).trans (wi_o (by omega))) (fun f => (wi_o (by omega)).trans (wi_o (by omega))) ((wi_o (by omega)).trans (wi_o (by omega))) (by omega) ((wi_o (by omega)).trans wi_e) wi_e
          · exact (wi_o (by omega)).trans wi_e
          · exact h8.tr (fun s k f hs => (wi_o (by omega)).trans (wi_o (by omega)))
          · exact h9.tr (fun s k f hs => (wi_o (by omega)).trans (wi_o (by omega)))
          · show q_X5_readLanguages_9 rec d' (nI lo) (nI j) = _
            simp only [q_X5_readLanguages_9, lj, r8, p0, o5, em', s1_nI, Option.bind_some, ↓reduceIte]
          · show q_X9_readsSet_10 rec e' (nI (97 + lo)) (nI j) = _
            simp only [q_X9_readsSet_10, q_X9_readsSet_48, lj, n9, w9, i10, h57, sv, em', n9', o56, s1_nI, Option.bind_some, ↓reduceIte]
            rfl
        · left
          have p0 : ¬ (0 : Int32) ≤ -97 := by decide
          refine ⟨d', e', ⟨m, a', haa, hP, hm, h5, h57, h8, h9⟩, fun rec => ?_, fun rec => ?_⟩
          · show q_X5_readLanguages_9 rec d' (nI lo) (nI j) = _
            simp only [q_X5_readLanguages_9, lj, r8, p0, Option.bind_some, ↓reduceIte]
          · show q_X9_readsSet_10 rec e' (nI (97 + lo)) (nI j) = _
            simp only [q_X9_readsSet_10, lj, n9, w9, Option.bind_some, ↓reduceIte]) (by omega) (sk_wi d 35 0 5 0, (0 : Int32), (0 : Int32)) (sk_wi e 44 0 57 0, (97 : Int32), (0 : Int32))
    ⟨0, 0, a, sk_wi d 35 0 5 0, sk_wi e 44 0 57 0, by omega, rfl, rfl, by omega, by omega, h.mk8 (fun f => wi_o (by omega)) (wi_o (by omega)) (fun f => wi_o (by omega)) (wi_o (by omega)) h.2.1 ((wi_o (by omega)).trans h.2.2.2.2.1) ((wi_o (by omega)).trans h.2.2.2.2.2.1), by omega, wi_e, wi_e, fun s k f hs => wi_o (by omega), fun s k f hs => wi_o (by omega)⟩
  obtain ⟨x, x', ⟨m, a', haa, hP, hm, h5, h57, h8, h9⟩, k8, k9⟩ := key
  refine ⟨m, a', x, x', haa, hP, hm, h5, h57, h8, h9, ?_, ?_⟩
  · refine Eq.trans (show q_X5_readLanguages d = _ from k8) ?_
    by_cases c0 : m = 0
    · subst c0
      have : x.1 35 0 5 = 0 := h5
      simp only [q_X5_readLanguages_50, this, ↓reduceIte]
    · have : ¬ nI m = (0 : Int32) := nI_ne0 (by omega) (by omega)
      simp only [q_X5_readLanguages_50, h5, this, c0, ↓reduceIte]
  · refine Eq.trans (show q_X9_readsSet e = _ from k9) ?_
    by_cases c0 : m = 0
    · subst c0
      have z : nI 0 ≤ (0 : Int32) := by decide
      simp only [q_X9_readsSet_70, h57, z, ↓reduceIte]
    · have : ¬ nI m ≤ (0 : Int32) := nI_nle (by omega) (by omega)
      simp only [q_X9_readsSet_70, h57, this, c0, ↓reduceIte]
