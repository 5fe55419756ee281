/-! THE SIMULATION: a minute, a run *** by hand -/
/-- two families of loops in step -/
theorem it_pf {ι ι' α α' β β' γ γ' : Type} {F : ι → (α → Option β) → α → Option β} {F' : ι' → (α' → Option β') → α' → Option β'} {K : ι → γ → Option β} {K' : ι' → γ' → Option β'} {P : Nat → α → α' → Prop} {Qf : γ → γ' → Prop} {N : Nat}
    (hs : ∀ j a a', P j a a' → (∃ x x', Qf x x' ∧ (∀ i rec, F i rec a = K i x) ∧ ∀ i rec, F' i rec a' = K' i x') ∨ (j < N ∧ ∃ b b', P (j + 1) b b' ∧ (∀ i rec, F i rec a = rec b) ∧ ∀ i rec, F' i rec a' = rec b')) :
    ∀ (m i fl fl' : Nat) (a : α) (a' : α'), i + m = N → m < fl → m < fl' → P i a a' → ∃ x x', Qf x x' ∧ (∀ i, sk_it (F i) fl a = K i x) ∧ ∀ i, sk_it (F' i) fl' a' = K' i x'
  | 0, _, 0, _, _, _, _, h, _, _ => absurd h (Nat.lt_irrefl 0)
  | 0, _, _ + 1, 0, _, _, _, _, h, _ => absurd h (Nat.lt_irrefl 0)
  | m + 1, _, 0, _, _, _, _, h, _, _ => absurd h (by omega)
  | m + 1, _, _ + 1, 0, _, _, _, _, h, _ => absurd h (by omega)
  | 0, i, fl + 1, fl' + 1, a, a', hi, _, _, hp => by
    rcases hs i a a' hp with ⟨x, x', h1, h2, h3⟩ | ⟨h, _⟩
    · exact ⟨x, x', h1, fun i => h2 i _, fun i => h3 i _⟩
    · omega
  | m + 1, i, fl + 1, fl' + 1, a, a', hi, h, h', hp => by
    rcases hs i a a' hp with ⟨x, x', h1, h2, h3⟩ | ⟨_, b, b', h1, h2, h3⟩
    · exact ⟨x, x', h1, fun i => h2 i _, fun i => h3 i _⟩
    · obtain ⟨x, x', h4, h5, h6⟩ := it_pf hs m (i + 1) fl fl' b b' (by omega) (by omega) (by omega) h1
      exact ⟨x, x', h4, fun i => (h2 i _).trans (h5 i), fun i => (h3 i _).trans (h6 i)⟩
theorem it_pf0 {ι ι' α α' β β' γ γ' : Type} {F : ι → (α → Option β) → α → Option β} {F' : ι' → (α' → Option β') → α' → Option β'} (K : ι → γ → Option β) (K' : ι' → γ' → Option β') (P : Nat → α → α' → Prop) (Qf : γ → γ' → Prop) (N : Nat)
    (hs : ∀ j a a', P j a a' → (∃ x x', Qf x x' ∧ (∀ i rec, F i rec a = K i x) ∧ ∀ i rec, F' i rec a' = K' i x') ∨ (j < N ∧ ∃ b b', P (j + 1) b b' ∧ (∀ i rec, F i rec a = rec b) ∧ ∀ i rec, F' i rec a' = rec b')) (hN : N < 5000) (a : α) (a' : α') (h0 : P 0 a a') :
    ∃ x x', Qf x x' ∧ (∀ i, sk_it (F i) sk_fu a = K i x) ∧ ∀ i, sk_it (F' i) sk_fu a' = K' i x' := it_pf hs N 0 sk_fu sk_fu a a' (by omega) hN hN h0
theorem it_if {ι α β γ : Type} {F : ι → (α → Option β) → α → Option β} {K : ι → γ → Option β} {P : Nat → α → Prop} {Qf : γ → Prop} {N : Nat}
    (hs : ∀ j a, P j a → (∃ x, Qf x ∧ ∀ i rec, F i rec a = K i x) ∨ (j < N ∧ ∃ b, P (j + 1) b ∧ ∀ i rec, F i rec a = rec b)) :
    ∀ (m i fl : Nat) (a : α), i + m = N → m < fl → P i a → ∃ x, Qf x ∧ ∀ i, sk_it (F i) fl a = K i x
  | 0, _, 0, _, _, h, _ => absurd h (Nat.lt_irrefl 0)
  | m + 1, _, 0, _, _, h, _ => absurd h (by omega)
  | 0, i, fl + 1, a, hi, _, hp => by
    rcases hs i a hp with ⟨x, h1, h2⟩ | ⟨h, _⟩
    · exact ⟨x, h1, fun i => h2 i _⟩
    · omega
  | m + 1, i, fl + 1, a, hi, h, hp => by
    rcases hs i a hp with ⟨x, h1, h2⟩ | ⟨_, b, h1, h2⟩
    · exact ⟨x, h1, fun i => h2 i _⟩
    · obtain ⟨x, h4, h5⟩ := it_if hs m (i + 1) fl b (by omega) (by omega) h1
      exact ⟨x, h4, fun i => (h2 i _).trans (h5 i)⟩
theorem it_if0 {ι α β γ : Type} {F : ι → (α → Option β) → α → Option β} (K : ι → γ → Option β) (P : Nat → α → Prop) (Qf : γ → Prop) (N : Nat)
    (hs : ∀ j a, P j a → (∃ x, Qf x ∧ ∀ i rec, F i rec a = K i x) ∨ (j < N ∧ ∃ b, P (j + 1) b ∧ ∀ i rec, F i rec a = rec b)) (hN : N < 5000) (a : α) (h0 : P 0 a) : ∃ x, Qf x ∧ ∀ i, sk_it (F i) sk_fu a = K i x := it_if hs N 0 sk_fu a (by omega) hN h0
def FS8 (d d' : sk_D) : Prop := ∀ s k f, ¬ (25 ≤ s ∧ s ≤ 34) → d'.1 s k f = d.1 s k f
def FS9 (e e' : sk_D) : Prop := ∀ s k f, ¬ (85 ≤ s ∧ s ≤ 93) → e'.1 s k f = e.1 s k f
theorem FS8.tr {a b c : sk_D} (h : FS8 a b) (g : FS8 b c) : FS8 a c := fun s k f hs => (g s k f hs).trans (h s k f hs)
theorem FS9.tr {a b c : sk_D} (h : FS9 a b) (g : FS9 b c) : FS9 a c := fun s k f hs => (g s k f hs).trans (h s k f hs)
theorem FS8.rf (d : sk_D) : FS8 d d := fun _ _ _ _ => rfl
theorem FS9.rf (d : sk_D) : FS9 d d := fun _ _ _ _ => rfl
theorem SS.fs {n : Nat} {st p : Nat → Nat} {d e d' e' : sk_D} (h : SS n st p d e) (h8 : FS8 d d') (h9 : FS9 e e') : SS n st p d' e' := h.fr (fun s k f hs => h8 s k f (by omega)) (fun s k f hs => h9 s k f (by omega))
/-- the relation at the beginning of minute m -/
def MR (n : Nat) (st p : Nat → Nat) (m : Nat) (d e : sk_D) : Prop := ∃ W T A L Q, DY (fun _ => m) p W T A L Q d e ∧ IV n st (fun _ => m) p W T A L Q ∧ (∀ g, g < 4 → e.1 90 0 g = d.1 26 0 g ∧ (p g = 0 → d.1 26 0 g = 0 ∧ d.1 27 0 g = 0) ∧ ∃ w, w ≤ 21 * m ∧ d.1 26 0 g = nI w) ∧ ∀ l, l < 3 → e.1 92 0 l = d.1 28 0 l
theorem departs {d : sk_D} {j i m : Nat} (hj : j < 3) (hm : m < 180) (hi1 : 1 ≤ i) (hi : i ≤ 10) (h8 : d.1 43 j 1 = nI i) : q_X2_departsAt d j (nI m) = some (if m % i = 0 then 1 else 0) := by
  have l1 : ¬ nI i ≤ (0 : Int32) := nI_nle (by omega) (by omega)
  have l2 : ¬ nI i = (0 : Int32) := nI_ne0 (by omega) (by omega)
  have re : nI m - nI m / nI i * nI i = nI (m % i) := pk_rem (by omega) (by omega) (by omega)
  have hlt : m % i < 2 ^ 31 := Nat.lt_of_lt_of_le (Nat.mod_lt m (by omega)) (by omega)
  simp only [q_X2_departsAt, q_X2_departsAt_0, h8, l1, l2, re, not_false_eq_true, ↓reduceIte]
  by_cases c : m % i = 0
  · rw [if_pos c, c]
    rfl
  · rw [if_neg c, if_neg (nI_ne0 (by omega) hlt)]
def w9 (W : Nat → Nat) (e : sk_D) : Nat → sk_D
  | 0 => e
  | n + 1 => sk_wi (w9 W e n) 90 0 n (e.1 90 0 n + nI (W n))
theorem w9_o (W : Nat → Nat) (e : sk_D) : ∀ (n s k f : Nat), ¬ (s = 90 ∧ f < n) → (w9 W e n).1 s k f = e.1 s k f
  | 0, _, _, _, _ => rfl
  | n + 1, s, k, f, h => by
    show (sk_wi (w9 W e n) 90 0 n _).1 s k f = _
    rw [wi_o (by omega), w9_o W e n s k f (by omega)]
theorem w9_g (W : Nat → Nat) (e : sk_D) : ∀ (n k : Nat), k < n → (w9 W e n).1 90 0 k = e.1 90 0 k + nI (W k)
  | 0, k, h => absurd h (Nat.not_lt_zero _)
  | n + 1, k, h => by
    show (sk_wi (w9 W e n) 90 0 n (e.1 90 0 n + nI (W n))).1 90 0 k = _
    by_cases e1 : k = n
    · subst e1
      exact wi_e
    · rw [wi_o (by omega), w9_g W e n k (by omega)]
set_option maxHeartbeats 4000000 in
theorem minute {n : Nat} {st p : Nat → Nat} {m : Nat} {d e : sk_D} (hm : m < 180) (M : Int32) (hS : SS n st p d e) (h : MR n st p m d e) :
    ∃ d' e', MR n st p (m + 1) d' e' ∧ FS8 d d' ∧ FS9 e e' ∧ (∀ rec10 : (sk_D × Int32 × Int32 × Int32) → Option sk_D, (q_X6_joinQueues d (nI m)).bind (fun x1 => l_X6_run_27 rec10 sk_fu (x1, M, nI n, nI m, (0 : Int32))) = rec10 (d', M, nI n, nI (m + 1))) ∧
      ∀ rec6 : (sk_D × Int32 × Int32) → Option sk_D, l_X9_goThrough_13 rec6 sk_fu (e, M, nI m, (0 : Int32)) = rec6 (e', M, nI (m + 1)) := by
  obtain ⟨W, T, A, L, Q, hD, hI, h90, h92⟩ := h
  have hn3 := hS.2.1
  -- joining
  obtain ⟨d1, e1, ⟨W1, A1, L1, Q1, hD1, hI1, hz1, f8, f9⟩, j8, j9⟩ := it_pf0 (ι := Unit) (F := fun _ rec a => q_X6_joinQueues_2 rec a.1 a.2.1 a.2.2) (F' := fun rec6 rec a => q_X9_goThrough_13 rec6 rec a.1 a.2.1 a.2.2.1 a.2.2.2)
    (fun _ x => some x) (fun rec6 x => l_X9_goThrough_98 rec6 sk_fu (x, M, nI m, (0 : Int32)))
    (fun j a a' => ∃ W1 A1 L1 Q1 d1 e1, j ≤ 4 ∧ a = (d1, nI m, nI j) ∧ a' = (e1, M, nI m, nI j) ∧ DY (fun h => if h < j then m + 1 else m) p W1 T A1 L1 Q1 d1 e1 ∧ IV n st (fun h => if h < j then m + 1 else m) p W1 T A1 L1 Q1 ∧ (∀ f, d1.1 27 0 f = d.1 27 0 f) ∧ FA8 d d1 ∧ FA9 e e1)
    (fun x x' => ∃ W1 A1 L1 Q1, DY (fun _ => m + 1) p W1 T A1 L1 Q1 x x' ∧ IV n st (fun _ => m + 1) p W1 T A1 L1 Q1 ∧ (∀ f, x.1 27 0 f = d.1 27 0 f) ∧ FA8 d x ∧ FA9 e x') 4 (by
      rintro j a a' ⟨W1, A1, L1, Q1, d1, e1, hj, rfl, rfl, hD1, hI1, hz, h8, h9⟩
      by_cases c : j = 4
      · subst c
        left
        refine ⟨d1, e1, ⟨W1, A1, L1, Q1, hD1.b (fun g hg => if_pos hg), hI1.b (fun g hg => if_pos hg), hz, h8, h9⟩, fun _ rec => ?_, fun rec6 rec => ?_⟩
        · show q_X6_joinQueues_2 rec d1 (nI m) (nI 4) = some d1
          have l : (4 : Int32) ≤ nI 4 := ge_nI (n := 4) rfl (by omega) (by omega)
          simp only [q_X6_joinQueues_2, l, ↓reduceIte]
        · show q_X9_goThrough_13 rec6 rec e1 M (nI m) (nI 4) = _
          have l : (4 : Int32) ≤ nI 4 := ge_nI (n := 4) rfl (by omega) (by omega)
          simp only [q_X9_goThrough_13, l, ↓reduceIte]
      · right
        refine ⟨by omega, ?_⟩
        obtain ⟨W', A', L', Q', d', e', g1, g2, gz, g3, g4, g5, g6⟩ := join1 hm (show j < 4 by omega) (hS.fa h8 h9) hD1 hI1
        exact ⟨_, _, ⟨W', A', L', Q', d', e', by omega, rfl, rfl, g1, g2, fun f => (gz f).trans (hz f), h8.tr g3, h9.tr g4⟩, fun _ rec => g5 rec, fun rec6 rec => g6 rec6 rec M⟩) (by omega) (d, nI m, (0 : Int32)) (e, M, nI m, (0 : Int32))
    ⟨W, A, L, Q, d, e, by omega, rfl, rfl, hD.b (fun g _ => (if_neg (Nat.not_lt_zero g)).symm), hI.b (fun g _ => (if_neg (Nat.not_lt_zero g)).symm), fun _ => rfl, FA8.rf d, FA9.rf e⟩
  have hS1 := hS.fa f8 f9
  have o26 (f : Nat) : d1.1 26 0 f = d.1 26 0 f := f8 26 0 f (by omega)
  have o28 (f : Nat) : d1.1 28 0 f = d.1 28 0 f := f8 28 0 f (by omega)
  have o90 (f : Nat) : e1.1 90 0 f = e.1 90 0 f := f9 90 0 f (by omega)
  have o92 (f : Nat) : e1.1 92 0 f = e.1 92 0 f := f9 92 0 f (by omega)
  -- departing
  obtain ⟨d2, e2, ⟨W2, T2, A2, L2, Q2, hD2, hI2, hz2, hlg, g8, g9⟩, k8, k9⟩ := it_pf0 (F := fun rec10 rec a => q_X6_run_27 rec10 rec a.1 a.2.1 a.2.2.1 a.2.2.2.1 a.2.2.2.2) (F' := fun rec6 rec a => q_X9_goThrough_98 rec6 rec a.1 a.2.1 a.2.2.1 a.2.2.2)
    (fun rec10 x => l_X6_run_68 rec10 sk_fu (x, M, nI n, nI m, (0 : Int32))) (fun rec6 x => l_X9_goThrough_203 rec6 sk_fu (x, M, nI m, (0 : Int32)))
    (fun j a a' => ∃ W2 T2 A2 L2 Q2 d2 e2, j ≤ n ∧ a = (d2, M, nI n, nI m, nI j) ∧ a' = (e2, M, nI m, nI j) ∧ DY (fun _ => m + 1) p W2 T2 A2 L2 Q2 d2 e2 ∧ IV n st (fun _ => m + 1) p W2 T2 A2 L2 Q2 ∧ (∀ h, h < 4 → p h = 0 → d2.1 27 0 h = d1.1 27 0 h) ∧ (∀ x, x < 3 → (x < j → e2.1 92 0 x = mxi (d.1 28 0 x) (nI (lsn W2 Q2 x (L2 x)))) ∧ (¬ x < j → e2.1 92 0 x = d.1 28 0 x)) ∧ FA8 d1 d2 ∧ ∀ s k f, ¬ (85 ≤ s ∧ s ≤ 89 ∨ 91 ≤ s ∧ s ≤ 93) → e2.1 s k f = e1.1 s k f)
    (fun x x' => ∃ W2 T2 A2 L2 Q2, DY (fun _ => m + 1) p W2 T2 A2 L2 Q2 x x' ∧ IV n st (fun _ => m + 1) p W2 T2 A2 L2 Q2 ∧ (∀ h, h < 4 → p h = 0 → x.1 27 0 h = d1.1 27 0 h) ∧ (∀ y, y < 3 → (y < n → x'.1 92 0 y = mxi (d.1 28 0 y) (nI (lsn W2 Q2 y (L2 y)))) ∧ (¬ y < n → x'.1 92 0 y = d.1 28 0 y)) ∧ FA8 d1 x ∧ ∀ s k f, ¬ (85 ≤ s ∧ s ≤ 89 ∨ 91 ≤ s ∧ s ≤ 93) → x'.1 s k f = e1.1 s k f) n (by
      rintro j a a' ⟨W2, T2, A2, L2, Q2, d2, e2, hj, rfl, rfl, hD2, hI2, hz, hlg, h8, h9⟩
      have hS2 : SS n st p d2 e2 := hS1.fr (fun s k f hs => h8 s k f (by omega)) (fun s k f hs => h9 s k f (by omega))
      have n8 := hS2.2.2.1
      have n9 := hS2.2.2.2.1
      by_cases c : j = n
      · subst c
        left
        have l : nI j ≤ nI j := nI_le (by omega) (by omega)
        refine ⟨d2, e2, ⟨W2, T2, A2, L2, Q2, hD2, hI2, hz, hlg, h8, h9⟩, fun rec10 rec => ?_, fun rec6 rec => ?_⟩
        · show q_X6_run_27 rec10 rec d2 M (nI j) (nI m) (nI j) = _
          simp only [q_X6_run_27, l, ↓reduceIte]
        · show q_X9_goThrough_98 rec6 rec e2 M (nI m) (nI j) = _
          simp only [q_X9_goThrough_98, n9, l, ↓reduceIte]
      · right
        refine ⟨by omega, ?_⟩
        have hjn : j < n := by omega
        have ej := nI_clamp (n := j) (by omega)
        have bj : sk_bi (nI j) 3 = true := bi_nI (by omega) (by omega)
        have lj : ¬ nI n ≤ nI j := nI_ge hjn (by omega)
        obtain ⟨ss, ii, rr, hs1, hs2, hi1, hi2, hr1, hr2, e430, e68, e431, e69, e432, e70⟩ := hS2.2.2.2.2 j hjn
        have dp := departs (d := d2) (j := j) (by omega) hm hi1 hi2 e431
        have l2 : ¬ nI ii = (0 : Int32) := nI_ne0 (by omega) (by omega)
        have re : nI m - nI m / nI ii * nI ii = nI (m % ii) := pk_rem (by omega) (by omega) (by omega)
        have hlt : m % ii < 2 ^ 31 := Nat.lt_of_lt_of_le (Nat.mod_lt m (by omega)) (by omega)
        -- what is said behind the departure
        have fin : ∀ W' T' A' L' Q' d' e', DY (fun _ => m + 1) p W' T' A' L' Q' d' e' → IV n st (fun _ => m + 1) p W' T' A' L' Q' → OL j W2 L2 Q2 W' L' Q' → (∀ h, h < 4 → p h = 0 → d'.1 27 0 h = d2.1 27 0 h) → FA8 d2 d' → FA9 e2 e' →
            (∀ rec10 rec, q_X6_run_27 rec10 rec d2 M (nI n) (nI m) (nI j) = rec (d', M, nI n, nI m, nI (j + 1))) → (∀ rec6 rec, q_X9_goThrough_98 rec6 rec e2 M (nI m) (nI j) = l_X9_goThrough_129 rec6 rec sk_fu (e', M, nI m, nI j, (0 : Int32), (0 : Int32))) →
            ∃ b b', (∃ W2 T2 A2 L2 Q2 d2 e2, j + 1 ≤ n ∧ b = (d2, M, nI n, nI m, nI (j + 1)) ∧ b' = (e2, M, nI m, nI (j + 1)) ∧ DY (fun _ => m + 1) p W2 T2 A2 L2 Q2 d2 e2 ∧ IV n st (fun _ => m + 1) p W2 T2 A2 L2 Q2 ∧ (∀ h, h < 4 → p h = 0 → d2.1 27 0 h = d1.1 27 0 h) ∧ (∀ x, x < 3 → (x < j + 1 → e2.1 92 0 x = mxi (d.1 28 0 x) (nI (lsn W2 Q2 x (L2 x)))) ∧ (¬ x < j + 1 → e2.1 92 0 x = d.1 28 0 x)) ∧ FA8 d1 d2 ∧ ∀ s k f, ¬ (85 ≤ s ∧ s ≤ 89 ∨ 91 ≤ s ∧ s ≤ 93) → e2.1 s k f = e1.1 s k f) ∧
              (∀ rec10 rec, q_X6_run_27 rec10 rec d2 M (nI n) (nI m) (nI j) = rec b) ∧ ∀ rec6 rec, q_X9_goThrough_98 rec6 rec e2 M (nI m) (nI j) = rec b' := by
          intro W' T' A' L' Q' d' e' q1 q2 q3 qz q4 q5 q6 q7
          have hL4 := q2.2.1 j (by omega)
          have h92' : e'.1 92 0 j = d.1 28 0 j := (q5 92 0 j (by omega)).trans ((hlg j (by omega)).2 (Nat.lt_irrefl j))
          refine ⟨_, _, ⟨W', T', A', L', Q', d', sk_wi e' 92 0 j (mxi (e'.1 92 0 j) (nI (lsn W' Q' j (L' j)))), by omega, rfl, rfl, ?_, q2, fun h hh hp => (qz h hh hp).trans (hz h hh hp), fun x hx => ?_, h8.tr q4, fun s k f hs => ?_⟩, q6, fun rec6 rec => ?_⟩
          · exact q1.fr (fun _ _ _ _ => rfl) (fun s k f hs => wi_o (by omega))
          · by_cases ex : x = j
            · subst ex
              rw [wi_e, h92']
              exact ⟨fun _ => rfl, fun hc => absurd (Nat.lt_succ_self x) hc⟩
            · rw [wi_o (by omega), q5 92 0 x (by omega)]
              obtain ⟨b1, b2⟩ := hlg x hx
              refine ⟨fun hc => ?_, fun hc => b2 (by omega)⟩
              obtain ⟨a1, a2, a3⟩ := q3 x hx ex
              rw [b1 (by omega), a1]
              congr 2
              exact (lsn_congr (fun i hi => by rw [a2 i, a3 i hi])).symm
          · rw [wi_o (by omega), q5 s k f (by omega)]
            exact h9 s k f hs
          · rw [q7 rec6 rec]
            exact len9 (by omega) q1 hL4.1 (fun k hk => (hL4.2 k hk).1) rec6 rec M (nI m)
        by_cases c0 : m % ii = 0
        · have z0 : nI (m % ii) = (0 : Int32) := by rw [c0]; rfl
          rw [if_pos c0] at dp
          obtain ⟨W', T', A', L', Q', d', e', q1, q2, q3, qz, q4, q5, q6, q7⟩ := depL hm hjn hS2 hD2 hI2
          refine fin W' T' A' L' Q' d' e' q1 q2 q3 qz q4 q5 (fun rec10 rec => ?_) (fun rec6 rec => ?_)
          · simp only [q_X6_run_27, q_X6_run_59, lj, bj, ej, dp, i10, q6, s1_nI, Option.bind_some, ↓reduceIte]
          · simp only [q_X9_goThrough_98, q_X9_goThrough_123, n9, lj, bj, ej, e69, l2, re, z0, q7, Option.bind_some, not_false_eq_true, ↓reduceIte]
        · have z0 : ¬ nI (m % ii) = (0 : Int32) := nI_ne0 (by omega) hlt
          rw [if_neg c0] at dp
          refine fin W2 T2 A2 L2 Q2 d2 e2 hD2 hI2 (OL.rf _ _ _ _) (fun _ _ _ => rfl) (FA8.rf d2) (FA9.rf e2) (fun rec10 rec => ?_) (fun rec6 rec => ?_)
          · simp only [q_X6_run_27, q_X6_run_59, lj, bj, ej, dp, s1_nI, Option.bind_some, ↓reduceIte]
          · simp only [q_X9_goThrough_98, q_X9_goThrough_123, n9, lj, bj, ej, e69, l2, re, z0, not_false_eq_true, ↓reduceIte]) (by omega) (d1, M, nI n, nI m, (0 : Int32)) (e1, M, nI m, (0 : Int32))
    ⟨W1, T, A1, L1, Q1, d1, e1, Nat.zero_le _, rfl, rfl, hD1, hI1, fun _ _ _ => rfl, fun x hx => ⟨fun hc => absurd hc (Nat.not_lt_zero _), fun _ => (o92 x).trans (h92 x hx)⟩, FA8.rf d1, fun _ _ _ _ => rfl⟩
  -- waiting, in the class
  obtain ⟨d3, ⟨v1, v2, v3⟩, w8⟩ := it_if0 (F := fun rec10 rec a => q_X6_run_68 rec10 rec a.1 a.2.1 a.2.2.1 a.2.2.2.1 a.2.2.2.2)
    (fun rec10 x => rec10 (x, M, nI n, nI (m + 1)))
    (fun j a => ∃ d3, j ≤ n ∧ a = (d3, M, nI n, nI m, nI j) ∧ (∀ x, x < 3 → (x < j → d3.1 28 0 x = mxi (d.1 28 0 x) (nI (lsn W2 Q2 x (L2 x)))) ∧ (¬ x < j → d3.1 28 0 x = d.1 28 0 x)) ∧ (∀ g, ((∃ l k, l < j ∧ k < L2 l ∧ Q2 l k = g) → d3.1 26 0 g = d.1 26 0 g + nI (W2 g)) ∧ ((∀ l k, l < j → k < L2 l → Q2 l k ≠ g) → d3.1 26 0 g = d.1 26 0 g)) ∧ ∀ s k f, ¬ (s = 26 ∨ s = 28) → d3.1 s k f = d2.1 s k f)
    (fun x => (∀ y, y < 3 → (y < n → x.1 28 0 y = mxi (d.1 28 0 y) (nI (lsn W2 Q2 y (L2 y)))) ∧ (¬ y < n → x.1 28 0 y = d.1 28 0 y)) ∧ (∀ g, ((∃ l k, l < n ∧ k < L2 l ∧ Q2 l k = g) → x.1 26 0 g = d.1 26 0 g + nI (W2 g)) ∧ ((∀ l k, l < n → k < L2 l → Q2 l k ≠ g) → x.1 26 0 g = d.1 26 0 g)) ∧ ∀ s k f, ¬ (s = 26 ∨ s = 28) → x.1 s k f = d2.1 s k f) n (by
      rintro j a ⟨d3, hj, rfl, hlg3, hwd, hf⟩
      by_cases c : j = n
      · subst c
        left
        have l : nI j ≤ nI j := nI_le (by omega) (by omega)
        refine ⟨d3, ⟨hlg3, hwd, hf⟩, fun rec10 rec => ?_⟩
        show q_X6_run_68 rec10 rec d3 M (nI j) (nI m) (nI j) = _
        simp only [q_X6_run_68, l, s1_nI, ↓reduceIte]
      · have hjn : j < n := by omega
        have lj : ¬ nI n ≤ nI j := nI_ge hjn (by omega)
        have hD3 : DY (fun _ => m + 1) p W2 T2 A2 L2 Q2 d3 e2 := hD2.fr hf (fun _ _ _ _ => rfl)
        have hL4 := hI2.2.1 j (by omega)
        obtain ⟨d4, r1, r2, r3, r4, r5⟩ := wait8 (show j < 3 by omega) hD3 hL4.1 (fun k hk => (hL4.2 k hk).1) (fun k k' hk hk' q => (hI2.2.2 j k j k' (by omega) (by omega) hk hk' q).2)
        right
        refine ⟨hjn, _, ⟨d4, by omega, rfl, fun x hx => ?_, fun g => ?_, fun s k f hs => (r5 s k f hs).trans (hf s k f hs)⟩, fun rec10 rec => ?_⟩
        · by_cases ex : x = j
          · subst ex
            rw [r2, (hlg3 x hx).2 (Nat.lt_irrefl x)]
            exact ⟨fun _ => rfl, fun hc => absurd (Nat.lt_succ_self x) hc⟩
          · rw [r3 x ex]
            exact ⟨fun hc => (hlg3 x hx).1 (by omega), fun hc => (hlg3 x hx).2 (by omega)⟩
        · obtain ⟨t1, t2⟩ := r4 g
          obtain ⟨t3, t4⟩ := hwd g
          refine ⟨fun ⟨l, k, hl, hk, q⟩ => ?_, fun hno => ?_⟩
          · by_cases el : l = j
            · subst el
              rw [t1 ⟨k, hk, q⟩, t4 (fun l' k' hl' hk' q' => by
                have := (hI2.2.2 l' k' l k (by omega) (by omega) hk' hk (q'.trans q.symm)).1
                omega)]
            · rw [t2 (fun k' hk' q' => el (hI2.2.2 l k j k' (by omega) (by omega) hk hk' (q.trans q'.symm)).1), t3 ⟨l, k, by omega, hk, q⟩]
          · rw [t2 (fun k' hk' => hno j k' (by omega) hk'), t4 (fun l k hl hk => hno l k (by omega) hk)]
        · show q_X6_run_68 rec10 rec d3 M (nI n) (nI m) (nI j) = _
          simp only [q_X6_run_68, lj, r1, s1_nI, Option.bind_some, ↓reduceIte]) (by omega) (d2, M, nI n, nI m, (0 : Int32))
    ⟨d2, Nat.zero_le _, rfl, fun x hx => ⟨fun hc => absurd hc (Nat.not_lt_zero _), fun _ => (g8 28 0 x (by omega)).trans (o28 x)⟩, fun g => ⟨fun ⟨l, k, hl, _⟩ => absurd hl (Nat.not_lt_zero _), fun _ => (g8 26 0 g (by omega)).trans (o26 g)⟩, fun _ _ _ _ => rfl⟩
  -- waiting, in the reference
  have w9e : ∀ rec6 : (sk_D × Int32 × Int32) → Option sk_D, l_X9_goThrough_203 rec6 sk_fu (e2, M, nI m, (0 : Int32)) = rec6 (w9 W2 e2 4, M, nI (m + 1)) := by
    intro rec6
    refine it_for0 (F := fun rec a => q_X9_goThrough_203 rec6 rec a.1 a.2.1 a.2.2.1 a.2.2.2) (fun i => (w9 W2 e2 i, M, nI m, nI i)) 4 (fun j hj rec => ?_) (fun rec => ?_) (by omega)
    · show q_X9_goThrough_203 rec6 rec (w9 W2 e2 j) M (nI m) (nI j) = rec (w9 W2 e2 (j + 1), M, nI m, nI (j + 1))
      have ej := nI_clamp (n := j) (by omega)
      have bj : sk_bi (nI j) 4 = true := bi_nI (by omega) (by omega)
      have lj : ¬ (4 : Int32) ≤ nI j := le_nI (n := 4) rfl hj (by omega)
      have q90 : (w9 W2 e2 j).1 90 0 j = e2.1 90 0 j := w9_o W2 e2 j 90 0 j (by omega)
      have q85 : (w9 W2 e2 j).1 85 0 j = nI (W2 j) := (w9_o W2 e2 j 85 0 j (by omega)).trans (hD2.1 j hj).2.2.2.1
      simp only [q_X9_goThrough_203, lj, bj, ej, q90, q85, s1_nI, w9, ↓reduceIte]
    · show q_X9_goThrough_203 rec6 rec (w9 W2 e2 4) M (nI m) (nI 4) = _
      have l : (4 : Int32) ≤ nI 4 := ge_nI (n := 4) rfl (by omega) (by omega)
      simp only [q_X9_goThrough_203, l, s1_nI, ↓reduceIte]
  refine ⟨d3, w9 W2 e2 4, ⟨W2, T2, A2, L2, Q2, ?_, hI2, fun g hg => ?_, fun x hx => ?_⟩, ?_, ?_, fun rec10 => ?_, fun rec6 => ?_⟩
  · exact hD2.fr v3 (fun s k f hs => w9_o W2 e2 4 s k f (by omega))
  · have q90 : (w9 W2 e2 4).1 90 0 g = d.1 26 0 g + nI (W2 g) := by
      rw [w9_g W2 e2 4 g hg, g9 90 0 g (by omega), o90, (h90 g hg).1]
    obtain ⟨t1, t2⟩ := v2 g
    have q26 : d3.1 26 0 g = d.1 26 0 g + nI (W2 g) := by
      by_cases hw : W2 g = 0
      · rw [t2 (fun l k hl hk q => (hI2.2.1 l (by omega)).2 k hk |>.2 (by rw [q]; exact hw)), hw]
        exact (Int32.add_zero _).symm
      · obtain ⟨_, l, k, hl, hk, q⟩ := (hI2.1 g hg).2.2.2.2.2 hw
        exact t1 ⟨l, k, hl, hk, q⟩
    refine ⟨q90.trans q26.symm, fun hp => ?_, ?_⟩
    rotate_left
    · obtain ⟨w, hw, ew⟩ := (h90 g hg).2.2
      refine ⟨w + W2 g, ?_, ?_⟩
      · have h1 := (hI2.1 g hg).2.1
        have h2 := (hS.1 g hg).1
        omega
      · rw [q26, ew, nI_add]
    obtain ⟨z1, z2⟩ := (h90 g hg).2.1 hp
    have hw0 : W2 g = 0 := by
      have := (hI2.1 g hg).2.1
      omega
    refine ⟨?_, ?_⟩
    · rw [q26, z1, hw0]
      rfl
    · rw [v3 27 0 g (by omega), hz2 g hg hp, hz1 g]
      exact z2
  · rw [w9_o W2 e2 4 92 0 x (by omega)]
    by_cases c : x < n
    · rw [(hlg x hx).1 c, (v1 x hx).1 c]
    · rw [(hlg x hx).2 c, (v1 x hx).2 c]
  · intro s k f hs
    rw [v3 s k f (by omega), g8 s k f (by omega), f8 s k f (by omega)]
  · intro s k f hs
    rw [w9_o W2 e2 4 s k f (by omega), g9 s k f (by omega), f9 s k f (by omega)]
  · have hj8 : q_X6_joinQueues d (nI m) = some d1 := j8 ()
    rw [hj8, Option.bind_some]
    exact (k8 rec10).trans (w8 rec10)
  · exact (j9 rec6).trans ((k9 rec6).trans (w9e rec6))
/-- the whole run -/
theorem runs {n : Nat} {st p : Nat → Nat} {M : Nat} {d e : sk_D} (hM : M ≤ 180) (hS : SS n st p d e) (h : MR n st p 0 d e) : ∃ d' e', MR n st p M d' e' ∧ FS8 d d' ∧ FS9 e e' ∧ q_X6_run d (nI n) (nI M) = some d' ∧ l_X9_goThrough_6 sk_fu (e, nI M, (0 : Int32)) = some e' := by
  have hn3 := hS.2.1
  have key := it_pr0 (F := fun rec a => q_X6_run_10 rec a.1 a.2.1 a.2.2.1 a.2.2.2) (F' := fun rec a => q_X9_goThrough_6 rec a.1 a.2.1 a.2.2) (fun x => some x) (fun x => some x)
    (fun j a a' => ∃ d1 e1, j ≤ M ∧ a = (d1, nI M, nI n, nI j) ∧ a' = (e1, nI M, nI j) ∧ MR n st p j d1 e1 ∧ FS8 d d1 ∧ FS9 e e1)
    (fun x x' => MR n st p M x x' ∧ FS8 d x ∧ FS9 e x') M (by
      rintro j a a' ⟨d1, e1, hj, rfl, rfl, hR, h8, h9⟩
      by_cases c : j = M
      · subst c
        left
        have l : nI j ≤ nI j := nI_le (by omega) (by omega)
        refine ⟨d1, e1, ⟨hR, h8, h9⟩, fun rec => ?_, fun rec => ?_⟩
        · show q_X6_run_10 rec d1 (nI j) (nI n) (nI j) = _
          simp only [q_X6_run_10, l, ↓reduceIte]
        · show q_X9_goThrough_6 rec e1 (nI j) (nI j) = _
          simp only [q_X9_goThrough_6, l, ↓reduceIte]
      · right
        refine ⟨by omega, ?_⟩
        have lj : ¬ nI M ≤ nI j := nI_ge (by omega) (by omega)
        obtain ⟨d', e', q1, q2, q3, q4, q5⟩ := minute (show j < 180 by omega) (nI M) (hS.fs h8 h9) hR
        refine ⟨_, _, ⟨d', e', by omega, rfl, rfl, q1, h8.tr q2, h9.tr q3⟩, fun rec => ?_, fun rec => ?_⟩
        · show q_X6_run_10 rec d1 (nI M) (nI n) (nI j) = _
          unfold q_X6_run_10
          rw [if_neg lj]
          exact q4 rec
        · show q_X9_goThrough_6 rec e1 (nI M) (nI j) = _
          unfold q_X9_goThrough_6
          rw [if_neg lj]
          exact q5 rec) (by omega) (d, nI M, nI n, (0 : Int32)) (e, nI M, (0 : Int32)) ⟨d, e, Nat.zero_le _, rfl, rfl, h, FS8.rf d, FS9.rf e⟩
  obtain ⟨x, x', ⟨q1, q2, q3⟩, q4, q5⟩ := key
  refine ⟨x, x', q1, q2, q3, ?_, q5⟩
  have hmin : (if (3 : Int32) < nI n then (3 : Int32) else nI n) = nI n := by
    rw [if_neg]
    exact nI_nlt (a := 3) (b := n) |> fun h => (nI_nlt (b := n) (a := 3) (by omega) (by omega) |> fun h2 => by
      intro q
      rw [show (3 : Int32) = nI 3 from rfl, nI_ltI (by omega) (by omega)] at q
      omega)
  unfold q_X6_run q_X6_run_0
  rw [hmin]
  exact q4
