/-! THE SIMULATION: a minute, a run *** by hand -/
/-- two families of loops in step -/
theorem it_pf {ι ι' α α' β β' γ γ' : Type} {F : ι → (α → Option β) → α → Option β} {F' : ι' → (α' → Option β') → α' → Option β'} {K : ι → γ → Option β} {K' : ι' → γ' → Option β'} {P : Nat → α → α' → Prop} {Qf : γ → γ' → Prop} {N : Nat}
    (hs : ∀ j a a', P j a a' → (∃ x x', Qf x x' ∧ (∀ i rec, F i rec a = K i x) ∧ ∀ i rec, F' i rec a' = K' i x') ∨ (j < N ∧ ∃ b b', P (j + 1) b b' ∧ (∀ i rec, F i rec a = rec b) ∧ ∀ i rec, F' i rec a' = rec b')) :
    ∀ (m i fl fl' : Nat) (a : α) (a' : α'), i + m = N → m < fl → m < fl' → P i a a' → ∃ x x', Qf x x' ∧ (∀ i, sk_it (F i) fl a = K i x) ∧ ∀ i, sk_it (F' i) fl' a' = K' i x'
  | 0, _, 0, _, _, _, _, h, _, _ => absurd h (Nat.lt_irrefl 0)
  | 0, _, _ + 1, 0, _, _, _, _, h, _ => absurd h (Nat.lt_irrefl 0)
  | m + 1, _, 0, _, _, _, _, h, _, _ => absurd h (by omega)
  | m + 1, _, _ + 1, 0, _, _, _, _, h, _ => absurd h (by omega)
  | 0, i, fl + 1, fl' + 1, a, a', hi, _, _, hp => by
    rcases hs i a a' hp with ⟨x, x', h1, h2, h3⟩ | ⟨h, _⟩
    · exact ⟨x, x', h1, fun i => h2 i _, fun i => h3 i _⟩
    · omega
  | m + 1, i, fl + 1, fl' + 1, a, a', hi, h, h', hp => by
    rcases hs i a a' hp with ⟨x, x', h1, h2, h3⟩ | ⟨_, b, b', h1, h2, h3⟩
    · exact ⟨x, x', h1, fun i => h2 i _, fun i => h3 i _⟩
    · obtain ⟨x, x', h4, h5, h6⟩ := it_pf hs m (i + 1) fl fl' b b' (by omega) (by omega) (by omega) h1
      exact ⟨x, x', h4, fun i => (h2 i _).trans (h5 i), fun i => (h3 i _).trans (h6 i)⟩
theorem it_pf0 {ι ι' α α' β β' γ γ' : Type} {F : ι → (α → Option β) → α → Option β} {F' : ι' → (α' → Option β') → α' → Option β'} (K : ι → γ → Option β) (K' : ι' → γ' → Option β') (P : Nat → α → α' → Prop) (Qf : γ → γ' → Prop) (N : Nat)
    (hs : ∀ j a a', P j a a' → (∃ x x', Qf x x' ∧ (∀ i rec, F i rec a = K i x) ∧ ∀ i rec, F' i rec a' = K' i x') ∨ (j < N ∧ ∃ b b', P (j + 1) b b' ∧ (∀ i rec, F i rec a = rec b) ∧ ∀ i rec, F' i rec a' = rec b')) (hN : N < 20000) (a : α) (a' : α') (h0 : P 0 a a') :
    ∃ x x', Qf x x' ∧ (∀ i, sk_it (F i) sk_fu a = K i x) ∧ ∀ i, sk_it (F' i) sk_fu a' = K' i x' := it_pf hs N 0 sk_fu sk_fu a a' (by omega) hN hN h0
theorem it_if {ι α β γ : Type} {F : ι → (α → Option β) → α → Option β} {K : ι → γ → Option β} {P : Nat → α → Prop} {Qf : γ → Prop} {N : Nat}
    (hs : ∀ j a, P j a → (∃ x, Qf x ∧ ∀ i rec, F i rec a = K i x) ∨ (j < N ∧ ∃ b, P (j + 1) b ∧ ∀ i rec, F i rec a = rec b)) :
    ∀ (m i fl : Nat) (a : α), i + m = N → m < fl → P i a → ∃ x, Qf x ∧ ∀ i, sk_it (F i) fl a = K i x
  | 0, _, 0, _, _, h, _ => absurd h (Nat.lt_irrefl 0)
  | m + 1, _, 0, _, _, h, _ => absurd h (by omega)
  | 0, i, fl + 1, a, hi, _, hp => by
    rcases hs i a hp with ⟨x, h1, h2⟩ | ⟨h, _⟩
    · exact ⟨x, h1, fun i => h2 i _⟩
    · omega
  | m + 1, i, fl + 1, a, hi, h, hp => by
    rcases hs i a hp with ⟨x, h1, h2⟩ | ⟨_, b, h1, h2⟩
    · exact ⟨x, h1, fun i => h2 i _⟩
    · obtain ⟨x, h4, h5⟩ := it_if hs m (i + 1) fl b (by omega) (by omega) h1
      exact ⟨x, h4, fun i => (h2 i _).trans (h5 i)⟩
theorem it_if0 {ι α β γ : Type} {F : ι → (α → Option β) → α → Option β} (K : ι → γ → Option β) (P : Nat → α → Prop) (Qf : γ → Prop) (N : Nat)
    (hs : ∀ j a, P j a → (∃ x, Qf x ∧ ∀ i rec, F i rec a = K i x) ∨ (j < N ∧ ∃ b, P (j + 1) b ∧ ∀ i rec, F i rec a = rec b)) (hN : N < 20000) (a : α) (h0 : P 0 a) : ∃ x, Qf x ∧ ∀ i, sk_it (F i) sk_fu a = K i x := it_if hs N 0 sk_fu a (by omega) hN h0
def FS8 (d d' : sk_D) : Prop := ∀ s k f, ¬ (25 ≤ s ∧ s ≤ 34) → d'.1 s k f = d.1 s k f
def FS9 (e e' : sk_D) : Prop := ∀ s k f, ¬ (85 ≤ s ∧ s ≤ 93) → e'.1 s k f = e.1 s k f
theorem FS8.tr {a b c : sk_D} (h : FS8 a b) (g : FS8 b c) : FS8 a c := fun s k f hs => (g s k f hs).trans (h s k f hs)
theorem FS9.tr {a b c : sk_D} (h : FS9 a b) (g : FS9 b c) : FS9 a c := fun s k f hs => (g s k f hs).trans (h s k f hs)
theorem FS8.rf (d : sk_D) : FS8 d d := fun _ _ _ _ => rfl
theorem FS9.rf (d : sk_D) : FS9 d d := fun _ _ _ _ => rfl
theorem SS.fs {n : Nat} {st p : Nat → Nat} {d e d' e' : sk_D} (h : SS n st p d e) (h8 : FS8 d d') (h9 : FS9 e e') : SS n st p d' e' := h.fr (fun s k f hs => h8 s k f (by omega)) (fun s k f hs => h9 s k f (by omega))
/-- the relation at the beginning of minute m -/
def MR (n : Nat) (st p : Nat → Nat) (m : Nat) (d e : sk_D) : Prop := ∃ W T A L Q, DY (fun _ => m) p W T A L Q d e ∧ IV n st (fun _ => m) p W T A L Q ∧ (∀ g, g < 4 → e.1 90 0 g = d.1 26 0 g ∧ (p g = 0 → d.1 26 0 g = 0 ∧ d.1 27 0 g = 0) ∧ ∃ w, w ≤ 21 * m ∧ d.1 26 0 g = nI w) ∧ ∀ l, l < 3 → e.1 92 0 l = d.1 28 0 l
theorem departs {d : sk_D} {j i m : Nat} (hj : j < 3) (hm : m < 180) (hi1 : 1 ≤ i) (hi : i ≤ 10) (h8 : d.1 43 j 1 = nI i) : q_X2_departsAt d j (nI m) = some (if m % i = 0 then 1 else 0) := by
  have l1 : ¬ nI i ≤ (0 : Int32) := nI_nle (by omega) (by omega)
  have l2 : ¬ nI i = (0 : Int32) := nI_ne0 (by omega) (by omega)
  have re : nI m - nI m / nI i * nI i = nI (m % i) := pk_rem (by omega) (by omega) (by omega)
  have hlt : m % i < 2 ^ 31 := Nat.lt_of_lt_of_le (Nat.mod_lt m (by omega)) (by omega)
  simp only [q_X2_departsAt, q_X2_departsAt_0, h8, l1, l2, re, not_false_eq_true, ↓reduceIte]
  by_cases c : m % i = 0
  · rw [if_pos c, c]
    rfl
  · rw [if_neg c, if_neg (nI_ne0 (by omega) hlt)]
def w9 (W : Nat → Nat) (e : sk_D) : Nat → sk_D
  | 0 => e
  | n + 1 => sk_wi (w9 W e n) 90 0 n (e.1 90 0 n + nI (W n))
theorem w9_o (W : Nat → Nat) (e : sk_D) : ∀ (n s k f : Nat), ¬ (s = 90 ∧ f < n) → (w9 W e n).1 s k f = e.1 s k f
  | 0, _, _, _, _ => rfl
  | n + 1, s, k, f, h => by
    show (sk_wi (w9 W e n) 90 0 n _).1 s k f = _
    rw [wi_o (by omega), w9_o W e n s k f (by omega)]
theorem w9_g (W : Nat → Nat) (e : sk_D) : ∀ (n k : Nat), k < n → (w9 W e n).1 90 0 k = e.1 90 0 k + nI (W k)
  | 0, k, h => absurd h (Nat.not_lt_zero _)
  | n + 1, k, h => by
    show (sk_wi (w9 W e n) 90 0 n (e.1 90 0 n + nI (W n))).1 90 0 k = _
    by_cases e1 : k = n
    · subst e1
      exact wi_e
    · rw [wi_o (by omega), w9_g W e n k (by omega)]
