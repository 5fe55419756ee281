/-! PURE FACTS: loops with a trace, ranges, counts *** by hand -/
theorem it_for {α β : Type} {F : (α → Option β) → α → Option β} {A : Nat → α} {N : Nat} {r : Option β}
    (hs : ∀ j, j < N → ∀ rec, F rec (A j) = rec (A (j + 1))) (he : ∀ rec, F rec (A N) = r) :
    ∀ (m i fl : Nat), i + m = N → m < fl → sk_it F fl (A i) = r
  | 0, _, 0, _, h => absurd h (Nat.lt_irrefl 0)
  | 0, i, fl + 1, hi, _ => by
    have e : i = N := by omega
    subst e
    exact he _
  | m + 1, _, 0, _, h => absurd h (by omega)
  | m + 1, i, fl + 1, hi, h => by
    show F (sk_it F fl) (A i) = r
    rw [hs i (by omega)]
    exact it_for hs he m (i + 1) fl (by omega) (by omega)
theorem it_for0 {α β : Type} {F : (α → Option β) → α → Option β} (A : Nat → α) (N : Nat) {r : Option β}
    (hs : ∀ j, j < N → ∀ rec, F rec (A j) = rec (A (j + 1))) (he : ∀ rec, F rec (A N) = r) (hN : N < 20000) : sk_it F sk_fu (A 0) = r := it_for hs he N 0 sk_fu (by omega) hN
theorem it_inv {α β : Type} {F : (α → Option β) → α → Option β} {P : Nat → α → Prop} {Q : β → Prop} {N : Nat}
    (hs : ∀ j a, j < N → P j a → ∃ b, P (j + 1) b ∧ ∀ rec, F rec a = rec b) (he : ∀ a, P N a → ∃ r, Q r ∧ ∀ rec, F rec a = some r) :
    ∀ (m i fl : Nat) (a : α), i + m = N → m < fl → P i a → ∃ r, sk_it F fl a = some r ∧ Q r
  | 0, _, 0, _, _, h, _ => absurd h (Nat.lt_irrefl 0)
  | 0, i, fl + 1, a, hi, _, hp => by
    have e : i = N := by omega
    subst e
    obtain ⟨r, h1, h2⟩ := he a hp
    exact ⟨r, h2 _, h1⟩
  | m + 1, _, 0, _, _, h, _ => absurd h (by omega)
  | m + 1, i, fl + 1, a, hi, h, hp => by
    obtain ⟨b, h1, h2⟩ := hs i a (by omega) hp
    obtain ⟨r, h3, h4⟩ := it_inv hs he m (i + 1) fl b (by omega) (by omega) h1
    exact ⟨r, (h2 _).trans h3, h4⟩
theorem it_inv0 {α β : Type} {F : (α → Option β) → α → Option β} (P : Nat → α → Prop) (Q : β → Prop) (N : Nat)
    (hs : ∀ j a, j < N → P j a → ∃ b, P (j + 1) b ∧ ∀ rec, F rec a = rec b) (he : ∀ a, P N a → ∃ r, Q r ∧ ∀ rec, F rec a = some r) (hN : N < 20000) (a : α) (h0 : P 0 a) : ∃ r, sk_it F sk_fu a = some r ∧ Q r := it_inv hs he N 0 sk_fu a (by omega) hN h0
theorem bi_nI {k n : Nat} (h : k < n) (hn : n ≤ 2 ^ 31) : sk_bi (nI k) n = true := by
  unfold sk_bi
  rw [decide_eq_true_eq]
  have e := nI_clamp (n := k) (by omega)
  have h2 := nI_pos (n := k) (by omega)
  rw [e]
  rintro (q | q)
  · exact h2 q
  · omega
theorem i10 : ((1 : Int32) = 0) = False := eq_false (by decide)
/-- an argument's range -/
theorem wi_cases (a lo hi : Int32) (L H : Nat) (hl : lo = nI L) (hh : hi = nI H) (hH : L < 2 ^ 31 ∧ H < 2 ^ 31) :
    ((∀ d, q_X8_within d a lo hi = some 0) ∧ True) ∨ ∃ k, L ≤ k ∧ k ≤ H ∧ a = nI k ∧ (∀ d, q_X8_within d (nI k) lo hi = some 1) ∧ True := by
  subst hl hh
  by_cases h1 : a < nI L
  · left
    refine ⟨fun d => ?_, trivial⟩
    simp only [q_X8_within, q_X8_within_0, h1, ↓reduceIte]
  by_cases h2 : nI H < a
  · left
    refine ⟨fun d => ?_, trivial⟩
    simp only [q_X8_within, q_X8_within_0, h1, h2, ↓reduceIte]
  right
  have h3 : ¬ a < 0 := by
    intro h
    rw [Int32.lt_iff_toInt_lt] at h h1
    rw [nI_toInt hH.1] at h1
    have h0 : (0 : Int32).toInt = 0 := by decide
    omega
  obtain ⟨k, hk, rfl⟩ := nI_of h3
  rw [nI_ltI hk hH.1] at h1
  rw [nI_ltI hH.2 hk] at h2
  refine ⟨k, by omega, by omega, rfl, fun d => ?_, trivial⟩
  simp only [q_X8_within, q_X8_within_0, nI_ltI hk hH.1, nI_ltI hH.2 hk, h1, h2, ↓reduceIte]
theorem wi_in (k : Nat) {a lo hi : Int32} (L H : Nat) (ha : a = nI k) (hl : lo = nI L) (hh : hi = nI H) (h1 : L ≤ k) (h2 : k ≤ H) (hH : H < 2 ^ 31) : (∀ d, q_X8_within d a lo hi = some 1) ∧ True := by
  subst ha hl hh
  have e1 : ¬ nI k < nI L := by rw [nI_ltI (by omega) (by omega)]; omega
  have e2 : ¬ nI H < nI k := by rw [nI_ltI (by omega) (by omega)]; omega
  refine ⟨fun d => ?_, trivial⟩
  simp only [q_X8_within, q_X8_within_0, e1, e2, ↓reduceIte]
/-- how many of the first n -/
def kc (p : Nat → Bool) : Nat → Int32
  | 0 => 0
  | n + 1 => if p n then kc p n + 1 else kc p n
def kn (p : Nat → Bool) : Nat → Nat
  | 0 => 0
  | n + 1 => if p n then kn p n + 1 else kn p n
theorem kn_le (p : Nat → Bool) : ∀ n, kn p n ≤ n
  | 0 => Nat.le_refl 0
  | n + 1 => by
    have := kn_le p n
    show (if p n then kn p n + 1 else kn p n) ≤ n + 1
    split <;> omega
theorem kc_kn (p : Nat → Bool) : ∀ n, kc p n = nI (kn p n)
  | 0 => rfl
  | n + 1 => by
    show (if p n then kc p n + 1 else kc p n) = nI (if p n then kn p n + 1 else kn p n)
    rw [kc_kn p n]
    split
    · exact nI_1 _
    · rfl
theorem kc_congr {p q : Nat → Bool} : ∀ {n : Nat}, (∀ i, i < n → p i = q i) → kc p n = kc q n
  | 0, _ => rfl
  | n + 1, h => by
    show (if p n then kc p n + 1 else kc p n) = (if q n then kc q n + 1 else kc q n)
    rw [kc_congr (n := n) (fun i hi => h i (by omega)), h n (by omega)]
theorem kn_congr {p q : Nat → Bool} : ∀ {n : Nat}, (∀ i, i < n → p i = q i) → kn p n = kn q n
  | 0, _ => rfl
  | n + 1, h => by
    show (if p n then kn p n + 1 else kn p n) = (if q n then kn q n + 1 else kn q n)
    rw [kn_congr (n := n) (fun i hi => h i (by omega)), h n (by omega)]
theorem kn_all {p : Nat → Bool} : ∀ {n : Nat}, kn p n = n → ∀ i, i < n → p i = true
  | 0, _, i, hi => absurd hi (Nat.not_lt_zero i)
  | n + 1, h, i, hi => by
    have h1 : (if p n then kn p n + 1 else kn p n) = n + 1 := h
    have h2 := kn_le p n
    split at h1
    · by_cases e : i = n
      · subst e
        assumption
      · exact kn_all (n := n) (by omega) i (by omega)
    · omega
theorem kn_of {p : Nat → Bool} : ∀ {n : Nat}, (∀ i, i < n → p i = true) → kn p n = n
  | 0, _ => rfl
  | n + 1, h => by
    show (if p n then kn p n + 1 else kn p n) = n + 1
    rw [h n (by omega), kn_of (n := n) (fun i hi => h i (by omega))]
    rfl
theorem kn_pos {p : Nat → Bool} : ∀ {n : Nat}, 0 < kn p n → ∃ i, i < n ∧ p i = true
  | 0, h => absurd h (Nat.lt_irrefl 0)
  | n + 1, h => by
    by_cases e : p n = true
    · exact ⟨n, by omega, e⟩
    · have h1 : 0 < (if p n then kn p n + 1 else kn p n) := h
      rw [if_neg e] at h1
      obtain ⟨i, h2, h3⟩ := kn_pos (n := n) h1
      exact ⟨i, by omega, h3⟩
theorem kn_none {p : Nat → Bool} : ∀ {n : Nat}, (∀ i, i < n → p i = false) → kn p n = 0
  | 0, _ => rfl
  | n + 1, h => by
    show (if p n then kn p n + 1 else kn p n) = 0
    rw [h n (by omega), kn_none (n := n) (fun i hi => h i (by omega))]
    rfl
/-- the first one -/
theorem fst_or (p : Nat → Bool) : ∀ n, (∃ j, j < n ∧ p j = true ∧ ∀ i, i < j → p i = false) ∨ ∀ i, i < n → p i = false
  | 0 => .inr fun i hi => absurd hi (Nat.not_lt_zero i)
  | n + 1 => by
    rcases fst_or p n with ⟨j, h1, h2, h3⟩ | h
    · exact .inl ⟨j, by omega, h2, h3⟩
    · by_cases e : p n = true
      · exact .inl ⟨n, by omega, e, h⟩
      · refine .inr fun i hi => ?_
        by_cases q : i = n
        · subst q
          exact Bool.not_eq_true _ ▸ e
        · exact h i (by omega)
theorem le_nI {j n : Nat} {c : Int32} (hc : c = nI n) (h : j < n) (hn : n < 2 ^ 31) : ¬ c ≤ nI j := by
  subst hc
  rw [nI_leI hn (by omega)]
  omega
theorem ge_nI {j n : Nat} {c : Int32} (hc : c = nI n) (h : n ≤ j) (hn : j < 2 ^ 31) : c ≤ nI j := by
  subst hc
  rw [nI_leI (by omega) hn]
  omega
theorem s1_nI (j : Nat) : nI j + (1 : Int32) = nI (j + 1) := nI_1 j
theorem ne_nI {j n : Nat} {c : Int32} (hc : c = nI n) (h : j ≠ n) (hn : j < 2 ^ 31 ∧ n < 2 ^ 31) : ¬ nI j = c := by
  subst hc
  rw [nI_eq hn.1 hn.2]
  exact h
theorem nm_nI {j : Nat} (hj : j < 2 ^ 31) : ¬ nI j = (-9 : Int32) := by
  intro h
  have h1 := congrArg Int32.toInt h
  rw [nI_toInt hj] at h1
  have h2 : (-9 : Int32).toInt = -9 := by decide
  omega
theorem nm1_nI {j : Nat} (hj : j < 2 ^ 31) : ¬ nI j = (-1 : Int32) := by
  intro h
  have h1 := congrArg Int32.toInt h
  rw [nI_toInt hj] at h1
  have h2 : (-1 : Int32).toInt = -1 := by decide
  omega
