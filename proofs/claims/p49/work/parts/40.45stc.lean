/-! staff *** by hand -/
theorem it_or {α β : Type} {F : (α → Option β) → α → Option β} {P : Nat → α → Prop} {Q : β → Prop} {N : Nat}
    (hs : ∀ j a, P j a → (∃ r, Q r ∧ ∀ rec, F rec a = some r) ∨ (j < N ∧ ∃ b, P (j + 1) b ∧ ∀ rec, F rec a = rec b)) :
    ∀ (m i fl : Nat) (a : α), i + m = N → m < fl → P i a → ∃ r, sk_it F fl a = some r ∧ Q r
  | 0, _, 0, _, _, h, _ => absurd h (Nat.lt_irrefl 0)
  | m + 1, _, 0, _, _, h, _ => absurd h (by omega)
  | 0, i, fl + 1, a, hi, _, hp => by
    rcases hs i a hp with ⟨r, h1, h2⟩ | ⟨h, _⟩
    · exact ⟨r, h2 _, h1⟩
    · omega
  | m + 1, i, fl + 1, a, hi, h, hp => by
    rcases hs i a hp with ⟨r, h1, h2⟩ | ⟨_, b, h1, h2⟩
    · exact ⟨r, h2 _, h1⟩
    · obtain ⟨r, h3, h4⟩ := it_or hs m (i + 1) fl b (by omega) (by omega) h1
      exact ⟨r, (h2 _).trans h3, h4⟩
theorem it_or0 {α β : Type} {F : (α → Option β) → α → Option β} (P : Nat → α → Prop) (Q : β → Prop) (N : Nat)
    (hs : ∀ j a, P j a → (∃ r, Q r ∧ ∀ rec, F rec a = some r) ∨ (j < N ∧ ∃ b, P (j + 1) b ∧ ∀ rec, F rec a = rec b)) (hN : N < 20000) (a : α) (h0 : P 0 a) : ∃ r, sk_it F sk_fu a = some r ∧ Q r := it_or hs N 0 sk_fu a (by omega) hN h0
/-- the check of the first g digits of a whole way -/
def cs (d : sk_D) (P g : Nat) : Option (Int32 × Nat) := ck d g (P / 8 ^ (4 - g))
theorem cs_s (d : sk_D) (P : Nat) {g : Nat} (hg : g < 4) : cs d P (g + 1) = (match cs d P g with
    | none => none
    | some (t, c) => if acb d g = true then (if okb d g t (dgt 4 P g) = true then some (tup t (dgt 4 P g), c + wg d (dgt 4 P g)) else none) else (if dgt 4 P g = 0 then some (t, c) else none)) := by
  have e1 : P / 8 ^ (4 - (g + 1)) / 8 = P / 8 ^ (4 - g) := by
    rw [Nat.div_div_eq_div_mul, show 4 - g = (4 - (g + 1)) + 1 by omega, Nat.pow_succ]
  have e2 : P / 8 ^ (4 - (g + 1)) % 8 = dgt 4 P g := by
    unfold dgt
    rw [show 4 - (g + 1) = 4 - 1 - g by omega]
  show (match ck d g (P / 8 ^ (4 - (g + 1)) / 8) with
    | none => none
    | some (t, c) => if acb d g = true then (if okb d g t (P / 8 ^ (4 - (g + 1)) % 8) = true then some (tup t (P / 8 ^ (4 - (g + 1)) % 8), c + wg d (P / 8 ^ (4 - (g + 1)) % 8)) else none) else (if P / 8 ^ (4 - (g + 1)) % 8 = 0 then some (t, c) else none)) = _
  rw [e1, e2]
  rfl
theorem cs_up (d : sk_D) (P : Nat) : ∀ m g, g + m = 4 → cs d P g = none → cs d P 4 = none
  | 0, g, hg, h => by
    have e : g = 4 := by omega
    subst e
    exact h
  | m + 1, g, hg, h => cs_up d P m (g + 1) (by omega) (by rw [cs_s d P (by omega), h])
def cres (d : sk_D) (P : Nat) : Int32 := match cs d P 4 with
  | none => -1
  | some (_, c) => nI c
/-- the groups' instructors set, the first n of them -/
def sv8 (d : sk_D) : Nat → sk_D
  | 0 => d
  | n + 1 => sk_wi (sv8 d n) 39 n 4 (d.1 21 0 n)
def sv9 (v : Nat → Int32) (e : sk_D) : Nat → sk_D
  | 0 => e
  | n + 1 => sk_wi (sv9 v e n) 57 0 n (v n)
theorem sv8_o (d : sk_D) : ∀ (n s k f : Nat), ¬ (s = 39 ∧ f = 4 ∧ k < n) → (sv8 d n).1 s k f = d.1 s k f
  | 0, _, _, _, _ => rfl
  | n + 1, s, k, f, h => by
    show (sk_wi (sv8 d n) 39 n 4 _).1 s k f = _
    rw [wi_o (by omega), sv8_o d n s k f (by omega)]
theorem sv8_g (d : sk_D) : ∀ (n k : Nat), k < n → (sv8 d n).1 39 k 4 = d.1 21 0 k
  | 0, k, h => absurd h (Nat.not_lt_zero _)
  | n + 1, k, h => by
    show (sk_wi (sv8 d n) 39 n 4 (d.1 21 0 n)).1 39 k 4 = _
    by_cases e : k = n
    · subst e
      exact wi_e
    · rw [wi_o (by omega), sv8_g d n k (by omega)]
theorem sv9_o (v : Nat → Int32) (e : sk_D) : ∀ (n s k f : Nat), ¬ (s = 57 ∧ f < n) → (sv9 v e n).1 s k f = e.1 s k f
  | 0, _, _, _, _ => rfl
  | n + 1, s, k, f, h => by
    show (sk_wi (sv9 v e n) 57 0 n _).1 s k f = _
    rw [wi_o (by omega), sv9_o v e n s k f (by omega)]
theorem sv9_g (v : Nat → Int32) (e : sk_D) : ∀ (n k : Nat), k < n → (sv9 v e n).1 57 0 k = v k
  | 0, k, h => absurd h (Nat.not_lt_zero _)
  | n + 1, k, h => by
    show (sk_wi (sv9 v e n) 57 0 n (v n)).1 57 0 k = _
    by_cases e1 : k = n
    · subst e1
      exact wi_e
    · rw [wi_o (by omega), sv9_g v e n k (by omega)]
theorem sv8_F (d : sk_D) : ∀ n, sk_F8 d (sv8 d n)
  | 0 => sk_F8.rf d
  | n + 1 => (sv8_F d n).wi _ _ _ _ (by omega)
theorem sv9_F (v : Nat → Int32) (e : sk_D) : ∀ n, sk_F9 e (sv9 v e n)
  | 0 => sk_F9.rf e
  | n + 1 => (sv9_F v e n).wi _ _ _ _ (by omega)
theorem rP_e {d e e' : sk_D} (h : rP d e) (he : ∀ s f, 45 ≤ s → s ≤ 51 → e'.1 s 0 f = e.1 s 0 f) : rP d e' := by
  unfold rP at h ⊢
  simp only [he 45 _ (by omega) (by omega), he 46 _ (by omega) (by omega), he 47 _ (by omega) (by omega), he 48 _ (by omega) (by omega), he 49 _ (by omega) (by omega), he 50 _ (by omega) (by omega), he 51 _ (by omega) (by omega)]
  exact h
theorem acb_same {d d' : sk_D} (h37 : ∀ k f, d'.1 37 k f = d.1 37 k f) (h39 : ∀ k, d'.1 39 k 0 = d.1 39 k 0) (g : Nat) : acb d' g = acb d g := by
  have ge : gb d' (nI g) = gb d (nI g) := by
    funext k
    unfold gb pb
    rw [h37, h37]
  unfold acb ob
  rw [ge, h39]
def v1s : Option (Nat × Nat) → Int32
  | none => -9
  | some (_, B) => nI B
def v2s : Option (Nat × Nat) → Int32
  | none => -1
  | some (c, _) => nI c
