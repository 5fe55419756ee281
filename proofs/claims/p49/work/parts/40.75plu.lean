/-! THE PLANNER, pure: the units *** by hand -/
def pp (P : Nat → Nat → Int32) (k : Nat) : Bool := decide (P k 0 = 1)
def tk (P : Nat → Nat → Int32) (T : Nat → Int32) (k : Nat) : Bool := decide (¬ P k 3 = -9) && decide (¬ T (P k 3).toNatClampNeg = 0)
def sf (P : Nat → Nat → Int32) (k j : Nat) : Bool := pp P j && decide (P j 3 = P k 3)
/-- the first of the first n, or n -/
def ix (p : Nat → Bool) : Nat → Nat
  | 0 => 0
  | n + 1 => if ix p n < n then ix p n else if p n = true then n else n + 1
theorem ix_s (p : Nat → Bool) (n : Nat) : ix p (n + 1) = if ix p n < n then ix p n else if p n = true then n else n + 1 := rfl
theorem ix_or (p : Nat → Bool) : ∀ n, (ix p n < n ∧ p (ix p n) = true ∧ ∀ i, i < ix p n → p i = false) ∨ (ix p n = n ∧ ∀ i, i < n → p i = false)
  | 0 => .inr ⟨rfl, fun i hi => absurd hi (Nat.not_lt_zero i)⟩
  | n + 1 => by
    rw [ix_s]
    rcases ix_or p n with ⟨h1, h2, h3⟩ | ⟨h1, h2⟩
    · rw [if_pos h1]
      exact .inl ⟨by omega, h2, h3⟩
    · rw [if_neg (by omega)]
      by_cases q : p n = true
      · rw [if_pos q]
        exact .inl ⟨by omega, q, h2⟩
      · rw [if_neg q]
        refine .inr ⟨rfl, fun i hi => ?_⟩
        by_cases e : i = n
        · rw [e]
          exact (Bool.not_eq_true _).mp q
        · exact h2 i (by omega)
theorem ix_of {p : Nat → Bool} {n j : Nat} (hj : j < n) (h1 : p j = true) (h2 : ∀ i, i < j → p i = false) : ix p n = j := by
  rcases ix_or p n with ⟨g1, g2, g3⟩ | ⟨g1, g2⟩
  · rcases Nat.lt_trichotomy (ix p n) j with q | q | q
    · have := h2 _ q
      rw [g2] at this
      cases this
    · exact q
    · have := g3 _ q
      rw [h1] at this
      cases this
  · have := g2 j hj
    rw [h1] at this
    cases this
def ldr (P : Nat → Nat → Int32) (T : Nat → Int32) (k : Nat) : Nat := if tk P T k = true then ix (sf P k) k else k
def nw (P : Nat → Nat → Int32) (T : Nat → Int32) (k : Nat) : Bool := pp P k && decide (ldr P T k = k)
def un (P : Nat → Nat → Int32) (T : Nat → Int32) (n : Nat) : Nat := kn (nw P T) n
def uo (P : Nat → Nat → Int32) (T : Nat → Int32) (k : Nat) : Nat := un P T (ldr P T k)
def inu (P : Nat → Nat → Int32) (T : Nat → Int32) (u k : Nat) : Bool := pp P k && decide (uo P T k = u)
def hdn (P : Nat → Nat → Int32) (T : Nat → Int32) (n u : Nat) : Nat := kn (inu P T u) n
def mfn (P : Nat → Nat → Int32) (T : Nat → Int32) (su : Nat → Nat → Bool) (n u g : Nat) : Nat := kn (fun k => inu P T u k && !su k g) n
def ocn (P : Nat → Nat → Int32) (T : Nat → Int32) (lv : Nat → Nat → Bool) (n u g : Nat) : Nat := kn (fun k => inu P T u k && lv k g) n
theorem kn_sc (p : Nat → Bool) (n : Nat) : kn p (n + 1) = if p n = true then kn p n + 1 else kn p n := rfl
theorem kn_up (p : Nat → Bool) : ∀ {n m : Nat}, n ≤ m → kn p n ≤ kn p m
  | n, 0, h => by
    obtain rfl : n = 0 := by omega
    exact Nat.le_refl _
  | n, m + 1, h => by
    by_cases e : n = m + 1
    · rw [e]
      exact Nat.le_refl _
    · have := kn_up p (n := n) (m := m) (by omega)
      rw [kn_sc]
      split <;> omega
theorem kn_mono {p q : Nat → Bool} (h : ∀ k, p k = true → q k = true) : ∀ n, kn p n ≤ kn q n
  | 0 => Nat.le_refl _
  | n + 1 => by
    have := kn_mono h n
    rw [kn_sc, kn_sc]
    by_cases e : p n = true
    · rw [if_pos e, if_pos (h n e)]
      omega
    · rw [if_neg e]
      split <;> omega
theorem kn_at {p : Nat → Bool} : ∀ {n u : Nat}, u < kn p n → ∃ k, k < n ∧ p k = true ∧ kn p k = u
  | 0, u, h => absurd h (Nat.not_lt_zero u)
  | n + 1, u, h => by
    rw [kn_sc] at h
    by_cases q : u < kn p n
    · obtain ⟨k, h1, h2⟩ := kn_at q
      exact ⟨k, by omega, h2⟩
    · by_cases e : p n = true
      · rw [if_pos e] at h
        exact ⟨n, by omega, e, by omega⟩
      · rw [if_neg e] at h
        exact absurd h q
theorem kn_in {p : Nat → Bool} {n k : Nat} (hk : k < n) (h : p k = true) : kn p k < kn p n := by
  have h1 := kn_up p (n := k + 1) (m := n) hk
  rw [kn_sc, if_pos h] at h1
  omega
theorem ldr_le (P : Nat → Nat → Int32) (T : Nat → Int32) (k : Nat) : ldr P T k ≤ k := by
  unfold ldr
  split
  · rcases ix_or (sf P k) k with ⟨h, _⟩ | ⟨h, _⟩ <;> omega
  · exact Nat.le_refl _
/-- a leader that is another pupil -/
theorem ldr_lt {P : Nat → Nat → Int32} {T : Nat → Int32} {k : Nat} (h : ldr P T k < k) : tk P T k = true ∧ pp P (ldr P T k) = true ∧ P (ldr P T k) 3 = P k 3 ∧ (∀ i, i < ldr P T k → sf P k i = false) ∧ ldr P T (ldr P T k) = ldr P T k := by
  have hd : ldr P T k = if tk P T k = true then ix (sf P k) k else k := rfl
  by_cases ht : tk P T k = true
  · rw [if_pos ht] at hd
    rcases ix_or (sf P k) k with ⟨h1, h2, h3⟩ | ⟨h1, _⟩
    · rw [← hd] at h1 h2 h3
      have h4 : pp P (ldr P T k) = true ∧ P (ldr P T k) 3 = P k 3 := by
        unfold sf at h2
        rw [Bool.and_eq_true, decide_eq_true_eq] at h2
        exact h2
      refine ⟨ht, h4.1, h4.2, h3, ?_⟩
      have ht2 : tk P T (ldr P T k) = true := by
        have : tk P T (ldr P T k) = tk P T k := by
          unfold tk
          rw [h4.2]
        rw [this]
        exact ht
      have h5 : ldr P T (ldr P T k) = ix (sf P (ldr P T k)) (ldr P T k) := if_pos ht2
      rw [h5]
      rcases ix_or (sf P (ldr P T k)) (ldr P T k) with ⟨g1, g2, _⟩ | ⟨g1, _⟩
      · have g3 := h3 _ g1
        have hsf : ∀ i, sf P (ldr P T k) i = sf P k i := fun i => by
          unfold sf
          rw [h4.2]
        rw [← hsf, g2] at g3
        cases g3
      · exact g1
    · omega
  · rw [if_neg ht] at hd
    omega
theorem nw_ldr {P : Nat → Nat → Int32} {T : Nat → Int32} {k : Nat} (hk : pp P k = true) : nw P T (ldr P T k) = true := by
  unfold nw
  rw [Bool.and_eq_true, decide_eq_true_eq]
  by_cases h : ldr P T k < k
  · obtain ⟨_, h2, _, _, h5⟩ := ldr_lt h
    exact ⟨h2, h5⟩
  · have e : ldr P T k = k := by have := ldr_le P T k; omega
    rw [e]
    exact ⟨hk, e⟩
theorem uo_lt {P : Nat → Nat → Int32} {T : Nat → Int32} {k n : Nat} (hk : pp P k = true) (hn : k < n) : uo P T k < un P T n := kn_in (p := nw P T) (by have := ldr_le P T k; omega) (nw_ldr hk)
theorem inu_iff {P : Nat → Nat → Int32} {T : Nat → Int32} {u k : Nat} : inu P T u k = true ↔ pp P k = true ∧ uo P T k = u := by
  unfold inu
  rw [Bool.and_eq_true, decide_eq_true_eq]
theorem hdn_pos {P : Nat → Nat → Int32} {T : Nat → Int32} {n u : Nat} (hu : u < un P T n) : 1 ≤ hdn P T n u := by
  obtain ⟨k, h1, h2, h3⟩ := kn_at (p := nw P T) hu
  unfold nw at h2
  rw [Bool.and_eq_true, decide_eq_true_eq] at h2
  have h4 : inu P T u k = true := inu_iff.mpr ⟨h2.1, by unfold uo; rw [h2.2]; exact h3⟩
  have := kn_in (p := inu P T u) h1 h4
  show 1 ≤ kn (inu P T u) n
  omega
theorem inu_new {P : Nat → Nat → Int32} {T : Nat → Int32} {n u : Nat} (hu : un P T n ≤ u) : ∀ k, k < n → inu P T u k = false := fun k hk => by
  cases hi : inu P T u k
  · rfl
  · obtain ⟨h1, h2⟩ := inu_iff.mp hi
    have := uo_lt (T := T) h1 hk
    omega
theorem ocn_le (P : Nat → Nat → Int32) (T : Nat → Int32) (lv : Nat → Nat → Bool) (n u g : Nat) : ocn P T lv n u g ≤ hdn P T n u := kn_mono (fun k h => by rw [Bool.and_eq_true] at h; exact h.1) n
theorem sh_le {f g : Nat → Nat} (h : ∀ u, f u ≤ g u) : ∀ m u, sh f m u ≤ sh g m u
  | 0, _ => Nat.le_refl _
  | m + 1, u => Nat.add_le_add (h u) (sh_le h m (u + 1))
theorem sh_one {f g : Nat → Nat} {a : Nat} (h : ∀ u, u ≠ a → g u ≤ f u) (ha : g a ≤ f a + 1) : ∀ m u, sh g m u ≤ sh f m u + 1 ∧ (a < u → sh g m u ≤ sh f m u)
  | 0, _ => ⟨Nat.zero_le _, fun _ => Nat.le_refl _⟩
  | m + 1, u => by
    have ih := sh_one h ha m (u + 1)
    show g u + sh g m (u + 1) ≤ f u + sh f m (u + 1) + 1 ∧ (a < u → g u + sh g m (u + 1) ≤ f u + sh f m (u + 1))
    by_cases e : u = a
    · have := ih.2 (by omega)
      rw [e] at this ⊢
      exact ⟨by omega, fun q => absurd q (Nat.lt_irrefl _)⟩
    · have h1 := h u e
      exact ⟨by have := ih.1; omega, fun q => by have := ih.2 (by omega); omega⟩
theorem sh_hdn (P : Nat → Nat → Int32) (T : Nat → Int32) : ∀ n m u, sh (hdn P T n) m u ≤ n
  | 0, m, u => by
    have : ∀ m u, sh (hdn P T 0) m u = 0 := by
      intro m
      induction m with
      | zero => intro u; rfl
      | succ m ih =>
        intro u
        show hdn P T 0 u + sh (hdn P T 0) m (u + 1) = 0
        rw [ih]
        rfl
    rw [this]
    exact Nat.le_refl _
  | n + 1, m, u => by
    have ih := sh_hdn P T n m u
    have h1 : ∀ v, v ≠ uo P T n → hdn P T (n + 1) v ≤ hdn P T n v := fun v hv => by
      show kn (inu P T v) (n + 1) ≤ kn (inu P T v) n
      rw [kn_sc, if_neg (fun q => hv (inu_iff.mp q).2.symm)]
      exact Nat.le_refl _
    have h2 : hdn P T (n + 1) (uo P T n) ≤ hdn P T n (uo P T n) + 1 := by
      show kn (inu P T (uo P T n)) (n + 1) ≤ kn (inu P T (uo P T n)) n + 1
      rw [kn_sc]
      split <;> omega
    have := (sh_one h1 h2 m u).1
    omega
