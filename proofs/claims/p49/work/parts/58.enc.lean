/-! THE LAW's plan is the class's: numbers of plans, counts *** by hand -/
def en2 (B : Nat) (a : Nat → Nat) : Nat → Nat
  | 0 => 0
  | p + 1 => en2 B a p * B + a p
theorem en2_div {B n : Nat} {a : Nat → Nat} (ha : ∀ p, p < n → a p < B) : ∀ t, t ≤ n → en2 B a n / B ^ t = en2 B a (n - t)
  | 0, _ => by rw [Nat.pow_zero, Nat.div_one, Nat.sub_zero]
  | t + 1, ht => by
    obtain ⟨p, hp⟩ : ∃ p, n - t = p + 1 := ⟨n - t - 1, by omega⟩
    have hB : 0 < B := by have := ha 0 (by omega); omega
    rw [Nat.pow_succ, ← Nat.div_div_eq_div_mul, en2_div ha t (by omega), hp, show n - (t + 1) = p by omega]
    show (en2 B a p * B + a p) / B = en2 B a p
    rw [Nat.mul_comm, Nat.mul_add_div hB, Nat.div_eq_of_lt (ha p (by omega))]
    rfl
theorem en2_dg {m n : Nat} {a : Nat → Nat} (ha : ∀ p, p < n → a p < m + 1) {p : Nat} (hp : p < n) : dg m n (en2 (m + 1) a n) p = a p := by
  unfold dg
  rw [en2_div ha (n - 1 - p) (by omega), show n - (n - 1 - p) = p + 1 by omega]
  show (en2 (m + 1) a p * (m + 1) + a p) % (m + 1) = a p
  rw [Nat.mul_comm, Nat.mul_add_mod, Nat.mod_eq_of_lt (ha p hp)]
theorem en2_lt {B : Nat} {a : Nat → Nat} : ∀ {n : Nat}, (∀ p, p < n → a p < B) → en2 B a n < B ^ n
  | 0, _ => by rw [Nat.pow_zero]; exact Nat.lt_succ_self 0
  | n + 1, ha => by
    have ih := en2_lt (n := n) (fun p hp => ha p (by omega))
    have h1 := ha n (by omega)
    have h2 : (en2 B a n + 1) * B ≤ B ^ n * B := Nat.mul_le_mul_right B ih
    rw [Nat.add_mul] at h2
    show en2 B a n * B + a n < B ^ (n + 1)
    rw [Nat.pow_succ]
    omega
theorem en2_cmp {B : Nat} {a c : Nat → Nat} {p0 : Nat} (he : ∀ q, q < p0 → a q = c q) (hl : a p0 < c p0) : ∀ {n : Nat}, (∀ p, p < n → a p < B) → p0 < n → en2 B a n < en2 B c n
  | 0, _, h => absurd h (Nat.not_lt_zero _)
  | n + 1, ha, h => by
    show en2 B a n * B + a n < en2 B c n * B + c n
    by_cases e : p0 = n
    · subst e
      have : ∀ k, k ≤ p0 → en2 B a k = en2 B c k := by
        intro k
        induction k with
        | zero => intro _; rfl
        | succ k ih =>
          intro hk
          show en2 B a k * B + a k = en2 B c k * B + c k
          rw [ih (by omega), he k (by omega)]
      rw [this p0 (Nat.le_refl _)]
      omega
    · have ih := en2_cmp he hl (n := n) (fun p hp => ha p (by omega)) (by omega)
      have h1 := ha n (by omega)
      have h2 : (en2 B a n + 1) * B ≤ en2 B c n * B := Nat.mul_le_mul_right B ih
      rw [Nat.add_mul] at h2
      omega
theorem en2_inv {m n i : Nat} (hi : i < (m + 1) ^ n) : ∀ p, p ≤ n → en2 (m + 1) (dg m n i) p = i / (m + 1) ^ (n - p)
  | 0, _ => by
    rw [Nat.sub_zero, Nat.div_eq_of_lt hi]
    rfl
  | p + 1, hp => by
    show en2 (m + 1) (dg m n i) p * (m + 1) + dg m n i p = _
    rw [en2_inv hi p (by omega)]
    unfold dg
    rw [show n - p = (n - (p + 1)) + 1 by omega, Nat.pow_succ, ← Nat.div_div_eq_div_mul, show n - 1 - p = n - (p + 1) by omega]
    exact Nat.div_add_mod' _ _
theorem en2_id {m n i : Nat} (hi : i < (m + 1) ^ n) : en2 (m + 1) (dg m n i) n = i := by
  rw [en2_inv hi n (Nat.le_refl _), Nat.sub_self, Nat.pow_zero, Nat.div_one]
/-- counts from the end -/
theorem cnt_kn (r : Nat → Bool) (n : Nat) (c : Nat → Nat) (h0 : c 0 = 0) (hs : ∀ t, c (t + 1) = c t + if r (n - 1 - t) = true then 1 else 0) : ∀ t, t ≤ n → kn r n = kn r (n - t) + c t
  | 0, _ => by rw [h0]; rfl
  | t + 1, ht => by
    have ih := cnt_kn r n c h0 hs t (by omega)
    rw [ih, hs, show n - t = (n - (t + 1)) + 1 by omega, kn_b, show n - 1 - t = n - (t + 1) by omega]
    omega
theorem cnt_n (r : Nat → Bool) (n : Nat) (c : Nat → Nat) (h0 : c 0 = 0) (hs : ∀ t, c (t + 1) = c t + if r (n - 1 - t) = true then 1 else 0) : c n = kn r n := by
  have := cnt_kn r n c h0 hs n (Nat.le_refl _)
  rw [Nat.sub_self] at this
  have h2 : kn r 0 = 0 := rfl
  omega
theorem mnL_kn (m n : Nat) (a : Nat → Nat) : mnL m n a n = kn (fun p => decide (a p < m)) n :=
  cnt_n _ n (mnL m n a) rfl (fun t => by
    show mnL m n a t + (if a (n - 1 - t) < m then 1 else 0) = _
    simp)
theorem ouL_kn (m n : Nat) (lv : Nat → Nat → Bool) (a : Nat → Nat) : ouL m n lv a n = kn (fun p => decide (a p < m) && lv p (a p)) n :=
  cnt_n _ n (ouL m n lv a) rfl (fun t => by
    show ouL m n lv a t + (if a (n - 1 - t) < m ∧ lv (n - 1 - t) (a (n - 1 - t)) = true then 1 else 0) = _
    simp)
theorem szL_s (n : Nat) (a : Nat → Nat) (g t : Nat) : szL n a g (t + 1) = szL n a g t + if decide (a (n - 1 - t) = g) = true then 1 else 0 := by
  show szL n a g t + (if a (n - 1 - t) = g then 1 else 0) = _
  simp
theorem szL_kn (n : Nat) (a : Nat → Nat) (g t : Nat) (ht : t ≤ n) : kn (fun p => decide (a p = g)) n = kn (fun p => decide (a p = g)) (n - t) + szL n a g t :=
  cnt_kn (fun p => decide (a p = g)) n (szL n a g) rfl (szL_s n a g) t ht
theorem vaL_iff {m n : Nat} {fit : Nat → Nat → Bool} {cap : Nat → Nat} {a : Nat → Nat} : ∀ t, t ≤ n → (vaL m n fit cap a t = true ↔ ∀ p, n - t ≤ p → p < n → a p < m → fit p (a p) = true ∧ szL n a (a p) (n - p) ≤ cap (a p))
  | 0, _ => ⟨fun _ p h1 h2 => absurd h1 (by omega), fun _ => rfl⟩
  | t + 1, ht => by
    have ih := vaL_iff (fit := fit) (cap := cap) (a := a) (m := m) (n := n) t (by omega)
    have e : vaL m n fit cap a (t + 1) = (vaL m n fit cap a t && (!decide (a (n - 1 - t) < m) || (fit (n - 1 - t) (a (n - 1 - t)) && decide (szL n a (a (n - 1 - t)) (t + 1) ≤ cap (a (n - 1 - t)))))) := rfl
    rw [e, Bool.and_eq_true, ih]
    constructor
    · rintro ⟨h1, h2⟩ p g1 g2 g3
      by_cases ep : p = n - 1 - t
      · subst ep
        rw [decide_eq_true g3] at h2
        have h2 : (fit (n - 1 - t) (a (n - 1 - t)) && decide (szL n a (a (n - 1 - t)) (t + 1) ≤ cap (a (n - 1 - t)))) = true := h2
        rw [Bool.and_eq_true, decide_eq_true_eq] at h2
        rw [show n - (n - 1 - t) = t + 1 by omega]
        exact h2
      · exact h1 p (by omega) g2 g3
    · intro h
      refine ⟨fun p g1 g2 g3 => h p (by omega) g2 g3, ?_⟩
      by_cases g3 : a (n - 1 - t) < m
      · obtain ⟨h1, h2⟩ := h (n - 1 - t) (by omega) (by omega) g3
        rw [show n - (n - 1 - t) = t + 1 by omega] at h2
        rw [h1, decide_eq_true h2]
        simp
      · rw [decide_eq_false g3]
        rfl
theorem vaL_ok {m n : Nat} {fit : Nat → Nat → Bool} {cap : Nat → Nat} {a : Nat → Nat} : vaL m n fit cap a n = true ↔ (∀ p, p < n → a p < m → fit p (a p) = true) ∧ (∀ g, g < m → (∃ p, p < n ∧ a p = g) → kn (fun p => decide (a p = g)) n ≤ cap g) := by
  rw [vaL_iff n (Nat.le_refl _)]
  constructor
  · intro h
    refine ⟨fun p hp hl => (h p (by omega) hp hl).1, fun g hg hex => ?_⟩
    rcases fst_or (fun p => decide (a p = g)) n with ⟨p, hp, h1, h2⟩ | h1
    · have h1 := of_decide_eq_true h1
      have h3 := (h p (by omega) hp (by omega)).2
      rw [h1] at h3
      rw [szL_kn n a g (n - p) (by omega), show n - (n - p) = p by omega, kn_none h2]
      omega
    · obtain ⟨p, hp, he⟩ := hex
      have := h1 p hp
      rw [decide_eq_true he] at this
      cases this
  · rintro ⟨h1, h2⟩ p _ hp hl
    refine ⟨h1 p hp hl, ?_⟩
    have h3 := h2 (a p) hl ⟨p, hp, rfl⟩
    have := szL_kn n a (a p) (n - p) (by omega)
    omega
theorem faQ_iff {Pf : Nat → Int32} {t : Nat} {a : Nat → Nat} {p : Nat} : ∀ q, (faQ Pf t a p q = true ↔ ∀ q', q' < q → fok Pf t a p q' = true)
  | 0 => ⟨fun _ q' h => absurd h (Nat.not_lt_zero q'), fun _ => rfl⟩
  | q + 1 => by
    show (faQ Pf t a p q && fok Pf t a p q) = true ↔ _
    rw [Bool.and_eq_true, faQ_iff q]
    constructor
    · rintro ⟨h1, h2⟩ q' hq
      by_cases e : q' = q
      · rw [e]
        exact h2
      · exact h1 q' (by omega)
    · intro h
      exact ⟨fun q' hq => h q' (by omega), h q (by omega)⟩
theorem faP_iff {Pf : Nat → Int32} {t : Nat} {a : Nat → Nat} : ∀ p, (faP Pf t a p = true ↔ ∀ p' q, p' < p → q < p' → fok Pf t a p' q = true)
  | 0 => ⟨fun _ p' q h => absurd h (Nat.not_lt_zero p'), fun _ => rfl⟩
  | p + 1 => by
    show (faP Pf t a p && faQ Pf t a p p) = true ↔ _
    rw [Bool.and_eq_true, faP_iff p, faQ_iff p]
    constructor
    · rintro ⟨h1, h2⟩ p' q hp hq
      by_cases e : p' = p
      · subst e
        exact h2 q hq
      · exact h1 p' q (by omega) hq
    · intro h
      exact ⟨fun p' q hp hq => h p' q (by omega) hq, fun q hq => h p q (by omega) hq⟩
/-- counts that end early -/
theorem kn_cut {p q : Nat → Bool} {n : Nat} : ∀ {N : Nat}, n ≤ N → (∀ k, k < n → p k = q k) → (∀ k, n ≤ k → k < N → p k = false) → kn p N = kn q n
  | 0, h, _, _ => by
    obtain rfl : n = 0 := by omega
    rfl
  | N + 1, h, h1, h2 => by
    by_cases e : n = N + 1
    · subst e
      exact kn_congr h1
    · rw [kn_b, h2 N (by omega) (by omega), kn_cut (N := N) (by omega) h1 (fun k g1 g2 => h2 k g1 (by omega))]
      rfl
