/-! THE SIMULATION: a departure, a minute *** by hand -/
theorem OL.rf (l : Nat) (W L : Nat → Nat) (Q : Nat → Nat → Nat) : OL l W L Q W L Q := fun _ _ _ => ⟨rfl, fun _ => rfl, fun _ _ => rfl⟩
theorem DY.b {b b' p W T : Nat → Nat} {A : Nat → Option Nat} {L : Nat → Nat} {Q : Nat → Nat → Nat} {d e : sk_D} (h : DY b p W T A L Q d e) (hb : ∀ g, g < 4 → b g = b' g) : DY b' p W T A L Q d e := by
  refine ⟨fun g hg => ?_, h.2⟩
  rw [← hb g hg]
  exact h.1 g hg
theorem IV.b {n : Nat} {st b b' p W T : Nat → Nat} {A : Nat → Option Nat} {L : Nat → Nat} {Q : Nat → Nat → Nat} (h : IV n st b p W T A L Q) (hb : ∀ g, g < 4 → b g = b' g) : IV n st b' p W T A L Q := by
  refine ⟨fun g hg => ?_, h.2⟩
  rw [← hb g hg]
  exact h.1 g hg
theorem DY.fr {b p W T : Nat → Nat} {A : Nat → Option Nat} {L : Nat → Nat} {Q : Nat → Nat → Nat} {d e d' e' : sk_D} (h : DY b p W T A L Q d e) (h8 : ∀ s k f, ¬ (s = 26 ∨ s = 28) → d'.1 s k f = d.1 s k f) (h9 : ∀ s k f, ¬ (s = 90 ∨ s = 92) → e'.1 s k f = e.1 s k f) : DY b p W T A L Q d' e' := by
  unfold DY at h ⊢
  simp only [h8 24 _ _ (by omega), h8 25 _ _ (by omega), h8 27 _ _ (by omega), h8 29 _ _ (by omega), h8 30 _ _ (by omega), h8 31 _ _ (by omega), h8 33 _ _ (by omega), h8 34 _ _ (by omega), h9 84 _ _ (by omega), h9 85 _ _ (by omega), h9 86 _ _ (by omega), h9 87 _ _ (by omega), h9 88 _ _ (by omega), h9 89 _ _ (by omega), h9 91 _ _ (by omega), h9 93 _ _ (by omega)]
  exact h
/-- how many wait in the first k places of a queue -/
def lsn (W : Nat → Nat) (Q : Nat → Nat → Nat) (l : Nat) : Nat → Nat
  | 0 => 0
  | k + 1 => lsn W Q l k + W (Q l k)
theorem lsn_congr {W W' : Nat → Nat} {Q Q' : Nat → Nat → Nat} {l : Nat} : ∀ {k : Nat}, (∀ j, j < k → W' (Q' l j) = W (Q l j)) → lsn W' Q' l k = lsn W Q l k
  | 0, _ => rfl
  | k + 1, h => by
    show lsn W' Q' l k + W' (Q' l k) = lsn W Q l k + W (Q l k)
    rw [lsn_congr (k := k) (fun j hj => h j (by omega)), h k (by omega)]
def mxi (a b : Int32) : Int32 := if a < b then b else a
/-- a queue waits a minute -/
theorem wait8 {b p W T : Nat → Nat} {A : Nat → Option Nat} {L : Nat → Nat} {Q : Nat → Nat → Nat} {d e : sk_D} {l : Nat} (hl : l < 3) (hD : DY b p W T A L Q d e) (hL : L l ≤ 4) (hQ : ∀ k, k < L l → Q l k < 4) (hinj : ∀ k k', k < L l → k' < L l → Q l k = Q l k' → k = k') :
    ∃ d', q_X6_waitAMinute d (nI l) = some d' ∧ d'.1 28 0 l = mxi (d.1 28 0 l) (nI (lsn W Q l (L l))) ∧ (∀ x, x ≠ l → d'.1 28 0 x = d.1 28 0 x) ∧ (∀ g, ((∃ k, k < L l ∧ Q l k = g) → d'.1 26 0 g = d.1 26 0 g + nI (W g)) ∧ ((∀ k, k < L l → Q l k ≠ g) → d'.1 26 0 g = d.1 26 0 g)) ∧ ∀ s k f, ¬ (s = 26 ∨ s = 28) → d'.1 s k f = d.1 s k f := by
  have el := nI_clamp (n := l) (by omega)
  have bl : sk_bi (nI l) 3 = true := bi_nI (by omega) (by omega)
  obtain ⟨r1, r2, r3, r4⟩ := hD.2 l hl
  have key := it_inv0 (F := fun rec a => q_X6_waitAMinute_4 rec a.1 a.2.1 a.2.2.1 a.2.2.2)
    (fun k a => k ≤ L l ∧ ∃ d1, a = (d1, nI l, nI (lsn W Q l k), nI k) ∧ (∀ g, ((∃ j, j < k ∧ Q l j = g) → d1.1 26 0 g = d.1 26 0 g + nI (W g)) ∧ ((∀ j, j < k → Q l j ≠ g) → d1.1 26 0 g = d.1 26 0 g)) ∧ ∀ s k f, ¬ (s = 26 ∧ k = 0) → d1.1 s k f = d.1 s k f)
    (fun d' => d'.1 28 0 l = mxi (d.1 28 0 l) (nI (lsn W Q l (L l))) ∧ (∀ x, x ≠ l → d'.1 28 0 x = d.1 28 0 x) ∧ (∀ g, ((∃ k, k < L l ∧ Q l k = g) → d'.1 26 0 g = d.1 26 0 g + nI (W g)) ∧ ((∀ k, k < L l → Q l k ≠ g) → d'.1 26 0 g = d.1 26 0 g)) ∧ ∀ s k f, ¬ (s = 26 ∨ s = 28) → d'.1 s k f = d.1 s k f) (L l) ?_ ?_ (by omega) (d, nI l, (0 : Int32), (0 : Int32)) ⟨Nat.zero_le _, d, rfl, fun g => ⟨fun ⟨j, hj, _⟩ => absurd hj (Nat.not_lt_zero _), fun _ => rfl⟩, fun _ _ _ _ => rfl⟩
  · obtain ⟨d', h1, h2⟩ := key
    exact ⟨d', h1, h2⟩
  · rintro k a hk ⟨_, d1, rfl, hv, hf⟩
    have hq := hQ k hk
    have bq : sk_bi (nI (Q l k)) 4 = true := bi_nI (by omega) (by omega)
    have eq := nI_clamp (n := Q l k) (by omega)
    obtain ⟨_, _, x3, _⟩ := hD.1 (Q l k) hq
    have o34 : d1.1 34 0 l = nI (L l) := (hf 34 0 l (by omega)).trans r1
    have o33 : d1.1 33 l k = nI (Q l k) := (hf 33 l k (by omega)).trans (r4 k hk).1
    have o31 : d1.1 31 0 (Q l k) = nI (W (Q l k)) := (hf 31 0 _ (by omega)).trans x3
    have l1 : ¬ nI (L l) ≤ nI k := nI_ge hk (by omega)
    have l2 : ¬ (4 : Int32) ≤ nI k := le_nI (n := 4) rfl (by omega) (by omega)
    have bk : sk_bi (nI k) 4 = true := bi_nI (by omega) (by omega)
    have ek := nI_clamp (n := k) (by omega)
    have wq := (wi_in (Q l k) (a := nI (Q l k)) (lo := 0) (hi := 3) 0 3 rfl rfl rfl (by omega) (by omega) (by omega)).1 d1
    have o26 : d1.1 26 0 (Q l k) = d.1 26 0 (Q l k) := (hv (Q l k)).2 (fun j hj q => by
      have := hinj j k (by omega) hk q
      omega)
    refine ⟨(sk_wi d1 26 0 (Q l k) (d.1 26 0 (Q l k) + nI (W (Q l k))), nI l, nI (lsn W Q l (k + 1)), nI (k + 1)), ⟨by omega, _, rfl, fun g => ?_, fun s k' f hs => ?_⟩, fun rec => ?_⟩
    · by_cases eg : g = Q l k
      · subst eg
        rw [wi_e]
        exact ⟨fun _ => rfl, fun h => absurd rfl (h k (by omega))⟩
      · rw [wi_o (by omega)]
        refine ⟨fun ⟨j, hj, q⟩ => (hv g).1 ⟨j, ?_, q⟩, fun h => (hv g).2 (fun j hj => h j (by omega))⟩
        by_cases ej : j = k
        · subst ej
          exact absurd q.symm eg
        · omega
    · rw [wi_o (by omega)]
      exact hf s k' f hs
    · show q_X6_waitAMinute_4 rec d1 (nI l) (nI (lsn W Q l k)) (nI k) = _
      simp only [q_X6_waitAMinute_4, q_X6_waitAMinute_66, bl, el, o34, l1, l2, bk, ek, o33, wq, i10, bq, eq, o26, o31, nI_add, s1_nI, lsn, Option.bind_some, ↓reduceIte]
  · rintro a ⟨_, d1, rfl, hv, hf⟩
    have o34 : d1.1 34 0 l = nI (L l) := (hf 34 0 l (by omega)).trans r1
    have o28 : d1.1 28 0 l = d.1 28 0 l := hf 28 0 l (by omega)
    have l1 : nI (L l) ≤ nI (L l) := nI_le (by omega) (by omega)
    refine ⟨sk_wi d1 28 0 l (mxi (d.1 28 0 l) (nI (lsn W Q l (L l)))), ⟨wi_e, fun x hx => ?_, fun g => ?_, fun s k f hs => ?_⟩, fun rec => ?_⟩
    · rw [wi_o (by omega)]
      exact hf 28 0 x (by omega)
    · rw [wi_o (by omega)]
      exact hv g
    · rw [wi_o (by omega)]
      exact hf s k f (by omega)
    · show q_X6_waitAMinute_4 rec d1 (nI l) (nI (lsn W Q l (L l))) (nI (L l)) = _
      simp only [q_X6_waitAMinute_4, q_X6_waitAMinute_72, bl, el, o34, o28, l1, ↓reduceIte]
      rfl
