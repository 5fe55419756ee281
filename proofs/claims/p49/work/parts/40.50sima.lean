/-! THE SIMULATION: what stands in both, minute by minute *** by hand -/
def up1 {α : Type} (f : Nat → α) (k : Nat) (v : α) : Nat → α := fun j => if j = k then v else f j
theorem up1_e {α : Type} {f : Nat → α} {k : Nat} {v : α} : up1 f k v k = v := if_pos rfl
theorem up1_o {α : Type} {f : Nat → α} {k j : Nat} {v : α} (h : j ≠ k) : up1 f k v j = f j := if_neg h
/-- two loops in step -/
theorem it_pr {α α' β β' γ γ' : Type} {F : (α → Option β) → α → Option β} {F' : (α' → Option β') → α' → Option β'} {K : γ → Option β} {K' : γ' → Option β'} {P : Nat → α → α' → Prop} {Qf : γ → γ' → Prop} {N : Nat}
    (hs : ∀ j a a', P j a a' → (∃ x x', Qf x x' ∧ (∀ rec, F rec a = K x) ∧ ∀ rec, F' rec a' = K' x') ∨ (j < N ∧ ∃ b b', P (j + 1) b b' ∧ (∀ rec, F rec a = rec b) ∧ ∀ rec, F' rec a' = rec b')) :
    ∀ (m i fl fl' : Nat) (a : α) (a' : α'), i + m = N → m < fl → m < fl' → P i a a' → ∃ x x', Qf x x' ∧ sk_it F fl a = K x ∧ sk_it F' fl' a' = K' x'
  | 0, _, 0, _, _, _, _, h, _, _ => absurd h (Nat.lt_irrefl 0)
  | 0, _, _ + 1, 0, _, _, _, _, h, _ => absurd h (Nat.lt_irrefl 0)
  | m + 1, _, 0, _, _, _, _, h, _, _ => absurd h (by omega)
  | m + 1, _, _ + 1, 0, _, _, _, _, h, _ => absurd h (by omega)
  | 0, i, fl + 1, fl' + 1, a, a', hi, _, _, hp => by
    rcases hs i a a' hp with ⟨x, x', h1, h2, h3⟩ | ⟨h, _⟩
    · exact ⟨x, x', h1, h2 _, h3 _⟩
    · omega
  | m + 1, i, fl + 1, fl' + 1, a, a', hi, h, h', hp => by
    rcases hs i a a' hp with ⟨x, x', h1, h2, h3⟩ | ⟨_, b, b', h1, h2, h3⟩
    · exact ⟨x, x', h1, h2 _, h3 _⟩
    · obtain ⟨x, x', h4, h5, h6⟩ := it_pr hs m (i + 1) fl fl' b b' (by omega) (by omega) (by omega) h1
      exact ⟨x, x', h4, (h2 _).trans h5, (h3 _).trans h6⟩
theorem it_pr0 {α α' β β' γ γ' : Type} {F : (α → Option β) → α → Option β} {F' : (α' → Option β') → α' → Option β'} (K : γ → Option β) (K' : γ' → Option β') (P : Nat → α → α' → Prop) (Qf : γ → γ' → Prop) (N : Nat)
    (hs : ∀ j a a', P j a a' → (∃ x x', Qf x x' ∧ (∀ rec, F rec a = K x) ∧ ∀ rec, F' rec a' = K' x') ∨ (j < N ∧ ∃ b b', P (j + 1) b b' ∧ (∀ rec, F rec a = rec b) ∧ ∀ rec, F' rec a' = rec b')) (hN : N < 20000) (a : α) (a' : α') (h0 : P 0 a a') :
    ∃ x x', Qf x x' ∧ sk_it F sk_fu a = K x ∧ sk_it F' sk_fu a' = K' x' := it_pr hs N 0 sk_fu sk_fu a a' (by omega) hN hN h0
/-- what stands still: programmes, lifts; n lifts, st stops, p persons -/
def SS (n : Nat) (st p : Nat → Nat) (d e : sk_D) : Prop :=
  (∀ g, g < 4 → p g ≤ 21 ∧ (p g ≠ 0 → 1 ≤ st g ∧ st g ≤ 4 ∧ d.1 39 g 6 = nI (st g) ∧ e.1 59 0 g = nI (st g) ∧ ∀ j, j < st g → ∃ l w, l < n ∧ 1 ≤ w ∧ w ≤ 20 ∧ d.1 40 g j = nI l ∧ e.1 60 0 (4 * g + j) = nI l ∧ d.1 41 g j = nI w ∧ e.1 61 0 (4 * g + j) = nI w)) ∧
  n ≤ 3 ∧ d.1 0 0 9 = nI n ∧ e.1 44 0 27 = nI n ∧ ∀ l, l < n → ∃ s i r, 1 ≤ s ∧ s ≤ 8 ∧ 1 ≤ i ∧ i ≤ 10 ∧ 1 ≤ r ∧ r ≤ 20 ∧ d.1 43 l 0 = nI s ∧ e.1 68 0 l = nI s ∧ d.1 43 l 1 = nI i ∧ e.1 69 0 l = nI i ∧ d.1 43 l 2 = nI r ∧ e.1 70 0 l = nI r
/-- what moves: b bounds, W waiting, T stops, A arrivals, L lengths, Q queues -/
def DY (b p W T : Nat → Nat) (A : Nat → Option Nat) (L : Nat → Nat) (Q : Nat → Nat → Nat) (d e : sk_D) : Prop :=
  (∀ g, g < 4 → d.1 24 0 g = nI (p g) ∧ e.1 84 0 g = nI (p g) ∧ d.1 31 0 g = nI (W g) ∧ e.1 85 0 g = nI (W g) ∧ d.1 30 0 g = nI (T g) ∧ e.1 87 0 g = nI (4 * g + T g) ∧ e.1 91 0 g = d.1 27 0 g ∧ (∀ a, A g = some a → d.1 25 0 g = nI a ∧ e.1 86 0 g = nI a) ∧ (A g = none → e.1 86 0 g = -9 ∧ (p g = 0 ∨ ∃ a, a < b g ∧ d.1 25 0 g = nI a))) ∧
  ∀ l, l < 3 → d.1 34 0 l = nI (L l) ∧ e.1 89 0 l = nI (L l) ∧ e.1 93 0 l = d.1 29 0 l ∧ ∀ k, k < L l → d.1 33 l k = nI (Q l k) ∧ e.1 88 0 (4 * l + k) = nI (Q l k)
def IV (n : Nat) (st b p W T : Nat → Nat) (A : Nat → Option Nat) (L : Nat → Nat) (Q : Nat → Nat → Nat) : Prop :=
  (∀ g, g < 4 → b g ≤ 200 ∧ W g ≤ p g ∧ T g < 4 ∧ (p g ≠ 0 → T g < st g) ∧ (∀ a, A g = some a → p g ≠ 0 ∧ W g = 0 ∧ b g ≤ a ∧ a ≤ 400) ∧ (W g ≠ 0 → A g = none ∧ ∃ l k, l < n ∧ k < L l ∧ Q l k = g)) ∧
  (∀ l, l < 3 → L l ≤ 4 ∧ ∀ k, k < L l → Q l k < 4 ∧ W (Q l k) ≠ 0) ∧
  ∀ l k l' k', l < 3 → l' < 3 → k < L l → k' < L l' → Q l k = Q l' k' → l = l' ∧ k = k'
/-- frames of joining and departing -/
def FA8 (d d' : sk_D) : Prop := ∀ s k f, ¬ (s = 25 ∨ s = 27 ∨ s = 29 ∨ s = 30 ∨ s = 31 ∨ s = 33 ∨ s = 34) → d'.1 s k f = d.1 s k f
def FA9 (e e' : sk_D) : Prop := ∀ s k f, ¬ (85 ≤ s ∧ s ≤ 89 ∨ s = 91 ∨ s = 93) → e'.1 s k f = e.1 s k f
theorem FA8.rf (d : sk_D) : FA8 d d := fun _ _ _ _ => rfl
theorem FA9.rf (d : sk_D) : FA9 d d := fun _ _ _ _ => rfl
theorem FA8.tr {a b c : sk_D} (h : FA8 a b) (g : FA8 b c) : FA8 a c := fun s k f hs => (g s k f hs).trans (h s k f hs)
theorem FA9.tr {a b c : sk_D} (h : FA9 a b) (g : FA9 b c) : FA9 a c := fun s k f hs => (g s k f hs).trans (h s k f hs)
theorem SS.fr {n : Nat} {st p : Nat → Nat} {d e d' e' : sk_D} (h : SS n st p d e) (h8 : ∀ s k f, s < 24 ∨ 34 < s → d'.1 s k f = d.1 s k f) (h9 : ∀ s k f, s < 84 ∨ 93 < s → e'.1 s k f = e.1 s k f) : SS n st p d' e' := by
  unfold SS at h ⊢
  simp only [h8 39 _ _ (by omega), h8 40 _ _ (by omega), h8 41 _ _ (by omega), h8 43 _ _ (by omega), h8 0 _ _ (by omega), h9 59 _ _ (by omega), h9 60 _ _ (by omega), h9 61 _ _ (by omega), h9 44 _ _ (by omega), h9 68 _ _ (by omega), h9 69 _ _ (by omega), h9 70 _ _ (by omega)]
  exact h
theorem SS.fa {n : Nat} {st p : Nat → Nat} {d e d' e' : sk_D} (h : SS n st p d e) (h8 : FA8 d d') (h9 : FA9 e e') : SS n st p d' e' := h.fr (fun s k f hs => h8 s k f (by omega)) (fun s k f hs => h9 s k f (by omega))
theorem pig4 (a : Nat) (ha : a < 4) (b : Nat) (hb : b < 4) (c : Nat) (hc : c < 4) (d : Nat) (hd : d < 4) (e : Nat) (he : e < 4) : a = b ∨ a = c ∨ a = d ∨ a = e ∨ b = c ∨ b = d ∨ b = e ∨ c = d ∨ c = e ∨ d = e := by omega
/-- a group that doesn't wait finds room in each queue -/
theorem IV.room {n : Nat} {st b p W T : Nat → Nat} {A : Nat → Option Nat} {L : Nat → Nat} {Q : Nat → Nat → Nat} (h : IV n st b p W T A L Q) {g l : Nat} (hg : g < 4) (hw : W g = 0) (hl : l < 3) : L l < 4 := by
  obtain ⟨_, h2, h3⟩ := h
  obtain ⟨q1, q2⟩ := h2 l hl
  apply Classical.byContradiction
  intro hc
  have e4 : L l = 4 := by omega
  have ne : ∀ k, k < 4 → Q l k ≠ g := fun k hk q => (q2 k (by omega)).2 (by rw [q]; exact hw)
  have inj : ∀ i j, i < 4 → j < 4 → i ≠ j → Q l i ≠ Q l j := fun i j hi hj hij q => hij (h3 l i l j hl hl (by omega) (by omega) q).2
  rcases pig4 (Q l 0) (q2 0 (by omega)).1 (Q l 1) (q2 1 (by omega)).1 (Q l 2) (q2 2 (by omega)).1 (Q l 3) (q2 3 (by omega)).1 g hg with q | q | q | q | q | q | q | q | q | q
  · exact inj 0 1 (by omega) (by omega) (by omega) q
  · exact inj 0 2 (by omega) (by omega) (by omega) q
  · exact inj 0 3 (by omega) (by omega) (by omega) q
  · exact ne 0 (by omega) q
  · exact inj 1 2 (by omega) (by omega) (by omega) q
  · exact inj 1 3 (by omega) (by omega) (by omega) q
  · exact ne 1 (by omega) q
  · exact inj 2 3 (by omega) (by omega) (by omega) q
  · exact ne 2 (by omega) q
  · exact ne 3 (by omega) q
theorem x4n_nI (k j : Nat) : (4 : Int32) * nI k + nI j = nI (4 * k + j) := x4_nI k j
