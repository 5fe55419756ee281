/-! THE SIMULATION: what stands in both, minute by minute *** by hand -/
def up1 {α : Type} (f : Nat → α) (k : Nat) (v : α) : Nat → α := fun j => if j = k then v else f j
theorem up1_e {α : Type} {f : Nat → α} {k : Nat} {v : α} : up1 f k v k = v := if_pos rfl
theorem up1_o {α : Type} {f : Nat → α} {k j : Nat} {v : α} (h : j ≠ k) : up1 f k v j = f j := if_neg h
/-- two loops in step -/
theorem it_pr {α α' β β' γ γ' : Type} {F : (α → Option β) → α → Option β} {F' : (α' → Option β') → α' → Option β'} {K : γ → Option β} {K' : γ' → Option β'} {P : Nat → α → α' → Prop} {Qf : γ → γ' → Prop} {N : Nat}
    (hs : ∀ j a a', P j a a' → (∃ x x', Qf x x' ∧ (∀ rec, F rec a = K x) ∧ ∀ rec, F' rec a' = K' x') ∨ (j < N ∧ ∃ b b', P (j + 1) b b' ∧ (∀ rec, F rec a = rec b) ∧ ∀ rec, F' rec a' = rec b')) :
    ∀ (m i fl fl' : Nat) (a : α) (a' : α'), i + m = N → m < fl → m < fl' → P i a a' → ∃ x x', Qf x x' ∧ sk_it F fl a = K x ∧ sk_it F' fl' a' = K' x'
  | 0, _, 0, _, _, _, _, h, _, _ => absurd h (Nat.lt_irrefl 0)
  | 0, _, _ + 1, 0, _, _, _, _, h, _ => absurd h (Nat.lt_irrefl 0)
  | m + 1, _, 0, _, _, _, _, h, _, _ => absurd h (by omega)
  | m + 1, _, _ + 1, 0, _, _, _, _, h, _ => absurd h (by omega)
  | 0, i, fl + 1, fl' + 1, a, a', hi, _, _, hp => by
    rcases hs i a a' hp with ⟨x, x', h1, h2, h3⟩ | ⟨h, _⟩
    · exact ⟨x, x', h1, h2 _, h3 _⟩
    · omega
  | m + 1, i, fl + 1, fl' + 1, a, a', hi, h, h', hp => by
    rcases hs i a a' hp with ⟨x, x', h1, h2, h3⟩ | ⟨_, b, b', h1, h2, h3⟩
    · exact ⟨x, x', h1, h2 _, h3 _⟩
    · obtain ⟨x, x', h4, h5, h6⟩ := it_pr hs m (i + 1) fl fl' b b' (by omega) (by omega) (by omega) h1
      exact ⟨x, x', h4, (h2 _).trans h5, (h3 _).trans h6⟩
theorem it_pr0 {α α' β β' γ γ' : Type} {F : (α → Option β) → α → Option β} {F' : (α' → Option β') → α' → Option β'} (K : γ → Option β) (K' : γ' → Option β') (P : Nat → α → α' → Prop) (Qf : γ → γ' → Prop) (N : Nat)
    (hs : ∀ j a a', P j a a' → (∃ x x', Qf x x' ∧ (∀ rec, F rec a = K x) ∧ ∀ rec, F' rec a' = K' x') ∨ (j < N ∧ ∃ b b', P (j + 1) b b' ∧ (∀ rec, F rec a = rec b) ∧ ∀ rec, F' rec a' = rec b')) (hN : N < 5000) (a : α) (a' : α') (h0 : P 0 a a') :
    ∃ x x', Qf x x' ∧ sk_it F sk_fu a = K x ∧ sk_it F' sk_fu a' = K' x' := it_pr hs N 0 sk_fu sk_fu a a' (by omega) hN hN h0
/-- what stands still: programmes, lifts; n lifts, st stops, p persons -/
def SS (n : Nat) (st p : Nat → Nat) (d e : sk_D) : Prop :=
  (∀ g, g < 4 → p g ≤ 21 ∧ (p g ≠ 0 → 1 ≤ st g ∧ st g ≤ 4 ∧ d.1 39 g 6 = nI (st g) ∧ e.1 59 0 g = nI (st g) ∧ ∀ j, j < st g → ∃ l w, l < n ∧ 1 ≤ w ∧ w ≤ 20 ∧ d.1 40 g j = nI l ∧ e.1 60 0 (4 * g + j) = nI l ∧ d.1 41 g j = nI w ∧ e.1 61 0 (4 * g + j) = nI w)) ∧
  n ≤ 3 ∧ d.1 0 0 9 = nI n ∧ e.1 44 0 27 = nI n ∧ ∀ l, l < n → ∃ s i r, 1 ≤ s ∧ s ≤ 8 ∧ 1 ≤ i ∧ i ≤ 10 ∧ 1 ≤ r ∧ r ≤ 20 ∧ d.1 43 l 0 = nI s ∧ e.1 68 0 l = nI s ∧ d.1 43 l 1 = nI i ∧ e.1 69 0 l = nI i ∧ d.1 43 l 2 = nI r ∧ e.1 70 0 l = nI r
/-- what moves: b bounds, W waiting, T stops, A arrivals, L lengths, Q queues -/
def DY (b p W T : Nat → Nat) (A : Nat → Option Nat) (L : Nat → Nat) (Q : Nat → Nat → Nat) (d e : sk_D) : Prop :=
  (∀ g, g < 4 → d.1 24 0 g = nI (p g) ∧ e.1 84 0 g = nI (p g) ∧ d.1 31 0 g = nI (W g) ∧ e.1 85 0 g = nI (W g) ∧ d.1 30 0 g = nI (T g) ∧ e.1 87 0 g = nI (4 * g + T g) ∧ e.1 91 0 g = d.1 27 0 g ∧ (∀ a, A g = some a → d.1 25 0 g = nI a ∧ e.1 86 0 g = nI a) ∧ (A g = none → e.1 86 0 g = -9 ∧ (p g = 0 ∨ ∃ a, a < b g ∧ d.1 25 0 g = nI a))) ∧
  ∀ l, l < 3 → d.1 34 0 l = nI (L l) ∧ e.1 89 0 l = nI (L l) ∧ e.1 93 0 l = d.1 29 0 l ∧ ∀ k, k < L l → d.1 33 l k = nI (Q l k) ∧ e.1 88 0 (4 * l + k) = nI (Q l k)
def IV (n : Nat) (st b p W T : Nat → Nat) (A : Nat → Option Nat) (L : Nat → Nat) (Q : Nat → Nat → Nat) : Prop :=
  (∀ g, g < 4 → b g ≤ 200 ∧ W g ≤ p g ∧ T g < 4 ∧ (p g ≠ 0 → T g < st g) ∧ (∀ a, A g = some a → p g ≠ 0 ∧ W g = 0 ∧ b g ≤ a ∧ a ≤ 400) ∧ (W g ≠ 0 → A g = none ∧ ∃ l k, l < n ∧ k < L l ∧ Q l k = g)) ∧
  (∀ l, l < 3 → L l ≤ 4 ∧ ∀ k, k < L l → Q l k < 4 ∧ W (Q l k) ≠ 0) ∧
  ∀ l k l' k', l < 3 → l' < 3 → k < L l → k' < L l' → Q l k = Q l' k' → l = l' ∧ k = k'
/-- frames of joining and departing -/
def FA8 (d d' : sk_D) : Prop := ∀ s k f, ¬ (s = 25 ∨ s = 27 ∨ s = 29 ∨ s = 30 ∨ s = 31 ∨ s = 33 ∨ s = 34) → d'.1 s k f = d.1 s k f
def FA9 (e e' : sk_D) : Prop := ∀ s k f, ¬ (85 ≤ s ∧ s ≤ 89 ∨ s = 91 ∨ s = 93) → e'.1 s k f = e.1 s k f
theorem FA8.rf (d : sk_D) : FA8 d d := fun _ _ _ _ => rfl
theorem FA9.rf (d : sk_D) : FA9 d d := fun _ _ _ _ => rfl
theorem FA8.tr {a b c : sk_D} (h : FA8 a b) (g : FA8 b c) : FA8 a c := fun s k f hs => (g s k f hs).trans (h s k f hs)
theorem FA9.tr {a b c : sk_D} (h : FA9 a b) (g : FA9 b c) : FA9 a c := fun s k f hs => (g s k f hs).trans (h s k f hs)
theorem SS.fr {n : Nat} {st p : Nat → Nat} {d e d' e' : sk_D} (h : SS n st p d e) (h8 : ∀ s k f, s < 24 ∨ 34 < s → d'.1 s k f = d.1 s k f) (h9 : ∀ s k f, s < 84 ∨ 93 < s → e'.1 s k f = e.1 s k f) : SS n st p d' e' := by
  unfold SS at h ⊢
  simp only [h8 39 _ _ (by omega), h8 40 _ _ (by omega), h8 41 _ _ (by omega), h8 43 _ _ (by omega), h8 0 _ _ (by omega), h9 59 _ _ (by omega), h9 60 _ _ (by omega), h9 61 _ _ (by omega), h9 44 _ _ (by omega), h9 68 _ _ (by omega), h9 69 _ _ (by omega), h9 70 _ _ (by omega)]
  exact h
theorem SS.fa {n : Nat} {st p : Nat → Nat} {d e d' e' : sk_D} (h : SS n st p d e) (h8 : FA8 d d') (h9 : FA9 e e') : SS n st p d' e' := h.fr (fun s k f hs => h8 s k f (by omega)) (fun s k f hs => h9 s k f (by omega))
theorem pig4 (a : Nat) (ha : a < 4) (b : Nat) (hb : b < 4) (c : Nat) (hc : c < 4) (d : Nat) (hd : d < 4) (e : Nat) (he : e < 4) : a = b ∨ a = c ∨ a = d ∨ a = e ∨ b = c ∨ b = d ∨ b = e ∨ c = d ∨ c = e ∨ d = e := by omega
/-- a group that doesn't wait finds room in each queue -/
theorem IV.room {n : Nat} {st b p W T : Nat → Nat} {A : Nat → Option Nat} {L : Nat → Nat} {Q : Nat → Nat → Nat} (h : IV n st b p W T A L Q) {g l : Nat} (hg : g < 4) (hw : W g = 0) (hl : l < 3) : L l < 4 := by
  obtain ⟨_, h2, h3⟩ := h
  obtain ⟨q1, q2⟩ := h2 l hl
  apply Classical.byContradiction
  intro hc
  have e4 : L l = 4 := by omega
  have ne : ∀ k, k < 4 → Q l k ≠ g := fun k hk q => (q2 k (by omega)).2 (by rw [q]; exact hw)
  have inj : ∀ i j, i < 4 → j < 4 → i ≠ j → Q l i ≠ Q l j := fun i j hi hj hij q => hij (h3 l i l j hl hl (by omega) (by omega) q).2
  rcases pig4 (Q l 0) (q2 0 (by omega)).1 (Q l 1) (q2 1 (by omega)).1 (Q l 2) (q2 2 (by omega)).1 (Q l 3) (q2 3 (by omega)).1 g hg with q | q | q | q | q | q | q | q | q | q
  · exact inj 0 1 (by omega) (by omega) (by omega) q
  · exact inj 0 2 (by omega) (by omega) (by omega) q
  · exact inj 0 3 (by omega) (by omega) (by omega) q
  · exact ne 0 (by omega) q
  · exact inj 1 2 (by omega) (by omega) (by omega) q
  · exact inj 1 3 (by omega) (by omega) (by omega) q
  · exact ne 1 (by omega) q
  · exact inj 2 3 (by omega) (by omega) (by omega) q
  · exact ne 2 (by omega) q
  · exact ne 3 (by omega) q
theorem x4n_nI (k j : Nat) : (4 : Int32) * nI k + nI j = nI (4 * k + j) := x4_nI k j
/-- one group at the beginning of a minute -/
theorem join1 {n : Nat} {st p W T : Nat → Nat} {A : Nat → Option Nat} {L : Nat → Nat} {Q : Nat → Nat → Nat} {d e : sk_D} {m g : Nat} (hm : m < 180) (hg : g < 4)
    (hS : SS n st p d e) (hD : DY (fun h => if h < g then m + 1 else m) p W T A L Q d e) (hI : IV n st (fun h => if h < g then m + 1 else m) p W T A L Q) :
    ∃ W' A' L' Q' d' e', DY (fun h => if h < g + 1 then m + 1 else m) p W' T A' L' Q' d' e' ∧ IV n st (fun h => if h < g + 1 then m + 1 else m) p W' T A' L' Q' ∧ (∀ f, d'.1 27 0 f = d.1 27 0 f) ∧ FA8 d d' ∧ FA9 e e' ∧
      (∀ rec, q_X6_joinQueues_2 rec d (nI m) (nI g) = rec (d', nI m, nI (g + 1))) ∧ ∀ rec6 rec v1, q_X9_goThrough_13 rec6 rec e v1 (nI m) (nI g) = rec (e', v1, nI m, nI (g + 1)) := by
  have eg := nI_clamp (n := g) (by omega)
  have bg : sk_bi (nI g) 4 = true := bi_nI (by omega) (by omega)
  have lg : ¬ (4 : Int32) ≤ nI g := le_nI (n := 4) rfl hg (by omega)
  obtain ⟨D1, D2⟩ := hD
  obtain ⟨I1, I2, I3⟩ := hI
  obtain ⟨x1, x2, x3, x4, x5, x6, x7, x8, x9⟩ := D1 g hg
  obtain ⟨y0, y1, y2, y3, y4, y5⟩ := I1 g hg
  have bgm : (if g < g then m + 1 else m) = m := if_neg (by omega)
  -- the bounds' step, where the group stays as it is
  have stay : (∀ a, A g = some a → m + 1 ≤ a) → DY (fun h => if h < g + 1 then m + 1 else m) p W T A L Q d e ∧ IV n st (fun h => if h < g + 1 then m + 1 else m) p W T A L Q := by
    intro hA
    refine ⟨⟨fun h hh => ?_, D2⟩, ⟨fun h hh => ?_, I2, I3⟩⟩
    · obtain ⟨u1, u2, u3, u4, u5, u6, u7, u8, u9⟩ := D1 h hh
      refine ⟨u1, u2, u3, u4, u5, u6, u7, u8, fun hA0 => ⟨(u9 hA0).1, ?_⟩⟩
      rcases (u9 hA0).2 with q | ⟨a, q1, q2⟩
      · exact .inl q
      · refine .inr ⟨a, ?_, q2⟩
        have q1' : a < (if h < g then m + 1 else m) := q1
        show a < (if h < g + 1 then m + 1 else m)
        split at q1' <;> split <;> omega
    · obtain ⟨u0, u1, u2, u3, u4, u5⟩ := I1 h hh
      refine ⟨?_, u1, u2, u3, fun a ha => ?_, u5⟩
      · show (if h < g + 1 then m + 1 else m) ≤ 200
        split <;> omega
      · obtain ⟨v1, v2, v3, v4⟩ := u4 a ha
        refine ⟨v1, v2, ?_, v4⟩
        have v3' : (if h < g then m + 1 else m) ≤ a := v3
        show (if h < g + 1 then m + 1 else m) ≤ a
        by_cases eh : h = g
        · subst eh
          rw [if_pos (by omega)]
          exact hA a ha
        · split at v3' <;> split <;> omega
  cases hA : A g with
  | none =>
    obtain ⟨z1, z2⟩ := x9 hA
    obtain ⟨s1, s2⟩ := stay (fun a ha => by rw [hA] at ha; cases ha)
    refine ⟨W, A, L, Q, d, e, s1, s2, fun _ => rfl, FA8.rf d, FA9.rf e, fun rec => ?_, fun rec6 rec v1 => ?_⟩
    · by_cases hp : p g = 0
      · have h0 : nI (p g) ≤ (0 : Int32) := by rw [hp]; decide
        simp only [q_X6_joinQueues_2, q_X6_joinQueues_119, lg, bg, eg, x1, h0, s1_nI, ↓reduceIte]
      · have h0 : ¬ nI (p g) ≤ (0 : Int32) := nI_nle (by omega) (by have := (hS.1 g hg).1; omega)
        obtain ⟨a, q1, q2⟩ : ∃ a, a < m ∧ d.1 25 0 g = nI a := by
          rcases z2 with q | ⟨a, q1, q2⟩
          · exact absurd q hp
          · exact ⟨a, by rw [← bgm]; exact q1, q2⟩
        have h1 : ¬ nI a = nI m := ne_nI (n := m) rfl (by omega) (by omega)
        simp only [q_X6_joinQueues_2, q_X6_joinQueues_119, lg, bg, eg, x1, h0, q2, h1, s1_nI, ↓reduceIte]
    · have h1 : ¬ (-9 : Int32) = nI m := fun q => nm_nI (j := m) (by omega) q.symm
      simp only [q_X9_goThrough_13, q_X9_goThrough_90, lg, bg, eg, z1, h1, s1_nI, ↓reduceIte]
  | some a =>
    obtain ⟨z1, z2⟩ := x8 a hA
    obtain ⟨v1, v2, v3, v4⟩ := y4 a hA
    have v3' : m ≤ a := by rw [← bgm]; exact v3
    have hp21 := (hS.1 g hg).1
    have h0 : ¬ nI (p g) ≤ (0 : Int32) := nI_nle (by omega) (by omega)
    by_cases ham : a = m
    · subst ham
      obtain ⟨t1, t2, t3, t4, t5⟩ := (hS.1 g hg).2 v1
      obtain ⟨l, w, hl, _, _, k1, k2, _, _⟩ := t5 (T g) (y3 v1)
      have hn3 := hS.2.1
      have hl3 : l < 3 := by omega
      have hI : IV n st (fun h => if h < g then a + 1 else a) p W T A L Q := ⟨I1, I2, I3⟩
      have room := hI.room hg v2 hl3
      obtain ⟨r1, r2, r3, r4⟩ := D2 l hl3
      have eT := nI_clamp (n := T g) (by omega)
      have bT : sk_bi (nI (T g)) 4 = true := bi_nI (by omega) (by omega)
      have el := nI_clamp (n := l) (by omega)
      have bl : sk_bi (nI l) 3 = true := bi_nI (by omega) (by omega)
      have eL := nI_clamp (n := L l) (by omega)
      have bL : sk_bi (nI (L l)) 4 = true := bi_nI (by omega) (by omega)
      have e4 := nI_clamp (n := 4 * g + T g) (by omega)
      have b4 : sk_bi (nI (4 * g + T g)) 16 = true := bi_nI (by omega) (by omega)
      have e12 := nI_clamp (n := 4 * l + L l) (by omega)
      have b12 : sk_bi (nI (4 * l + L l)) 12 = true := bi_nI (by omega) (by omega)
      have w1 := (wi_in (T g) (a := nI (T g)) (lo := 0) (hi := 3) 0 3 rfl rfl rfl (by omega) (by omega) (by omega)).1 d
      have w2 := (wi_in l (a := nI l) (lo := 0) (hi := 2) 0 2 rfl rfl rfl (by omega) (by omega) (by omega)).1 d
      have w3 := (wi_in (L l) (a := nI (L l)) (lo := 0) (hi := 3) 0 3 rfl rfl rfl (by omega) (by omega) (by omega)).1 d
      refine ⟨up1 W g (p g), up1 A g none, up1 L l (L l + 1), fun x k => if x = l ∧ k = L l then g else Q x k, sk_wi (sk_wi (sk_wi d 33 l (L l) (nI g)) 34 0 l (nI (L l + 1))) 31 0 g (nI (p g)), sk_wi (sk_wi (sk_wi (sk_wi e 88 0 (4 * l + L l) (nI g)) 89 0 l (nI (L l + 1))) 85 0 g (nI (p g))) 86 0 g (-9), ?_, ?_, ?_, ?_, ?_, fun rec => ?_, fun rec6 rec v1 => ?_⟩
      · refine ⟨fun h hh => ?_, fun x hx => ?_⟩
        · obtain ⟨u1, u2, u3, u4, u5, u6, u7, u8, u9⟩ := D1 h hh
          by_cases eh : h = g
          · subst eh
            rw [up1_e, up1_e]
            refine ⟨?_, ?_, wi_e, ?_, ?_, ?_, ?_, fun c hc => (by cases hc), fun _ => ⟨wi_e, .inr ⟨a, ?_, ?_⟩⟩⟩
            · rw [wi_o (by omega), wi_o (by omega), wi_o (by omega)]
              exact u1
            · rw [wi_o (by omega), wi_o (by omega), wi_o (by omega), wi_o (by omega)]
              exact u2
            · rw [wi_o (by omega), wi_e]
            · rw [wi_o (by omega), wi_o (by omega), wi_o (by omega)]
              exact u5
            · rw [wi_o (by omega), wi_o (by omega), wi_o (by omega), wi_o (by omega)]
              exact u6
            · rw [wi_o (by omega), wi_o (by omega), wi_o (by omega), wi_o (by omega), wi_o (by omega), wi_o (by omega), wi_o (by omega)]
              exact u7
            · show a < (if h < h + 1 then a + 1 else a)
              rw [if_pos (by omega)]
              omega
            · rw [wi_o (by omega), wi_o (by omega), wi_o (by omega)]
              exact z1
          · rw [up1_o eh, up1_o eh]
            have o8 (s : Nat) (hs : s ≠ 33 ∧ s ≠ 34) : (sk_wi (sk_wi (sk_wi d 33 l (L l) (nI g)) 34 0 l (nI (L l + 1))) 31 0 g (nI (p g))).1 s 0 h = d.1 s 0 h := by
              rw [wi_o (by omega), wi_o (by omega), wi_o (by omega)]
            have o9 (s : Nat) (hs : s ≠ 88 ∧ s ≠ 89) : (sk_wi (sk_wi (sk_wi (sk_wi e 88 0 (4 * l + L l) (nI g)) 89 0 l (nI (L l + 1))) 85 0 g (nI (p g))) 86 0 g (-9)).1 s 0 h = e.1 s 0 h := by
              rw [wi_o (by omega), wi_o (by omega), wi_o (by omega), wi_o (by omega)]
            rw [o8 24 (by omega), o8 25 (by omega), o8 27 (by omega), o8 30 (by omega), o8 31 (by omega), o9 84 (by omega), o9 85 (by omega), o9 86 (by omega), o9 87 (by omega), o9 91 (by omega)]
            refine ⟨u1, u2, u3, u4, u5, u6, u7, u8, fun hA0 => ⟨(u9 hA0).1, ?_⟩⟩
            rcases (u9 hA0).2 with q | ⟨c, q1, q2⟩
            · exact .inl q
            · refine .inr ⟨c, ?_, q2⟩
              have q1' : c < (if h < g then a + 1 else a) := q1
              show c < (if h < g + 1 then a + 1 else a)
              split at q1' <;> split <;> omega
        · obtain ⟨u1, u2, u3, u4⟩ := D2 x hx
          by_cases ex : x = l
          · subst ex
            rw [up1_e]
            refine ⟨?_, ?_, ?_, fun k hk => ?_⟩
            · rw [wi_o (by omega), wi_e]
            · rw [wi_o (by omega), wi_o (by omega), wi_e]
            · rw [wi_o (by omega), wi_o (by omega), wi_o (by omega), wi_o (by omega), wi_o (by omega), wi_o (by omega), wi_o (by omega)]
              exact u3
            · dsimp only
              by_cases ek : k = L x
              · subst ek
                rw [if_pos ⟨rfl, rfl⟩, wi_o (by omega), wi_o (by omega), wi_e, wi_o (by omega), wi_o (by omega), wi_o (by omega), wi_e]
                exact ⟨rfl, rfl⟩
              · rw [if_neg (by omega), wi_o (by omega), wi_o (by omega), wi_o (by omega), wi_o (by omega), wi_o (by omega), wi_o (by omega), wi_o (by omega)]
                exact u4 k (by omega)
          · rw [up1_o ex]
            refine ⟨?_, ?_, ?_, fun k hk => ?_⟩
            · rw [wi_o (by omega), wi_o (by omega), wi_o (by omega)]
              exact u1
            · rw [wi_o (by omega), wi_o (by omega), wi_o (by omega), wi_o (by omega)]
              exact u2
            · rw [wi_o (by omega), wi_o (by omega), wi_o (by omega), wi_o (by omega), wi_o (by omega), wi_o (by omega), wi_o (by omega)]
              exact u3
            · dsimp only
              have hL4 := (I2 x hx).1
              rw [if_neg (by omega), wi_o (by omega), wi_o (by omega), wi_o (by omega), wi_o (by omega), wi_o (by omega), wi_o (by omega), wi_o (by omega)]
              exact u4 k hk
      · have qnew : ∀ x k, x < 3 → k < up1 L l (L l + 1) x → (x = l ∧ k = L l ∧ (if x = l ∧ k = L l then g else Q x k) = g) ∨ (¬ (x = l ∧ k = L l) ∧ k < L x ∧ (if x = l ∧ k = L l then g else Q x k) = Q x k) := by
          intro x k hx hk
          by_cases c : x = l ∧ k = L l
          · exact .inl ⟨c.1, c.2, if_pos c⟩
          · refine .inr ⟨c, ?_, if_neg c⟩
            unfold up1 at hk
            split at hk
            · rename_i ex
              subst ex
              omega
            · exact hk
        have nog : ∀ x k, x < 3 → k < L x → Q x k ≠ g := fun x k hx hk q => ((I2 x hx).2 k hk).2 (by rw [q]; exact v2)
        refine ⟨fun h hh => ?_, fun x hx => ?_, fun x k x' k' hx hx' hk hk' q => ?_⟩
        · obtain ⟨u0, u1, u2, u3, u4, u5⟩ := I1 h hh
          by_cases eh : h = g
          · subst eh
            rw [up1_e, up1_e]
            refine ⟨?_, Nat.le_refl _, u2, u3, fun a ha => (by cases ha), fun _ => ⟨rfl, l, L l, hl, ?_, if_pos ⟨rfl, rfl⟩⟩⟩
            · show (if h < h + 1 then a + 1 else a) ≤ 200
              split <;> omega
            · rw [up1_e]
              omega
          · rw [up1_o eh, up1_o eh]
            refine ⟨?_, u1, u2, u3, fun c hc => ?_, fun hw => ?_⟩
            · show (if h < g + 1 then a + 1 else a) ≤ 200
              split <;> omega
            · obtain ⟨s1, s2, s3, s4⟩ := u4 c hc
              refine ⟨s1, s2, ?_, s4⟩
              have s3' : (if h < g then a + 1 else a) ≤ c := s3
              show (if h < g + 1 then a + 1 else a) ≤ c
              split at s3' <;> split <;> omega
            · obtain ⟨s1, x, k, s2, s3, s4⟩ := u5 hw
              refine ⟨s1, x, k, s2, ?_, ?_⟩
              · unfold up1
                split
                · rename_i ex
                  subst ex
                  omega
                · exact s3
              · show (if x = l ∧ k = L l then g else Q x k) = h
                rw [if_neg ?_]
                · exact s4
                · rintro ⟨ex, ek⟩
                  subst ex
                  omega
        · refine ⟨?_, fun k hk => ?_⟩
          · unfold up1
            split
            · omega
            · exact (I2 x hx).1
          · show (if x = l ∧ k = L l then g else Q x k) < 4 ∧ up1 W g (p g) (if x = l ∧ k = L l then g else Q x k) ≠ 0
            rcases qnew x k hx hk with ⟨_, _, q⟩ | ⟨_, hk2, q⟩
            · rw [q, up1_e]
              exact ⟨hg, v1⟩
            · rw [q, up1_o (nog x k hx hk2)]
              exact (I2 x hx).2 k hk2
        · have q' : (if x = l ∧ k = L l then g else Q x k) = (if x' = l ∧ k' = L l then g else Q x' k') := q
          rcases qnew x k hx hk with ⟨c1, c2, c3⟩ | ⟨_, hk2, c3⟩ <;> rcases qnew x' k' hx' hk' with ⟨f1, f2, f3⟩ | ⟨_, hk2', f3⟩
          · exact ⟨c1.trans f1.symm, c2.trans f2.symm⟩
          · rw [c3, f3] at q'
            exact absurd q'.symm (nog x' k' hx' hk2')
          · rw [c3, f3] at q'
            exact absurd q' (nog x k hx hk2)
          · rw [c3, f3] at q'
            exact I3 x k x' k' hx hx' hk2 hk2' q'
      · intro f
        rw [wi_o (by omega), wi_o (by omega), wi_o (by omega)]
      · intro s k f hs
        rw [wi_o (by omega), wi_o (by omega), wi_o (by omega)]
      · intro s k f hs
        rw [wi_o (by omega), wi_o (by omega), wi_o (by omega), wi_o (by omega)]
      · have c1 : (sk_wi d 33 l (L l) (nI g)).1 34 0 l = nI (L l) := (wi_o (by omega)).trans r1
        have c2 : (sk_wi (sk_wi d 33 l (L l) (nI g)) 34 0 l (nI (L l + 1))).1 24 0 g = nI (p g) := by rw [wi_o (by omega), wi_o (by omega), x1]
        simp only [q_X6_joinQueues_2, q_X6_joinQueues_103, q_X6_joinQueues_117, q_X6_joinQueues_119, lg, bg, eg, x1, h0, z1, x5, w1, i10, bT, eT, k1, w2, bl, el, r1, w3, bL, eL, c1, c2, s1_nI, Option.bind_some, ↓reduceIte]
      · have c1 : (sk_wi e 88 0 (4 * l + L l) (nI g)).1 89 0 l = nI (L l) := (wi_o (by omega)).trans r2
        have c2 : (sk_wi (sk_wi e 88 0 (4 * l + L l) (nI g)) 89 0 l (nI (L l + 1))).1 84 0 g = nI (p g) := by rw [wi_o (by omega), wi_o (by omega), x2]
        simp only [q_X9_goThrough_13, q_X9_goThrough_66, q_X9_goThrough_80, q_X9_goThrough_90, lg, bg, eg, z2, x6, b4, e4, k2, bl, el, r2, x4n_nI, b12, e12, c1, c2, s1_nI, ↓reduceIte]
    · have h1 : ¬ nI a = nI m := ne_nI (n := m) rfl ham (by omega)
      obtain ⟨s1, s2⟩ := stay (fun c hc => by
        rw [hA] at hc
        cases hc
        omega)
      refine ⟨W, A, L, Q, d, e, s1, s2, fun _ => rfl, FA8.rf d, FA9.rf e, fun rec => ?_, fun rec6 rec v1 => ?_⟩
      · simp only [q_X6_joinQueues_2, q_X6_joinQueues_119, lg, bg, eg, x1, h0, z1, h1, s1_nI, ↓reduceIte]
      · simp only [q_X9_goThrough_13, q_X9_goThrough_90, lg, bg, eg, z2, h1, s1_nI, ↓reduceIte]
