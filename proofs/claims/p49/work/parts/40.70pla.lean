/-! THE PLANNER, pure: the best plan of units, and what does not matter to it *** by hand -/
def kw (w : Nat) (z : Nat × Nat) : Nat := w * z.1 - z.2
def fd (ok : Nat → Bool) (cd : Nat → Nat × Nat) (b : Nat × Nat) : Nat → (Nat × Nat) × Nat
  | 0 => (b, 0)
  | i + 1 => if ok (3 - i) = true ∧ kw 32 (fd ok cd b i).1 ≤ kw 32 (cd (3 - i)) then (cd (3 - i), 4 - i) else fd ok cd b i
def rd (c : Nat → Nat) (g n : Nat) : Nat → Nat := fun j => if j = g then c j - n else c j
def okc (h : Nat → Nat) (x : Nat → Nat → Bool) (u : Nat) (c : Nat → Nat) (g : Nat) : Bool := x u g && decide (h u ≤ c g)
def bs (h : Nat → Nat) (x : Nat → Nat → Bool) (o : Nat → Nat → Nat) : Nat → Nat → (Nat → Nat) → Nat × Nat
  | 0, _, _ => (0, 0)
  | m + 1, u, c => (fd (okc h x u c) (fun g => ((bs h x o m (u + 1) (rd c g (h u))).1 + h u, (bs h x o m (u + 1) (rd c g (h u))).2 + o u g)) (bs h x o m (u + 1) c) 4).1
def cds (h : Nat → Nat) (x : Nat → Nat → Bool) (o : Nat → Nat → Nat) (m u : Nat) (c : Nat → Nat) (g : Nat) : Nat × Nat := ((bs h x o m (u + 1) (rd c g (h u))).1 + h u, (bs h x o m (u + 1) (rd c g (h u))).2 + o u g)
def fds (h : Nat → Nat) (x : Nat → Nat → Bool) (o : Nat → Nat → Nat) (m u : Nat) (c : Nat → Nat) (i : Nat) : (Nat × Nat) × Nat := fd (okc h x u c) (cds h x o m u c) (bs h x o m (u + 1) c) i
theorem bs_s (h : Nat → Nat) (x : Nat → Nat → Bool) (o : Nat → Nat → Nat) (m u : Nat) (c : Nat → Nat) : bs h x o (m + 1) u c = (fds h x o m u c 4).1 := rfl
theorem fd_s (ok : Nat → Bool) (cd : Nat → Nat × Nat) (b : Nat × Nat) (i : Nat) : fd ok cd b (i + 1) = if ok (3 - i) = true ∧ kw 32 (fd ok cd b i).1 ≤ kw 32 (cd (3 - i)) then (cd (3 - i), 4 - i) else fd ok cd b i := rfl
theorem fd_congr {ok ok' : Nat → Bool} {cd cd' : Nat → Nat × Nat} {b b' : Nat × Nat} (hb : b = b') (ho : ∀ g, g < 4 → ok g = ok' g) (hc : ∀ g, g < 4 → ok g = true → cd g = cd' g) : ∀ i, fd ok cd b i = fd ok' cd' b' i
  | 0 => by
    show (b, 0) = (b', 0)
    rw [hb]
  | i + 1 => by
    rw [fd_s, fd_s, fd_congr hb ho hc i, ← ho (3 - i) (by omega)]
    by_cases h1 : ok (3 - i) = true
    · rw [hc (3 - i) (by omega) h1]
    · rw [if_neg (fun q => h1 q.1), if_neg (fun q => h1 q.1)]
theorem fd_P {ok : Nat → Bool} {cd : Nat → Nat × Nat} {b : Nat × Nat} (P : Nat × Nat → Prop) (hb : P b) (hc : ∀ g, g < 4 → ok g = true → P (cd g)) : ∀ i, P (fd ok cd b i).1
  | 0 => hb
  | i + 1 => by
    rw [fd_s]
    by_cases h1 : ok (3 - i) = true ∧ kw 32 (fd ok cd b i).1 ≤ kw 32 (cd (3 - i))
    · rw [if_pos h1]
      exact hc (3 - i) (by omega) h1.1
    · rw [if_neg h1]
      exact fd_P P hb hc i
theorem fd_ch {ok : Nat → Bool} {cd : Nat → Nat × Nat} {b : Nat × Nat} : ∀ i, i ≤ 4 → (fd ok cd b i).2 = 0 ∨ ∃ g, g < 4 ∧ (fd ok cd b i).2 = g + 1 ∧ ok g = true ∧ (fd ok cd b i).1 = cd g
  | 0, _ => .inl rfl
  | i + 1, hi => by
    rw [fd_s]
    by_cases h1 : ok (3 - i) = true ∧ kw 32 (fd ok cd b i).1 ≤ kw 32 (cd (3 - i))
    · rw [if_pos h1]
      exact .inr ⟨3 - i, by omega, by show 4 - i = 3 - i + 1; omega, h1.1, rfl⟩
    · rw [if_neg h1]
      exact fd_ch i (by omega)
theorem fd_0 {ok : Nat → Bool} {cd : Nat → Nat × Nat} {b : Nat × Nat} : ∀ i, i ≤ 4 → (fd ok cd b i).2 = 0 → (fd ok cd b i).1 = b
  | 0, _, _ => rfl
  | i + 1, hi, h => by
    rw [fd_s] at h ⊢
    by_cases h1 : ok (3 - i) = true ∧ kw 32 (fd ok cd b i).1 ≤ kw 32 (cd (3 - i))
    · rw [if_pos h1] at h
      have h2 : 4 - i = 0 := h
      omega
    · rw [if_neg h1] at h ⊢
      exact fd_0 i (by omega) h
/-- what the units from u on that fit want -/
def wt (h : Nat → Nat) (x : Nat → Nat → Bool) (g : Nat) : Nat → Nat → Nat
  | 0, _ => 0
  | m + 1, u => (if x u g = true then h u else 0) + wt h x g m (u + 1)
def sh (h : Nat → Nat) : Nat → Nat → Nat
  | 0, _ => 0
  | m + 1, u => h u + sh h m (u + 1)
def Rl (h : Nat → Nat) (x x' : Nat → Nat → Bool) (o o' : Nat → Nat → Nat) (m u : Nat) (c c' : Nat → Nat) (g : Nat) : Prop := (c g = 0 ∧ c' g = 0) ∨ ((∀ v, x v g = x' v g ∧ o v g = o' v g) ∧ (c g = c' g ∨ (wt h x g m u ≤ c g ∧ wt h x g m u ≤ c' g)))
theorem Rl.dn {h : Nat → Nat} {x x' : Nat → Nat → Bool} {o o' : Nat → Nat → Nat} {m u : Nat} {c c' : Nat → Nat} {g : Nat} (hR : Rl h x x' o o' (m + 1) u c c' g) : Rl h x x' o o' m (u + 1) c c' g := by
  rcases hR with h1 | ⟨h1, h2 | ⟨h2, h3⟩⟩
  · exact .inl h1
  · exact .inr ⟨h1, .inl h2⟩
  · have : wt h x g m (u + 1) ≤ wt h x g (m + 1) u := Nat.le_add_left _ _
    exact .inr ⟨h1, .inr ⟨by omega, by omega⟩⟩
theorem Rl.ok {h : Nat → Nat} {x x' : Nat → Nat → Bool} {o o' : Nat → Nat → Nat} {m u : Nat} {c c' : Nat → Nat} {g : Nat} (hR : Rl h x x' o o' (m + 1) u c c' g) (hu : 1 ≤ h u) : okc h x u c g = okc h x' u c' g := by
  unfold okc
  rcases hR with ⟨h1, h2⟩ | ⟨h1, h2⟩
  · rw [h1, h2, decide_eq_false (show ¬ h u ≤ 0 by omega), Bool.and_false, Bool.and_false]
  · rw [← (h1 u).1]
    by_cases e : x u g = true
    · rw [e, Bool.true_and, Bool.true_and]
      have hw : wt h x g (m + 1) u = h u + wt h x g m (u + 1) := by
        show (if x u g = true then h u else 0) + wt h x g m (u + 1) = _
        rw [if_pos e]
      rcases h2 with h2 | ⟨h2, h3⟩
      · rw [h2]
      · rw [decide_eq_true (show h u ≤ c g by omega), decide_eq_true (show h u ≤ c' g by omega)]
    · rw [Bool.not_eq_true] at e
      rw [e, Bool.false_and, Bool.false_and]
theorem okc.le {h : Nat → Nat} {x : Nat → Nat → Bool} {u : Nat} {c : Nat → Nat} {g : Nat} (ho : okc h x u c g = true) : x u g = true ∧ h u ≤ c g := by
  unfold okc at ho
  rw [Bool.and_eq_true, decide_eq_true_eq] at ho
  exact ho
theorem Rl.up {h : Nat → Nat} {x x' : Nat → Nat → Bool} {o o' : Nat → Nat → Nat} {m u : Nat} {c c' : Nat → Nat} {g : Nat} (hR : ∀ j, j < 4 → Rl h x x' o o' (m + 1) u c c' j) (hu : 1 ≤ h u) (ho : okc h x u c g = true) : ∀ j, j < 4 → Rl h x x' o o' m (u + 1) (rd c g (h u)) (rd c' g (h u)) j := by
  intro j hj
  by_cases e : j = g
  · subst e
    have e1 : rd c j (h u) j = c j - h u := if_pos rfl
    have e2 : rd c' j (h u) j = c' j - h u := if_pos rfl
    obtain ⟨hx, hc⟩ := okc.le ho
    have hw : wt h x j (m + 1) u = h u + wt h x j m (u + 1) := by
      show (if x u j = true then h u else 0) + wt h x j m (u + 1) = _
      rw [if_pos hx]
    unfold Rl
    rw [e1, e2]
    rcases hR j hj with ⟨h1, h2⟩ | ⟨h1, h2 | ⟨h2, h3⟩⟩
    · omega
    · exact .inr ⟨h1, .inl (by rw [h2])⟩
    · exact .inr ⟨h1, .inr ⟨by omega, by omega⟩⟩
  · have e1 : rd c g (h u) j = c j := if_neg e
    have e2 : rd c' g (h u) j = c' j := if_neg e
    have := (hR j hj).dn
    unfold Rl at this ⊢
    rw [e1, e2]
    exact this
theorem bs_red {h : Nat → Nat} {x x' : Nat → Nat → Bool} {o o' : Nat → Nat → Nat} : ∀ (m u : Nat) (c c' : Nat → Nat), (∀ v, u ≤ v → v < u + m → 1 ≤ h v) → (∀ j, j < 4 → Rl h x x' o o' m u c c' j) → bs h x o m u c = bs h x' o' m u c'
  | 0, _, _, _, _, _ => rfl
  | m + 1, u, c, c', hh, hR => by
    have hu : 1 ≤ h u := hh u (Nat.le_refl _) (by omega)
    have hh' : ∀ v, u + 1 ≤ v → v < u + 1 + m → 1 ≤ h v := fun v h1 h2 => hh v (by omega) (by omega)
    rw [bs_s, bs_s]
    refine congrArg Prod.fst (fd_congr (bs_red m (u + 1) c c' hh' (fun j hj => (hR j hj).dn)) (fun g hg => (hR g hg).ok hu) (fun g hg ho => ?_) 4)
    unfold cds
    rw [bs_red m (u + 1) _ _ hh' (Rl.up hR hu ho)]
    obtain ⟨hx, hc⟩ := okc.le ho
    rcases hR g hg with ⟨h1, h2⟩ | ⟨h1, _⟩
    · omega
    · rw [(h1 u).2]
theorem fds_red {h : Nat → Nat} {x x' : Nat → Nat → Bool} {o o' : Nat → Nat → Nat} {m u : Nat} {c c' : Nat → Nat} (hh : ∀ v, u ≤ v → v < u + (m + 1) → 1 ≤ h v) (hR : ∀ j, j < 4 → Rl h x x' o o' (m + 1) u c c' j) : fds h x o m u c 4 = fds h x' o' m u c' 4 := by
  have hu : 1 ≤ h u := hh u (Nat.le_refl _) (by omega)
  have hh' : ∀ v, u + 1 ≤ v → v < u + 1 + m → 1 ≤ h v := fun v h1 h2 => hh v (by omega) (by omega)
  refine fd_congr (bs_red m (u + 1) c c' hh' (fun j hj => (hR j hj).dn)) (fun g hg => (hR g hg).ok hu) (fun g hg ho => ?_) 4
  unfold cds
  rw [bs_red m (u + 1) _ _ hh' (Rl.up hR hu ho)]
  obtain ⟨hx, hc⟩ := okc.le ho
  rcases hR g hg with ⟨h1, h2⟩ | ⟨h1, _⟩
  · omega
  · rw [(h1 u).2]
/-- the bounds -/
theorem bs_bd {h : Nat → Nat} {x : Nat → Nat → Bool} {o : Nat → Nat → Nat} (ho : ∀ u g, o u g ≤ h u) : ∀ (m u : Nat) (c : Nat → Nat), (bs h x o m u c).2 ≤ (bs h x o m u c).1 ∧ (bs h x o m u c).1 ≤ sh h m u
  | 0, _, _ => ⟨Nat.le_refl _, Nat.le_refl _⟩
  | m + 1, u, c => by
    rw [bs_s]
    have hs : sh h (m + 1) u = h u + sh h m (u + 1) := rfl
    refine fd_P (fun z => z.2 ≤ z.1 ∧ z.1 ≤ sh h (m + 1) u) ?_ (fun g _ _ => ?_) 4
    · have := bs_bd (x := x) ho m (u + 1) c
      exact ⟨this.1, by omega⟩
    · have := bs_bd (x := x) ho m (u + 1) (rd c g (h u))
      have h2 := ho u g
      unfold cds
      exact ⟨by dsimp only; omega, by dsimp only; omega⟩
theorem cds_bd {h : Nat → Nat} {x : Nat → Nat → Bool} {o : Nat → Nat → Nat} (ho : ∀ u g, o u g ≤ h u) (m u : Nat) (c : Nat → Nat) (g : Nat) : (cds h x o m u c g).2 ≤ (cds h x o m u c g).1 ∧ (cds h x o m u c g).1 ≤ sh h (m + 1) u := by
  have := bs_bd (x := x) ho m (u + 1) (rd c g (h u))
  have h2 := ho u g
  have hs : sh h (m + 1) u = h u + sh h m (u + 1) := rfl
  unfold cds
  exact ⟨by dsimp only; omega, by dsimp only; omega⟩
def vb (z : Nat × Nat) : Prop := z.2 ≤ z.1 ∧ z.1 ≤ 20
theorem vb.le {a b : Nat × Nat} (ha : vb a) (hb : vb b) : kw 32 a ≤ kw 32 b ↔ kw 100 a ≤ kw 100 b := by
  obtain ⟨h1, h2⟩ := ha
  obtain ⟨h3, h4⟩ := hb
  unfold kw
  omega
/-- the greatest, upward -/
def mxg (ok : Nat → Bool) (cd : Nat → Nat × Nat) (b : Nat × Nat) : Nat → Nat
  | 0 => kw 100 b
  | g + 1 => if ok g = true ∧ mxg ok cd b g < kw 100 (cd g) then kw 100 (cd g) else mxg ok cd b g
theorem mxg_m {ok : Nat → Bool} {cd : Nat → Nat × Nat} {b : Nat × Nat} : ∀ n, kw 100 b ≤ mxg ok cd b n ∧ (∀ g, g < n → ok g = true → kw 100 (cd g) ≤ mxg ok cd b n) ∧ (mxg ok cd b n = kw 100 b ∨ ∃ g, g < n ∧ ok g = true ∧ mxg ok cd b n = kw 100 (cd g))
  | 0 => ⟨Nat.le_refl _, fun g hg => absurd hg (Nat.not_lt_zero g), .inl rfl⟩
  | n + 1 => by
    obtain ⟨h1, h2, h3⟩ := mxg_m (ok := ok) (cd := cd) (b := b) n
    have e : mxg ok cd b (n + 1) = if ok n = true ∧ mxg ok cd b n < kw 100 (cd n) then kw 100 (cd n) else mxg ok cd b n := rfl
    rw [e]
    by_cases q : ok n = true ∧ mxg ok cd b n < kw 100 (cd n)
    · rw [if_pos q]
      refine ⟨by omega, fun g hg ho => ?_, .inr ⟨n, by omega, q.1, rfl⟩⟩
      by_cases en : g = n
      · rw [en]
        exact Nat.le_refl _
      · have := h2 g (by omega) ho
        omega
    · rw [if_neg q]
      refine ⟨h1, fun g hg ho => ?_, ?_⟩
      · by_cases en : g = n
        · subst en
          by_cases q2 : mxg ok cd b g < kw 100 (cd g)
          · exact absurd ⟨ho, q2⟩ q
          · omega
        · exact h2 g (by omega) ho
      · rcases h3 with h3 | ⟨g, h4, h5⟩
        · exact .inl h3
        · exact .inr ⟨g, by omega, h5⟩
theorem fd_s2 {ok : Nat → Bool} {cd : Nat → Nat × Nat} {b : Nat × Nat} (hb : vb b) (hc : ∀ g, g < 4 → vb (cd g)) (i : Nat) : fd ok cd b (i + 1) = if ok (3 - i) = true ∧ kw 100 (fd ok cd b i).1 ≤ kw 100 (cd (3 - i)) then (cd (3 - i), 4 - i) else fd ok cd b i := by
  have hv : vb (fd ok cd b i).1 := fd_P vb hb (fun g hg _ => hc g hg) i
  have h := hv.le (hc (3 - i) (by omega))
  rw [fd_s]
  by_cases q : ok (3 - i) = true ∧ kw 32 (fd ok cd b i).1 ≤ kw 32 (cd (3 - i))
  · rw [if_pos q, if_pos ⟨q.1, h.mp q.2⟩]
  · rw [if_neg q, if_neg (fun z => q ⟨z.1, h.mpr z.2⟩)]
theorem fd_m {ok : Nat → Bool} {cd : Nat → Nat × Nat} {b : Nat × Nat} (hb : vb b) (hc : ∀ g, g < 4 → vb (cd g)) : ∀ n, n ≤ 4 → kw 100 b ≤ kw 100 (fd ok cd b n).1 ∧ (∀ g, g < 4 → 4 - n ≤ g → ok g = true → kw 100 (cd g) ≤ kw 100 (fd ok cd b n).1) ∧ (kw 100 (fd ok cd b n).1 = kw 100 b ∨ ∃ g, g < 4 ∧ ok g = true ∧ kw 100 (fd ok cd b n).1 = kw 100 (cd g))
  | 0, _ => ⟨Nat.le_refl _, fun g h1 h2 => absurd h2 (by omega), .inl rfl⟩
  | n + 1, hn => by
    obtain ⟨h1, h2, h3⟩ := fd_m (ok := ok) hb hc n (by omega)
    rw [fd_s2 hb hc]
    by_cases q : ok (3 - n) = true ∧ kw 100 (fd ok cd b n).1 ≤ kw 100 (cd (3 - n))
    · rw [if_pos q]
      refine ⟨Nat.le_trans h1 q.2, fun g hg hg2 ho => ?_, .inr ⟨3 - n, by omega, q.1, rfl⟩⟩
      by_cases en : g = 3 - n
      · rw [en]
        exact Nat.le_refl _
      · exact Nat.le_trans (h2 g hg (by omega) ho) q.2
    · rw [if_neg q]
      refine ⟨h1, fun g hg hg2 ho => ?_, h3⟩
      by_cases en : g = 3 - n
      · subst en
        by_cases q2 : kw 100 (fd ok cd b n).1 ≤ kw 100 (cd (3 - n))
        · exact absurd ⟨ho, q2⟩ q
        · omega
      · exact h2 g hg (by omega) ho
theorem mxg_fd {ok : Nat → Bool} {cd : Nat → Nat × Nat} {b : Nat × Nat} (hb : vb b) (hc : ∀ g, g < 4 → vb (cd g)) : mxg ok cd b 4 = kw 100 (fd ok cd b 4).1 := by
  obtain ⟨h1, h2, h3⟩ := mxg_m (ok := ok) (cd := cd) (b := b) 4
  obtain ⟨h4, h5, h6⟩ := fd_m (ok := ok) hb hc 4 (Nat.le_refl _)
  apply Nat.le_antisymm
  · rcases h3 with h3 | ⟨g, g1, g2, g3⟩
    · omega
    · rw [g3]
      exact h5 g g1 (by omega) g2
  · rcases h6 with h6 | ⟨g, g1, g2, g3⟩
    · omega
    · rw [g3]
      exact h2 g g1 g2
/-- the smallest group that attains it -/
def sr (ok : Nat → Bool) (cd : Nat → Nat × Nat) (M : Nat) : Nat → Nat
  | 0 => 0
  | i + 1 => if ok (3 - i) = true ∧ kw 100 (cd (3 - i)) = M then 4 - i else sr ok cd M i
theorem fd_up {ok : Nat → Bool} {cd : Nat → Nat × Nat} {b : Nat × Nat} (hb : vb b) (hc : ∀ g, g < 4 → vb (cd g)) {i j : Nat} (hi : i + j ≤ 4) : kw 100 (fd ok cd b i).1 ≤ kw 100 (fd ok cd b (i + j)).1 := by
  induction j with
  | zero => exact Nat.le_refl _
  | succ j ih =>
    refine Nat.le_trans (ih (by omega)) ?_
    show _ ≤ kw 100 (fd ok cd b (i + j + 1)).1
    rw [fd_s2 hb hc]
    by_cases q : ok (3 - (i + j)) = true ∧ kw 100 (fd ok cd b (i + j)).1 ≤ kw 100 (cd (3 - (i + j)))
    · rw [if_pos q]
      exact q.2
    · rw [if_neg q]
      exact Nat.le_refl _
theorem sr_fd {ok : Nat → Bool} {cd : Nat → Nat × Nat} {b : Nat × Nat} (hb : vb b) (hc : ∀ g, g < 4 → vb (cd g)) : ∀ i, i ≤ 4 → (kw 100 (fd ok cd b i).1 = kw 100 (fd ok cd b 4).1 ∧ sr ok cd (kw 100 (fd ok cd b 4).1) i = (fd ok cd b i).2) ∨ (kw 100 (fd ok cd b i).1 < kw 100 (fd ok cd b 4).1 ∧ sr ok cd (kw 100 (fd ok cd b 4).1) i = 0)
  | 0, _ => by
    have := fd_up (ok := ok) hb hc (i := 0) (j := 4) (by omega)
    rcases Nat.lt_or_eq_of_le this with h | h
    · exact .inr ⟨h, rfl⟩
    · exact .inl ⟨h, rfl⟩
  | i + 1, hi => by
    have ih := sr_fd (ok := ok) hb hc i (by omega)
    have up : kw 100 (fd ok cd b (i + 1)).1 ≤ kw 100 (fd ok cd b 4).1 := by
      have := fd_up (ok := ok) hb hc (i := i + 1) (j := 3 - i) (by omega)
      rw [show i + 1 + (3 - i) = 4 by omega] at this
      exact this
    have e2 := fd_s2 (ok := ok) hb hc i
    generalize hM : kw 100 (fd ok cd b 4).1 = M at *
    have es : sr ok cd M (i + 1) = if ok (3 - i) = true ∧ kw 100 (cd (3 - i)) = M then 4 - i else sr ok cd M i := rfl
    rw [es]
    rw [e2] at up ⊢
    by_cases q : ok (3 - i) = true ∧ kw 100 (fd ok cd b i).1 ≤ kw 100 (cd (3 - i))
    · rw [if_pos q] at up ⊢
      have up : kw 100 (cd (3 - i)) ≤ M := up
      by_cases q2 : kw 100 (cd (3 - i)) = M
      · rw [if_pos ⟨q.1, q2⟩]
        exact .inl ⟨q2, rfl⟩
      · rw [if_neg (fun z => q2 z.2)]
        have q3 := q.2
        refine .inr ⟨by show kw 100 (cd (3 - i)) < M; omega, ?_⟩
        rcases ih with ⟨h1, _⟩ | ⟨_, h2⟩
        · omega
        · exact h2
    · rw [if_neg q] at up ⊢
      have q2 : ¬ (ok (3 - i) = true ∧ kw 100 (cd (3 - i)) = M) := fun z => q ⟨z.1, by omega⟩
      rw [if_neg q2]
      exact ih
