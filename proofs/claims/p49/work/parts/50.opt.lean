/-! THE PLANNER, pure: the best plan of units is the best of all plans of units *** by hand -/
/-- b is a plan of the m units from u on, seats c -/
def uf (h : Nat → Nat) (x : Nat → Nat → Bool) (b : Nat → Nat) : Nat → Nat → (Nat → Nat) → Prop
  | 0, _, _ => True
  | m + 1, u, c => (b u = 0 ∧ uf h x b m (u + 1) c) ∨ ∃ g, g < 4 ∧ b u = g + 1 ∧ okc h x u c g = true ∧ uf h x b m (u + 1) (rd c g (h u))
/-- what it places, and how many of them out of level -/
def uv (h : Nat → Nat) (o : Nat → Nat → Nat) (b : Nat → Nat) : Nat → Nat → Nat × Nat
  | 0, _ => (0, 0)
  | m + 1, u => if b u = 0 then uv h o b m (u + 1) else ((uv h o b m (u + 1)).1 + h u, (uv h o b m (u + 1)).2 + o u (b u - 1))
theorem uv_0 {h : Nat → Nat} {o : Nat → Nat → Nat} {b : Nat → Nat} {m u : Nat} (hb : b u = 0) : uv h o b (m + 1) u = uv h o b m (u + 1) := if_pos hb
theorem uv_g {h : Nat → Nat} {o : Nat → Nat → Nat} {b : Nat → Nat} {m u g : Nat} (hb : b u = g + 1) : uv h o b (m + 1) u = ((uv h o b m (u + 1)).1 + h u, (uv h o b m (u + 1)).2 + o u g) := by
  show (if b u = 0 then _ else _) = _
  rw [if_neg (by omega), hb]
  rfl
theorem uv_bd {h : Nat → Nat} {o : Nat → Nat → Nat} (ho : ∀ u g, o u g ≤ h u) (b : Nat → Nat) : ∀ m u, (uv h o b m u).2 ≤ (uv h o b m u).1 ∧ (uv h o b m u).1 ≤ sh h m u
  | 0, _ => ⟨Nat.le_refl _, Nat.le_refl _⟩
  | m + 1, u => by
    have ih := uv_bd ho b m (u + 1)
    have hs : sh h (m + 1) u = h u + sh h m (u + 1) := rfl
    by_cases hb : b u = 0
    · rw [uv_0 hb]
      exact ⟨ih.1, by omega⟩
    · obtain ⟨g, hg⟩ : ∃ g, b u = g + 1 := ⟨b u - 1, by omega⟩
      rw [uv_g hg]
      have := ho u g
      exact ⟨by dsimp only; omega, by dsimp only; omega⟩
theorem bs_vb {h : Nat → Nat} {x : Nat → Nat → Bool} {o : Nat → Nat → Nat} (ho : ∀ u g, o u g ≤ h u) {m u : Nat} (hs : sh h m u ≤ 20) (c : Nat → Nat) : vb (bs h x o m u c) := by
  have := bs_bd (x := x) ho m u c
  exact ⟨this.1, by omega⟩
theorem cds_vb {h : Nat → Nat} {x : Nat → Nat → Bool} {o : Nat → Nat → Nat} (ho : ∀ u g, o u g ≤ h u) {m u : Nat} (hs : sh h (m + 1) u ≤ 20) (c : Nat → Nat) (g : Nat) : vb (cds h x o m u c g) := by
  have := cds_bd (x := x) ho m u c g
  exact ⟨this.1, by omega⟩
theorem sh_dn {h : Nat → Nat} {m u : Nat} (hs : sh h (m + 1) u ≤ 20) : sh h m (u + 1) ≤ 20 := by
  have : sh h (m + 1) u = h u + sh h m (u + 1) := rfl
  omega
/-- one unit's choice is no better than what follows it at best -/
theorem uv_cd {h : Nat → Nat} {x : Nat → Nat → Bool} {o : Nat → Nat → Nat} {b : Nat → Nat} {m u g : Nat} {c : Nat → Nat} (ho : ∀ u g, o u g ≤ h u) (hb : b u = g + 1) (ih : kw 100 (uv h o b m (u + 1)) ≤ kw 100 (bs h x o m (u + 1) (rd c g (h u)))) : kw 100 (uv h o b (m + 1) u) ≤ kw 100 (cds h x o m u c g) := by
  have h1 := uv_bd ho b m (u + 1)
  have h2 := bs_bd (x := x) ho m (u + 1) (rd c g (h u))
  have h3 := ho u g
  rw [uv_g hb]
  unfold cds kw at *
  dsimp only at *
  omega
theorem uv_le {h : Nat → Nat} {x : Nat → Nat → Bool} {o : Nat → Nat → Nat} {b : Nat → Nat} (ho : ∀ u g, o u g ≤ h u) : ∀ (m u : Nat) (c : Nat → Nat), sh h m u ≤ 20 → uf h x b m u c → kw 100 (uv h o b m u) ≤ kw 100 (bs h x o m u c)
  | 0, _, _, _, _ => Nat.le_refl _
  | m + 1, u, c, hs, hf => by
    obtain ⟨h1, h2, _⟩ := fd_m (ok := okc h x u c) (cd := cds h x o m u c) (b := bs h x o m (u + 1) c) (bs_vb ho (sh_dn hs) c) (fun g _ => cds_vb ho hs c g) 4 (Nat.le_refl _)
    rw [bs_s]
    rcases hf with ⟨hb, hf⟩ | ⟨g, hg, hb, hk, hf⟩
    · rw [uv_0 hb]
      exact Nat.le_trans (uv_le ho m (u + 1) c (sh_dn hs) hf) h1
    · exact Nat.le_trans (uv_cd ho hb (uv_le ho m (u + 1) _ (sh_dn hs) hf)) (h2 g hg (by omega) hk)
theorem sr_le {ok : Nat → Bool} {cd : Nat → Nat × Nat} {M : Nat} : ∀ i, i ≤ 4 → ∀ g, 4 - i ≤ g → g < 4 → ok g = true → kw 100 (cd g) = M → 0 < sr ok cd M i ∧ sr ok cd M i ≤ g + 1
  | 0, _, g, h1, h2, _, _ => absurd h1 (by omega)
  | i + 1, hi, g, h1, h2, h3, h4 => by
    have es : sr ok cd M (i + 1) = if ok (3 - i) = true ∧ kw 100 (cd (3 - i)) = M then 4 - i else sr ok cd M i := rfl
    rw [es]
    by_cases q : ok (3 - i) = true ∧ kw 100 (cd (3 - i)) = M
    · rw [if_pos q]
      omega
    · rw [if_neg q]
      by_cases e : g = 3 - i
      · subst e
        exact absurd ⟨h3, h4⟩ q
      · exact sr_le i (by omega) g (by omega) h2 h3 h4
def og (z : Nat) : Nat := if z = 0 then 5 else z
/-- the best plan of units keeps its seats and is as good as told -/
theorem gv_uf {h : Nat → Nat} {x : Nat → Nat → Bool} {o : Nat → Nat → Nat} {U : Nat} {cap : Nat → Nat} : ∀ m u, m + u = U → uf h x (gv h x o U cap) m u (pc h x o U cap u) ∧ uv h o (gv h x o U cap) m u = bs h x o m u (pc h x o U cap u)
  | 0, _, _ => ⟨trivial, rfl⟩
  | m + 1, u, hu => by
    have ih := gv_uf (h := h) (x := x) (o := o) (U := U) (cap := cap) m (u + 1) (by omega)
    have eg : gv h x o U cap u = (fds h x o m u (pc h x o U cap u) 4).2 := by
      unfold gv
      rw [show U - u - 1 = m by omega]
    rw [pc_s] at ih
    rw [bs_s]
    rcases fd_ch (ok := okc h x u (pc h x o U cap u)) (cd := cds h x o m u (pc h x o U cap u)) (b := bs h x o m (u + 1) (pc h x o U cap u)) 4 (Nat.le_refl _) with h0 | ⟨g, hg, h1, h2, h3⟩
    · have e0 : gv h x o U cap u = 0 := eg.trans h0
      rw [if_pos e0] at ih
      refine ⟨.inl ⟨e0, ih.1⟩, ?_⟩
      rw [uv_0 e0, ih.2]
      exact (fd_0 (ok := okc h x u (pc h x o U cap u)) (cd := cds h x o m u (pc h x o U cap u)) (b := bs h x o m (u + 1) (pc h x o U cap u)) 4 (Nat.le_refl _) h0).symm
    · have e1 : gv h x o U cap u = g + 1 := eg.trans h1
      rw [if_neg (by omega), e1, Nat.add_sub_cancel] at ih
      refine ⟨.inr ⟨g, hg, e1, h2, ih.1⟩, ?_⟩
      rw [uv_g e1, ih.2]
      exact h3.symm
/-- .. and of those as good, it has the first group at the first unit where they differ -/
theorem gv_fst {h : Nat → Nat} {x : Nat → Nat → Bool} {o : Nat → Nat → Nat} {U : Nat} {cap : Nat → Nat} {b : Nat → Nat} (ho : ∀ u g, o u g ≤ h u) (hs : ∀ m u, m + u = U → sh h m u ≤ 20) (hf : uf h x b U 0 cap) (he : kw 100 (uv h o b U 0) = kw 100 (bs h x o U 0 cap)) :
    ∀ u, u ≤ U → (∀ v, v < u → b v = gv h x o U cap v) → (uf h x b (U - u) u (pc h x o U cap u) ∧ kw 100 (uv h o b (U - u) u) = kw 100 (bs h x o (U - u) u (pc h x o U cap u))) ∧ (u < U → b u = gv h x o U cap u ∨ og (gv h x o U cap u) < og (b u)) := by
  intro u
  have fin : ∀ u, u ≤ U → (uf h x b (U - u) u (pc h x o U cap u) ∧ kw 100 (uv h o b (U - u) u) = kw 100 (bs h x o (U - u) u (pc h x o U cap u))) → (u < U → b u = gv h x o U cap u ∨ og (gv h x o U cap u) < og (b u)) := by
    intro u hu hq hlt
    obtain ⟨m, hm⟩ : ∃ m, U - u = m + 1 := ⟨U - u - 1, by omega⟩
    rw [hm] at hq
    have hs1 := hs (m + 1) u (by omega)
    have eg : gv h x o U cap u = (fds h x o m u (pc h x o U cap u) 4).2 := by
      unfold gv
      rw [show U - u - 1 = m by omega]
    have hb4 := bs_vb (x := x) ho (sh_dn hs1) (pc h x o U cap u)
    have hc4 : ∀ g, g < 4 → vb (cds h x o m u (pc h x o U cap u) g) := fun g _ => cds_vb ho hs1 _ g
    rcases hq with ⟨⟨hb, hf⟩ | ⟨g, hg, hb, hk, hf⟩, hv⟩
    · by_cases e : gv h x o U cap u = 0
      · exact .inl (hb.trans e.symm)
      · right
        have h4 : gv h x o U cap u ≤ 4 := by
          rcases gv_ok (h := h) (x := x) (o := o) (U := U) (cap := cap) (u := u) with q | ⟨g, q1, q2, _⟩ <;> omega
        unfold og
        rw [if_neg e, if_pos hb]
        omega
    · have h1 := uv_cd ho hb (uv_le (x := x) ho m (u + 1) _ (sh_dn hs1) hf)
      obtain ⟨_, h2, _⟩ := fd_m (ok := okc h x u (pc h x o U cap u)) (cd := cds h x o m u (pc h x o U cap u)) (b := bs h x o m (u + 1) (pc h x o U cap u)) hb4 hc4 4 (Nat.le_refl _)
      have h2 := h2 g hg (by omega) hk
      rw [bs_s] at hv
      have hM : kw 100 (cds h x o m u (pc h x o U cap u) g) = kw 100 (fds h x o m u (pc h x o U cap u) 4).1 := Nat.le_antisymm h2 (by rw [← hv]; exact h1)
      obtain ⟨s1, s2⟩ := sr_le (ok := okc h x u (pc h x o U cap u)) (cd := cds h x o m u (pc h x o U cap u)) 4 (Nat.le_refl _) g (by omega) hg hk hM
      have e2 : sr (okc h x u (pc h x o U cap u)) (cds h x o m u (pc h x o U cap u)) (kw 100 (fds h x o m u (pc h x o U cap u) 4).1) 4 = (fds h x o m u (pc h x o U cap u) 4).2 := by
        rcases sr_fd (ok := okc h x u (pc h x o U cap u)) (cd := cds h x o m u (pc h x o U cap u)) (b := bs h x o m (u + 1) (pc h x o U cap u)) hb4 hc4 4 (Nat.le_refl _) with ⟨_, q⟩ | ⟨q, _⟩
        · exact q
        · exact absurd q (Nat.lt_irrefl _)
      rw [e2, ← eg] at s1 s2
      by_cases e : gv h x o U cap u = g + 1
      · exact .inl (hb.trans e.symm)
      · right
        unfold og
        rw [if_neg (by omega), hb, if_neg (by omega)]
        omega
  induction u with
  | zero =>
    intro hu _
    have h0 : uf h x b (U - 0) 0 (pc h x o U cap 0) ∧ kw 100 (uv h o b (U - 0) 0) = kw 100 (bs h x o (U - 0) 0 (pc h x o U cap 0)) := ⟨hf, he⟩
    exact ⟨h0, fin 0 hu h0⟩
  | succ u ih =>
    intro hu hv
    have hq := (ih (by omega) (fun v h => hv v (by omega))).1
    have hbu := hv u (by omega)
    obtain ⟨m, hm⟩ : ∃ m, U - u = m + 1 := ⟨U - u - 1, by omega⟩
    have hm2 : U - (u + 1) = m := by omega
    rw [hm] at hq
    have eg : gv h x o U cap u = (fds h x o m u (pc h x o U cap u) 4).2 := by
      unfold gv
      rw [show U - u - 1 = m by omega]
    have key : uf h x b (U - (u + 1)) (u + 1) (pc h x o U cap (u + 1)) ∧ kw 100 (uv h o b (U - (u + 1)) (u + 1)) = kw 100 (bs h x o (U - (u + 1)) (u + 1) (pc h x o U cap (u + 1))) := by
      rw [hm2, pc_s]
      obtain ⟨hf, hv⟩ := hq
      rw [bs_s] at hv
      rcases fd_ch (ok := okc h x u (pc h x o U cap u)) (cd := cds h x o m u (pc h x o U cap u)) (b := bs h x o m (u + 1) (pc h x o U cap u)) 4 (Nat.le_refl _) with h0 | ⟨g, hg, h1, h2, h3⟩
      · have e0 : gv h x o U cap u = 0 := eg.trans h0
        rw [if_pos e0]
        have hb0 : b u = 0 := hbu.trans e0
        rcases hf with ⟨_, hf⟩ | ⟨g, _, hb, _⟩
        · refine ⟨hf, ?_⟩
          rw [uv_0 hb0] at hv
          rw [hv]
          exact congrArg (kw 100) (fd_0 (ok := okc h x u (pc h x o U cap u)) (cd := cds h x o m u (pc h x o U cap u)) (b := bs h x o m (u + 1) (pc h x o U cap u)) 4 (Nat.le_refl _) h0)
        · omega
      · have e1 : gv h x o U cap u = g + 1 := eg.trans h1
        rw [if_neg (by omega), e1, Nat.add_sub_cancel]
        have hb1 : b u = g + 1 := hbu.trans e1
        rcases hf with ⟨hb, _⟩ | ⟨g', _, hb, _, hf⟩
        · omega
        · have eg' : g' = g := by omega
          subst eg'
          refine ⟨hf, ?_⟩
          have h4 : (fds h x o m u (pc h x o U cap u) 4).1 = cds h x o m u (pc h x o U cap u) g' := h3
          rw [h4, uv_g hb1] at hv
          have b1 := uv_bd ho b m (u + 1)
          have b2 := bs_bd (x := x) ho m (u + 1) (rd (pc h x o U cap u) g' (h u))
          have b3 := ho u g'
          unfold cds kw at hv
          unfold kw
          dsimp only at hv
          omega
    exact ⟨key, fin (u + 1) hu key⟩
