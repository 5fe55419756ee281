/-! THE PLANNER, pure: the class's plan is the best of all plans of pupils *** by hand -/
def us (F : Nat → Nat) : Nat → Nat → Nat
  | 0, _ => 0
  | m + 1, u => F u + us F m (u + 1)
theorem us_s (F : Nat → Nat) (m u : Nat) : us F (m + 1) u = F u + us F m (u + 1) := rfl
theorem us_add (F G : Nat → Nat) : ∀ m u, us (fun v => F v + G v) m u = us F m u + us G m u
  | 0, _ => rfl
  | m + 1, u => by
    rw [us_s, us_s, us_s, us_add F G m (u + 1)]
    omega
theorem us_congr {F G : Nat → Nat} : ∀ {m u : Nat}, (∀ v, u ≤ v → v < u + m → F v = G v) → us F m u = us G m u
  | 0, _, _ => rfl
  | m + 1, u, h => by
    rw [us_s, us_s, h u (Nat.le_refl _) (by omega), us_congr (m := m) (u := u + 1) (fun v h1 h2 => h v (by omega) (by omega))]
theorem us_zero {F : Nat → Nat} : ∀ {m u : Nat}, (∀ v, u ≤ v → v < u + m → F v = 0) → us F m u = 0
  | 0, _, _ => rfl
  | m + 1, u, h => by
    rw [us_s, h u (Nat.le_refl _) (by omega), us_zero (m := m) (u := u + 1) (fun v h1 h2 => h v (by omega) (by omega))]
theorem us_one {F : Nat → Nat} {a : Nat} : ∀ {m u : Nat}, u ≤ a → a < u + m → (∀ v, v ≠ a → F v = 0) → us F m u = F a
  | 0, u, h1, h2, _ => absurd h2 (by omega)
  | m + 1, u, h1, h2, h => by
    rw [us_s]
    by_cases e : u = a
    · subst e
      rw [us_zero (m := m) (u := u + 1) (fun v h3 _ => h v (by omega))]
      omega
    · rw [h u e, us_one (m := m) (u := u + 1) (by omega) (by omega) h]
      omega
theorem kn_b (p : Nat → Bool) (n : Nat) : kn p (n + 1) = kn p n + (if p n = true then 1 else 0) := by
  rw [kn_sc]
  split <;> rfl
/-- pupils, unit by unit -/
theorem us_kn {P : Nat → Nat → Int32} {T : Nat → Int32} (r : Nat → Nat → Bool) {U : Nat} : ∀ n, (∀ k, k < n → pp P k = true → uo P T k < U) → us (fun u => kn (fun k => inu P T u k && r u k) n) U 0 = kn (fun k => pp P k && r (uo P T k) k) n
  | 0, _ => us_zero (fun _ _ _ => rfl)
  | n + 1, hU => by
    have ih := us_kn r n (fun k hk => hU k (by omega))
    have e : us (fun u => kn (fun k => inu P T u k && r u k) (n + 1)) U 0 = us (fun u => kn (fun k => inu P T u k && r u k) n + (if (inu P T u n && r u n) = true then 1 else 0)) U 0 := us_congr (fun v _ _ => kn_b _ n)
    rw [e, us_add, ih, kn_b]
    refine congrArg (kn (fun k => pp P k && r (uo P T k) k) n + ·) ?_
    by_cases hp : pp P n = true
    · rw [us_one (a := uo P T n) (Nat.zero_le _) (by have := hU n (by omega) hp; omega) (fun v hv => ?_)]
      · have hi : inu P T (uo P T n) n = true := inu_iff.mpr ⟨hp, rfl⟩
        simp only [hi, hp]
      · have hi : inu P T v n = false := by
          cases hq : inu P T v n
          · rfl
          · exact absurd (inu_iff.mp hq).2.symm hv
        simp [hi]
    · rw [us_zero (fun v _ _ => ?_)]
      · simp [hp]
      · have hi : inu P T v n = false := by
          cases hq : inu P T v n
          · rfl
          · exact absurd (inu_iff.mp hq).1 hp
        simp [hi]
theorem uv_us1 {h : Nat → Nat} {o : Nat → Nat → Nat} {b : Nat → Nat} : ∀ m u, (uv h o b m u).1 = us (fun v => if b v = 0 then 0 else h v) m u
  | 0, _ => rfl
  | m + 1, u => by
    rw [us_s, ← uv_us1 m (u + 1)]
    by_cases hb : b u = 0
    · rw [uv_0 hb, if_pos hb, Nat.zero_add]
    · obtain ⟨g, hg⟩ : ∃ g, b u = g + 1 := ⟨b u - 1, by omega⟩
      rw [uv_g hg, if_neg hb, Nat.add_comm]
theorem uv_us2 {h : Nat → Nat} {o : Nat → Nat → Nat} {b : Nat → Nat} : ∀ m u, (uv h o b m u).2 = us (fun v => if b v = 0 then 0 else o v (b v - 1)) m u
  | 0, _ => rfl
  | m + 1, u => by
    rw [us_s, ← uv_us2 m (u + 1)]
    by_cases hb : b u = 0
    · rw [uv_0 hb, if_pos hb, Nat.zero_add]
    · obtain ⟨g, hg⟩ : ∃ g, b u = g + 1 := ⟨b u - 1, by omega⟩
      rw [uv_g hg, if_neg hb, hg]
      exact Nat.add_comm _ _
theorem uf_of {h : Nat → Nat} {x : Nat → Nat → Bool} {b : Nat → Nat} : ∀ (m u : Nat) (c : Nat → Nat), (∀ v, u ≤ v → v < u + m → b v = 0 ∨ ∃ g, g < 4 ∧ b v = g + 1 ∧ x v g = true) → (∀ g, g < 4 → us (fun v => if b v = g + 1 then h v else 0) m u ≤ c g) → uf h x b m u c
  | 0, _, _, _, _ => trivial
  | m + 1, u, c, h1, h2 => by
    rcases h1 u (Nat.le_refl _) (by omega) with hb | ⟨g, hg, hb, hx⟩
    · refine .inl ⟨hb, uf_of m (u + 1) c (fun v g1 g2 => h1 v (by omega) (by omega)) (fun g hg => ?_)⟩
      have := h2 g hg
      rw [us_s, if_neg (by omega), Nat.zero_add] at this
      exact this
    · have hh := h2 g hg
      rw [us_s, if_pos hb] at hh
      refine .inr ⟨g, hg, hb, ?_, uf_of m (u + 1) _ (fun v g1 g2 => h1 v (by omega) (by omega)) (fun g' hg' => ?_)⟩
      · unfold okc
        rw [hx, decide_eq_true (show h u ≤ c g by omega)]
        rfl
      · have h3 := h2 g' hg'
        rw [us_s] at h3
        unfold rd
        by_cases e : g' = g
        · subst e
          rw [if_pos rfl]
          omega
        · rw [if_neg e]
          rw [if_neg (by omega)] at h3
          omega
theorem uf_to {h : Nat → Nat} {x : Nat → Nat → Bool} {b : Nat → Nat} : ∀ (m u : Nat) (c : Nat → Nat), uf h x b m u c → (∀ v, u ≤ v → v < u + m → b v = 0 ∨ ∃ g, g < 4 ∧ b v = g + 1 ∧ x v g = true) ∧ (∀ g, g < 4 → us (fun v => if b v = g + 1 then h v else 0) m u ≤ c g)
  | 0, _, _, _ => ⟨fun v h1 h2 => absurd h1 (by omega), fun _ _ => Nat.zero_le _⟩
  | m + 1, u, c, hf => by
    rcases hf with ⟨hb, hf⟩ | ⟨g, hg, hb, hk, hf⟩
    · obtain ⟨h1, h2⟩ := uf_to m (u + 1) c hf
      refine ⟨fun v g1 g2 => ?_, fun g hg => ?_⟩
      · by_cases e : v = u
        · subst e
          exact .inl hb
        · exact h1 v (by omega) (by omega)
      · rw [us_s, if_neg (by omega), Nat.zero_add]
        exact h2 g hg
    · obtain ⟨h1, h2⟩ := uf_to m (u + 1) _ hf
      obtain ⟨hx, hc⟩ := okc.le hk
      refine ⟨fun v g1 g2 => ?_, fun g' hg' => ?_⟩
      · by_cases e : v = u
        · subst e
          exact .inr ⟨g, hg, hb, hx⟩
        · exact h1 v (by omega) (by omega)
      · have h3 := h2 g' hg'
        unfold rd at h3
        rw [us_s]
        by_cases e : g' = g
        · subst e
          rw [if_pos rfl] at h3
          rw [if_pos hb]
          omega
        · rw [if_neg e] at h3
          rw [if_neg (by omega)]
          omega
/-- two of one unit -/
theorem uo_same {P : Nat → Nat → Int32} {T : Nat → Int32} {j k : Nat} (hj : pp P j = true) (hk : pp P k = true) (he : uo P T j = uo P T k) : j = k ∨ (tk P T j = true ∧ P j 3 = P k 3) := by
  have hl : ldr P T j = ldr P T k := by
    have h1 := nw_ldr (T := T) hj
    have h2 := nw_ldr (T := T) hk
    have he : kn (nw P T) (ldr P T j) = kn (nw P T) (ldr P T k) := he
    rcases Nat.lt_trichotomy (ldr P T j) (ldr P T k) with q | q | q
    · have := kn_in (p := nw P T) q h1
      omega
    · exact q
    · have := kn_in (p := nw P T) q h2
      omega
  have f3 : ∀ i, P (ldr P T i) 3 = P i 3 := fun i => by
    by_cases q : ldr P T i < i
    · exact (ldr_lt q).2.2.1
    · have e : ldr P T i = i := by have := ldr_le P T i; omega
      rw [e]
  have hf : P j 3 = P k 3 := (f3 j).symm.trans ((congrArg (fun i => P i 3) hl).trans (f3 k))
  have ht : tk P T j = tk P T k := by
    unfold tk
    rw [hf]
  cases hq : tk P T j
  · left
    have e1 : ldr P T j = j := by
      unfold ldr
      rw [hq]
      rfl
    have e2 : ldr P T k = k := by
      unfold ldr
      rw [← ht, hq]
      rfl
    omega
  · exact .inr ⟨rfl, hf⟩
theorem uo_fam {P : Nat → Nat → Int32} {T : Nat → Int32} {j k : Nat} (hj : pp P j = true) (hk : pp P k = true) (ht : tk P T j = true) (hf : P j 3 = P k 3) : uo P T j = uo P T k := by
  have htk : tk P T k = true := by
    unfold tk at ht ⊢
    rw [← hf]
    exact ht
  have s1 : sf P k j = true := by
    unfold sf
    rw [hj, hf, decide_eq_true rfl]
    rfl
  have s2 : sf P j k = true := by
    unfold sf
    rw [hk, hf, decide_eq_true rfl]
    rfl
  rcases Nat.lt_trichotomy j k with q | q | q
  · exact (uo_eq htk q s1).1
  · rw [q]
  · exact (uo_eq ht q s2).1.symm
/-- the first pupil of a unit -/
def rp (P : Nat → Nat → Int32) (T : Nat → Int32) (v : Nat) : Nat := ix (fun k => nw P T k && decide (un P T k = v)) 20
theorem rp_ok {P : Nat → Nat → Int32} {T : Nat → Int32} {v : Nat} (hv : v < un P T 20) : rp P T v < 20 ∧ pp P (rp P T v) = true ∧ un P T (rp P T v) = v ∧ uo P T (rp P T v) = v := by
  obtain ⟨k, h1, h2, h3⟩ := kn_at (p := nw P T) hv
  have hk : (nw P T k && decide (un P T k = v)) = true := by
    rw [h2, decide_eq_true (show un P T k = v from h3)]
    rfl
  rcases ix_or (fun k => nw P T k && decide (un P T k = v)) 20 with ⟨g1, g2, _⟩ | ⟨_, g2⟩
  · rw [Bool.and_eq_true, decide_eq_true_eq] at g2
    obtain ⟨g2, g3⟩ := g2
    have g4 := g2
    unfold nw at g4
    rw [Bool.and_eq_true, decide_eq_true_eq] at g4
    refine ⟨g1, g4.1, g3, ?_⟩
    show un P T (ldr P T (rp P T v)) = v
    have e : ldr P T (rp P T v) = rp P T v := g4.2
    rw [e]
    exact g3
  · have := g2 k h1
    rw [hk] at this
    cases this
theorem rp_lt {P : Nat → Nat → Int32} {T : Nat → Int32} {v k : Nat} (hk : pp P k = true) (hk20 : k < 20) (hv : v < uo P T k) : rp P T v < k := by
  have hU := uo_lt (T := T) hk hk20
  obtain ⟨_, _, h3, _⟩ := rp_ok (P := P) (T := T) (v := v) (by omega)
  have h4 : un P T (rp P T v) < un P T (ldr P T k) := by rw [h3]; exact hv
  have h5 : rp P T v < ldr P T k := Nat.not_le.mp fun q => by
    have := kn_up (nw P T) q
    have h6 : kn (nw P T) (rp P T v) < kn (nw P T) (ldr P T k) := h4
    omega
  have := ldr_le P T k
  omega
/-- a plan of pupils: 0 for none, or the group and 1 -/
def VP (P : Nat → Nat → Int32) (T : Nat → Int32) (su : Nat → Nat → Bool) (cap : Nat → Nat) (c : Nat → Nat) : Prop :=
  (∀ k, k < 20 → pp P k = true → c k = 0 ∨ ∃ g, g < 4 ∧ c k = g + 1 ∧ su k g = true) ∧ (∀ g, g < 4 → kn (fun k => pp P k && decide (c k = g + 1)) 20 ≤ cap g) ∧ (∀ j k, j < 20 → k < 20 → pp P j = true → pp P k = true → uo P T j = uo P T k → c j = c k)
def mny (P : Nat → Nat → Int32) (c : Nat → Nat) : Nat := kn (fun k => pp P k && decide (c k ≠ 0)) 20
def oul (P : Nat → Nat → Int32) (lv : Nat → Nat → Bool) (c : Nat → Nat) : Nat := kn (fun k => pp P k && (decide (c k ≠ 0) && lv k (c k - 1))) 20
def vsc (P : Nat → Nat → Int32) (lv : Nat → Nat → Bool) (c : Nat → Nat) : Nat := kw 100 (mny P c, oul P lv c)
theorem pxx_iff {P : Nat → Nat → Int32} {T : Nat → Int32} {su : Nat → Nat → Bool} {u g : Nat} : pxx P T su u g = true ↔ ∀ k, k < 20 → pp P k = true → uo P T k = u → su k g = true := by
  unfold pxx mfn
  rw [decide_eq_true_eq]
  constructor
  · intro h k hk hp hu
    cases hq : su k g
    · exfalso
      have : 0 < kn (fun k => inu P T u k && !su k g) 20 := by
        have := kn_in (p := fun k => inu P T u k && !su k g) hk (by show (inu P T u k && !su k g) = true; rw [inu_iff.mpr ⟨hp, hu⟩, hq]; rfl)
        omega
      omega
    · rfl
  · intro h
    apply kn_none
    intro k hk
    cases hi : inu P T u k
    · rfl
    · obtain ⟨h1, h2⟩ := inu_iff.mp hi
      rw [h k hk h1 h2]
      rfl
theorem us_hd {P : Nat → Nat → Int32} {T : Nat → Int32} (q : Nat → Bool) : us (fun v => if q v = true then hdn P T 20 v else 0) (un P T 20) 0 = kn (fun k => pp P k && q (uo P T k)) 20 := by
  rw [← us_kn (fun u _ => q u) 20 (fun k hk hp => uo_lt hp hk)]
  refine us_congr (fun v _ _ => ?_)
  cases h : q v
  · rw [if_neg (by decide)]
    exact (kn_none (fun i _ => Bool.and_false _)).symm
  · rw [if_pos rfl]
    unfold hdn
    exact kn_congr (fun i _ => (Bool.and_true _).symm)
section CB
variable {P : Nat → Nat → Int32} {T : Nat → Int32} {su lv : Nat → Nat → Bool} {cap : Nat → Nat}
/-- a plan of units told by one of pupils, or the other way *** seats, heads, levels -/
theorem us_mny {b c : Nat → Nat} (hb : ∀ k, k < 20 → pp P k = true → b (uo P T k) = c k) : (uv (hdn P T 20) (ocn P T lv 20) b (un P T 20) 0).1 = mny P c ∧ (uv (hdn P T 20) (ocn P T lv 20) b (un P T 20) 0).2 = oul P lv c ∧ ∀ g, us (fun v => if b v = g + 1 then hdn P T 20 v else 0) (un P T 20) 0 = kn (fun k => pp P k && decide (c k = g + 1)) 20 := by
  refine ⟨?_, ?_, fun g => ?_⟩
  · rw [uv_us1]
    have h := us_hd (P := P) (T := T) (fun v => decide (b v ≠ 0))
    unfold mny
    rw [show kn (fun k => pp P k && decide (c k ≠ 0)) 20 = kn (fun k => pp P k && decide (b (uo P T k) ≠ 0)) 20 from kn_congr (fun k hk => by
      cases hp : pp P k
      · rfl
      · rw [hb k hk hp]), ← h]
    refine us_congr (fun v _ _ => ?_)
    by_cases e : b v = 0
    · rw [if_pos e, if_neg (by simp [e])]
    · rw [if_neg e, if_pos (by simp [e])]
  · rw [uv_us2]
    have h := us_kn (P := P) (T := T) (fun u k => decide (b u ≠ 0) && lv k (b u - 1)) 20 (fun k hk hp => uo_lt hp hk)
    unfold oul
    rw [show kn (fun k => pp P k && (decide (c k ≠ 0) && lv k (c k - 1))) 20 = kn (fun k => pp P k && (decide (b (uo P T k) ≠ 0) && lv k (b (uo P T k) - 1))) 20 from kn_congr (fun k hk => by
      cases hp : pp P k
      · rfl
      · rw [hb k hk hp]), ← h]
    refine us_congr (fun v _ _ => ?_)
    by_cases e : b v = 0
    · rw [if_pos e]
      exact (kn_none (fun i _ => by simp [e])).symm
    · rw [if_neg e]
      unfold ocn
      exact kn_congr (fun i _ => by simp [e])
  · have h := us_hd (P := P) (T := T) (fun v => decide (b v = g + 1))
    rw [show kn (fun k => pp P k && decide (c k = g + 1)) 20 = kn (fun k => pp P k && decide (b (uo P T k) = g + 1)) 20 from kn_congr (fun k hk => by
      cases hp : pp P k
      · rfl
      · rw [hb k hk hp]), ← h]
    refine us_congr (fun v _ _ => ?_)
    by_cases e : b v = g + 1
    · rw [if_pos e, if_pos (by simp [e])]
    · rw [if_neg e, if_neg (by simp [e])]
/-- the class's plan -/
def cpl (P : Nat → Nat → Int32) (T : Nat → Int32) (su lv : Nat → Nat → Bool) (cap : Nat → Nat) (k : Nat) : Nat := plg P T su lv cap (uo P T k)
theorem sh_20 (P : Nat → Nat → Int32) (T : Nat → Int32) (m u : Nat) : sh (hdn P T 20) m u ≤ 20 := sh_hdn P T 20 m u
theorem cpl_ok : VP P T su cap (cpl P T su lv cap) ∧ mny P (cpl P T su lv cap) = plc P T su lv cap := by
  obtain ⟨h1, h2⟩ := gv_uf (h := hdn P T 20) (x := pxx P T su) (o := ocn P T lv 20) (U := un P T 20) (cap := cap) (un P T 20) 0 rfl
  obtain ⟨g1, g2⟩ := uf_to _ _ _ h1
  obtain ⟨m1, m2, m3⟩ := us_mny (P := P) (T := T) (lv := lv) (b := gv (hdn P T 20) (pxx P T su) (ocn P T lv 20) (un P T 20) cap) (c := cpl P T su lv cap) (fun _ _ _ => rfl)
  refine ⟨⟨fun k hk hp => ?_, fun g hg => ?_, fun j k hj hk hpj hpk he => ?_⟩, ?_⟩
  · rcases g1 (uo P T k) (Nat.zero_le _) (by have := uo_lt (T := T) hp hk; omega) with q | ⟨g, q1, q2, q3⟩
    · exact .inl q
    · exact .inr ⟨g, q1, q2, pxx_iff.mp q3 k hk hp rfl⟩
  · rw [← m3]
    exact g2 g hg
  · unfold cpl
    rw [he]
  · rw [← m1, h2]
    rfl
theorem cpl_best {c : Nat → Nat} (hc : VP P T su cap c) : vsc P lv c ≤ vsc P lv (cpl P T su lv cap) ∧ (vsc P lv c = vsc P lv (cpl P T su lv cap) → ∀ k, k < 20 → pp P k = true → (∀ j, j < k → pp P j = true → c j = cpl P T su lv cap j) → c k = cpl P T su lv cap k ∨ og (cpl P T su lv cap k) < og (c k)) := by
  obtain ⟨v1, v2, v3⟩ := hc
  have hbk : ∀ k, k < 20 → pp P k = true → c (rp P T (uo P T k)) = c k := fun k hk hp => by
    obtain ⟨r1, r2, r3, r4⟩ := rp_ok (P := P) (T := T) (uo_lt (T := T) hp hk)
    exact v3 _ _ r1 hk r2 hp r4
  obtain ⟨m1, m2, m3⟩ := us_mny (P := P) (T := T) (lv := lv) (b := fun v => c (rp P T v)) (c := c) hbk
  obtain ⟨n1, n2, n3⟩ := us_mny (P := P) (T := T) (lv := lv) (b := gv (hdn P T 20) (pxx P T su) (ocn P T lv 20) (un P T 20) cap) (c := cpl P T su lv cap) (fun _ _ _ => rfl)
  have huf : uf (hdn P T 20) (pxx P T su) (fun v => c (rp P T v)) (un P T 20) 0 cap := by
    refine uf_of _ _ _ (fun v _ hv => ?_) (fun g hg => ?_)
    · obtain ⟨r1, r2, r3, r4⟩ := rp_ok (P := P) (T := T) (v := v) (by omega)
      rcases v1 _ r1 r2 with q | ⟨g, q1, q2, q3⟩
      · exact .inl q
      · refine .inr ⟨g, q1, q2, pxx_iff.mpr (fun k hk hp hu => ?_)⟩
        have e : c k = c (rp P T v) := (v3 _ _ hk r1 hp r2 (hu.trans r4.symm))
        rcases v1 k hk hp with z | ⟨g', z1, z2, z3⟩
        · omega
        · have : g' = g := by omega
          subst this
          exact z3
    · rw [m3]
      exact v2 g hg
  have ho : ∀ u g, ocn P T lv 20 u g ≤ hdn P T 20 u := fun u g => ocn_le P T lv 20 u g
  obtain ⟨h1, h2⟩ := gv_uf (h := hdn P T 20) (x := pxx P T su) (o := ocn P T lv 20) (U := un P T 20) (cap := cap) (un P T 20) 0 rfl
  have e1 : vsc P lv c = kw 100 (uv (hdn P T 20) (ocn P T lv 20) (fun v => c (rp P T v)) (un P T 20) 0) := by
    unfold vsc kw
    rw [m1, m2]
  have e2 : vsc P lv (cpl P T su lv cap) = kw 100 (bs (hdn P T 20) (pxx P T su) (ocn P T lv 20) (un P T 20) 0 cap) := by
    unfold vsc kw
    rw [← n1, ← n2, h2]
    rfl
  refine ⟨?_, fun he k hk hp hj => ?_⟩
  · rw [e1, e2]
    exact uv_le ho _ _ _ (sh_20 P T _ _) huf
  · rw [e1, e2] at he
    have hU := uo_lt (T := T) hp hk
    have := (gv_fst (x := pxx P T su) ho (fun m u _ => sh_20 P T m u) huf he (uo P T k) (by omega) (fun v hv => by
      obtain ⟨r1, r2, r3, r4⟩ := rp_ok (P := P) (T := T) (v := v) (by omega)
      have := hj (rp P T v) (rp_lt hp hk hv) r2
      have e : cpl P T su lv cap (rp P T v) = plg P T su lv cap v := by
        unfold cpl
        rw [r4]
      exact this.trans e)).2 hU
    have hbk := hbk k hk hp
    rw [hbk] at this
    exact this
end CB
