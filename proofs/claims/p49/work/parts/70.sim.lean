/-! THE SIMULATION, pure: groups in queues, seat by seat *** by hand -/
def gt : List Nat → Nat → Nat
  | [], _ => 0
  | g :: _, 0 => g
  | _ :: r, k + 1 => gt r k
theorem gt_app1 : ∀ (a b : List Nat) (k : Nat), k < a.length → gt (a ++ b) k = gt a k
  | [], _, k, h => absurd h (Nat.not_lt_zero k)
  | _ :: _, _, 0, _ => rfl
  | _ :: r, b, k + 1, h => gt_app1 r b k (Nat.lt_of_succ_lt_succ h)
theorem gt_app2 : ∀ (a b : List Nat) (k : Nat), gt (a ++ b) (a.length + k) = gt b k
  | [], b, k => by
    show gt b (0 + k) = gt b k
    rw [Nat.zero_add]
  | x :: r, b, k => by
    show gt (x :: (r ++ b)) (r.length + 1 + k) = gt b k
    rw [show r.length + 1 + k = (r.length + k) + 1 by omega]
    exact gt_app2 r b k
theorem gt_mem : ∀ (a : List Nat) (k : Nat), k < a.length → gt a k ∈ a
  | [], k, h => absurd h (Nat.not_lt_zero k)
  | g :: r, 0, _ => List.mem_cons_self ..
  | g :: r, k + 1, h => List.mem_cons_of_mem _ (gt_mem r k (Nat.lt_of_succ_lt_succ h))
theorem gt_rep (g : Nat) : ∀ (n k : Nat), k < n → gt (List.replicate n g) k = g
  | 0, k, h => absurd h (Nat.not_lt_zero k)
  | n + 1, 0, _ => rfl
  | n + 1, k + 1, h => gt_rep g n k (Nat.lt_of_succ_lt_succ h)
/-- the queue of groups, person by person -/
def fl (W : Nat → Nat) : List Nat → List Nat
  | [] => []
  | g :: r => List.replicate (W g) g ++ fl W r
theorem fl_app (W : Nat → Nat) : ∀ (a b : List Nat), fl W (a ++ b) = fl W a ++ fl W b
  | [], _ => rfl
  | g :: r, b => by
    show List.replicate (W g) g ++ fl W (r ++ b) = List.replicate (W g) g ++ fl W r ++ fl W b
    rw [fl_app W r b, List.append_assoc]
theorem fl_congr {W W' : Nat → Nat} : ∀ (a : List Nat), (∀ g, g ∈ a → W g = W' g) → fl W a = fl W' a
  | [], _ => rfl
  | g :: r, h => by
    show List.replicate (W g) g ++ fl W r = List.replicate (W' g) g ++ fl W' r
    rw [h g (List.mem_cons_self ..), fl_congr r (fun x hx => h x (List.mem_cons_of_mem _ hx))]
theorem fl_mem (W : Nat → Nat) : ∀ (a : List Nat) (x : Nat), x ∈ fl W a → x ∈ a
  | [], _, h => h
  | g :: r, x, h => by
    have h : x ∈ List.replicate (W g) g ++ fl W r := h
    rcases List.mem_append.mp h with q | q
    · rw [(List.mem_replicate.mp q).2]
      exact List.mem_cons_self ..
    · exact List.mem_cons_of_mem _ (fl_mem W r x q)
def nd : List Nat → Prop
  | [] => True
  | a :: r => a ∉ r ∧ nd r
theorem nd_app : ∀ (a : List Nat) (g : Nat), nd a → g ∉ a → nd (a ++ [g])
  | [], _, _, _ => ⟨fun h => by (cases h), trivial⟩
  | x :: r, g, h, hg => by
    refine ⟨fun q => ?_, nd_app r g h.2 (fun q => hg (List.mem_cons_of_mem _ q))⟩
    rcases List.mem_append.mp q with q | q
    · exact h.1 q
    · rw [List.mem_singleton] at q
      subst q
      exact hg (List.mem_cons_self ..)
theorem sm_up (f : Nat → Nat) {g : Nat} (hg : g < 4) : sm (up1 f g 0) 4 + f g = sm f 4 := by
  have e : ∀ f : Nat → Nat, sm f 4 = 0 + f 0 + f 1 + f 2 + f 3 := fun _ => rfl
  rw [e, e]
  unfold up1
  rcases (show g = 0 ∨ g = 1 ∨ g = 2 ∨ g = 3 by omega) with rfl | rfl | rfl | rfl <;> simp <;> omega
theorem fl_len : ∀ (a : List Nat) (W : Nat → Nat), nd a → (∀ g, g ∈ a → g < 4) → (fl W a).length ≤ sm W 4
  | [], _, _, _ => Nat.zero_le _
  | g :: r, W, h, h4 => by
    have ih := fl_len r (up1 W g 0) h.2 (fun x hx => h4 x (List.mem_cons_of_mem _ hx))
    have e : fl (up1 W g 0) r = fl W r := fl_congr r (fun x hx => by
      refine up1_o (fun q => ?_)
      subst q
      exact h.1 hx)
    rw [e] at ih
    have := sm_up W (h4 g (List.mem_cons_self ..))
    show (List.replicate (W g) g ++ fl W r).length ≤ _
    rw [List.length_append, List.length_replicate]
    omega
theorem ln_fl : ∀ (a : List Nat), (fl (fun _ => 1) a).length = a.length
  | [] => rfl
  | g :: r => by
    show (List.replicate 1 g ++ fl (fun _ => 1) r).length = r.length + 1
    rw [List.length_append, List.length_replicate, ln_fl r]
    omega
theorem nd_len {a : List Nat} (h : nd a) (h4 : ∀ g, g ∈ a → g < 4) : a.length ≤ 4 := by
  have := fl_len a (fun _ => 1) h h4
  rw [ln_fl] at this
  exact this
/-- numbers and queues -/
abbrev ST : Type := (Nat → Nat → Nat) × (Nat → List Nat)
def su (s : ST) (f k v : Nat) : ST := (fun f' k' => if f' = f ∧ k' = k then v else s.1 f' k', s.2)
def sq (s : ST) (l : Nat) (q : List Nat) : ST := (s.1, fun l' => if l' = l then q else s.2 l')
theorem su_e {s : ST} {f k v : Nat} : (su s f k v).1 f k = v := if_pos ⟨rfl, rfl⟩
theorem su_o {s : ST} {f k v f' k' : Nat} (h : ¬ (f' = f ∧ k' = k)) : (su s f k v).1 f' k' = s.1 f' k' := if_neg h
theorem sq_e {s : ST} {l : Nat} {q : List Nat} : (sq s l q).2 l = q := if_pos rfl
theorem sq_o {s : ST} {l l' : Nat} {q : List Nat} (h : l' ≠ l) : (sq s l q).2 l' = s.2 l' := if_neg h
/-- one group joins, one seat is taken, one minute is waited *** -/
def jn (P : Nat → Nat → Nat → Nat) (M g : Nat) (s : ST) : ST := if P 0 g 0 ≠ 0 ∧ s.1 2 g = M then sq (su s 0 g (P 0 g 0)) (P 2 g (s.1 1 g)) (s.2 (P 2 g (s.1 1 g)) ++ [g]) else s
def fin (P : Nat → Nat → Nat → Nat) (M l g : Nat) (r : List Nat) (s : ST) : ST := sq (su (su (su (su s 0 g 0) 3 g (s.1 3 g + 1)) 2 g (M + P 6 l 0 + P 3 g (s.1 1 g))) 1 g ((s.1 1 g + 1) % P 1 g 0)) l r
def on1 (P : Nat → Nat → Nat → Nat) (M l : Nat) (s : ST) : ST := match s.2 l with
  | [] => s
  | g :: r => if s.1 0 g ≤ 1 then fin P M l g r (su s 5 l (s.1 5 l + 1)) else su (su s 5 l (s.1 5 l + 1)) 0 g (s.1 0 g - 1)
theorem on1_n {P : Nat → Nat → Nat → Nat} {M l : Nat} {s : ST} (h : s.2 l = []) : on1 P M l s = s := by
  unfold on1
  rw [h]
theorem on1_f {P : Nat → Nat → Nat → Nat} {M l g : Nat} {r : List Nat} {s : ST} (h : s.2 l = g :: r) (h1 : s.1 0 g ≤ 1) : on1 P M l s = fin P M l g r (su s 5 l (s.1 5 l + 1)) := by
  unfold on1
  rw [h]
  exact if_pos h1
theorem on1_s {P : Nat → Nat → Nat → Nat} {M l g : Nat} {r : List Nat} {s : ST} (h : s.2 l = g :: r) (h1 : ¬ s.1 0 g ≤ 1) : on1 P M l s = su (su s 5 l (s.1 5 l + 1)) 0 g (s.1 0 g - 1) := by
  unfold on1
  rw [h]
  exact if_neg h1
def wtt (l : Nat) (s : ST) : ST := (fun f k => if f = 4 ∧ k ∈ s.2 l then s.1 4 k + s.1 0 k else if f = 6 ∧ k = l then max (s.1 6 l) (fl (s.1 0) (s.2 l)).length else s.1 f k, s.2)
/-- the settings keep their bounds *** -/
def PV (P : Nat → Nat → Nat → Nat) : Prop := P 7 0 0 ≤ 3 ∧ P 8 0 0 ≤ 4 ∧ (∀ l, l < P 7 0 0 → 1 ≤ P 4 l 0 ∧ P 4 l 0 ≤ 8 ∧ 1 ≤ P 5 l 0 ∧ P 5 l 0 ≤ 10 ∧ 1 ≤ P 6 l 0 ∧ P 6 l 0 ≤ 20) ∧ (∀ g, g < 4 → P 0 g 0 ≠ 0 → g < P 8 0 0 ∧ 1 ≤ P 1 g 0 ∧ P 1 g 0 ≤ 4 ∧ ∀ j, j < P 1 g 0 → P 2 g j < P 7 0 0 ∧ 1 ≤ P 3 g j ∧ P 3 g j ≤ 20) ∧ sm (fun g => P 0 g 0) 4 ≤ 19
def IR (P : Nat → Nat → Nat → Nat) (b : Nat → Nat) (c : Nat) (s : ST) : Prop :=
  (∀ g, g < 4 → s.1 0 g ≤ P 0 g 0 ∧ s.1 1 g < 4 ∧ s.1 4 g ≤ c ∧ (P 0 g 0 ≠ 0 → s.1 1 g < P 1 g 0 ∧ s.1 2 g ≤ 400 ∧ (s.1 0 g ≠ 0 → s.1 2 g < b g) ∧ (s.1 0 g = 0 → b g ≤ s.1 2 g))) ∧
  (∀ l, l < 3 → (∀ g, g ∈ s.2 l → g < 4 ∧ s.1 0 g ≠ 0) ∧ nd (s.2 l) ∧ s.1 6 l ≤ 19) ∧ ∀ l l', l < 3 → l' < 3 → l ≠ l' → ∀ g, g ∈ s.2 l → g ∉ s.2 l'
section IR
variable {P : Nat → Nat → Nat → Nat} {b : Nat → Nat} {c M : Nat} {s : ST}
theorem IR.len (h : IR P b c s) {l : Nat} (hl : l < 3) : (s.2 l).length ≤ 4 := nd_len (h.2.1 l hl).2.1 (fun g hg => ((h.2.1 l hl).1 g hg).1)
theorem IR.fll (h : IR P b c s) (hP : PV P) {l : Nat} (hl : l < 3) : (fl (s.1 0) (s.2 l)).length ≤ 19 := by
  have h1 := fl_len (s.2 l) (s.1 0) (h.2.1 l hl).2.1 (fun g hg => ((h.2.1 l hl).1 g hg).1)
  have h2 := hP.2.2.2.2
  have e : ∀ f : Nat → Nat, sm f 4 = 0 + f 0 + f 1 + f 2 + f 3 := fun _ => rfl
  rw [e] at h1 h2
  have g0 := (h.1 0 (by omega)).1
  have g1 := (h.1 1 (by omega)).1
  have g2 := (h.1 2 (by omega)).1
  have g3 := (h.1 3 (by omega)).1
  omega
theorem IR_jn (h : IR P b c s) (hP : PV P) (hM : M < 180) {g : Nat} (hg : g < 4) (hb : b g = M) : IR P (up1 b g (M + 1)) c (jn P M g s) := by
  obtain ⟨h1, h2, h3⟩ := h
  unfold jn
  by_cases q : P 0 g 0 ≠ 0 ∧ s.1 2 g = M
  · rw [if_pos q]
    obtain ⟨a1, a2, a3, a4⟩ := h1 g hg
    obtain ⟨a5, a6, a7, a8⟩ := a4 q.1
    obtain ⟨_, p1, p2, p3⟩ := hP.2.2.2.1 g hg q.1
    obtain ⟨p4, _, _⟩ := p3 _ a5
    have hn := hP.1
    have w0 : s.1 0 g = 0 := by
      by_cases z : s.1 0 g = 0
      · exact z
      · have := a7 z
        omega
    have nin : ∀ l, l < 3 → g ∉ s.2 l := fun l hl z => ((h2 l hl).1 g z).2 w0
    generalize hl : P 2 g (s.1 1 g) = l at p4
    have mem : ∀ l' x, x ∈ (sq (su s 0 g (P 0 g 0)) l (s.2 l ++ [g])).2 l' → (x ∈ s.2 l' ∨ l' = l ∧ x = g) := fun l' x hx => by
      by_cases e : l' = l
      · subst e
        rw [sq_e] at hx
        rcases List.mem_append.mp hx with z | z
        · exact .inl z
        · exact .inr ⟨rfl, List.mem_singleton.mp z⟩
      · rw [sq_o e] at hx
        exact .inl hx
    refine ⟨fun x hx => ?_, fun l' hl' => ⟨fun x hx => ?_, ?_, ?_⟩, fun l1 l2 hl1 hl2 hne x hx hx2 => ?_⟩
    · by_cases e : x = g
      · subst e
        have e0 : (sq (su s 0 x (P 0 x 0)) l (s.2 l ++ [x])).1 0 x = P 0 x 0 := su_e
        have eo : ∀ f, f ≠ 0 → (sq (su s 0 x (P 0 x 0)) l (s.2 l ++ [x])).1 f x = s.1 f x := fun f hf => su_o (fun z => hf z.1)
        rw [e0, eo 1 (by omega), eo 4 (by omega), eo 2 (by omega), up1_e]
        exact ⟨Nat.le_refl _, a2, a3, fun _ => ⟨a5, a6, fun _ => by omega, fun z => absurd z q.1⟩⟩
      · have eo : ∀ f, (sq (su s 0 g (P 0 g 0)) l (s.2 l ++ [g])).1 f x = s.1 f x := fun f => su_o (fun z => e z.2)
        rw [eo, eo, eo, eo, up1_o e]
        exact h1 x hx
    · rcases mem l' x hx with z | ⟨_, rfl⟩
      · obtain ⟨z1, z2⟩ := (h2 l' hl').1 x z
        refine ⟨z1, ?_⟩
        have : x ≠ g := fun e => nin l' hl' (e ▸ z)
        rw [show (sq (su s 0 g (P 0 g 0)) l (s.2 l ++ [g])).1 0 x = s.1 0 x from su_o (fun z => this z.2)]
        exact z2
      · refine ⟨hg, ?_⟩
        rw [show (sq (su s 0 x (P 0 x 0)) l (s.2 l ++ [x])).1 0 x = P 0 x 0 from su_e]
        exact q.1
    · by_cases e : l' = l
      · subst e
        rw [sq_e]
        exact nd_app _ _ (h2 l' hl').2.1 (nin l' hl')
      · rw [sq_o e]
        exact (h2 l' hl').2.1
    · rw [show (sq (su s 0 g (P 0 g 0)) l (s.2 l ++ [g])).1 6 l' = s.1 6 l' from su_o (s := s) (v := P 0 g 0) (f := 0) (k := g) (f' := 6) (k' := l') (by omega)]
      exact (h2 l' hl').2.2
    · rcases mem l1 x hx with z | ⟨z1, z2⟩
      · rcases mem l2 x hx2 with y | ⟨y1, y2⟩
        · exact h3 l1 l2 hl1 hl2 hne x z y
        · exact nin l1 hl1 (y2 ▸ z)
      · rcases mem l2 x hx2 with y | ⟨y1, y2⟩
        · exact nin l2 hl2 (z2 ▸ y)
        · omega
  · rw [if_neg q]
    refine ⟨fun x hx => ?_, h2, h3⟩
    obtain ⟨a1, a2, a3, a4⟩ := h1 x hx
    refine ⟨a1, a2, a3, fun hp => ?_⟩
    obtain ⟨a5, a6, a7, a8⟩ := a4 hp
    by_cases e : x = g
    · subst e
      rw [up1_e]
      refine ⟨a5, a6, fun z => by have := a7 z; omega, fun z => ?_⟩
      have := a8 z
      have : s.1 2 x ≠ M := fun y => q ⟨hp, y⟩
      omega
    · rw [up1_o e]
      exact ⟨a5, a6, a7, a8⟩
theorem IR_on1 (h : IR P (fun _ => M + 1) c s) (hP : PV P) (hM : M < 180) {l : Nat} (hl : l < P 7 0 0) : IR P (fun _ => M + 1) c (on1 P M l s) := by
  have hn := hP.1
  cases hq : s.2 l with
  | nil =>
    rw [on1_n hq]
    exact h
  | cons g r =>
    obtain ⟨h1, h2, h3⟩ := h
    have hg := (h2 l (by omega)).1 g (by rw [hq]; exact List.mem_cons_self ..)
    obtain ⟨a1, a2, a3, a4⟩ := h1 g hg.1
    have hp : P 0 g 0 ≠ 0 := by omega
    obtain ⟨a5, a6, a7, a8⟩ := a4 hp
    obtain ⟨_, p1, p2, p3⟩ := hP.2.2.2.1 g hg.1 hp
    obtain ⟨_, p4, p5⟩ := p3 _ a5
    obtain ⟨_, _, _, _, r1, r2⟩ := hP.2.2.1 l hl
    have hnd := (h2 l (by omega)).2.1
    rw [hq] at hnd
    by_cases hw : s.1 0 g ≤ 1
    · rw [on1_f hq hw]
      generalize hs' : fin P M l g r (su s 5 l (s.1 5 l + 1)) = s'
      have es : s'.1 = (su (su (su (su (su s 5 l (s.1 5 l + 1)) 0 g 0) 3 g ((su s 5 l (s.1 5 l + 1)).1 3 g + 1)) 2 g (M + P 6 l 0 + P 3 g ((su s 5 l (s.1 5 l + 1)).1 1 g))) 1 g (((su s 5 l (s.1 5 l + 1)).1 1 g + 1) % P 1 g 0)).1 := by rw [← hs']; rfl
      have s1 : (su s 5 l (s.1 5 l + 1)).1 1 g = s.1 1 g := su_o (by omega)
      rw [s1] at es
      have e0 : s'.1 0 g = 0 := by rw [es, su_o (by omega), su_o (by omega), su_o (by omega), su_e]
      have e1 : s'.1 1 g = (s.1 1 g + 1) % P 1 g 0 := by rw [es, su_e]
      have e2 : s'.1 2 g = M + P 6 l 0 + P 3 g (s.1 1 g) := by rw [es, su_o (by omega), su_e]
      have eo : ∀ f x, f ≠ 5 → ¬ (x = g ∧ f ≤ 3) → s'.1 f x = s.1 f x := fun f x hf hx => by
        rw [es, su_o (by omega), su_o (by omega), su_o (by omega), su_o (by omega), su_o (by omega)]
      have eq : ∀ l', s'.2 l' = if l' = l then r else s.2 l' := fun l' => by rw [← hs']; rfl
      have sub : ∀ l' x, x ∈ s'.2 l' → x ∈ s.2 l' ∧ (l' = l → x ∈ r) := fun l' x hx => by
        rw [eq] at hx
        by_cases e : l' = l
        · rw [if_pos e] at hx
          rw [e, hq]
          exact ⟨List.mem_cons_of_mem _ hx, fun _ => hx⟩
        · rw [if_neg e] at hx
          exact ⟨hx, fun z => absurd z e⟩
      refine ⟨fun x hx => ?_, fun l' hl' => ⟨fun x hx => ?_, ?_, ?_⟩, fun l1 l2 hl1 hl2 hne x hx hx2 => h3 l1 l2 hl1 hl2 hne x (sub l1 x hx).1 (sub l2 x hx2).1⟩
      · by_cases e : x = g
        · subst e
          rw [e0, e1, e2, eo 4 x (by omega) (by omega)]
          have hmod := Nat.mod_lt (s.1 1 x + 1) (show P 1 x 0 > 0 by omega)
          exact ⟨Nat.zero_le _, by omega, a3, fun _ => ⟨hmod, by omega, fun z => absurd rfl z, fun _ => (by omega : M + 1 ≤ M + P 6 l 0 + P 3 x (s.1 1 x))⟩⟩
        · rw [eo 0 x (by omega) (by omega), eo 1 x (by omega) (by omega), eo 2 x (by omega) (by omega), eo 4 x (by omega) (by omega)]
          exact h1 x hx
      · obtain ⟨z1, z2⟩ := sub l' x hx
        obtain ⟨z3, z4⟩ := (h2 l' hl').1 x z1
        refine ⟨z3, ?_⟩
        have : x ≠ g := fun e => by
          subst e
          by_cases el : l' = l
          · exact hnd.1 (z2 el)
          · exact h3 l' l hl' (by omega) el x z1 (by rw [hq]; exact List.mem_cons_self ..)
        rw [eo 0 x (by omega) (by omega)]
        exact z4
      · rw [eq]
        by_cases e : l' = l
        · rw [if_pos e]
          exact hnd.2
        · rw [if_neg e]
          exact (h2 l' hl').2.1
      · rw [eo 6 l' (by omega) (by omega)]
        exact (h2 l' hl').2.2
    · rw [on1_s hq hw]
      generalize hs' : su (su s 5 l (s.1 5 l + 1)) 0 g (s.1 0 g - 1) = s'
      have e0 : s'.1 0 g = s.1 0 g - 1 := by rw [← hs']; exact su_e
      have eo : ∀ f x, f ≠ 5 → ¬ (x = g ∧ f = 0) → s'.1 f x = s.1 f x := fun f x hf hx => by
        rw [← hs', su_o (by omega), su_o (by omega)]
      have eq : s'.2 = s.2 := by rw [← hs']; rfl
      rw [show s' = (s'.1, s'.2) from rfl, eq]
      refine ⟨fun x hx => ?_, fun l' hl' => ⟨fun x hx => ?_, (h2 l' hl').2.1, ?_⟩, h3⟩
      · by_cases e : x = g
        · subst e
          show s'.1 0 x ≤ _ ∧ s'.1 1 x < 4 ∧ s'.1 4 x ≤ c ∧ (_ → s'.1 1 x < _ ∧ s'.1 2 x ≤ 400 ∧ (s'.1 0 x ≠ 0 → s'.1 2 x < M + 1) ∧ (s'.1 0 x = 0 → M + 1 ≤ s'.1 2 x))
          rw [e0, eo 1 x (by omega) (by omega), eo 2 x (by omega) (by omega), eo 4 x (by omega) (by omega)]
          exact ⟨by omega, a2, a3, fun _ => ⟨a5, a6, fun _ => a7 (by omega), fun z => by omega⟩⟩
        · show s'.1 0 x ≤ _ ∧ s'.1 1 x < 4 ∧ s'.1 4 x ≤ c ∧ (_ → s'.1 1 x < _ ∧ s'.1 2 x ≤ 400 ∧ (s'.1 0 x ≠ 0 → s'.1 2 x < M + 1) ∧ (s'.1 0 x = 0 → M + 1 ≤ s'.1 2 x))
          rw [eo 0 x (by omega) (by omega), eo 1 x (by omega) (by omega), eo 2 x (by omega) (by omega), eo 4 x (by omega) (by omega)]
          exact h1 x hx
      · obtain ⟨z3, z4⟩ := (h2 l' hl').1 x hx
        refine ⟨z3, ?_⟩
        show s'.1 0 x ≠ 0
        by_cases e : x = g
        · rw [e, e0]
          omega
        · rw [eo 0 x (by omega) (by omega)]
          exact z4
      · show s'.1 6 l' ≤ 19
        rw [eo 6 l' (by omega) (by omega)]
        exact (h2 l' hl').2.2
theorem IR_wtt (h : IR P b c s) (hP : PV P) {l : Nat} (hl : l < 3) : IR P b (c + 19) (wtt l s) := by
  have hf := h.fll hP hl
  obtain ⟨h1, h2, h3⟩ := h
  have hs := hP.2.2.2.2
  refine ⟨fun x hx => ?_, fun l' hl' => ⟨(h2 l' hl').1, (h2 l' hl').2.1, ?_⟩, h3⟩
  · obtain ⟨a1, a2, a3, a4⟩ := h1 x hx
    refine ⟨a1, a2, ?_, a4⟩
    show (if 4 = 4 ∧ x ∈ s.2 l then s.1 4 x + s.1 0 x else if 4 = 6 ∧ x = l then _ else s.1 4 x) ≤ c + 19
    have hp : P 0 x 0 ≤ 19 := by
      have e : ∀ f : Nat → Nat, sm f 4 = 0 + f 0 + f 1 + f 2 + f 3 := fun _ => rfl
      rw [e] at hs
      rcases (show x = 0 ∨ x = 1 ∨ x = 2 ∨ x = 3 by omega) with rfl | rfl | rfl | rfl <;> omega
    split
    · omega
    · rw [if_neg (by omega)]
      omega
  · show (if 6 = 4 ∧ l' ∈ s.2 l then s.1 4 l' + s.1 0 l' else if 6 = 6 ∧ l' = l then max (s.1 6 l) (fl (s.1 0) (s.2 l)).length else s.1 6 l') ≤ 19
    have := (h2 l' hl').2.2
    have := (h2 l hl).2.2
    rw [if_neg (by omega)]
    split
    · omega
    · omega
end IR
