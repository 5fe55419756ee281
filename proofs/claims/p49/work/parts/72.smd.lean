/-! THE SIMULATION: the class departs *** by hand -/
section SC
variable {P : Nat → Nat → Nat → Nat} {b : Nat → Nat} {c M : Nat} {s : ST} {d d' : sk_D}
theorem ons_v {l g : Nat} {r : List Nat} (hq : s.2 l = g :: r) : ∀ B, B < s.1 0 g → (∀ f x, (ons P M l B s).1 f x = if f = 5 ∧ x = l then s.1 5 l + B else if f = 0 ∧ x = g then s.1 0 g - B else s.1 f x) ∧ (ons P M l B s).2 = s.2
  | 0, _ => by
    refine ⟨fun f x => ?_, rfl⟩
    show s.1 f x = _
    by_cases e : f = 5 ∧ x = l
    · rw [if_pos e, e.1, e.2]
      rfl
    · rw [if_neg e]
      by_cases e2 : f = 0 ∧ x = g
      · rw [if_pos e2, e2.1, e2.2]
        rfl
      · rw [if_neg e2]
  | B + 1, hB => by
    obtain ⟨h1, h2⟩ := ons_v hq B (by omega)
    generalize hs : ons P M l B s = s' at h1 h2
    have q2 : s'.2 l = g :: r := by rw [h2, hq]
    have q0 : s'.1 0 g = s.1 0 g - B := by rw [h1, if_neg (by omega), if_pos ⟨rfl, rfl⟩]
    have q5 : s'.1 5 l = s.1 5 l + B := by rw [h1, if_pos ⟨rfl, rfl⟩]
    have e : ons P M l (B + 1) s = su (su s' 5 l (s'.1 5 l + 1)) 0 g (s'.1 0 g - 1) := by
      show on1 P M l (ons P M l B s) = _
      rw [hs, on1_s q2 (by omega)]
    rw [e]
    refine ⟨fun f x => ?_, h2⟩
    by_cases e : f = 5 ∧ x = l
    · rw [if_pos e, e.1, e.2, su_o (by omega), su_e, q5]
      omega
    · rw [if_neg e]
      by_cases e2 : f = 0 ∧ x = g
      · rw [if_pos e2, e2.1, e2.2, su_e, q0]
        omega
      · rw [if_neg e2, su_o e2, su_o e, h1, if_neg e, if_neg e2]
theorem ons_w {l g : Nat} {r : List Nat} (hq : s.2 l = g :: r) (hw : 1 ≤ s.1 0 g) : (ons P M l (s.1 0 g) s).1 5 l = s.1 5 l + s.1 0 g ∧ (ons P M l (s.1 0 g) s).1 0 g = 0 ∧ (ons P M l (s.1 0 g) s).1 3 g = s.1 3 g + 1 ∧ (ons P M l (s.1 0 g) s).1 2 g = M + P 6 l 0 + P 3 g (s.1 1 g) ∧ (ons P M l (s.1 0 g) s).1 1 g = (s.1 1 g + 1) % P 1 g 0 ∧ (∀ f x, ¬ (f = 5 ∧ x = l) → ¬ (x = g ∧ f ≤ 3) → (ons P M l (s.1 0 g) s).1 f x = s.1 f x) ∧ ∀ l', (ons P M l (s.1 0 g) s).2 l' = if l' = l then r else s.2 l' := by
  obtain ⟨h1, h2⟩ := ons_v (P := P) (M := M) hq (s.1 0 g - 1) (by omega)
  generalize hs : ons P M l (s.1 0 g - 1) s = s' at h1 h2
  have q2 : s'.2 l = g :: r := by rw [h2, hq]
  have q0 : s'.1 0 g = 1 := by
    rw [h1, if_neg (by omega), if_pos ⟨rfl, rfl⟩]
    omega
  have q5 : s'.1 5 l = s.1 5 l + (s.1 0 g - 1) := by rw [h1, if_pos ⟨rfl, rfl⟩]
  have e : ons P M l (s.1 0 g) s = fin P M l g r (su s' 5 l (s'.1 5 l + 1)) := by
    have : s.1 0 g = (s.1 0 g - 1) + 1 := by omega
    rw [this]
    show on1 P M l (ons P M l (s.1 0 g - 1) s) = _
    rw [hs, on1_f q2 (by omega)]
  have q1 : s'.1 1 g = s.1 1 g := by rw [h1, if_neg (by omega), if_neg (by omega)]
  have q3 : s'.1 3 g = s.1 3 g := by rw [h1, if_neg (by omega), if_neg (by omega)]
  have s1 : (su s' 5 l (s'.1 5 l + 1)).1 1 g = s.1 1 g := (su_o (by omega)).trans q1
  have s3 : (su s' 5 l (s'.1 5 l + 1)).1 3 g = s.1 3 g := (su_o (by omega)).trans q3
  have es : (ons P M l (s.1 0 g) s).1 = (su (su (su (su (su s' 5 l (s'.1 5 l + 1)) 0 g 0) 3 g ((su s' 5 l (s'.1 5 l + 1)).1 3 g + 1)) 2 g (M + P 6 l 0 + P 3 g ((su s' 5 l (s'.1 5 l + 1)).1 1 g))) 1 g (((su s' 5 l (s'.1 5 l + 1)).1 1 g + 1) % P 1 g 0)).1 := by rw [e]; rfl
  rw [s1, s3] at es
  have e2 : ∀ l', (ons P M l (s.1 0 g) s).2 l' = if l' = l then r else s.2 l' := fun l' => by
    rw [e, ← h2]
    rfl
  rw [es]
  refine ⟨?_, ?_, ?_, ?_, ?_, fun f x n1 n2 => ?_, e2⟩
  · rw [su_o (by omega), su_o (by omega), su_o (by omega), su_o (by omega), su_e, q5]
    omega
  · rw [su_o (by omega), su_o (by omega), su_o (by omega), su_e]
  · rw [su_o (by omega), su_o (by omega), su_e]
  · rw [su_o (by omega), su_e]
  · rw [su_e]
  · rw [su_o (by omega), su_o (by omega), su_o (by omega), su_o (by omega), su_o n1, h1, if_neg n1, if_neg (by omega)]
theorem ccr {g R T w st a : Nat} (hg : g < 4) (hT : T < st) (hst : st ≤ 4) (e27 : d.1 27 0 g = nI R) (e30 : d.1 30 0 g = nI T) (e41 : d.1 41 g T = nI w) (e39 : d.1 39 g 6 = nI st) : ∃ D, q_X6_completeRide d (nI g) g (nI a) = some D ∧ D.1 27 0 g = nI (R + 1) ∧ D.1 25 0 g = nI (a + w) ∧ D.1 30 0 g = nI ((T + 1) % st) ∧ ∀ s k f, ¬ (f = g ∧ (s = 27 ∨ s = 25 ∨ s = 30)) → D.1 s k f = d.1 s k f := by
  have bg : sk_bi (nI g) 4 = true := bi_nI (by omega) (by omega)
  have eg := nI_clamp (n := g) (by omega)
  have bT : sk_bi (nI T) 4 = true := bi_nI (by omega) (by omega)
  have eT := nI_clamp (n := T) (by omega)
  have wT : ∀ d, q_X8_within d (nI T) 0 3 = some 1 := (wi_in T (a := nI T) (lo := 0) (hi := 3) 0 3 rfl rfl rfl (by omega) (by omega) (by omega)).1
  have o30 : (sk_wi d 27 0 g (nI R + 1)).1 30 0 g = nI T := (wi_o (by omega)).trans e30
  have o41 : (sk_wi d 27 0 g (nI R + 1)).1 41 g T = nI w := (wi_o (by omega)).trans e41
  have o302 : ∀ v, (sk_wi (sk_wi d 27 0 g (nI R + 1)) 25 0 g v).1 30 0 g = nI T := fun v => (wi_o (by omega)).trans o30
  have o39 : ∀ v v', (sk_wi (sk_wi (sk_wi d 27 0 g (nI R + 1)) 25 0 g v) 30 0 g v').1 39 g 6 = nI st := fun v v' => (wi_o (by omega)).trans ((wi_o (by omega)).trans ((wi_o (by omega)).trans e39))
  have e58 : ∀ v v', (sk_wi (sk_wi (sk_wi d 27 0 g (nI R + 1)) 25 0 g v) 30 0 g v').1 30 0 g = v' := fun v v' => wi_e
  by_cases h : T + 1 < st
  · refine ⟨sk_wi (sk_wi (sk_wi d 27 0 g (nI R + 1)) 25 0 g (nI a + nI w)) 30 0 g (nI T + 1), ?_, ?_, ?_, ?_, fun s k f hs => ?_⟩
    · have hl : nI T + 1 < nI st := by
        rw [nI_1]
        exact nI_lt h (by omega)
      simp only [q_X6_completeRide, q_X6_completeRide_0, q_X6_completeRide_15, q_X6_completeRide_43, q_X6_completeRide_58, bg, eg, e27, o30, wT, i10, bT, eT, o41, o302, o39, e58, hl, Option.bind_some, ↓reduceIte]
    · rw [wi_o (by omega), wi_o (by omega), wi_e, nI_1]
    · rw [wi_o (by omega), wi_e, nI_add]
    · rw [wi_e, nI_1, Nat.mod_eq_of_lt h]
    · rw [wi_o (by omega), wi_o (by omega), wi_o (by omega)]
  · refine ⟨sk_wi (sk_wi (sk_wi (sk_wi d 27 0 g (nI R + 1)) 25 0 g (nI a + nI w)) 30 0 g (nI T + 1)) 30 0 g 0, ?_, ?_, ?_, ?_, fun s k f hs => ?_⟩
    · have hl : ¬ nI T + 1 < nI st := by
        rw [nI_1]
        exact nI_nlt (by omega) (by omega)
      simp only [q_X6_completeRide, q_X6_completeRide_0, q_X6_completeRide_15, q_X6_completeRide_43, q_X6_completeRide_58, bg, eg, e27, o30, wT, i10, bT, eT, o41, o302, o39, e58, hl, Option.bind_some, ↓reduceIte]
    · rw [wi_o (by omega), wi_o (by omega), wi_o (by omega), wi_e, nI_1]
    · rw [wi_o (by omega), wi_o (by omega), wi_e, nI_add]
    · rw [wi_e, show T + 1 = st by omega, Nat.mod_self]
      rfl
    · rw [wi_o (by omega), wi_o (by omega), wi_o (by omega), wi_o (by omega)]
set_option maxHeartbeats 2000000 in
/-- one turn *** -/
theorem cturn (hS : CSt P d) (hC : CR P s d) (hI : IR P (fun _ => M + 1) c s) (hP : PV P) (hM : M < 180) {l g : Nat} {r : List Nat} (hl : l < P 7 0 0) (hq : s.2 l = g :: r) {f : Nat} (hf1 : 1 ≤ f) (hf : f ≤ 8) : ∃ D, (CSt P D ∧ CR P (ons P M l (min (s.1 0 g) f) s) D ∧ FS8 d D) ∧ ∀ rec j, j < 4 → q_X6_depart_9 rec d (nI l) l (nI M) (nI f) (nI j) = rec (D, nI l, l, nI M, nI (f - min (s.1 0 g) f), nI (j + 1)) := by
  have hn := hP.1
  have hl3 : l < 3 := by omega
  obtain ⟨hg, hw0⟩ := (hI.2.1 l hl3).1 g (by rw [hq]; exact List.mem_cons_self ..)
  obtain ⟨a1, a2, a3, a4⟩ := hI.1 g hg
  have hp : P 0 g 0 ≠ 0 := by omega
  obtain ⟨a5, a6, a7, a8⟩ := a4 hp
  obtain ⟨_, p1, p2, p3⟩ := hP.2.2.2.1 g hg hp
  obtain ⟨_, p4, p5⟩ := p3 _ a5
  obtain ⟨c1, c2, c3, c4, c5⟩ := hC.1 g hg
  obtain ⟨q1, q2, q3, q4⟩ := hC.2 l hl3
  obtain ⟨s3, s4⟩ := (hS.1 g hg).2 hp
  obtain ⟨s5, s6⟩ := s4 _ a5
  obtain ⟨_, _, s7⟩ := hS.2.2 l hl
  have hw19 : s.1 0 g ≤ 19 := by
    have hs := hP.2.2.2.2
    have e : ∀ f : Nat → Nat, sm f 4 = 0 + f 0 + f 1 + f 2 + f 3 := fun _ => rfl
    rw [e] at hs
    rcases (show g = 0 ∨ g = 1 ∨ g = 2 ∨ g = 3 by omega) with rfl | rfl | rfl | rfl <;> omega
  have hlen := hI.len hl3
  rw [hq] at q1 q2 hlen
  have hr : (g :: r).length = r.length + 1 := rfl
  rw [hr] at q1 q2 hlen
  have q20 : d.1 33 l 0 = nI g := q2 0 (by omega)
  have bg : sk_bi (nI g) 4 = true := bi_nI (by omega) (by omega)
  have eg := nI_clamp (n := g) (by omega)
  have bl : sk_bi (nI l) 3 = true := bi_nI (by omega) (by omega)
  have el := nI_clamp (n := l) (by omega)
  have b0 : sk_bi (0 : Int32) 4 = true := by decide
  have e0 : (0 : Int32).toNatClampNeg = 0 := rfl
  have wg8 := (wi_in g (a := nI g) (lo := 0) (hi := 3) 0 3 rfl rfl rfl (by omega) (by omega) (by omega)).1
  have nf : ¬ nI f ≤ (0 : Int32) := by
    rw [show (0 : Int32) = nI 0 from rfl]
    exact nI_ge (by omega) (by omega)
  have nL : ¬ nI (r.length + 1) ≤ (0 : Int32) := by
    rw [show (0 : Int32) = nI 0 from rfl]
    exact nI_ge (by omega) (by omega)
  obtain ⟨w, hw⟩ : ∃ w, s.1 0 g = w := ⟨_, rfl⟩
  rw [hw] at c1 hw19 hw0
  rw [hw]
  have emin := (nI_min w f (by omega) (by omega)).1
  have hmin : min w f ≤ w := Nat.min_le_left w f
  have hminf : min w f ≤ f := Nat.min_le_right w f
  generalize hB : min w f = B at emin hmin hminf
  have hB1 : 1 ≤ B := by
    rw [← hB]
    omega
  have esub : nI w - nI B = nI (w - B) := pk_sub (by omega)
  have efre : nI f - nI B = nI (f - B) := pk_sub (by omega)
  have o29 : (sk_wi d 31 0 g (nI (w - B))).1 29 0 l = nI (s.1 5 l) := (wi_o (by omega)).trans q3
  have o31 : ∀ v, (sk_wi (sk_wi d 31 0 g (nI (w - B))) 29 0 l v).1 31 0 g = nI (w - B) := fun v => (wi_o (by omega)).trans wi_e
  have e126 : ∀ (rec : sk_D × Int32 × Nat × Int32 × Int32 × Int32 → Option sk_D) D j, q_X6_depart_126 rec D (nI l) l (nI M) (nI (f - B)) (nI j) = rec (D, nI l, l, nI M, nI (f - B), nI (j + 1)) := fun rec D j => by
    unfold q_X6_depart_126
    rw [nI_1]
  have go : ∀ rec j, j < 4 → q_X6_depart_9 rec d (nI l) l (nI M) (nI f) (nI j) = q_X6_depart_100 rec (sk_wi (sk_wi d 31 0 g (nI (w - B))) 29 0 l (nI (s.1 5 l) + nI B)) (nI l) l (nI M) (nI (f - B)) (nI j) (nI g) (nI g) := by
    intro rec j hj
    have lj : ¬ (4 : Int32) ≤ nI j := le_nI (n := 4) rfl hj (by omega)
    simp only [q_X6_depart_9, q_X6_depart_89, lj, nf, bl, el, q1, nL, b0, e0, q20, wg8, i10, bg, eg, c1, emin, esub, efre, o29, Option.bind_some, ↓reduceIte]
  generalize hd2 : sk_wi (sk_wi d 31 0 g (nI (w - B))) 29 0 l (nI (s.1 5 l) + nI B) = d2 at go
  have od2 : ∀ s k f, ¬ (s = 31 ∧ f = g) → ¬ (s = 29 ∧ f = l) → d2.1 s k f = d.1 s k f := fun s k f h1 h2 => by
    rw [← hd2, wi_o (by omega), wi_o (by omega)]
  have od31 : d2.1 31 0 g = nI (w - B) := by rw [← hd2]; exact o31 _
  have od29 : d2.1 29 0 l = nI (s.1 5 l + B) := by rw [← hd2, wi_e, nI_add]
  by_cases hwB : B < w
  · -- the group stays at the front
    obtain ⟨v1, v2⟩ := ons_v (P := P) (M := M) hq B (by omega)
    refine ⟨d2, ⟨hS.fr (fun s k f hs => od2 s k f (by omega) (by omega)), ⟨fun x hx => ?_, fun l' hl' => ?_⟩, fun s k f hs => od2 s k f (by omega) (by omega)⟩, fun rec j hj => ?_⟩
    · obtain ⟨y1, y2, y3, y4, y5⟩ := hC.1 x hx
      have vo : ∀ f, f ≠ 0 → f ≠ 5 → (ons P M l B s).1 f x = s.1 f x := fun f h1 h2 => by rw [v1, if_neg (fun z => h2 z.1), if_neg (fun z => h1 z.1)]
      rw [vo 1 (by omega) (by omega), vo 2 (by omega) (by omega), vo 3 (by omega) (by omega), vo 4 (by omega) (by omega), od2 30 0 x (by omega) (by omega), od2 25 0 x (by omega) (by omega), od2 27 0 x (by omega) (by omega), od2 26 0 x (by omega) (by omega)]
      refine ⟨?_, y2, y3, y4, y5⟩
      by_cases e : x = g
      · rw [e, od31, v1, if_neg (by omega), if_pos ⟨rfl, rfl⟩, hw]
      · rw [v1, if_neg (by omega), if_neg (fun z => e z.2), od2 31 0 x (by omega) (by omega)]
        exact y1
    · obtain ⟨y1, y2, y3, y4⟩ := hC.2 l' hl'
      have v6 : (ons P M l B s).1 6 l' = s.1 6 l' := by rw [v1, if_neg (by omega), if_neg (by omega)]
      rw [v2, v6, od2 34 0 l' (by omega) (by omega), od2 28 0 l' (by omega) (by omega)]
      refine ⟨y1, fun k hk => by rw [od2 33 l' k (by omega) (by omega)]; exact y2 k hk, ?_, y4⟩
      by_cases e : l' = l
      · rw [e, od29, v1, if_pos ⟨rfl, rfl⟩]
      · rw [v1, if_neg (fun z => e z.2), if_neg (by omega), od2 29 0 l' (by omega) (by omega)]
        exact y3
    · rw [go rec j hj]
      unfold q_X6_depart_100
      have nz : ¬ nI (w - B) = (0 : Int32) := nI_ne0 (by omega) (by omega)
      rw [if_pos bg, eg, od31, if_neg nz, e126]
  · -- the group is through
    have eB : B = w := by omega
    obtain ⟨v1, v2, v3, v4, v5, v6, v7⟩ := ons_w (P := P) (M := M) hq (by omega)
    rw [hw] at v1 v2 v3 v4 v5 v6 v7
    rw [eB]
    rw [eB] at od29 od31 efre e126 go
    have o34 : d2.1 34 0 l = nI (r.length + 1) := (od2 34 0 l (by omega) (by omega)).trans q1
    have hlv := leave8 (d := d2) hl3 (show 1 ≤ r.length + 1 by omega) hlen o34
    rw [Nat.add_sub_cancel] at hlv
    generalize hd3 : sk_wi (shq8 d2 l r.length) 34 0 l (nI r.length) = d3 at hlv
    have od3 : ∀ s k f, ¬ (s = 33 ∧ k = l) → ¬ (s = 34 ∧ f = l) → d3.1 s k f = d2.1 s k f := fun s k f h1 h2 => by
      rw [← hd3, wi_o (by omega), shq8_o _ _ _ _ _ _ (by omega)]
    have od33 : ∀ k, k < r.length → d3.1 33 l k = nI (gt r k) := fun k hk => by
      rw [← hd3, wi_o (by omega), shq8_g _ _ _ _ hk, od2 33 l (k + 1) (by omega) (by omega)]
      exact q2 (k + 1) (by omega)
    have od34 : d3.1 34 0 l = nI r.length := by rw [← hd3]; exact wi_e
    have n3 : ∀ s k f, s ≠ 33 → s ≠ 34 → ¬ (s = 31 ∧ f = g) → ¬ (s = 29 ∧ f = l) → d3.1 s k f = d.1 s k f := fun s k f h1 h2 h3 h4 => by
      rw [od3 s k f (by omega) (by omega), od2 s k f h3 h4]
    obtain ⟨D, r1, r2, r3, r4, r5⟩ := ccr (d := d3) (a := M + P 6 l 0) hg a5 p2 ((n3 27 0 g (by omega) (by omega) (by omega) (by omega)).trans c4) ((n3 30 0 g (by omega) (by omega) (by omega) (by omega)).trans c2) ((n3 41 g _ (by omega) (by omega) (by omega) (by omega)).trans s6) ((n3 39 g 6 (by omega) (by omega) (by omega) (by omega)).trans s3)
    have fr : ∀ s k f, ¬ (25 ≤ s ∧ s ≤ 34) → D.1 s k f = d.1 s k f := fun s k f hs => by
      rw [r5 s k f (by omega), n3 s k f (by omega) (by omega) (by omega) (by omega)]
    refine ⟨D, ⟨hS.fr fr, ⟨fun x hx => ?_, fun l' hl' => ?_⟩, fr⟩, fun rec j hj => ?_⟩
    · obtain ⟨y1, y2, y3, y4, y5⟩ := hC.1 x hx
      by_cases e : x = g
      · subst e
        rw [v2, v3, v4, v5, v6 4 x (by omega) (by omega), r2, r3, r4, r5 31 0 x (by omega), od3 31 0 x (by omega) (by omega), od31, r5 26 0 x (by omega), n3 26 0 x (by omega) (by omega) (by omega) (by omega)]
        exact ⟨by rw [Nat.sub_self], rfl, fun _ => rfl, rfl, y5⟩
      · rw [v6 0 x (by omega) (by omega), v6 1 x (by omega) (by omega), v6 2 x (by omega) (by omega), v6 3 x (by omega) (by omega), v6 4 x (by omega) (by omega), r5 31 0 x (by omega), r5 30 0 x (by omega), r5 25 0 x (by omega), r5 27 0 x (by omega), r5 26 0 x (by omega), n3 31 0 x (by omega) (by omega) (by omega) (by omega), n3 30 0 x (by omega) (by omega) (by omega) (by omega), n3 25 0 x (by omega) (by omega) (by omega) (by omega), n3 27 0 x (by omega) (by omega) (by omega) (by omega), n3 26 0 x (by omega) (by omega) (by omega) (by omega)]
        exact ⟨y1, y2, y3, y4, y5⟩
    · obtain ⟨y1, y2, y3, y4⟩ := hC.2 l' hl'
      rw [v7, v6 6 l' (by omega) (by omega), r5 34 0 l' (by omega), r5 29 0 l' (by omega), r5 28 0 l' (by omega), n3 28 0 l' (by omega) (by omega) (by omega) (by omega), od3 29 0 l' (by omega) (by omega)]
      by_cases e : l' = l
      · subst e
        rw [if_pos rfl, v1, od34, od29]
        exact ⟨rfl, fun k hk => by rw [r5 33 l' k (by omega)]; exact od33 k hk, rfl, y4⟩
      · rw [if_neg e, v6 5 l' (by omega) (by omega), od3 34 0 l' (by omega) (by omega), od2 34 0 l' (by omega) (by omega), od2 29 0 l' (by omega) (by omega)]
        refine ⟨y1, fun k hk => ?_, y3, y4⟩
        rw [r5 33 l' k (by omega), od3 33 l' k (by omega) (by omega), od2 33 l' k (by omega) (by omega)]
        exact y2 k hk
    · rw [go rec j hj]
      unfold q_X6_depart_100
      have hz : nI (w - w) = (0 : Int32) := by rw [Nat.sub_self]; rfl
      have e43 : d3.1 43 l 2 = nI (P 6 l 0) := (n3 43 l 2 (by omega) (by omega) (by omega) (by omega)).trans s7
      rw [if_pos bg, eg, od31, if_pos hz, hlv, Option.bind_some, if_pos bg, e43, nI_add, r1, Option.bind_some, e126]
end SC
