/-! THE LAW's lifts: simulated, the starts *** by hand -/
section F4
variable {P : Nat → Nat → Nat → Nat} {M x : Nat}
theorem f4_jn (g : Nat) (s : ST) : (jn P M g s).1 4 x = s.1 4 x := by
  unfold jn
  split
  · exact su_o (s := s) (v := P 0 g 0) (f := 0) (k := g) (f' := 4) (k' := x) (by omega)
  · rfl
theorem f4_jns (s : ST) : ∀ g, (jns P M g s).1 4 x = s.1 4 x
  | 0 => rfl
  | g + 1 => (f4_jn g _).trans (f4_jns s g)
theorem f4_on1 (l : Nat) (s : ST) : (on1 P M l s).1 4 x = s.1 4 x := by
  cases hq : s.2 l with
  | nil => rw [on1_n hq]
  | cons g r =>
    by_cases h : s.1 0 g ≤ 1
    · rw [on1_f hq h]
      show (su (su (su (su (su s 5 l (s.1 5 l + 1)) 0 g 0) 3 g ((su s 5 l (s.1 5 l + 1)).1 3 g + 1)) 2 g (M + P 6 l 0 + P 3 g ((su s 5 l (s.1 5 l + 1)).1 1 g))) 1 g (((su s 5 l (s.1 5 l + 1)).1 1 g + 1) % P 1 g 0)).1 4 x = _
      rw [su_o (by omega), su_o (by omega), su_o (by omega), su_o (by omega), su_o (by omega)]
    · rw [on1_s hq h, su_o (by omega), su_o (by omega)]
theorem f4_ons (l : Nat) (s : ST) : ∀ k, (ons P M l k s).1 4 x = s.1 4 x
  | 0 => rfl
  | k + 1 => (f4_on1 l _).trans (f4_ons l s k)
theorem f4_deps (s : ST) : ∀ l, (deps P M l s).1 4 x = s.1 4 x
  | 0 => rfl
  | l + 1 => by
    show (if M % P 5 l 0 = 0 then ons P M l (P 4 l 0) (deps P M l s) else deps P M l s).1 4 x = _
    split
    · exact (f4_ons l _ _).trans (f4_deps s l)
    · exact f4_deps s l
theorem f4_wts {b : Nat → Nat} {c : Nat} {s : ST} (h : IR P b c s) (hP : PV P) (hx : x < 4) (h0 : P 0 x 0 = 0) : ∀ l, l ≤ 3 → (wts l s).1 4 x = s.1 4 x
  | 0, _ => rfl
  | l + 1, hl => by
    have hI := IR_wts h hP l (by omega)
    have ih := f4_wts h hP hx h0 l (by omega)
    show (if 4 = 4 ∧ x ∈ (wts l s).2 l then (wts l s).1 4 x + (wts l s).1 0 x else if 4 = 6 ∧ x = l then max ((wts l s).1 6 l) (fl ((wts l s).1 0) ((wts l s).2 l)).length else (wts l s).1 4 x) = _
    have nin : ¬ x ∈ (wts l s).2 l := fun q => by
      have h1 := ((hI.2.1 l (by omega)).1 x q).2
      have h2 := (hI.1 x hx).1
      omega
    rw [if_neg (fun q => nin q.2), if_neg (by omega), ih]
theorem f4_runs {s : ST} (h : IR P (fun _ => 0) 0 s) (hP : PV P) (hx : x < 4) (h0 : P 0 x 0 = 0) : ∀ M, M ≤ 180 → (runs P M s).1 4 x = s.1 4 x
  | 0, _ => rfl
  | M + 1, hM => by
    have hn := hP.1
    have hI := IR_runs h hP M (by omega)
    have ih := f4_runs h hP hx h0 M (by omega)
    show (wts (P 7 0 0) (deps P M (P 7 0 0) (jns P M 4 (runs P M s)))).1 4 x = _
    rw [f4_wts (IR_deps (IR_b4 (IR_jns hI hP (by omega) 4 (by omega))) hP (by omega) _ (Nat.le_refl _)) hP hx h0 _ hn, f4_deps, f4_jns, ih]
end F4
theorem prs_same {d d' : sk_D} (h37 : ∀ k f, d'.1 37 k f = d.1 37 k f) {g : Nat} (h0 : ∀ k, d'.1 39 k 0 = d.1 39 k 0) (h4 : d'.1 39 g 4 = d.1 39 g 4) (h6 : d'.1 39 g 6 = d.1 39 g 6) : prs d' g = prs d g := by
  have ge : gb d' (nI g) = gb d (nI g) := by
    funext k
    unfold gb pb
    rw [h37, h37]
  unfold prs tpb
  rw [acb_same h37 h0, ge, h4, h6]
section LF
variable {P : Nat → Nat → Nat → Nat} {A : Nat → Nat} {X x : sk_X} {d : sk_D} {pe li pr ou n m t N : Nat} {q sp : Nat → Nat} {np : Nat} {Pf Gf : Nat → Int32} {c : Nat → Nat}
theorem x_simd (hZ : ZG d np m t Pf Gf c) (hC : CP P A d) (hP : PV P) (hA : ∀ g, g < 4 → P 0 g 0 ≠ 0 → A g ≤ 400) (hN1 : 1 ≤ N) (hN : N ≤ 180) (hL : LSt P X pe li pr ou m n q sp) (hI : IZ X ou x) (hR : LR P X ou m n (runs P N (ST0 A)) x) : ∃ d', q_L_simulated x d (nI N) (nI m) (nI n) ou = some (1, d') ∧ ZG d' np m t Pf Gf c ∧ CP P A d' := by
  obtain ⟨hpe, hli, hpr, hou, h16, n1, n2, n3, hm, en, em, hg2, hl2⟩ := hL
  have hn := hP.1
  obtain ⟨d', r1, r2, r3, r4⟩ := x_sim hZ hC hP hA hN1 hN
  have bo := fun j (hj : j < 16) => hI.bo hou h16 hj
  have hZ' : ZG d' np m t Pf Gf c := hZ.fr (fun s k f hs => r4 s k f (by omega) (by omega) (by omega))
  have hC' : CP P A d' := by
    obtain ⟨c1, c2, c3⟩ := hC
    refine ⟨fun g hg => ⟨?_, fun hp => ?_⟩, ?_, fun l hl => ?_⟩
    · rw [prs_same (d := d) (fun k f => r4 37 k f (by omega) (by omega) (by omega)) (fun k => r4 39 k 0 (by omega) (by omega) (by omega)) (r4 39 g 4 (by omega) (by omega) (by omega)) (r4 39 g 6 (by omega) (by omega) (by omega))]
      exact (c1 g hg).1
    · obtain ⟨z1, z2, z3⟩ := (c1 g hg).2 hp
      rw [r4 39 g 5 (by omega) (by omega) (by omega), r4 39 g 6 (by omega) (by omega) (by omega)]
      exact ⟨z1, z2, fun j hj => by rw [r4 40 g j (by omega) (by omega) (by omega), r4 41 g j (by omega) (by omega) (by omega)]; exact z3 j hj⟩
    · rw [r4 0 0 9 (by omega) (by omega) (by omega)]
      exact c2
    · rw [r4 43 l 0 (by omega) (by omega) (by omega), r4 43 l 1 (by omega) (by omega) (by omega), r4 43 l 2 (by omega) (by omega) (by omega)]
      exact c3 l hl
  have esum : sm (fun g => (runs P N (ST0 A)).1 4 g) 4 = sm (fun g => (runs P N (ST0 A)).1 4 g) m := sm_cut hm (fun g g1 g2 => by
    have h0 : P 0 g 0 = 0 := by
      by_cases z : P 0 g 0 = 0
      · exact z
      · have := (hP.2.2.2.1 g g2 z).1
        omega
    exact f4_runs (IR_0 hA hP) hP g2 h0 N hN)
  rw [esum] at r1
  refine ⟨d', ?_, hZ', hC'⟩
  have last : l_L_simulated_90 x sk_fu (d', nI n, ou, 0) = some (1, d') := by
    refine it_for0 (F := fun rec a => q_L_simulated_90 rec x a.1 a.2.1 a.2.2.1 a.2.2.2) (fun l => (d', nI n, ou, nI l)) n (fun l hl rec => ?_) (fun rec => ?_) (by omega)
    · show q_L_simulated_90 rec x d' (nI n) ou (nI l) = rec (d', nI n, ou, nI (l + 1))
      obtain ⟨y1, y2, y3, y4⟩ := hR.2 l hl
      obtain ⟨z1, z2⟩ := r3 l (by omega)
      have hlf : q_X8_hasLift d' (nI l) = some 1 := by
        have w := (wi_in l (a := nI l) (lo := 0) (hi := 2) 0 2 rfl rfl rfl (by omega) (by omega) (by omega)).1 d'
        unfold q_X8_hasLift q_X8_hasLift_0
        rw [w, Option.bind_some, if_neg ne10, hC'.2.1, if_neg (nI_ge (by omega) (by omega))]
      have e1 : q_X8_longestQueue d' (nI l) = some (nI ((runs P N (ST0 A)).1 6 l)) := by
        unfold q_X8_longestQueue q_X8_longestQueue_0
        rw [hlf, Option.bind_some, if_neg ne10, if_pos (bi_nI (by omega) (by omega)), nI_clamp (by omega), z1]
      have e2 : q_X8_carried d' (nI l) = some (nI ((runs P N (ST0 A)).1 5 l)) := by
        unfold q_X8_carried q_X8_carried_0
        rw [hlf, Option.bind_some, if_neg ne10, if_pos (bi_nI (by omega) (by omega)), nI_clamp (by omega), z2]
      unfold q_L_simulated_90
      rw [if_neg (nI_ge hl (by omega)), e1, Option.bind_some, show (8 : Int32) = nI 8 from rfl, nI_add, if_pos (bo _ (by omega)), nI_clamp (show 8 + l < 2 ^ 31 by omega), y3, if_pos rfl, e2, Option.bind_some, show (12 : Int32) = nI 12 from rfl, nI_add, if_pos (bo _ (by omega)), nI_clamp (show 12 + l < 2 ^ 31 by omega), y4, if_pos rfl, nI_1]
    · show q_L_simulated_90 rec x d' (nI n) ou (nI n) = _
      unfold q_L_simulated_90
      rw [if_pos (nI_le (Nat.le_refl _) (by omega))]
  have mid : l_L_simulated_43 x sk_fu (d', nI m, nI n, ou, 0) = some (1, d') := by
    refine it_for0 (F := fun rec a => q_L_simulated_43 rec x a.1 a.2.1 a.2.2.1 a.2.2.2.1 a.2.2.2.2) (fun g => (d', nI m, nI n, ou, nI g)) m (fun g hg rec => ?_) (fun rec => ?_) (by omega)
    · show q_L_simulated_43 rec x d' (nI m) (nI n) ou (nI g) = rec (d', nI m, nI n, ou, nI (g + 1))
      obtain ⟨y1, y2, y3, y4⟩ := hR.1 g hg
      obtain ⟨z1, z2⟩ := r2 g (by omega)
      have e1 : q_X8_waited d' (nI g) = some (nI ((runs P N (ST0 A)).1 4 g)) := by
        unfold q_X8_waited q_X8_waited_0
        rw [has_g hZ'.1 hg, Option.bind_some, if_neg ne10, if_pos (bi_nI (by omega) (by omega)), nI_clamp (by omega), z1]
      have e2 : q_X8_rides d' (nI g) = some (nI ((runs P N (ST0 A)).1 3 g)) := by
        unfold q_X8_rides q_X8_rides_0
        rw [has_g hZ'.1 hg, Option.bind_some, if_neg ne10, if_pos (bi_nI (by omega) (by omega)), nI_clamp (by omega), z2]
      unfold q_L_simulated_43
      rw [if_neg (nI_ge hg (by omega)), e1, Option.bind_some, if_pos (bo _ (by omega)), nI_clamp (show g < 2 ^ 31 by omega), y3, if_pos rfl, e2, Option.bind_some, show (4 : Int32) = nI 4 from rfl, nI_add, if_pos (bo _ (by omega)), nI_clamp (show 4 + g < 2 ^ 31 by omega), y4, if_pos rfl, nI_1]
    · show q_L_simulated_43 rec x d' (nI m) (nI n) ou (nI m) = _
      unfold q_L_simulated_43
      rw [if_pos (nI_le (Nat.le_refl _) (by omega))]
      exact last
  unfold q_L_simulated q_L_simulated_0
  refine it_for0 (F := fun rec a => q_L_simulated_6 rec x a.1 a.2.1 a.2.2.1 a.2.2.2.1 a.2.2.2.2.1 a.2.2.2.2.2.1 a.2.2.2.2.2.2) (fun g => (d, nI N, nI m, nI n, ou, nI (sm (fun g => (runs P N (ST0 A)).1 4 g) g), nI g)) m (fun g hg rec => ?_) (fun rec => ?_) (by omega)
  · show q_L_simulated_6 rec x d (nI N) (nI m) (nI n) ou (nI (sm (fun g => (runs P N (ST0 A)).1 4 g) g)) (nI g) = rec (d, nI N, nI m, nI n, ou, nI (sm (fun g => (runs P N (ST0 A)).1 4 g) g + (runs P N (ST0 A)).1 4 g), nI (g + 1))
    unfold q_L_simulated_6
    rw [if_neg (nI_ge hg (by omega)), if_pos (bo _ (by omega)), nI_clamp (show g < 2 ^ 31 by omega), (hR.1 g hg).2.2.1, nI_add, nI_1]
  · show q_L_simulated_6 rec x d (nI N) (nI m) (nI n) ou (nI (sm (fun g => (runs P N (ST0 A)).1 4 g) m)) (nI m) = _
    unfold q_L_simulated_6
    rw [if_pos (nI_le (Nat.le_refl _) (by omega)), r1, Option.bind_some, if_pos rfl]
    exact mid
theorem LSt.z (hL : LSt P X pe li pr ou m n q sp) (hI : IZ X ou x) : LSt P x pe li pr ou m n q sp := by
  obtain ⟨hpe, hli, hpr, hou, h16, n1, n2, n3, hm, en, em, hg2, hl2⟩ := hL
  have h1 := hI.1
  have e := fun k hk hne => (hI.2.2.2.2.2 k hk).2 hne
  refine ⟨?_, ?_, ?_, by omega, (hI.2.2.2.2.2 ou hou).1.trans h16, n1, n2, n3, hm, en, em, ?_, ?_⟩
  · rw [e pe hpe.1 n1]
    exact hI.ax hpe n1
  · rw [e li hli.1 n2]
    exact hI.ax hli n2
  · rw [e pr hpr.1 n3]
    exact hI.ax hpr n3
  · rw [e pe hpe.1 n1, e pr hpr.1 n3]
    exact hg2
  · rw [e li hli.1 n2]
    exact hl2
theorem LSt.st (hL : LSt P X pe li pr ou m n q sp) (h2 : ∀ g, g < m → sp g ≤ 2) (hne : pe ≠ pr) (hne2 : li ≠ pr) {g : Nat} (hg : g < m) (v : Int32) : LSt P (xw X pr (6 * g + 1) v) pe li pr ou m n q sp := by
  obtain ⟨hpe, hli, hpr, hou, h16, n1, n2, n3, hm, en, em, hg2, hl2⟩ := hL
  have fe : ∀ k, k ≠ pr → (xw X pr (6 * g + 1) v).2.2 k = X.2.2 k := fun k hk => by
    funext j
    exact xw_o (fun z => hk z.1)
  refine ⟨⟨hpe.1, hpe.2.1, fun _ _ => rfl⟩, ⟨hli.1, hli.2.1, fun _ _ => rfl⟩, ⟨hpr.1, hpr.2.1, fun _ _ => rfl⟩, hou, h16, n1, n2, n3, hm, en, em, fun g' hg' => ?_, ?_⟩
  · obtain ⟨e0, e1, e2, e3, e4, e5⟩ := hg2 g' hg'
    have s2 := h2 g' hg'
    rw [fe pe hne, xw_o (by omega)]
    refine ⟨e0, e1, e2, e3, e4, fun hp => ?_⟩
    obtain ⟨e6, e7, e8⟩ := e5 hp
    refine ⟨e6, e7, fun j hj => ?_⟩
    rw [xw_o (by omega), xw_o (by omega)]
    exact e8 j hj
  · rw [fe li hne2]
    exact hl2
theorem lf457 (hZ : ZG d np m t Pf Gf c) (hC : CP P A d) (hP : PV P) (hA : ∀ g, g < 4 → P 0 g 0 ≠ 0 → A g ≤ 400) (hN1 : 1 ≤ N) (hN : N ≤ 180) (hL : LSt P X pe li pr ou m n q sp) (h2 : ∀ g, g < m → sp g ≤ 2) (hne : pe ≠ pr) (hne2 : li ≠ pr) (hs : ∀ g, g < m → P 0 g 0 ≠ 0 → X.2.2 pr (6 * g + 1) = nI (A g)) {g : Nat} (hg : g < m) (hp : P 0 g 0 ≠ 0) (L : Nat) (xs : Nat → Int32) {x0 : Nat} (hx0 : X.1 = x0 + 7) :
    ∃ r, l_L_lifts_457 L xs x0 sk_fu (d, X, nI m, pe, nI n, li, pr, ou, nI N, nI g, -1, 0, 0) = some r ∧ r.1 = 1 ∧ r.2.2.1 = x0 + 131 := by
  have hm := hZ.1.2.1
  have hg4 : g < 4 := by omega
  have hl := fun a (ha : a ≤ 30) => wv_le (N := N) hP hA hg4 (show a ≤ 400 by omega) hN
  refine it_inv0 (F := fun rec a => q_L_lifts_457 rec L xs x0 a.1 a.2.1 a.2.2.1 a.2.2.2.1 a.2.2.2.2.1 a.2.2.2.2.2.1 a.2.2.2.2.2.2.1 a.2.2.2.2.2.2.2.1 a.2.2.2.2.2.2.2.2.1 a.2.2.2.2.2.2.2.2.2.1 a.2.2.2.2.2.2.2.2.2.2.1 a.2.2.2.2.2.2.2.2.2.2.2.1 a.2.2.2.2.2.2.2.2.2.2.2.2)
    (fun j a => ∃ x, a = (d, x, nI m, pe, nI n, li, pr, ou, nI N, nI g, wle P A N g (-1) (wbs P A N g j), wix (wbs P A N g j), nI j) ∧ LSt P x pe li pr ou m n q sp ∧ (∀ g', g' < m → P 0 g' 0 ≠ 0 → g' ≠ g → x.2.2 pr (6 * g' + 1) = nI (A g')) ∧ x.1 = x0 + 7 + 4 * j)
    (fun r => r.1 = 1 ∧ r.2.2.1 = x0 + 131) 31 (fun j a hj hq => ?_) (fun a hq => ?_) (by omega) _ ⟨X, rfl, hL, fun g' hg' hp' _ => hs g' hg' hp', hx0⟩
  · obtain ⟨x, rfl, h3, h4, h5⟩ := hq
    have h6 := h3.st h2 hne hne2 hg (nI j)
    obtain ⟨y, y1, y2, y3⟩ := lsim h6 hP (A := up1 A g j) (fun g' hg' hp' => by
      by_cases e : g' = g
      · rw [e, xw_e, up1_e]
      · rw [xw_o (by omega), up1_o e]
        exact h4 g' hg' hp' e) (IR_0 (up_le hA (by omega)) hP) hN
    have ey : y.1 = x.1 + 4 := y2.1
    have hpr := h3.2.2.1
    have hou := h6.2.2.2.1
    have h16 := h6.2.2.2.2.1
    have n3 := h6.2.2.2.2.2.2.2.1
    have ew : y.2.2 ou g = nI (wv P A N g j) := (y3.1 g hg).2.2.1
    have bo := y2.bo hou h16 (j := g) (by omega)
    have st : LSt P y pe li pr ou m n q sp ∧ (∀ g', g' < m → P 0 g' 0 ≠ 0 → g' ≠ g → y.2.2 pr (6 * g' + 1) = nI (A g')) ∧ y.1 = x0 + 7 + 4 * (j + 1) := by
      refine ⟨h6.z y2, fun g' hg' hp' e => ?_, by omega⟩
      rw [(y2.2.2.2.2.2 pr hpr.1).2 n3, xw_o (by omega)]
      exact h4 g' hg' hp' e
    have e517 : ∀ (rec : (sk_D × sk_X × Int32 × Nat × Int32 × Nat × Nat × Nat × Int32 × Int32 × Int32 × Int32 × Int32) → Option (Int32 × sk_D × sk_X)) v w, q_L_lifts_517 rec L xs x0 d y (nI m) pe (nI n) li pr ou (nI N) (nI g) v w (nI j) = rec (d, y, nI m, pe, nI n, li, pr, ou, nI N, nI g, v, w, nI (j + 1)) := fun rec v w => by
      unfold q_L_lifts_517
      rw [nI_1]
    have e506 : ∀ (rec : (sk_D × sk_X × Int32 × Nat × Int32 × Nat × Nat × Nat × Int32 × Int32 × Int32 × Int32 × Int32) → Option (Int32 × sk_D × sk_X)), q_L_lifts_506 rec L xs x0 d y (nI m) pe (nI n) li pr ou (nI N) (nI g) (nI j) = rec (d, y, nI m, pe, nI n, li, pr, ou, nI N, nI g, nI (wv P A N g j), nI j, nI (j + 1)) := fun rec => by
      unfold q_L_lifts_506
      rw [if_pos bo, nI_clamp (show g < 2 ^ 31 by omega), ew, e517]
    have go : ∀ (rec : (sk_D × sk_X × Int32 × Nat × Int32 × Nat × Nat × Nat × Int32 × Int32 × Int32 × Int32 × Int32) → Option (Int32 × sk_D × sk_X)) v w, q_L_lifts_457 rec L xs x0 d x (nI m) pe (nI n) li pr ou (nI N) (nI g) v w (nI j) = if v < 0 then rec (d, y, nI m, pe, nI n, li, pr, ou, nI N, nI g, nI (wv P A N g j), nI j, nI (j + 1)) else if v ≤ nI (wv P A N g j) then rec (d, y, nI m, pe, nI n, li, pr, ou, nI N, nI g, v, w, nI (j + 1)) else rec (d, y, nI m, pe, nI n, li, pr, ou, nI N, nI g, nI (wv P A N g j), nI j, nI (j + 1)) := fun rec v w => by
      unfold q_L_lifts_457 q_L_lifts_488
      rw [if_neg (show ¬ (30 : Int32) < nI j from nI_nlt (a := 30) (by omega) (by omega)), show (6 : Int32) = nI 6 from rfl, pk_mul, nI_1, if_pos (hpr.b (by omega) (by omega)), nI_clamp (show 6 * g + 1 < 2 ^ 31 by omega), y1, Option.bind_some, if_pos (show y.1 = (xw x pr (6 * g + 1) (nI j)).1 + 4 from ey), if_pos (show y.1 ≤ x0 + 131 by omega), if_pos bo, nI_clamp (show g < 2 ^ 31 by omega), ew, e506, e517]
    rcases wbs_o hl (show j ≤ 30 by omega) with ⟨z1, z2⟩ | ⟨i, z1, z2, ⟨z3, z4⟩ | ⟨z3, z4⟩⟩
    · refine ⟨_, ⟨y, rfl, st⟩, fun rec => (go rec _ _).trans ?_⟩
      rw [z1, z2]
      rfl
    · have b1 := hl j (by omega)
      have b2 := hl i (by omega)
      refine ⟨_, ⟨y, rfl, st⟩, fun rec => (go rec _ _).trans ?_⟩
      rw [z1, z4, if_neg (show ¬ wle P A N g (-1) (some i) < 0 from nI_pos (by omega)), if_pos (show wle P A N g (-1) (some i) ≤ nI (wv P A N g j) from nI_le (by omega) (by omega))]
    · have b1 := hl j (by omega)
      have b2 := hl i (by omega)
      refine ⟨_, ⟨y, rfl, st⟩, fun rec => (go rec _ _).trans ?_⟩
      rw [z1, z4, if_neg (show ¬ wle P A N g (-1) (some i) < 0 from nI_pos (by omega)), if_neg (show ¬ wle P A N g (-1) (some i) ≤ nI (wv P A N g j) from nI_ge (by omega) (by omega))]
      rfl
  · obtain ⟨x, rfl, h3, h4, h5⟩ := hq
    obtain ⟨d', e⟩ := x_best hZ hC hP hA hg hp hN1 hN
    refine ⟨(1, d', x), ⟨rfl, by show x.1 = _; omega⟩, fun rec => ?_⟩
    show q_L_lifts_457 rec L xs x0 d x (nI m) pe (nI n) li pr ou (nI N) (nI g) _ (wix (wbs P A N g 31)) (nI 31) = _
    unfold q_L_lifts_457
    rw [if_pos (show (30 : Int32) < nI 31 by decide), e, Option.bind_some, if_pos rfl]
end LF
