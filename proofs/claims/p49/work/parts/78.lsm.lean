/-! THE LAW's simulation, all of it *** by hand -/
def ST0 (A : Nat → Nat) : ST := (fun f g => if f = 2 then A g else 0, fun _ => [])
section LJ
variable {P : Nat → Nat → Nat → Nat} {X x : sk_X} {pe li pr ou m n M : Nat} {q sp : Nat → Nat} {s : ST} {b : Nat → Nat} {cc : Nat}
theorem lm428 (hL : LSt P X pe li pr ou m n q sp) (hI : IZ X ou x) (hP : PV P) (hR : LR P X ou m n s x) (hV : IR P b cc s) (x0 N M : Nat) :
    ∃ x', (IZ X ou x' ∧ LR P X ou m n (wts n s) x') ∧ ∀ r98 : ((sk_X × Int32 × Int32 × Int32 × Nat × Nat × Nat × Nat × Nat × Nat × Nat × Nat × Int32) → Option sk_X), l_L_simulate_428 r98 x0 sk_fu (x, nI N, nI m, nI n, pe, li, pr, ou, X.1, X.1 + 1, X.1 + 2, X.1 + 3, nI M, 0) = r98 (x', nI N, nI m, nI n, pe, li, pr, ou, X.1, X.1 + 1, X.1 + 2, X.1 + 3, nI (M + 1)) := by
  have hn := hP.1
  have en := hL.2.2.2.2.2.2.2.2.2.1
  refine it_cn (F := fun (r98 : ((sk_X × Int32 × Int32 × Int32 × Nat × Nat × Nat × Nat × Nat × Nat × Nat × Nat × Int32) → Option sk_X)) rec428 a => q_L_simulate_428 r98 rec428 x0 a.1 a.2.1 a.2.2.1 a.2.2.2.1 a.2.2.2.2.1 a.2.2.2.2.2.1 a.2.2.2.2.2.2.1 a.2.2.2.2.2.2.2.1 a.2.2.2.2.2.2.2.2.1 a.2.2.2.2.2.2.2.2.2.1 a.2.2.2.2.2.2.2.2.2.2.1 a.2.2.2.2.2.2.2.2.2.2.2.1 a.2.2.2.2.2.2.2.2.2.2.2.2.1 a.2.2.2.2.2.2.2.2.2.2.2.2.2)
    (fun r98 x' => r98 (x', nI N, nI m, nI n, pe, li, pr, ou, X.1, X.1 + 1, X.1 + 2, X.1 + 3, nI (M + 1)))
    (fun l a => ∃ x', a = (x', nI N, nI m, nI n, pe, li, pr, ou, X.1, X.1 + 1, X.1 + 2, X.1 + 3, nI M, nI l) ∧ IZ X ou x' ∧ LR P X ou m n (wts l s) x')
    (fun x' => IZ X ou x' ∧ LR P X ou m n (wts n s) x') n (fun l a hl hp => ?_) (fun a hp => ?_) (by omega) (x, nI N, nI m, nI n, pe, li, pr, ou, X.1, X.1 + 1, X.1 + 2, X.1 + 3, nI M, 0) ⟨x, rfl, hI, hR⟩
  · obtain ⟨x', rfl, h1, h2⟩ := hp
    obtain ⟨x2, ⟨w1, w2⟩, w3⟩ := lw437 (M := M) hL h1 hP h2 (IR_wts hV hP l (by omega)) hl x0 N
    refine ⟨_, ⟨x2, rfl, w1, w2⟩, fun r98 rec => ?_⟩
    show q_L_simulate_428 r98 rec x0 x' (nI N) (nI m) (nI n) pe li pr ou X.1 (X.1 + 1) (X.1 + 2) (X.1 + 3) (nI M) (nI l) = _
    unfold q_L_simulate_428
    rw [if_neg (nI_ge hl (by omega))]
    exact w3 (r98, rec)
  · obtain ⟨x', rfl, h1, h2⟩ := hp
    refine ⟨x', ⟨h1, h2⟩, fun r98 rec => ?_⟩
    show q_L_simulate_428 r98 rec x0 x' (nI N) (nI m) (nI n) pe li pr ou X.1 (X.1 + 1) (X.1 + 2) (X.1 + 3) (nI M) (nI n) = _
    unfold q_L_simulate_428
    rw [if_pos (nI_le (Nat.le_refl _) (by omega)), nI_1]
theorem lm191 (hL : LSt P X pe li pr ou m n q sp) (hI : IZ X ou x) (hP : PV P) (hM : M < 180) (hR : LR P X ou m n s x) (hV : IR P (fun _ => M + 1) cc s) (x0 N : Nat) :
    ∃ x', (IZ X ou x' ∧ LR P X ou m n (wts n (deps P M n s)) x') ∧ ∀ r98 : ((sk_X × Int32 × Int32 × Int32 × Nat × Nat × Nat × Nat × Nat × Nat × Nat × Nat × Int32) → Option sk_X), l_L_simulate_191 r98 x0 sk_fu (x, nI N, nI m, nI n, pe, li, pr, ou, X.1, X.1 + 1, X.1 + 2, X.1 + 3, nI M, 0) = r98 (x', nI N, nI m, nI n, pe, li, pr, ou, X.1, X.1 + 1, X.1 + 2, X.1 + 3, nI (M + 1)) := by
  have hn := hP.1
  have en := hL.2.2.2.2.2.2.2.2.2.1
  refine it_cn (F := fun (r98 : ((sk_X × Int32 × Int32 × Int32 × Nat × Nat × Nat × Nat × Nat × Nat × Nat × Nat × Int32) → Option sk_X)) rec191 a => q_L_simulate_191 r98 rec191 x0 a.1 a.2.1 a.2.2.1 a.2.2.2.1 a.2.2.2.2.1 a.2.2.2.2.2.1 a.2.2.2.2.2.2.1 a.2.2.2.2.2.2.2.1 a.2.2.2.2.2.2.2.2.1 a.2.2.2.2.2.2.2.2.2.1 a.2.2.2.2.2.2.2.2.2.2.1 a.2.2.2.2.2.2.2.2.2.2.2.1 a.2.2.2.2.2.2.2.2.2.2.2.2.1 a.2.2.2.2.2.2.2.2.2.2.2.2.2)
    (fun r98 x' => r98 (x', nI N, nI m, nI n, pe, li, pr, ou, X.1, X.1 + 1, X.1 + 2, X.1 + 3, nI (M + 1)))
    (fun l a => ∃ x', a = (x', nI N, nI m, nI n, pe, li, pr, ou, X.1, X.1 + 1, X.1 + 2, X.1 + 3, nI M, nI l) ∧ IZ X ou x' ∧ LR P X ou m n (deps P M l s) x')
    (fun x' => IZ X ou x' ∧ LR P X ou m n (wts n (deps P M n s)) x') n (fun l a hl hp => ?_) (fun a hp => ?_) (by omega) (x, nI N, nI m, nI n, pe, li, pr, ou, X.1, X.1 + 1, X.1 + 2, X.1 + 3, nI M, 0) ⟨x, rfl, hI, hR⟩
  · obtain ⟨x', rfl, h1, h2⟩ := hp
    obtain ⟨x2, ⟨w1, w2⟩, w3⟩ := ls200 hL h1 hP hM h2 (IR_deps hV hP hM l (by omega)) hl x0 N
    refine ⟨_, ⟨x2, rfl, w1, w2⟩, fun r98 rec => ?_⟩
    show q_L_simulate_191 r98 rec x0 x' (nI N) (nI m) (nI n) pe li pr ou X.1 (X.1 + 1) (X.1 + 2) (X.1 + 3) (nI M) (nI l) = _
    unfold q_L_simulate_191
    rw [if_neg (nI_ge hl (by omega))]
    exact w3 (r98, rec)
  · obtain ⟨x', rfl, h1, h2⟩ := hp
    obtain ⟨x2, ⟨w1, w2⟩, w3⟩ := lm428 hL h1 hP h2 (IR_deps hV hP hM n (by omega)) x0 N M
    refine ⟨x2, ⟨w1, w2⟩, fun r98 rec => ?_⟩
    show q_L_simulate_191 r98 rec x0 x' (nI N) (nI m) (nI n) pe li pr ou X.1 (X.1 + 1) (X.1 + 2) (X.1 + 3) (nI M) (nI n) = _
    unfold q_L_simulate_191
    rw [if_pos (nI_le (Nat.le_refl _) (by omega))]
    exact w3 r98
theorem jns_m (hP : PV P) (hm : m = P 8 0 0) : ∀ j, m ≤ j → j ≤ 4 → jns P M j s = jns P M m s
  | 0, h, _ => by
    obtain rfl : m = 0 := by omega
    rfl
  | j + 1, h, h4 => by
    by_cases e : m = j + 1
    · rw [e]
    · have ih := jns_m hP hm j (by omega) (by omega)
      show jn P M j (jns P M j s) = _
      rw [← ih]
      refine if_neg (fun q => ?_)
      have := (hP.2.2.2.1 j (by omega) q.1).1
      omega
theorem lm107 (hL : LSt P X pe li pr ou m n q sp) (hI : IZ X ou x) (hP : PV P) (hM : M < 180) (hR : LR P X ou m n s x) (hV : IR P (fun _ => M) cc s) (x0 N : Nat) :
    ∃ x', (IZ X ou x' ∧ LR P X ou m n (mn P M s) x') ∧ ∀ r98 : ((sk_X × Int32 × Int32 × Int32 × Nat × Nat × Nat × Nat × Nat × Nat × Nat × Nat × Int32) → Option sk_X), l_L_simulate_107 r98 x0 sk_fu (x, nI N, nI m, nI n, pe, li, pr, ou, X.1, X.1 + 1, X.1 + 2, X.1 + 3, nI M, 0) = r98 (x', nI N, nI m, nI n, pe, li, pr, ou, X.1, X.1 + 1, X.1 + 2, X.1 + 3, nI (M + 1)) := by
  have hn := hP.1
  have hm4 := hP.2.1
  have en := hL.2.2.2.2.2.2.2.2.2.1
  have em := hL.2.2.2.2.2.2.2.2.2.2.1
  refine it_cn (F := fun (r98 : ((sk_X × Int32 × Int32 × Int32 × Nat × Nat × Nat × Nat × Nat × Nat × Nat × Nat × Int32) → Option sk_X)) rec107 a => q_L_simulate_107 r98 rec107 x0 a.1 a.2.1 a.2.2.1 a.2.2.2.1 a.2.2.2.2.1 a.2.2.2.2.2.1 a.2.2.2.2.2.2.1 a.2.2.2.2.2.2.2.1 a.2.2.2.2.2.2.2.2.1 a.2.2.2.2.2.2.2.2.2.1 a.2.2.2.2.2.2.2.2.2.2.1 a.2.2.2.2.2.2.2.2.2.2.2.1 a.2.2.2.2.2.2.2.2.2.2.2.2.1 a.2.2.2.2.2.2.2.2.2.2.2.2.2)
    (fun r98 x' => r98 (x', nI N, nI m, nI n, pe, li, pr, ou, X.1, X.1 + 1, X.1 + 2, X.1 + 3, nI (M + 1)))
    (fun g a => ∃ x', a = (x', nI N, nI m, nI n, pe, li, pr, ou, X.1, X.1 + 1, X.1 + 2, X.1 + 3, nI M, nI g) ∧ IZ X ou x' ∧ LR P X ou m n (jns P M g s) x')
    (fun x' => IZ X ou x' ∧ LR P X ou m n (mn P M s) x') m (fun g a hg hp => ?_) (fun a hp => ?_) (by omega) (x, nI N, nI m, nI n, pe, li, pr, ou, X.1, X.1 + 1, X.1 + 2, X.1 + 3, nI M, 0) ⟨x, rfl, hI, hR⟩
  · obtain ⟨x', rfl, h1, h2⟩ := hp
    obtain ⟨x2, ⟨w1, w2⟩, w3⟩ := lj107 hL h1 hP hM h2 (IR_jns hV hP hM g (by omega)) hg (if_neg (Nat.lt_irrefl g)) x0 N
    exact ⟨_, ⟨x2, rfl, w1, w2⟩, fun r98 rec => w3 r98 rec⟩
  · obtain ⟨x', rfl, h1, h2⟩ := hp
    rw [← jns_m hP em 4 (by omega) (Nat.le_refl _)] at h2
    obtain ⟨x2, ⟨w1, w2⟩, w3⟩ := lm191 hL h1 hP hM h2 (IR_b4 (IR_jns hV hP hM 4 (Nat.le_refl _))) x0 N
    rw [en] at w2
    refine ⟨x2, ⟨w1, by rw [en]; exact w2⟩, fun r98 rec => ?_⟩
    show q_L_simulate_107 r98 rec x0 x' (nI N) (nI m) (nI n) pe li pr ou X.1 (X.1 + 1) (X.1 + 2) (X.1 + 3) (nI M) (nI m) = _
    unfold q_L_simulate_107
    rw [if_pos (nI_le (Nat.le_refl _) (by omega))]
    exact w3 r98
theorem lm98 (hL : LSt P X pe li pr ou m n q sp) (hI : IZ X ou x) (hP : PV P) (hR : LR P X ou m n s x) (hV : IR P (fun _ => 0) 0 s) (x0 : Nat) {N : Nat} (hN : N ≤ 180) :
    ∃ x', l_L_simulate_98 x0 sk_fu (x, nI N, nI m, nI n, pe, li, pr, ou, X.1, X.1 + 1, X.1 + 2, X.1 + 3, 0) = some x' ∧ IZ X ou x' ∧ LR P X ou m n (runs P N s) x' := by
  refine it_inv0 (F := fun rec98 a => q_L_simulate_98 rec98 x0 a.1 a.2.1 a.2.2.1 a.2.2.2.1 a.2.2.2.2.1 a.2.2.2.2.2.1 a.2.2.2.2.2.2.1 a.2.2.2.2.2.2.2.1 a.2.2.2.2.2.2.2.2.1 a.2.2.2.2.2.2.2.2.2.1 a.2.2.2.2.2.2.2.2.2.2.1 a.2.2.2.2.2.2.2.2.2.2.2.1 a.2.2.2.2.2.2.2.2.2.2.2.2)
    (fun M a => ∃ x', a = (x', nI N, nI m, nI n, pe, li, pr, ou, X.1, X.1 + 1, X.1 + 2, X.1 + 3, nI M) ∧ IZ X ou x' ∧ LR P X ou m n (runs P M s) x')
    (fun x' => IZ X ou x' ∧ LR P X ou m n (runs P N s) x') N (fun M a hM hp => ?_) (fun a hp => ?_) (by omega) (x, nI N, nI m, nI n, pe, li, pr, ou, X.1, X.1 + 1, X.1 + 2, X.1 + 3, 0) ⟨x, rfl, hI, hR⟩
  · obtain ⟨x', rfl, h1, h2⟩ := hp
    obtain ⟨x2, ⟨w1, w2⟩, w3⟩ := lm107 hL h1 hP (show M < 180 by omega) h2 (IR_runs hV hP M (by omega)) x0 N
    refine ⟨_, ⟨x2, rfl, w1, w2⟩, fun rec => ?_⟩
    show q_L_simulate_98 rec x0 x' (nI N) (nI m) (nI n) pe li pr ou X.1 (X.1 + 1) (X.1 + 2) (X.1 + 3) (nI M) = _
    unfold q_L_simulate_98
    rw [if_neg (nI_ge hM (by omega))]
    exact w3 rec
  · obtain ⟨x', rfl, h1, h2⟩ := hp
    refine ⟨x', ⟨h1, h2⟩, fun rec => ?_⟩
    show q_L_simulate_98 rec x0 x' (nI N) (nI m) (nI n) pe li pr ou X.1 (X.1 + 1) (X.1 + 2) (X.1 + 3) (nI N) = _
    unfold q_L_simulate_98
    rw [if_pos (nI_le (Nat.le_refl _) (by omega))]
theorem lsim (hL : LSt P X pe li pr ou m n q sp) (hP : PV P) {A : Nat → Nat} (hA : ∀ g, g < m → P 0 g 0 ≠ 0 → X.2.2 pr (6 * g + 1) = nI (A g)) (hV : IR P (fun _ => 0) 0 (ST0 A)) {N : Nat} (hN : N ≤ 180) :
    ∃ x', q_L_simulate X (nI N) (nI m) (nI n) pe li pr ou = some x' ∧ IZ X ou x' ∧ LR P X ou m n (runs P N (ST0 A)) x' := by
  have hL' := hL
  obtain ⟨hpe, hli, hpr, hou, h16, n1, n2, n3, hm, en, em, hg2, hl2⟩ := hL'
  have hn := hP.1
  obtain ⟨x4, hx4⟩ : ∃ x4, xn (xn (xn (xn X 64) 4) 4) 4 = x4 := ⟨_, rfl⟩
  have v4 : ∀ k j, X.1 ≤ k → k < X.1 + 4 → x4.2.2 k j = 0 := fun k j h1 h2 => by
    rw [← hx4]
    show (if k = X.1 + 1 + 1 + 1 then 0 else if k = X.1 + 1 + 1 then 0 else if k = X.1 + 1 then 0 else if k = X.1 then 0 else X.2.2 k j) = (0 : Int32)
    rcases (show k = X.1 ∨ k = X.1 + 1 ∨ k = X.1 + 1 + 1 ∨ k = X.1 + 1 + 1 + 1 by omega) with e | e | e | e <;> simp [e]
  have hI4 : IZ X ou x4 := by
    rw [← hx4]
    refine ⟨rfl, ?_, ?_, ?_, ?_, fun k hk => ⟨?_, fun _ => ?_⟩⟩
    · show (if X.1 = X.1 + 1 + 1 + 1 then 4 else if X.1 = X.1 + 1 + 1 then 4 else if X.1 = X.1 + 1 then 4 else if X.1 = X.1 then 64 else X.2.1 X.1) = 64
      rw [if_neg (by omega), if_neg (by omega), if_neg (by omega), if_pos rfl]
    · show (if X.1 + 1 = X.1 + 1 + 1 + 1 then 4 else if X.1 + 1 = X.1 + 1 + 1 then 4 else if X.1 + 1 = X.1 + 1 then 4 else _) = 4
      rw [if_neg (by omega), if_neg (by omega), if_pos rfl]
    · show (if X.1 + 2 = X.1 + 1 + 1 + 1 then 4 else if X.1 + 2 = X.1 + 1 + 1 then 4 else _) = 4
      rw [if_neg (by omega), if_pos rfl]
    · show (if X.1 + 3 = X.1 + 1 + 1 + 1 then 4 else _) = 4
      rw [if_pos rfl]
    · show (if k = X.1 + 1 + 1 + 1 then 4 else if k = X.1 + 1 + 1 then 4 else if k = X.1 + 1 then 4 else if k = X.1 then 64 else X.2.1 k) = X.2.1 k
      rw [if_neg (by omega), if_neg (by omega), if_neg (by omega), if_neg (by omega)]
    · funext j
      show (if k = X.1 + 1 + 1 + 1 then 0 else if k = X.1 + 1 + 1 then 0 else if k = X.1 + 1 then 0 else if k = X.1 then 0 else X.2.2 k j) = X.2.2 k j
      rw [if_neg (by omega), if_neg (by omega), if_neg (by omega), if_neg (by omega)]
  -- the arrivals
  have arr : ∀ x, IZ X ou x → (∀ k j, X.1 ≤ k → k < X.1 + 4 → x.2.2 k j = 0) → (∀ j, j < 16 → x.2.2 ou j = 0) → ∃ r, l_L_simulate_46 X.1 sk_fu (x, nI N, nI m, nI n, pe, li, pr, ou, X.1, X.1 + 1, X.1 + 2, X.1 + 3, 0) = some r ∧ (IZ X ou r ∧ LR P X ou m n (runs P N (ST0 A)) r) := by
    intro x hI hz hz2
    refine it_inv0 (F := fun rec46 a => q_L_simulate_46 rec46 X.1 a.1 a.2.1 a.2.2.1 a.2.2.2.1 a.2.2.2.2.1 a.2.2.2.2.2.1 a.2.2.2.2.2.2.1 a.2.2.2.2.2.2.2.1 a.2.2.2.2.2.2.2.2.1 a.2.2.2.2.2.2.2.2.2.1 a.2.2.2.2.2.2.2.2.2.2.1 a.2.2.2.2.2.2.2.2.2.2.2.1 a.2.2.2.2.2.2.2.2.2.2.2.2)
      (fun g a => ∃ x', a = (x', nI N, nI m, nI n, pe, li, pr, ou, X.1, X.1 + 1, X.1 + 2, X.1 + 3, nI g) ∧ IZ X ou x' ∧ (∀ k j, ¬ (k = X.1 + 2 ∧ j < g) → x'.2.2 k j = x.2.2 k j) ∧ ∀ j, j < g → x'.2.2 (X.1 + 2) j = if P 0 j 0 = 0 then -1 else nI (A j))
      (fun x' => IZ X ou x' ∧ LR P X ou m n (runs P N (ST0 A)) x') m (fun g a hg hp => ?_) (fun a hp => ?_) (by omega) (x, nI N, nI m, nI n, pe, li, pr, ou, X.1, X.1 + 1, X.1 + 2, X.1 + 3, 0) ⟨x, rfl, hI, fun _ _ _ => rfl, fun j hj => absurd hj (Nat.not_lt_zero j)⟩
    · obtain ⟨x', rfl, h1, h2, h3⟩ := hp
      obtain ⟨e0, e1, e2, e3, e4, e5⟩ := hg2 g hg
      have aPe := h1.ax hpe n1
      have aPr := h1.ax hpr n3
      refine ⟨_, ⟨xw x' (X.1 + 2) g (if P 0 g 0 = 0 then -1 else nI (A g)), rfl, h1.w (.inl (by omega)) _ _, fun k j n1 => ?_, fun j hj => ?_⟩, fun rec => ?_⟩
      · rw [xw_o (by omega)]
        exact h2 k j (by omega)
      · by_cases e : j = g
        · rw [e, xw_e]
        · rw [xw_o (fun z => e z.2)]
          exact h3 j (by omega)
      · show q_L_simulate_46 rec X.1 x' (nI N) (nI m) (nI n) pe li pr ou X.1 (X.1 + 1) (X.1 + 2) (X.1 + 3) (nI g) = _
        have e88 : ∀ v, q_L_simulate_88 rec X.1 x' (nI N) (nI m) (nI n) pe li pr ou X.1 (X.1 + 1) (X.1 + 2) (X.1 + 3) (nI g) (X.1 + 2) (nI g) v = rec (xw x' (X.1 + 2) g v, nI N, nI m, nI n, pe, li, pr, ou, X.1, X.1 + 1, X.1 + 2, X.1 + 3, nI (g + 1)) := fun v => by
          unfold q_L_simulate_88
          rw [if_pos (h1.b9 (by omega)), nI_clamp (by omega), nI_1]
        have z0 : ∀ a, a < 100 → ((nI a ≤ (0 : Int32)) ↔ a = 0) := fun a ha => by
          rw [show (0 : Int32) = nI 0 from rfl, nI_leI (by omega) (by omega)]
          omega
        unfold q_L_simulate_46 q_L_simulate_87
        rw [if_neg (nI_ge hg (by omega)), if_pos (aPe.b (by omega) (by omega)), aPe.l (by omega) (by omega), e1, show (6 : Int32) = nI 6 from rfl, pk_mul, nI_1, if_pos (aPr.b (by omega) (by omega)), aPr.l (by omega) (by omega), e3, if_pos (aPr.b (by omega) (by omega)), aPr.l (by omega) (by omega), e88, e88]
        by_cases hp : P 0 g 0 = 0
        · rw [if_pos hp]
          rcases e4 hp with z | z
          · rw [if_pos ((z0 _ (by omega)).mpr z)]
          · by_cases y : nI (q g) ≤ (0 : Int32)
            · rw [if_pos y]
            · rw [if_neg y, if_pos ((z0 _ (by omega)).mpr z)]
        · obtain ⟨e6, e7, _⟩ := e5 hp
          obtain ⟨_, p1, p2, _⟩ := hP.2.2.2.1 g (by omega) hp
          rw [if_neg hp, if_neg (fun y => hp (by have := (z0 _ (by omega)).mp y; omega)), if_neg (fun y => by have := (z0 _ (by omega)).mp y; omega), hA g hg hp]
    · obtain ⟨x', rfl, h1, h2, h3⟩ := hp
      have hR : LR P X ou m n (ST0 A) x' := by
        refine ⟨fun g hg => ⟨h3 g hg, ?_, ?_, ?_⟩, fun l hl => ⟨?_, fun i hi => absurd hi (Nat.not_lt_zero i), ?_, ?_⟩⟩
        · rw [h2 _ _ (by omega)]
          exact hz (X.1 + 3) g (by omega) (by omega)
        · rw [h2 _ _ (by omega)]
          exact hz2 g (by omega)
        · rw [h2 _ _ (by omega)]
          exact hz2 (4 + g) (by omega)
        · rw [h2 _ _ (by omega)]
          exact hz (X.1 + 1) l (by omega) (by omega)
        · rw [h2 _ _ (by omega)]
          exact hz2 (8 + l) (by omega)
        · rw [h2 _ _ (by omega)]
          exact hz2 (12 + l) (by omega)
      obtain ⟨x2, w1, w2⟩ := lm98 hL h1 hP hR hV X.1 hN
      refine ⟨x2, w2, fun rec => ?_⟩
      show q_L_simulate_46 rec X.1 x' (nI N) (nI m) (nI n) pe li pr ou X.1 (X.1 + 1) (X.1 + 2) (X.1 + 3) (nI m) = _
      unfold q_L_simulate_46
      rw [if_pos (nI_le (Nat.le_refl _) (by omega))]
      exact w1
  have zer : ∃ r, l_L_simulate_24 X.1 sk_fu (x4, nI N, nI m, nI n, pe, li, pr, ou, X.1, X.1 + 1, X.1 + 2, X.1 + 3, 0) = some r ∧ (IZ X ou r ∧ LR P X ou m n (runs P N (ST0 A)) r) := by
    refine it_inv0 (F := fun rec24 a => q_L_simulate_24 rec24 X.1 a.1 a.2.1 a.2.2.1 a.2.2.2.1 a.2.2.2.2.1 a.2.2.2.2.2.1 a.2.2.2.2.2.2.1 a.2.2.2.2.2.2.2.1 a.2.2.2.2.2.2.2.2.1 a.2.2.2.2.2.2.2.2.2.1 a.2.2.2.2.2.2.2.2.2.2.1 a.2.2.2.2.2.2.2.2.2.2.2.1 a.2.2.2.2.2.2.2.2.2.2.2.2)
      (fun j a => ∃ x', a = (x', nI N, nI m, nI n, pe, li, pr, ou, X.1, X.1 + 1, X.1 + 2, X.1 + 3, nI j) ∧ IZ X ou x' ∧ (∀ k j, k ≠ ou → x'.2.2 k j = x4.2.2 k j) ∧ ∀ i, i < j → x'.2.2 ou i = 0)
      (fun x' => IZ X ou x' ∧ LR P X ou m n (runs P N (ST0 A)) x') 16 (fun j a hj hp => ?_) (fun a hp => ?_) (by omega) (x4, nI N, nI m, nI n, pe, li, pr, ou, X.1, X.1 + 1, X.1 + 2, X.1 + 3, 0) ⟨x4, rfl, hI4, fun _ _ _ => rfl, fun j hj => absurd hj (Nat.not_lt_zero j)⟩
    · obtain ⟨x', rfl, h1, h2, h3⟩ := hp
      refine ⟨_, ⟨xw x' ou j 0, rfl, h1.w (.inr rfl) _ _, fun k i hk => ?_, fun i hi => ?_⟩, fun rec => ?_⟩
      · rw [xw_o (fun z => hk z.1)]
        exact h2 k i hk
      · by_cases e : i = j
        · rw [e, xw_e]
        · rw [xw_o (fun z => e z.2)]
          exact h3 i (by omega)
      · show q_L_simulate_24 rec X.1 x' (nI N) (nI m) (nI n) pe li pr ou X.1 (X.1 + 1) (X.1 + 2) (X.1 + 3) (nI j) = _
        unfold q_L_simulate_24
        rw [if_neg (show ¬ (16 : Int32) ≤ nI j from le_nI (n := 16) rfl hj (by omega)), if_pos (h1.bo hou h16 hj), nI_clamp (by omega), nI_1]
    · obtain ⟨x', rfl, h1, h2, h3⟩ := hp
      obtain ⟨r, w1, w2⟩ := arr x' h1 (fun k j g1 g2 => (h2 k j (by omega)).trans (v4 k j g1 g2)) h3
      refine ⟨r, w2, fun rec => ?_⟩
      show q_L_simulate_24 rec X.1 x' (nI N) (nI m) (nI n) pe li pr ou X.1 (X.1 + 1) (X.1 + 2) (X.1 + 3) (nI 16) = _
      unfold q_L_simulate_24
      rw [if_pos (show (16 : Int32) ≤ nI 16 from ge_nI (n := 16) rfl (by omega) (by omega))]
      exact w1
  obtain ⟨r, w1, w2⟩ := zer
  refine ⟨r, ?_, w2⟩
  unfold q_L_simulate q_L_simulate_0
  rw [if_pos (by omega), if_pos (show (xn X 64).1 < X.1 + 4 from (by omega : X.1 + 1 < X.1 + 4)), if_pos (show (xn (xn X 64) 4).1 < X.1 + 4 from (by omega : X.1 + 1 + 1 < X.1 + 4)), if_pos (show (xn (xn (xn X 64) 4) 4).1 < X.1 + 4 from (by omega : X.1 + 1 + 1 + 1 < X.1 + 4)), hx4]
  exact w1
end LJ
