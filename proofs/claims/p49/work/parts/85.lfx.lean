/-! THE LAW's lifts end well *** by hand -/
def PL (L : Nat) (xs : Nat → Int32) (m n : Nat) (pq : Nat → Nat) (f a j : Nat) : Nat := if f = 0 then (if a < m ∧ 0 < sp0 L xs a then pq a else 0) else if f = 1 then sp0 L xs a else if f = 2 then lf0 (cv L xs (24 + a)) n j else if f = 3 then sl0 (cv L xs (24 + a)) j else if f = 4 then se0 L xs a else if f = 5 then iv0 L xs a else if f = 6 then ri0 L xs a else if f = 7 then n else m
theorem szc_sum (c : Nat → Nat) : ∀ np, szc np c 0 + szc np c 1 + szc np c 2 + szc np c 3 ≤ np
  | 0 => Nat.le_refl _
  | np + 1 => by
    have ih := szc_sum c np
    have k : ∀ g, szc (np + 1) c g = szc np c g + (if c np = g + 1 then 1 else 0) := fun g => by
      unfold szc
      rw [kn_b]
      by_cases e : c np = g + 1
      · rw [decide_eq_true e, if_pos rfl, if_pos e]
      · rw [decide_eq_false e, if_neg (by decide), if_neg e]
    rw [k, k, k, k]
    by_cases e0 : c np = 0 + 1
    · rw [if_pos e0, if_neg (by omega), if_neg (by omega), if_neg (by omega)]
      omega
    · rw [if_neg e0]
      by_cases e1 : c np = 1 + 1
      · rw [if_pos e1, if_neg (by omega), if_neg (by omega)]
        omega
      · rw [if_neg e1]
        by_cases e2 : c np = 2 + 1
        · rw [if_pos e2, if_neg (by omega)]
          omega
        · rw [if_neg e2]
          split <;> omega
section LX
variable {d : sk_D} {X : sk_X} {m t np k : Nat} {Pf Gf : Nat → Int32} {c u : Nat → Nat}
theorem x_lifts (hZ : ZG d np m t Pf Gf c) (hU : US d m k (szc np c) u) (hm1 : 1 ≤ m) (hk : k ≤ 4) (h0 : ∀ g, g < m → d.1 39 g 5 = 0 ∧ d.1 39 g 6 = 0) (h9 : d.1 0 0 9 = 0) {pe : Nat} (hpe : pe < X.1) (hpe8 : X.2.1 pe = 8) (hpq : ∀ g, g < m → X.2.2 pe g = nI (szc np c g + if u g = 0 then 0 else 1)) {L : Nat} (hL : L ≤ 260) (xs : Nat → Int32) : ∃ d' x', q_L_lifts L xs d X (nI m) pe = some (1, d', x') := by
  have hm := hZ.1.2.1
  have hnp := hZ.1.1
  have hlw2 := lw_lt (cv L xs 20) (n := 2) (by omega)
  obtain ⟨n, hn0⟩ : ∃ n, 1 + lw (cv L xs 20) 2 = n := ⟨_, rfl⟩
  have hn1 : 1 ≤ n := by omega
  have hn : n ≤ 3 := by omega
  obtain ⟨pq, hpqd⟩ : ∃ pq : Nat → Nat, pq = fun g => szc np c g + if u g = 0 then 0 else 1 := ⟨_, rfl⟩
  have pqe : ∀ g, pq g = szc np c g + if u g = 0 then 0 else 1 := fun g => by rw [hpqd]
  obtain ⟨x0, hx0⟩ : ∃ x0, xn (xn (xn X 12) 32) 16 = x0 := ⟨_, rfl⟩
  have hS0 : S3 X x0 := by
    rw [← hx0]
    refine ⟨rfl, ?_, ?_, ?_, fun k hk => ⟨?_, ?_⟩⟩
    · show (if X.1 = X.1 + 1 + 1 then 16 else if X.1 = X.1 + 1 then 32 else if X.1 = X.1 then 12 else X.2.1 X.1) = 12
      rw [if_neg (by omega), if_neg (by omega), if_pos rfl]
    · show (if X.1 + 1 = X.1 + 1 + 1 then 16 else if X.1 + 1 = X.1 + 1 then 32 else _) = 32
      rw [if_neg (by omega), if_pos rfl]
    · show (if X.1 + 2 = X.1 + 1 + 1 then 16 else _) = 16
      rw [if_pos rfl]
    · show (if k = X.1 + 1 + 1 then 16 else if k = X.1 + 1 then 32 else if k = X.1 then 12 else X.2.1 k) = X.2.1 k
      rw [if_neg (by omega), if_neg (by omega), if_neg (by omega)]
    · funext j
      show (if k = X.1 + 1 + 1 then 0 else if k = X.1 + 1 then 0 else if k = X.1 then 0 else X.2.2 k j) = X.2.2 k j
      rw [if_neg (by omega), if_neg (by omega), if_neg (by omega)]
  obtain ⟨⟨D1, x1⟩, ⟨a1, a2, a3, a4, a5, a6⟩, a7⟩ := lf35 hS0 hn h9 hL xs X.1 pe (nI m)
  dsimp only at a1 a2 a3 a4 a5 a6 a7
  have hZ1 : ZG D1 np m t Pf Gf c := hZ.fr (fun s k f hs => a6 s k f (by omega) (by omega))
  obtain ⟨⟨D2, x2⟩, ⟨b1, b2, b3, b4, b5⟩, b6⟩ := lf153 hZ1.1 a1 hn1 hn a4 (fun g hg => by rw [a6 39 g 5 (by omega) (by omega), a6 39 g 6 (by omega) (by omega)]; exact h0 g hg) hL xs X.1 pe
  dsimp only at b1 b2 b3 b4 b5 b6
  have hZ2 : ZG D2 np m t Pf Gf c := hZ1.fr (fun s k f hs => b5 s k f (by omega))
  have P0 : ∀ g j, PL L xs m n pq 0 g j = if g < m ∧ 0 < sp0 L xs g then pq g else 0 := fun _ _ => rfl
  have hPV : PV (PL L xs m n pq) := by
    refine ⟨hn, hm, fun l hl => ?_, fun g hg hp => ?_, ?_⟩
    · show 1 ≤ se0 L xs l ∧ se0 L xs l ≤ 8 ∧ 1 ≤ iv0 L xs l ∧ iv0 L xs l ≤ 10 ∧ 1 ≤ ri0 L xs l ∧ ri0 L xs l ≤ 20
      have k1 := lw_lt (cv L xs (21 + l)) (n := 4) (by omega)
      have k2 := lw_lt (cv L xs (21 + l) >>> ((3 : Int32) &&& 31)) (n := 5) (by omega)
      have k3 := lw_lt (cv L xs (21 + l) >>> ((6 : Int32) &&& 31)) (n := 9) (by omega)
      unfold se0 iv0 ri0
      omega
    · rw [P0] at hp
      have hq : g < m ∧ 0 < sp0 L xs g := by
        by_cases q : g < m ∧ 0 < sp0 L xs g
        · exact q
        · rw [if_neg q] at hp
          exact absurd rfl hp
      have hs2 := sp0_le L xs g
      refine ⟨hq.1, hq.2, (by omega : sp0 L xs g ≤ 4), fun j _ => ?_⟩
      show lf0 (cv L xs (24 + g)) n j < n ∧ 1 ≤ sl0 (cv L xs (24 + g)) j ∧ sl0 (cv L xs (24 + g)) j ≤ 20
      have k1 : lf0 (cv L xs (24 + g)) n j < n := lw_lt _ (by omega)
      have k2 := lw_lt (cv L xs (24 + g) >>> (nI (9 + j) &&& 31)) (n := 7) (by omega)
      refine ⟨k1, ?_, ?_⟩
      · unfold sl0
        omega
      · unfold sl0
        omega
    · have hs := szc_sum c np
      have le : ∀ g, PL L xs m n pq 0 g 0 ≤ szc np c g + 1 := fun g => by
        rw [P0]
        split
        · rw [pqe]
          split <;> omega
        · omega
      have l0 := le 0
      have l1 := le 1
      have l2 := le 2
      have l3 := le 3
      show 0 + PL L xs m n pq 0 0 0 + PL L xs m n pq 0 1 0 + PL L xs m n pq 0 2 0 + PL L xs m n pq 0 3 0 ≤ 19
      omega
  have x2pe : x2.2.2 pe = X.2.2 pe := (b1.2.2.2.2 pe hpe).2
  have hLS : LSt (PL L xs m n pq) x2 pe X.1 (X.1 + 1) (X.1 + 2) m n pq (sp0 L xs) := by
    have e1 := b1.1
    refine ⟨⟨by omega, (b1.2.2.2.2 pe hpe).1.trans hpe8, fun _ _ => rfl⟩, ⟨by omega, b1.2.1, fun _ _ => rfl⟩, ⟨by omega, b1.2.2.1, fun _ _ => rfl⟩, by omega, b1.2.2.2.1, by omega, by omega, by omega, hm, rfl, rfl, fun g hg => ?_, fun l hl => ?_⟩
    · obtain ⟨z1, z2, z3⟩ := b2 g hg
      have hs2 := sp0_le L xs g
      have hz := szc_le np c g
      refine ⟨?_, ?_, by omega, z1, fun hp => ?_, fun hp => ⟨?_, rfl, z3⟩⟩
      · rw [pqe]
        split <;> omega
      · rw [x2pe, hpq g hg, pqe]
      · rw [P0] at hp
        by_cases q : g < m ∧ 0 < sp0 L xs g
        · rw [if_pos q] at hp
          exact .inl hp
        · right
          omega
      · rw [P0] at hp ⊢
        by_cases q : g < m ∧ 0 < sp0 L xs g
        · rw [if_pos q]
        · rw [if_neg q] at hp
          exact absurd rfl hp
    · rw [b3 X.1 _ (by omega), b3 X.1 _ (by omega), b3 X.1 _ (by omega)]
      exact a2 l hl
  have hA6 : ∀ g, A0 L xs g ≤ 400 := fun g => by
    have := lw_lt (cv L xs (24 + g)) (n := 6) (by omega)
    unfold A0
    omega
  have hCP : CP (PL L xs m n pq) (A0 L xs) D2 := by
    refine ⟨fun g hg => ⟨?_, fun hp => ?_⟩, (b5 0 0 9 (by omega)).trans a4, fun l hl => ?_⟩
    · have eacb := zg_acb hZ2 hg
      unfold prs tpb
      rw [eacb, zg_gb hZ2 hg, P0]
      by_cases hgm : g < m
      · obtain ⟨z1, z2, _⟩ := b4 g hgm
        have hs2 := sp0_le L xs g
        have e4 : D2.1 39 g 4 = nv (u g) := by
          rw [b5 39 g 4 (by omega), a6 39 g 4 (by omega) (by omega)]
          exact hU.1 g hgm
        have e6 : decide (D2.1 39 g 6 ≤ 0) = decide (sp0 L xs g = 0) := decide_eq_decide.mpr (by
          rw [z2, show (0 : Int32) = nI 0 from rfl, nI_leI (by omega) (by omega)]
          omega)
        obtain ⟨u1, u2⟩ := hU.2.2.1 g
        have e7 : (nv (u g) = -9) ↔ u g = 0 := nv_ne (by omega)
        rw [e6, e4]
        show (if (decide (0 < szc np c g) && !decide (sp0 L xs g = 0)) = true then (if nv (u g) = -9 then szc np c g else szc np c g + 1) else 0) = _
        by_cases hs : sp0 L xs g = 0
        · rw [decide_eq_true hs, if_neg (show ¬ (g < m ∧ 0 < sp0 L xs g) by omega)]
          simp
        · rw [decide_eq_false hs, if_pos (show g < m ∧ 0 < sp0 L xs g from ⟨hgm, by omega⟩), pqe]
          by_cases hz : 0 < szc np c g
          · rw [decide_eq_true hz, if_pos (show (true && !false) = true by decide)]
            by_cases hu : u g = 0
            · rw [if_pos (e7.mpr hu), if_pos hu]
              rfl
            · rw [if_neg (fun z => hu (e7.mp z)), if_neg hu]
          · rw [decide_eq_false hz, if_neg (by decide)]
            have hu : u g = 0 := by
              by_cases q : u g = 0
              · exact q
              · exact absurd (u2 q) hz
            rw [if_pos hu]
            omega
      · have hz := zgs_z hZ2 (show m ≤ g by omega)
        rw [if_neg (show ¬ (g < m ∧ 0 < sp0 L xs g) from fun q => hgm q.1), hz]
        rfl
    · rw [P0] at hp
      have hgm : g < m := by
        by_cases q : g < m
        · exact q
        · rw [if_neg (fun z => q z.1)] at hp
          exact absurd rfl hp
      exact b4 g hgm
    · rw [b5 43 l 0 (by omega), b5 43 l 1 (by omega), b5 43 l 2 (by omega)]
      exact a5 l hl
  obtain ⟨N, hN0⟩ : ∃ N, 1 + lw (cv L xs 28) 60 = N := ⟨_, rfl⟩
  have hN60 := lw_lt (cv L xs 28) (n := 60) (by omega)
  have hA : ∀ g, g < 4 → PL L xs m n pq 0 g 0 ≠ 0 → A0 L xs g ≤ 400 := fun g _ _ => hA6 g
  have hst : ∀ g, g < m → PL L xs m n pq 0 g 0 ≠ 0 → x2.2.2 (X.1 + 1) (6 * g + 1) = nI (A0 L xs g) := fun g hg _ => (b2 g hg).2.1
  obtain ⟨y, y1, y2, y3⟩ := lsim hLS hPV hst (IR_0 hA hPV) (show N ≤ 180 by omega)
  obtain ⟨d3, z1, z2, z3⟩ := x_simd hZ2 hCP hPV hA (show 1 ≤ N by omega) (show N ≤ 180 by omega) hLS y2 y3
  have hLy := hLS.z y2
  obtain ⟨g, hg0⟩ : ∃ g, lw (cv L xs 29) m = g := ⟨_, rfl⟩
  have hg : g < m := by
    rw [← hg0]
    exact lw_lt _ (by omega)
  have hy1 : y.1 = X.1 + 7 := by have := y2.1; have := b1.1; omega
  obtain ⟨e0, e1, e2, e3, e4, e5⟩ := hLy.2.2.2.2.2.2.2.2.2.2.2.1 g hg
  have ape := hLy.1
  have apr := hLy.2.2.1
  have e429 : PL L xs m n pq 0 g 0 = 0 → q_L_lifts_429 L xs X.1 d3 y (nI N) (nI g) = some (1, d3, y) := fun hp => by
    unfold q_L_lifts_429
    rw [x_best0 z2 z3 hg hp (by omega) (by omega), Option.bind_some, if_pos rfl]
  have fin : ∃ r, q_L_lifts_153 (fun _ => none) L xs X.1 D2 x2 (nI m) pe (nI n) X.1 (X.1 + 1) (X.1 + 2) (nI m) = some r ∧ r.1 = 1 := by
    have z0 : ∀ a, a < 100 → ((nI a = (0 : Int32)) ↔ a = 0) := fun a ha => nI_eq (b := 0) (by omega) (by omega)
    unfold q_L_lifts_153
    rw [if_pos (nI_le (Nat.le_refl _) (by omega)), show (28 : Int32) = nI 28 from rfl, cell_q hL xs (by omega), Option.bind_some, show (60 : Int32) = nI 60 from rfl, low_q _ (by omega) (by omega), Option.bind_some, show (1 : Int32) = nI 1 from rfl, nI_add, hN0, y1, Option.bind_some, if_pos y2.1, if_pos (by omega), z1, Option.bind_some, if_neg (show ¬ (1 : Int32) = 0 by decide), show (29 : Int32) = nI 29 from rfl, cell_q hL xs (by omega), Option.bind_some, low_q _ (by omega) (by omega), Option.bind_some, hg0, if_pos (ape.b (by omega) (by omega)), nI_clamp (show g < 2 ^ 31 by omega), e1, show (6 : Int32) = nI 6 from rfl, pk_mul, if_pos (apr.b (by omega) (by omega)), nI_clamp (show 6 * g < 2 ^ 31 by omega), e3]
    by_cases hp : PL L xs m n pq 0 g 0 = 0
    · have hq := e429 hp
      by_cases q1 : pq g = 0
      · rw [if_pos ((z0 _ (by omega)).mpr q1)]
        exact ⟨_, hq, rfl⟩
      · rw [if_neg (fun z => q1 ((z0 _ (by omega)).mp z))]
        have hs := (e4 hp).resolve_left q1
        rw [if_pos ((z0 _ (by omega)).mpr hs)]
        exact ⟨_, hq, rfl⟩
    · obtain ⟨e6, e7, _⟩ := e5 hp
      have hs1 := (hPV.2.2.2.1 g (by omega) hp).2.1
      rw [if_neg (fun z => hp (by rw [← e6]; exact (z0 _ (by omega)).mp z)), if_neg (fun z => by have := (z0 _ (by omega)).mp z; omega)]
      obtain ⟨r, r1, r2, _⟩ := lf457 z2 z3 hPV hA (show 1 ≤ N by omega) (show N ≤ 180 by omega) hLy (fun g _ => sp0_le L xs g) (by omega) (by omega) (fun g' hg' hp' => by
        rw [(y2.2.2.2.2.2 (X.1 + 1) (by have := b1.1; omega)).2 (by omega)]
        exact hst g' hg' hp') hg hp L xs hy1
      exact ⟨r, r1, r2⟩
  obtain ⟨⟨r1, d4, x4⟩, e, rfl⟩ := fin
  refine ⟨d4, x4, ?_⟩
  unfold q_L_lifts q_L_lifts_0
  rw [show (20 : Int32) = nI 20 from rfl, cell_q hL xs (by omega), Option.bind_some, show (2 : Int32) = nI 2 from rfl, low_q _ (by omega) (by omega), Option.bind_some, show (1 : Int32) = nI 1 from rfl, nI_add, hn0, if_pos (by omega), if_pos (show (xn X 12).1 < X.1 + 131 from (by omega : X.1 + 1 < X.1 + 131)), if_pos (show (xn (xn X 12) 32).1 < X.1 + 131 from (by omega : X.1 + 1 + 1 < X.1 + 131)), hx0]
  refine Eq.trans a7 (Eq.trans b6 e)
end LX
