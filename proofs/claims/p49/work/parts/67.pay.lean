/-! THE CLASS, as the law uses it: pay *** by hand -/
def pdu (u : Nat → Nat) (i : Nat) : Nat → Bool
  | 0 => false
  | g + 1 => pdu u i g || decide (u g = i + 1)
theorem pdu_iff {u : Nat → Nat} {i : Nat} : ∀ g, (pdu u i g = true ↔ ∃ h, h < g ∧ u h = i + 1)
  | 0 => ⟨fun h => by (cases h), fun ⟨h, hh, _⟩ => absurd hh (Nat.not_lt_zero h)⟩
  | g + 1 => by
    show (pdu u i g || decide (u g = i + 1)) = true ↔ _
    rw [Bool.or_eq_true, pdu_iff g, decide_eq_true_eq]
    constructor
    · rintro (⟨h, h1, h2⟩ | h)
      · exact ⟨h, by omega, h2⟩
      · exact ⟨g, by omega, h⟩
    · rintro ⟨h, h1, h2⟩
      by_cases e : h = g
      · subst e
        exact .inr h2
      · exact .inl ⟨h, by omega, h2⟩
def upw (Tf : Nat → Int32) (u : Nat → Nat) (g : Nat) : Nat := if u g = 0 then 0 else swg Tf (u g - 1)
section ZB
variable {d d' : sk_D} {n m t k : Nat} {Pf Gf Tf : Nat → Int32} {c W u : Nat → Nat}
theorem US.fr {Sz : Nat → Nat} (h : US d m k Sz u) (ho : ∀ g, d'.1 39 g 4 = d.1 39 g 4) : US d' m k Sz u := ⟨fun g hg => (ho g).trans (h.1 g hg), h.2⟩
theorem x_instr (h : ZB d n m t Pf Gf c) {Sz : Nat → Nat} (hU : US d m k Sz u) {g : Nat} (hg : g < m) : q_X8_instructor d (nI g) = some (nv (u g)) := by
  have hm := h.1.2.1
  unfold q_X8_instructor q_X8_instructor_0
  rw [has_g h.1 hg, Option.bind_some, if_neg ne10, if_pos (bi_nI (by omega) (by omega)), nI_clamp (by omega), hU.1 g hg]
theorem x_has (hI : IN d k Tf W) {i : Nat} (hi : i < k) (hk : k ≤ 4) : q_X8_hasInstructor d (nI i) = some 1 := by
  have w := (wi_in i (a := nI i) (lo := 0) (hi := 7) 0 7 rfl rfl rfl (by omega) (by omega) (by omega)).1 d
  unfold q_X8_hasInstructor q_X8_hasInstructor_0
  rw [w, Option.bind_some, if_neg ne10, if_pos (bi_nI (by omega) (by omega)), nI_clamp (by omega), hI.1 i (by omega), decide_eq_true hi]
  rfl
theorem x_earn (hI : IN d k Tf W) {i : Nat} (hi : i < k) (hk : k ≤ 4) : q_X8_earnings d (nI i) = some (nI (W i)) := by
  unfold q_X8_earnings q_X8_earnings_0
  rw [x_has hI hi hk, Option.bind_some, if_neg ne10, if_pos (bi_nI (by omega) (by omega)), nI_clamp (by omega), (hI.2 i hi).2.2.2.2]
theorem x_paid (h : ZB d n m t Pf Gf c) (hI : IN d k Tf W) (hU : US d m k (szc n c) u) (hk : k ≤ 4) {g : Nat} (hg : g < 4) : q_X8_isPaid d (nI g) = some (bI (decide (u g ≠ 0))) := by
  unfold q_X8_isPaid q_X8_isPaid_0
  rw [x_active h hg, zb_acb h hg, Option.bind_some]
  obtain ⟨u1, u2, u3, u4⟩ := hU
  by_cases q : u g = 0
  · rw [decide_eq_false (not_not_intro q)]
    by_cases s : 0 < szc n c g
    · have hgm : g < m := by
        by_cases q : g < m
        · exact q
        · have := szc_z h (show m ≤ g by omega)
          omega
      have hn : q_X8_hasInstructor d (-9) = some 0 := by
        unfold q_X8_hasInstructor q_X8_hasInstructor_0
        rw [wi_m9 0 7 0 7 rfl rfl (by omega)]
        rfl
      rw [decide_eq_true s, bI_t, if_neg ne10, if_pos (bi_nI (by omega) (by omega)), nI_clamp (by omega), u1 g hgm, q, show nv 0 = -9 from rfl, hn]
      rfl
    · rw [decide_eq_false s]
      rfl
  · rw [decide_eq_true (show u g ≠ 0 from q)]
    have s := (u3 g).2 q
    have hl := (u3 g).1
    have hgm : g < m := by
      by_cases q2 : g < m
      · exact q2
      · exact absurd (u2 g (by omega)) q
    have e : nv (u g) = nI (u g - 1) := if_neg q
    rw [decide_eq_true s, bI_t, if_neg ne10, if_pos (bi_nI (by omega) (by omega)), nI_clamp (by omega), u1 g hgm, e, x_has hI (by omega) hk, Option.bind_some, if_neg ne10]
theorem x_pay (h : ZB d n m t Pf Gf c) (hI : IN d k Tf (fun _ => 0)) (hU : US d m k (szc n c) u) (hk : k ≤ 4) (hT : TR k Tf) {p : Nat} (hp1 : 1 ≤ p) (hp : p ≤ 100) : ∃ d', q_X8_pay d (nI p) = some (nI (sm (upw Tf u) 4 * p), d') ∧ ZB d' n m t Pf Gf c ∧ IN d' k Tf (fun i => if pdu u i 4 = true then swg Tf i * p else 0) ∧ US d' m k (szc n c) u := by
  have w := (wi_in p (a := nI p) (lo := 1) (hi := 100) 1 100 rfl rfl rfl (by omega) (by omega) (by omega)).1 d
  have hm := h.1.2.1
  have l4 : (4 : Int32) ≤ nI 4 := ge_nI (n := 4) rfl (by omega) (by omega)
  have lj : ∀ j, j < 4 → ¬ (4 : Int32) ≤ nI j := fun j hj => le_nI (n := 4) rfl hj (by omega)
  have gm : ∀ g, u g ≠ 0 → g < m := fun g q => by
    by_cases q2 : g < m
    · exact q2
    · exact absurd (hU.2.1 g (by omega)) q
  have hlk : ∀ g, u g ≠ 0 → u g - 1 < k := fun g q => by have := (hU.2.2.1 g).1; omega
  have hnv : ∀ g, u g ≠ 0 → nv (u g) = nI (u g - 1) := fun g q => if_neg q
  have second : ∃ r, l_X8_pay_61 sk_fu (d, nI p, 0, 0) = some r ∧ (r.1 = nI (sm (upw Tf u) 4 * p) ∧ ZB r.2 n m t Pf Gf c ∧ IN r.2 k Tf (fun i => if pdu u i 4 = true then swg Tf i * p else 0) ∧ US r.2 m k (szc n c) u) := by
    refine it_inv0 (F := fun rec a => q_X8_pay_61 rec a.1 a.2.1 a.2.2.1 a.2.2.2)
      (fun j a => ∃ D, a = (D, nI p, nI (sm (upw Tf u) j * p), nI j) ∧ ZB D n m t Pf Gf c ∧ IN D k Tf (fun i => if pdu u i j = true then swg Tf i * p else 0) ∧ US D m k (szc n c) u)
      (fun r => r.1 = nI (sm (upw Tf u) 4 * p) ∧ ZB r.2 n m t Pf Gf c ∧ IN r.2 k Tf (fun i => if pdu u i 4 = true then swg Tf i * p else 0) ∧ US r.2 m k (szc n c) u) 4 ?_ ?_ (by omega) _ ⟨d, ?_, h, hI, hU⟩
    · rintro j a hj ⟨D, rfl, hB, hN, hV⟩
      have hpd := x_paid hB hN hV hk hj
      have es : sm (upw Tf u) (j + 1) = sm (upw Tf u) j + upw Tf u j := rfl
      by_cases q : u j = 0
      · have eu : upw Tf u j = 0 := if_pos q
        rw [decide_eq_false (not_not_intro q)] at hpd
        refine ⟨(D, nI p, nI (sm (upw Tf u) (j + 1) * p), nI (j + 1)), ⟨D, rfl, hB, ?_, hV⟩, fun rec => ?_⟩
        · have : (fun i => if pdu u i (j + 1) = true then swg Tf i * p else 0) = (fun i => if pdu u i j = true then swg Tf i * p else 0) := by
            funext i
            show (if (pdu u i j || decide (u j = i + 1)) = true then _ else _) = _
            rw [q, decide_eq_false (by omega), Bool.or_false]
          rw [this]
          exact hN
        · show q_X8_pay_61 rec D (nI p) (nI (sm (upw Tf u) j * p)) (nI j) = _
          unfold q_X8_pay_61 q_X8_pay_117
          rw [if_neg (lj j hj), hpd, Option.bind_some, bI_f, if_pos rfl, nI_1, es, eu]
          rfl
      · have eu : upw Tf u j = swg Tf (u j - 1) := if_neg q
        rw [decide_eq_true (show u j ≠ 0 from q)] at hpd
        have hjm := gm j q
        have hik := hlk j q
        obtain ⟨i, hi⟩ : ∃ i, u j - 1 = i := ⟨_, rfl⟩
        rw [hi] at hik eu
        have e39 : D.1 39 j 4 = nI i := by rw [hV.1 j hjm, hnv j q, hi]
        have eu1 : u j = i + 1 := by omega
        have npd : pdu u i j = false := by
          rw [← Bool.not_eq_true, pdu_iff]
          rintro ⟨g, hg, e⟩
          exact hV.2.2.2 j g hjm (gm g (by omega)) (by omega) q (by omega)
        obtain ⟨_, _, _, e4, e5⟩ := hN.2 i hik
        obtain ⟨w1, w2, ew⟩ := hT.w hik
        have e5 : D.1 42 i 5 = nI 0 := by
          rw [e5]
          show nI (if pdu u i j = true then _ else 0) = nI 0
          rw [npd]
          rfl
        rw [ew] at e4
        have ci := nI_clamp (n := i) (by omega)
        refine ⟨(sk_wi D 42 i 5 (nI (swg Tf i * p)), nI p, nI (sm (upw Tf u) (j + 1) * p), nI (j + 1)), ⟨_, rfl, hB.fr (fun s k' f hs _ _ => wi_o (fun z => hs z.1)), ⟨fun i' hi' => ?_, fun i' hi' => ?_⟩, hV.fr (fun g => wi_o (by omega))⟩, fun rec => ?_⟩
        · rw [wi_o (by omega)]
          exact hN.1 i' hi'
        · rw [wi_o (by omega), wi_o (by omega), wi_o (by omega), wi_o (by omega)]
          obtain ⟨g1, g2, g3, g4, g5⟩ := hN.2 i' hi'
          refine ⟨g1, g2, g3, g4, ?_⟩
          show _ = nI (if (pdu u i' j || decide (u j = i' + 1)) = true then swg Tf i' * p else 0)
          by_cases z : i' = i
          · rw [z, wi_e, decide_eq_true eu1, Bool.or_true]
            rfl
          · rw [wi_o (by omega), g5, decide_eq_false (by omega), Bool.or_false]
        · show q_X8_pay_61 rec D (nI p) (nI (sm (upw Tf u) j * p)) (nI j) = _
          have o4 : ∀ v, (sk_wi D 42 i 5 v).1 42 i 4 = nI (swg Tf i) := fun v => (wi_o (by omega)).trans e4
          unfold q_X8_pay_61 q_X8_pay_110 q_X8_pay_117
          rw [if_neg (lj j hj), hpd, Option.bind_some, bI_t, if_neg ne10, if_pos (bi_nI (by omega) (by omega)), nI_clamp (show j < 2 ^ 31 by omega), e39, ci, if_pos (bi_nI (by omega) (by omega)), e4, e5, pk_mul, nI_add, Nat.zero_add, o4, pk_mul, nI_add, nI_1, es, eu, Nat.add_mul]
    · rintro a ⟨D, rfl, hB, hN, hV⟩
      refine ⟨(nI (sm (upw Tf u) 4 * p), D), ⟨rfl, hB, hN, hV⟩, fun rec => ?_⟩
      show q_X8_pay_61 rec D (nI p) (nI (sm (upw Tf u) 4 * p)) (nI 4) = _
      unfold q_X8_pay_61
      rw [if_pos l4]
    · show _ = (d, nI p, nI (0 * p), nI 0)
      rw [Nat.zero_mul]
      rfl
  obtain ⟨⟨r1, D⟩, e, r2, r3, r4, r5⟩ := second
  dsimp only at r2 r3 r4 r5
  rw [r2] at e
  refine ⟨D, ?_, r3, r4, r5⟩
  unfold q_X8_pay q_X8_pay_0
  rw [w, Option.bind_some, if_neg ne10]
  refine it_for0 (F := fun rec a => q_X8_pay_14 rec a.1 a.2.1 a.2.2) (fun j => (d, nI p, nI j)) 4 (fun j hj rec => ?_) (fun rec => ?_) (by omega)
  · show q_X8_pay_14 rec d (nI p) (nI j) = rec (d, nI p, nI (j + 1))
    have hpd := x_paid h hI hU hk hj
    unfold q_X8_pay_14 q_X8_pay_51
    by_cases q : u j = 0
    · rw [decide_eq_false (not_not_intro q)] at hpd
      rw [if_neg (lj j hj), hpd, Option.bind_some, bI_f, if_pos rfl, nI_1]
    · rw [decide_eq_true (show u j ≠ 0 from q)] at hpd
      have hik := hlk j q
      have e39 : d.1 39 j 4 = nI (u j - 1) := by rw [hU.1 j (gm j q), hnv j q]
      obtain ⟨w1, w2, ew⟩ := hT.w hik
      obtain ⟨_, _, _, e4, e5⟩ := hI.2 _ hik
      have e5 : d.1 42 (u j - 1) 5 = nI 0 := e5
      have hr := room8 (h := p) (d := d) (i := u j - 1) (w := swg Tf (u j - 1)) (q := 0) (by omega) hp (e4.trans ew) (by omega) e5
      have hle : swg Tf (u j - 1) * p ≤ 4 * 100 := Nat.mul_le_mul w2 hp
      have hno : ¬ ((2147483647 : Int) < (d.1 42 (u j - 1) 5).toInt + (d.1 42 (u j - 1) 4).toInt * p) := by
        rw [e4.trans ew, e5, nI_toInt (by omega), nI_toInt (by omega)]
        have : (swg Tf (u j - 1) : Int) * (p : Int) = ((swg Tf (u j - 1) * p : Nat) : Int) := by rw [Int.natCast_mul]
        rw [this]
        omega
      rw [decide_eq_false hno] at hr
      rw [if_neg (lj j hj), hpd, Option.bind_some, bI_t, if_neg ne10, if_pos (bi_nI (by omega) (by omega)), nI_clamp (show j < 2 ^ 31 by omega), e39, if_pos (bi_nI (by omega) (by omega)), nI_clamp (show u j - 1 < 2 ^ 31 by omega), hr, Option.bind_some, nI_1]
      rfl
  · show q_X8_pay_14 rec d (nI p) (nI 4) = _
    unfold q_X8_pay_14
    rw [if_pos l4]
    exact e
end ZB
