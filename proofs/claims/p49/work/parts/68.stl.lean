/-! THE LAW's staffed *** by hand -/
theorem nv_nI {z i : Nat} (hz : z < 100) (hi : i < 100) : (nv z = nI i) ↔ z = i + 1 := by
  unfold nv
  by_cases q : z = 0
  · rw [if_pos q]
    exact ⟨fun y => absurd y.symm (nm_nI (by omega)), fun y => by omega⟩
  · rw [if_neg q, nI_eq (by omega) (by omega)]
    omega
theorem pdu_cut {u : Nat → Nat} {i m : Nat} (h : ∀ g, m ≤ g → u g = 0) (hm : m ≤ 4) : pdu u i 4 = pdu u i m := by
  apply Bool.eq_iff_iff.mpr
  rw [pdu_iff, pdu_iff]
  constructor
  · rintro ⟨g, h1, h2⟩
    refine ⟨g, ?_, h2⟩
    by_cases q : g < m
    · exact q
    · have := h g (by omega)
      omega
  · rintro ⟨g, h1, h2⟩
    exact ⟨g, by omega, h2⟩
section SL
variable {d : sk_D} {x : sk_X} {n m t k p : Nat} {Pf Gf Tf : Nat → Int32} {c u : Nat → Nat}
theorem st354 (hB : ZB d n m t Pf Gf c) (hI : IN d k Tf (fun i => if pdu u i 4 = true then swg Tf i * p else 0)) (hU : US d m k (szc n c) u) (hk : k ≤ 4) (hT : TR k Tf) (hp : p ≤ 100) {tc : Nat} (hA : AX x tc 20 Tf) (L : Nat) (xs : Nat → Int32) (x0 : Nat) {i : Nat} (hi : i < k) (r341 : (sk_D × sk_X × Int32 × Int32 × Nat × Int32 × Int32) → Option (Int32 × sk_D × sk_X)) :
    l_L_staffed_354 r341 L xs x0 sk_fu (d, x, nI m, nI k, tc, nI p, nI i, 0, 0) = r341 (d, x, nI m, nI k, tc, nI p, nI (i + 1)) := by
  have hm := hB.1.2.1
  refine Eq.trans (congrArg (l_L_staffed_354 r341 L xs x0 sk_fu) (?_ : _ = (d, x, nI m, nI k, tc, nI p, nI i, bI (pdu u i 0), nI 0))) (it_for0 (F := fun rec354 a => q_L_staffed_354 r341 rec354 L xs x0 a.1 a.2.1 a.2.2.1 a.2.2.2.1 a.2.2.2.2.1 a.2.2.2.2.2.1 a.2.2.2.2.2.2.1 a.2.2.2.2.2.2.2.1 a.2.2.2.2.2.2.2.2)
    (fun g => (d, x, nI m, nI k, tc, nI p, nI i, bI (pdu u i g), nI g)) m (fun g hg rec => ?_) (fun rec => ?_) (by omega))
  · rfl
  · show q_L_staffed_354 r341 rec L xs x0 d x (nI m) (nI k) tc (nI p) (nI i) (bI (pdu u i g)) (nI g) = rec (d, x, nI m, nI k, tc, nI p, nI i, bI (pdu u i g || decide (u g = i + 1)), nI (g + 1))
    have e1 : q_L_staffed_376 r341 rec L xs x0 d x (nI m) (nI k) tc (nI p) (nI i) (nI g) = rec (d, x, nI m, nI k, tc, nI p, nI i, 1, nI (g + 1)) := by
      unfold q_L_staffed_376 q_L_staffed_381
      rw [nI_1]
    have e0 : q_L_staffed_381 r341 rec L xs x0 d x (nI m) (nI k) tc (nI p) (nI i) (nI g) 0 = rec (d, x, nI m, nI k, tc, nI p, nI i, 0, nI (g + 1)) := by
      unfold q_L_staffed_381
      rw [nI_1]
    have hu := (hU.2.2.1 g).1
    unfold q_L_staffed_354
    rw [if_neg (nI_ge hg (by omega)), bI_ite, e1, e0]
    cases hv : pdu u i g
    · rw [if_neg (by decide), x_instr hB hU hg, Option.bind_some, Bool.false_or]
      by_cases q : u g = i + 1
      · rw [if_pos ((nv_nI (by omega) (by omega)).mpr q), decide_eq_true q]
        rfl
      · rw [if_neg (fun z => q ((nv_nI (by omega) (by omega)).mp z)), decide_eq_false q]
        rfl
    · rw [if_pos rfl, Bool.true_or]
      rfl
  · show q_L_staffed_354 r341 rec L xs x0 d x (nI m) (nI k) tc (nI p) (nI i) (bI (pdu u i m)) (nI m) = _
    obtain ⟨_, _, ew⟩ := hT.w hi
    have hc := pdu_cut (i := i) hU.2.1 hm
    unfold q_L_staffed_354 q_L_staffed_416
    rw [if_pos (nI_le (Nat.le_refl _) (by omega)), x_earn hI hi hk, Option.bind_some, bI_ite, nI3, show (4 : Int32) = nI 4 from rfl, pk_mul, nI_add, if_pos (hA.b (by omega) (by omega)), hA.l (by omega) (by omega), ew, pk_mul, hc, nI_1]
    cases pdu u i m
    · rw [if_neg (by decide)]
      exact if_pos rfl
    · rw [if_pos rfl]
      exact if_pos (by rw [if_pos rfl, Nat.mul_comm])
theorem st341 (hB : ZB d n m t Pf Gf c) (hI : IN d k Tf (fun i => if pdu u i 4 = true then swg Tf i * p else 0)) (hU : US d m k (szc n c) u) (hk : k ≤ 4) (hT : TR k Tf) (hp : p ≤ 100) {tc : Nat} (hA : AX x tc 20 Tf) (L : Nat) (xs : Nat → Int32) (x0 : Nat) :
    l_L_staffed_341 L xs x0 sk_fu (d, x, nI m, nI k, tc, nI p, 0) = some (1, d, x) := by
  refine it_for0 (F := fun rec341 a => q_L_staffed_341 rec341 L xs x0 a.1 a.2.1 a.2.2.1 a.2.2.2.1 a.2.2.2.2.1 a.2.2.2.2.2.1 a.2.2.2.2.2.2) (fun i => (d, x, nI m, nI k, tc, nI p, nI i)) k (fun i hi rec => ?_) (fun rec => ?_) (by omega)
  · show q_L_staffed_341 rec L xs x0 d x (nI m) (nI k) tc (nI p) (nI i) = rec (d, x, nI m, nI k, tc, nI p, nI (i + 1))
    unfold q_L_staffed_341
    rw [if_neg (nI_ge hi (by omega)), st354 hB hI hU hk hT hp hA L xs x0 hi]
  · show q_L_staffed_341 rec L xs x0 d x (nI m) (nI k) tc (nI p) (nI k) = _
    unfold q_L_staffed_341
    rw [if_pos (nI_le (Nat.le_refl _) (by omega))]
/-- rows that stay, but one *** -/
def FX (X : sk_X) (b : Nat) (x : sk_X) : Prop := x.1 = X.1 ∧ ∀ k, x.2.1 k = X.2.1 k ∧ (k ≠ b → x.2.2 k = X.2.2 k)
theorem FX.ax {X x : sk_X} {b k n : Nat} {f : Nat → Int32} (h : FX X b x) (hA : AX X k n f) (hk : k ≠ b) : AX x k n f :=
  hA.fr (by have := h.1; have := hA.1; omega) (h.2 k).1 ((h.2 k).2 hk)
theorem FX.w {X x : sk_X} {b : Nat} (h : FX X b x) (j : Nat) (v : Int32) : FX X b (xw x b j v) := by
  refine ⟨h.1, fun i => ⟨(h.2 i).1, fun hb => ?_⟩⟩
  rw [← (h.2 i).2 hb]
  funext j'
  exact xw_o (fun q => hb q.1)
theorem st215 {X : sk_X} (hB : ZB d n m t Pf Gf c) (hI : IN d k Tf (fun _ => 0)) (hU : US d m k (szc n c) u) (hk : k ≤ 4) (hT : TR k Tf) {L : Nat} (hL : L ≤ 260) (xs : Nat → Int32) (x0 : Nat) {sz pe tc b : Nat} (hS : AX X sz 8 (fun g => nI (szc n c g))) (hP : AX X pe 8 (X.2.2 pe)) (hA : AX X tc 20 Tf) (hbA : AX X b 8 (X.2.2 b)) (h1 : sz ≠ pe) (h2 : tc ≠ pe) (h3 : b ≠ pe) {v : Int32}
    (hv : (v = -1 ∧ (∀ g, u g = 0)) ∨ ∃ i, v = nI (sct m k Tf i) ∧ (∀ g, g < m → X.2.2 b g = nI (dg k m i g)) ∧ ∀ g, u g = if g < m ∧ dg k m i g < k then dg k m i g + 1 else 0) :
    ∃ d' x', l_L_staffed_215 L xs x0 sk_fu (d, X, nI m, sz, pe, nI k, tc, b, v, 0) = some (1, d', x') ∧ FX X pe x' ∧ (∀ g, g < m → x'.2.2 pe g = nI (szc n c g + if u g = 0 then 0 else 1)) ∧ ZB d' n m t Pf Gf c ∧ IN d' k Tf (fun i => if pdu u i 4 = true then swg Tf i * (1 + lw (cv L xs 14) 100) else 0) ∧ US d' m k (szc n c) u := by
  have hm := hB.1.2.1
  have hp100 := lw_lt (cv L xs 14) (n := 100) (by omega)
  obtain ⟨d', q1, q2, q3, q4⟩ := x_pay hB hI hU hk hT (p := 1 + lw (cv L xs 14) 100) (by omega) (by omega)
  have main := it_cn (ι := Unit) (F := fun _ rec215 a => q_L_staffed_215 rec215 L xs x0 a.1 a.2.1 a.2.2.1 a.2.2.2.1 a.2.2.2.2.1 a.2.2.2.2.2.1 a.2.2.2.2.2.2.1 a.2.2.2.2.2.2.2.1 a.2.2.2.2.2.2.2.2.1 a.2.2.2.2.2.2.2.2.2)
    (fun _ x' => some (1, d', x'))
    (fun j a => ∃ x', a = (d, x', nI m, sz, pe, nI k, tc, b, v, nI j) ∧ FX X pe x' ∧ (∀ g, g < j → x'.2.2 pe g = nI (szc n c g + if u g = 0 then 0 else 1)))
    (fun x' => FX X pe x' ∧ (∀ g, g < m → x'.2.2 pe g = nI (szc n c g + if u g = 0 then 0 else 1))) m (fun g a hg hp => ?_) (fun a hp => ?_) (by omega) (d, X, nI m, sz, pe, nI k, tc, b, v, 0) ⟨X, rfl, ⟨rfl, fun _ => ⟨rfl, fun _ => rfl⟩⟩, fun g hg => absurd hg (Nat.not_lt_zero g)⟩
  · obtain ⟨x', ⟨g1, g2⟩, g3⟩ := main
    exact ⟨d', x', g3 (), g1, g2, q2, q3, q4⟩
  · obtain ⟨x', rfl, f1, f2⟩ := hp
    have aS := f1.ax hS h1
    have aB := f1.ax hbA h3
    have aP : AX x' pe 8 (x'.2.2 pe) := ⟨by rw [f1.1]; exact hP.1, (f1.2 pe).1.trans hP.2.1, fun _ _ => rfl⟩
    refine ⟨_, ⟨xw x' pe g (nI (szc n c g + if u g = 0 then 0 else 1)), rfl, f1.w g _, fun g' hg' => ?_⟩, fun _ rec => ?_⟩
    · by_cases e : g' = g
      · rw [e, xw_e]
      · rw [xw_o (fun q => e q.2)]
        exact f2 g' (by omega)
    · show q_L_staffed_215 rec L xs x0 d x' (nI m) sz pe (nI k) tc b v (nI g) = _
      have hsz := szc_le n c g
      have hn := hB.1.1
      have z0 : (nI (szc n c g) = (0 : Int32)) ↔ szc n c g = 0 := nI_eq (b := 0) (by omega) (by omega)
      have bS : xb x' sz (nI g) = true := aS.b (by omega) (by omega)
      have eS : x'.2.2 sz (nI g).toNatClampNeg = nI (szc n c g) := aS.l (by omega) (by omega)
      have bP : xb x' pe (nI g) = true := aP.b (by omega) (by omega)
      have e290 : ∀ e : Nat, (if u g = 0 then 0 else 1) = e → q_L_staffed_290 rec L xs x0 d x' (nI m) sz pe (nI k) tc b v (nI g) pe (nI g) (nI (szc n c g)) (nI e) = rec (d, xw x' pe g (nI (szc n c g + if u g = 0 then 0 else 1)), nI m, sz, pe, nI k, tc, b, v, nI (g + 1)) := fun e he => by
        unfold q_L_staffed_290
        rw [if_pos bP, nI_clamp (by omega), nI_add, he, nI_1]
      have e246 : q_L_staffed_246 rec L xs x0 d x' (nI m) sz pe (nI k) tc b v (nI g) (nv (u g)) = rec (d, xw x' pe g (nI (szc n c g + if u g = 0 then 0 else 1)), nI m, sz, pe, nI k, tc, b, v, nI (g + 1)) := by
        unfold q_L_staffed_246 q_L_staffed_285
        rw [x_instr hB hU hg, Option.bind_some, if_pos rfl, if_pos bS, if_pos bS, eS]
        by_cases q : u g = 0
        · rw [if_pos (show nv (u g) = -9 by rw [q]; rfl)]
          exact e290 0 (if_pos q)
        · have hs := (hU.2.2.1 g).2 q
          have e : nv (u g) = nI (u g - 1) := if_neg q
          have hk5 := (hU.2.2.1 g).1
          rw [e, if_neg (nm_nI (by omega)), if_neg (fun z => by have := z0.mp z; omega)]
          exact e290 1 (if_neg q)
      unfold q_L_staffed_215 q_L_staffed_236
      rw [if_neg (nI_ge hg (by omega))]
      have e246 : ∀ s, nv (u g) = s → q_L_staffed_246 rec L xs x0 d x' (nI m) sz pe (nI k) tc b v (nI g) s = rec (d, xw x' pe g (nI (szc n c g + if u g = 0 then 0 else 1)), nI m, sz, pe, nI k, tc, b, v, nI (g + 1)) := fun s hs => by
        rw [← hs]
        exact e246
      rcases hv with ⟨rfl, hv2⟩ | ⟨i, rfl, hv2, hv3⟩
      · rw [if_pos (by decide)]
        exact e246 _ (by rw [hv2 g]; rfl)
      · have eB : x'.2.2 b (nI g).toNatClampNeg = nI (dg k m i g) := by
          rw [aB.l (by omega) (by omega)]
          exact hv2 g hg
        have hdl := dg_lt k m i g
        rw [if_neg (nI_pos (by have := sct_le (m := m) (fun i hi => (hT.w hi).2.1) hm i; omega)), if_pos (aB.b (by omega) (by omega)), eB, if_pos (aB.b (by omega) (by omega))]
        have hug := hv3 g
        by_cases q : dg k m i g = k
        · rw [if_neg (by omega)] at hug
          rw [if_pos (by rw [q])]
          exact e246 _ (by rw [hug]; rfl)
        · rw [if_pos ⟨hg, by omega⟩] at hug
          rw [if_neg (fun z => q ((nI_eq (by omega) (by omega)).mp z))]
          exact e246 _ (by rw [hug]; exact if_neg (Nat.succ_ne_zero _))
  · obtain ⟨x', rfl, f1, f2⟩ := hp
    refine ⟨x', ⟨f1, f2⟩, fun _ rec => ?_⟩
    show q_L_staffed_215 rec L xs x0 d x' (nI m) sz pe (nI k) tc b v (nI m) = _
    unfold q_L_staffed_215 q_L_staffed_333
    rw [if_pos (nI_le (Nat.le_refl _) (by omega)), show (14 : Int32) = nI 14 from rfl, cell_q hL xs (by omega), Option.bind_some, show (100 : Int32) = nI 100 from rfl, low_q _ (by omega) (by omega), Option.bind_some, show (1 : Int32) = nI 1 from rfl, nI_add, q1, Option.bind_some]
    have fin := st341 q2 q3 q4 hk hT (p := 1 + lw (cv L xs 14) 100) (by omega) (f1.ax hA h2) L xs x0
    rcases hv with ⟨rfl, hv2⟩ | ⟨i, rfl, hv2, hv3⟩
    · have e0 : sm (upw Tf u) 4 = 0 := by
        rw [sm_cut (f := upw Tf u) (m := 0) (by omega) (fun i _ _ => if_pos (hv2 i))]
        rfl
      rw [if_neg (by decide), e0, Nat.zero_mul, if_pos (show nI 0 = (0 : Int32) from rfl)]
      exact fin
    · have e0 : sm (upw Tf u) 4 = sct m k Tf i := by
        unfold sct
        rw [csL_e, sm_cut (f := upw Tf u) (m := m) hm (fun g hg _ => if_pos (hU.2.1 g hg))]
        refine sm_congr (fun g hg => ?_)
        have hug := hv3 g
        unfold upw
        by_cases q : dg k m i g < k
        · rw [if_pos ⟨hg, q⟩] at hug
          rw [hug, if_neg (Nat.succ_ne_zero _), if_pos q]
          rfl
        · rw [if_neg (fun z => q z.2)] at hug
          rw [hug, if_pos rfl, if_neg q]
      have h16 := sct_le (m := m) (fun i hi => (hT.w hi).2.1) hm i
      rw [if_pos (show (0 : Int32) ≤ nI (sct m k Tf i) from nI_le (Nat.zero_le _) (by omega)), pk_mul, e0, if_pos (by rw [Nat.mul_comm])]
      exact fin
end SL
