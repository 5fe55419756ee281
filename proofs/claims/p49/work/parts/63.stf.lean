/-! THE LAW, pure: its staffings *** by hand -/
def stk (Tf Gf : Nat → Int32) (i g : Nat) : Bool := decide (((Tf (4 * i)) >>> ((Gf (3 * g + 1)) &&& 31)) &&& (1 : Int32) = (1 : Int32)) && (!decide (Gf (3 * g) < Tf (4 * i + 1)) && !decide (Tf (4 * i + 2) < Gf (3 * g)))
def swg (Tf : Nat → Int32) (i : Nat) : Nat := (Tf (4 * i + 3)).toNatClampNeg
/-- what the law's rows hold before staffings are tried -/
def DS (X : sk_X) (sz gr tc b m k : Nat) (Sz : Nat → Nat) (Gf Tf : Nat → Int32) : Prop :=
  AX X sz 8 (fun g => nI (Sz g)) ∧ AX X gr 16 Gf ∧ AX X tc 20 Tf ∧ b < X.1 ∧ X.2.1 b = 8 ∧ sz ≠ b ∧ gr ≠ b ∧ tc ≠ b ∧ m ≤ 4 ∧ k ≤ 4 ∧ (∀ g, Sz g ≤ 6) ∧ (∀ i, i < k → swg Tf i ≤ 4 ∧ Tf (4 * i + 3) = nI (swg Tf i))
/-- .. and while they are: one more row of 8 -/
def IY (X : sk_X) (b : Nat) (x : sk_X) : Prop := x.1 = X.1 + 1 ∧ x.2.1 X.1 = 8 ∧ ∀ k, k < X.1 → x.2.1 k = X.2.1 k ∧ (k ≠ b → x.2.2 k = X.2.2 k)
theorem IY.ax {X x : sk_X} {b k n : Nat} {f : Nat → Int32} (h : IY X b x) (hA : AX X k n f) (hk : k ≠ b) : AX x k n f :=
  hA.fr (by have := h.1; have := hA.1; omega) (h.2.2 k hA.1).1 ((h.2.2 k hA.1).2 hk)
theorem IY.own {X x : sk_X} {b : Nat} (h : IY X b x) : AX x X.1 8 (x.2.2 X.1) := ⟨by have := h.1; omega, h.2.1, fun _ _ => rfl⟩
theorem IY.bst {X x : sk_X} {b : Nat} (h : IY X b x) (hb : b < X.1) (h8 : X.2.1 b = 8) : AX x b 8 (x.2.2 b) := ⟨by have := h.1; omega, (h.2.2 b hb).1.trans h8, fun _ _ => rfl⟩
theorem IY.w {X x : sk_X} {b k : Nat} (h : IY X b x) (hk : X.1 ≤ k ∨ k = b) (j : Nat) (v : Int32) : IY X b (xw x k j v) := by
  refine ⟨h.1, h.2.1, fun i hi => ⟨(h.2.2 i hi).1, fun hb => ?_⟩⟩
  have e := (h.2.2 i hi).2 hb
  rw [← e]
  funext j'
  show (if i = k ∧ j' = j then v else x.2.2 i j') = x.2.2 i j'
  rw [if_neg (fun q => by omega)]
/-- another than those after him -/
def dq (a : Nat → Nat) (g : Nat) : Nat → Bool
  | 0 => true
  | t + 1 => dq a g t && !decide (a (g + 1 + t) = a g)
def csL (m k : Nat) (W : Nat → Nat) (a : Nat → Nat) : Nat → Nat
  | 0 => 0
  | t + 1 => csL m k W a t + if a (m - 1 - t) < k then W (a (m - 1 - t)) else 0
def vsL (m k : Nat) (tk : Nat → Nat → Bool) (Sz : Nat → Nat) (a : Nat → Nat) : Nat → Bool
  | 0 => true
  | t + 1 => (vsL m k tk Sz a t && (decide (a (m - 1 - t) = k) == decide (Sz (m - 1 - t) = 0))) && (!decide (a (m - 1 - t) < k) || (tk (a (m - 1 - t)) (m - 1 - t) && dq a (m - 1 - t) t))
theorem csL_le {m k : Nat} {W a : Nat → Nat} (hW : ∀ i, i < k → W i ≤ 4) : ∀ t, csL m k W a t ≤ 4 * t
  | 0 => Nat.le_refl _
  | t + 1 => by
    have := csL_le hW t (m := m) (a := a)
    show csL m k W a t + _ ≤ 4 * (t + 1)
    split
    · rename_i h
      have := hW _ h
      omega
    · omega
section LS
variable {X x : sk_X} {sz gr tc b m k : Nat} {Sz : Nat → Nat} {Gf Tf : Nat → Int32}
theorem bs208 (hD : DS X sz gr tc b m k Sz Gf Tf) (hI : IY X b x) {a : Nat → Nat} {g : Nat} (hg : g < m) (ha : ∀ h, g < h → h < m → a h < k + 1 ∧ x.2.2 X.1 h = nI (a h)) (hi : a g < k) (v : Bool) (c x0 : Nat) (v6 v8 v9 v10 : Int32)
    (r38 : (sk_X × Int32 × Int32 × Nat × Nat × Nat × Nat × Int32 × Nat × Int32 × Int32) → Option (Int32 × sk_X)) (r60 : (sk_X × Int32 × Int32 × Nat × Nat × Nat × Nat × Int32 × Nat × Int32 × Int32 × Int32 × Int32 × Int32 × Int32) → Option (Int32 × sk_X)) :
    l_L_bestStaff_208 r38 r60 x0 sk_fu (x, nI m, nI k, sz, gr, tc, b, v6, X.1, v8, v9, v10, nI c, bI v, nI g, nI (a g), nI (g + 1)) = r60 (x, nI m, nI k, sz, gr, tc, b, v6, X.1, v8, v9, v10, nI (c + swg Tf (a g)), bI (v && dq a g (m - 1 - g)), nI g - 1) := by
  obtain ⟨_, _, hT, hb, _, _, _, htb, hm, hk, _, hW⟩ := hD
  have aT := hI.ax hT htb
  refine Eq.trans (congrArg (l_L_bestStaff_208 r38 r60 x0 sk_fu) (?_ : _ = (x, nI m, nI k, sz, gr, tc, b, v6, X.1, v8, v9, v10, nI c, bI (v && dq a g 0), nI g, nI (a g), nI (g + 1 + 0)))) (it_for0 (F := fun rec208 a => q_L_bestStaff_208 r38 r60 rec208 x0 a.1 a.2.1 a.2.2.1 a.2.2.2.1 a.2.2.2.2.1 a.2.2.2.2.2.1 a.2.2.2.2.2.2.1 a.2.2.2.2.2.2.2.1 a.2.2.2.2.2.2.2.2.1 a.2.2.2.2.2.2.2.2.2.1 a.2.2.2.2.2.2.2.2.2.2.1 a.2.2.2.2.2.2.2.2.2.2.2.1 a.2.2.2.2.2.2.2.2.2.2.2.2.1 a.2.2.2.2.2.2.2.2.2.2.2.2.2.1 a.2.2.2.2.2.2.2.2.2.2.2.2.2.2.1 a.2.2.2.2.2.2.2.2.2.2.2.2.2.2.2.1 a.2.2.2.2.2.2.2.2.2.2.2.2.2.2.2.2)
    (fun t => (x, nI m, nI k, sz, gr, tc, b, v6, X.1, v8, v9, v10, nI c, bI (v && dq a g t), nI g, nI (a g), nI (g + 1 + t))) (m - 1 - g) (fun t ht rec => ?_) (fun rec => ?_) (by omega))
  · rw [show (v && dq a g 0) = v from Bool.and_true v]
  · show q_L_bestStaff_208 r38 r60 rec x0 x (nI m) (nI k) sz gr tc b v6 X.1 v8 v9 v10 (nI c) (bI (v && dq a g t)) (nI g) (nI (a g)) (nI (g + 1 + t)) = _
    obtain ⟨h1, h2⟩ := ha (g + 1 + t) (by omega) (by omega)
    have bo : xb x X.1 (nI (g + 1 + t)) = true := hI.own.b (by omega) (by omega)
    have eo : x.2.2 X.1 (nI (g + 1 + t)).toNatClampNeg = nI (a (g + 1 + t)) := by rw [nI_clamp (by omega)]; exact h2
    have e3 : q_L_bestStaff_233 r38 r60 rec x0 x (nI m) (nI k) sz gr tc b v6 X.1 v8 v9 v10 (nI c) (nI g) (nI (a g)) (nI (g + 1 + t)) = rec (x, nI m, nI k, sz, gr, tc, b, v6, X.1, v8, v9, v10, nI c, 0, nI g, nI (a g), nI (g + 1 + (t + 1))) := by
      unfold q_L_bestStaff_233 q_L_bestStaff_234
      rw [nI_1]
      rfl
    have e4 : q_L_bestStaff_234 r38 r60 rec x0 x (nI m) (nI k) sz gr tc b v6 X.1 v8 v9 v10 (nI c) (nI g) (nI (a g)) (nI (g + 1 + t)) 1 = rec (x, nI m, nI k, sz, gr, tc, b, v6, X.1, v8, v9, v10, nI c, 1, nI g, nI (a g), nI (g + 1 + (t + 1))) := by
      unfold q_L_bestStaff_234
      rw [nI_1]
      rfl
    have ed : dq a g (t + 1) = (dq a g t && !decide (a (g + 1 + t) = a g)) := rfl
    unfold q_L_bestStaff_208
    rw [if_neg (nI_ge (by omega) (by omega)), bI_ite, e3, e4, ed, ← Bool.and_assoc]
    cases hv : (v && dq a g t)
    · rw [if_neg (by decide)]
      rfl
    · rw [if_pos rfl, if_pos bo, eo]
      by_cases q : a (g + 1 + t) = a g
      · rw [if_pos (by rw [q]), decide_eq_true q]
        rfl
      · rw [if_neg (fun z => q ((nI_eq (by omega) (by omega)).mp z)), decide_eq_false q]
        rfl
  · show q_L_bestStaff_208 r38 r60 rec x0 x (nI m) (nI k) sz gr tc b v6 X.1 v8 v9 v10 (nI c) (bI (v && dq a g (m - 1 - g))) (nI g) (nI (a g)) (nI (g + 1 + (m - 1 - g))) = _
    unfold q_L_bestStaff_208 q_L_bestStaff_256
    rw [if_pos (nI_le (by omega) (by omega)), nI3, show (4 : Int32) = nI 4 from rfl, pk_mul, nI_add, if_pos (aT.b (by omega) (by omega)), aT.l (by omega) (by omega), (hW _ hi).2, nI_add, (Int32.sub_eq_add_neg (nI g) 1).symm]
set_option maxHeartbeats 4000000 in
theorem bs60 (hD : DS X sz gr tc b m k Sz Gf Tf) (hI : IY X b x) {j : Nat} (hj : j < 20000) (x0 : Nat) (v6 v8 : Int32) : ∃ x', (IY X b x' ∧ (∀ g, g < m → x'.2.2 X.1 g = nI (dg k m j g)) ∧ x'.2.2 b = x.2.2 b) ∧ ∀ r38, l_L_bestStaff_60 r38 x0 sk_fu (x, nI m, nI k, sz, gr, tc, b, v6, X.1, v8, nI j, nI j, 0, 1, nI m - 1) = if vsL m k (stk Tf Gf) Sz (dg k m j) m = true then (if v8 < 0 then l_L_bestStaff_286 r38 x0 sk_fu (x', nI m, nI k, sz, gr, tc, b, v6, X.1, nI (csL m k (swg Tf) (dg k m j) m), nI j, 0) else if v8 ≤ nI (csL m k (swg Tf) (dg k m j) m) then r38 (x', nI m, nI k, sz, gr, tc, b, v6, X.1, v8, nI j + 1) else l_L_bestStaff_286 r38 x0 sk_fu (x', nI m, nI k, sz, gr, tc, b, v6, X.1, nI (csL m k (swg Tf) (dg k m j) m), nI j, 0)) else r38 (x', nI m, nI k, sz, gr, tc, b, v6, X.1, v8, nI j + 1) := by
  have hD' := hD
  obtain ⟨hS, hG, hT, hb, _, hsb, hgb, htb, hm, hk, hSz, hW⟩ := hD'
  generalize ha : dg k m j = a
  generalize hWe : swg Tf = W at hW
  have main := it_cn (F := fun r38 rec60 a => q_L_bestStaff_60 r38 rec60 x0 a.1 a.2.1 a.2.2.1 a.2.2.2.1 a.2.2.2.2.1 a.2.2.2.2.2.1 a.2.2.2.2.2.2.1 a.2.2.2.2.2.2.2.1 a.2.2.2.2.2.2.2.2.1 a.2.2.2.2.2.2.2.2.2.1 a.2.2.2.2.2.2.2.2.2.2.1 a.2.2.2.2.2.2.2.2.2.2.2.1 a.2.2.2.2.2.2.2.2.2.2.2.2.1 a.2.2.2.2.2.2.2.2.2.2.2.2.2.1 a.2.2.2.2.2.2.2.2.2.2.2.2.2.2)
    (fun r38 x' => if vsL m k (stk Tf Gf) Sz a m = true then (if v8 < 0 then l_L_bestStaff_286 r38 x0 sk_fu (x', nI m, nI k, sz, gr, tc, b, v6, X.1, nI (csL m k W a m), nI j, 0) else if v8 ≤ nI (csL m k W a m) then r38 (x', nI m, nI k, sz, gr, tc, b, v6, X.1, v8, nI j + 1) else l_L_bestStaff_286 r38 x0 sk_fu (x', nI m, nI k, sz, gr, tc, b, v6, X.1, nI (csL m k W a m), nI j, 0)) else r38 (x', nI m, nI k, sz, gr, tc, b, v6, X.1, v8, nI j + 1))
    (fun t s => ∃ x', s = (x', nI m, nI k, sz, gr, tc, b, v6, X.1, v8, nI j, nI (j / (k + 1) ^ t), nI (csL m k W a t), bI (vsL m k (stk Tf Gf) Sz a t), nI (m - t) - 1) ∧ IY X b x' ∧ (∀ p, m - t ≤ p → p < m → x'.2.2 X.1 p = nI (a p)) ∧ x'.2.2 b = x.2.2 b)
    (fun x' => IY X b x' ∧ (∀ p, p < m → x'.2.2 X.1 p = nI (a p)) ∧ x'.2.2 b = x.2.2 b) m (fun t s ht hp => ?_) (fun s hp => ?_) (by omega) (x, nI m, nI k, sz, gr, tc, b, v6, X.1, v8, nI j, nI j, 0, 1, nI m - 1) ⟨x, by rw [Nat.pow_zero, Nat.div_one]; rfl, hI, fun p h1 h2 => absurd h1 (by omega), rfl⟩
  · exact main
  · obtain ⟨x', rfl, h1, h2, h4⟩ := hp
    obtain ⟨g, hp⟩ : ∃ g, m - t = g + 1 := ⟨m - t - 1, by omega⟩
    have hgm : g < m := by omega
    have hp2 : m - 1 - t = g := by omega
    have hp3 : m - (t + 1) = g := by omega
    have hp4 : m - 1 - g = t := by omega
    have hag : a g = j / (k + 1) ^ t % (k + 1) := by
      rw [← ha]
      unfold dg
      rw [hp4]
    have hlt : a g < k + 1 := by rw [hag]; exact Nat.mod_lt _ (Nat.succ_pos k)
    have hjt : j / (k + 1) ^ t < 2 ^ 31 := Nat.lt_of_le_of_lt (Nat.div_le_self _ _) (by omega)
    have hq2 : nI (j / (k + 1) ^ t) / nI (k + 1) = nI (j / (k + 1) ^ (t + 1)) := by
      rw [pk_div hjt (by omega) (by omega), Nat.div_div_eq_div_mul, ← Nat.pow_succ]
    have hq1 : nI (j / (k + 1) ^ t) - nI (j / (k + 1) ^ t) / nI (k + 1) * nI (k + 1) = nI (a g) := by
      rw [pk_rem hjt (by omega) (by omega), hag]
    have hne : ¬ nI (k + 1) = 0 := nI_ne0 (by omega) (by omega)
    have hcs : csL m k W a (t + 1) = csL m k W a t + if a g < k then W (a g) else 0 := by
      show csL m k W a t + (if a (m - 1 - t) < k then W (a (m - 1 - t)) else 0) = _
      rw [hp2]
    have hvs : vsL m k (stk Tf Gf) Sz a (t + 1) = ((vsL m k (stk Tf Gf) Sz a t && (decide (a g = k) == decide (Sz g = 0))) && (!decide (a g < k) || (stk Tf Gf (a g) g && dq a g t))) := by
      show ((vsL m k (stk Tf Gf) Sz a t && (decide (a (m - 1 - t) = k) == decide (Sz (m - 1 - t) = 0))) && (!decide (a (m - 1 - t) < k) || (stk Tf Gf (a (m - 1 - t)) (m - 1 - t) && dq a (m - 1 - t) t))) = _
      rw [hp2]
    have k1 : IY X b (xw x' X.1 g (nI (a g))) := h1.w (.inl (Nat.le_refl _)) g _
    have bo : xb x' X.1 (nI g) = true := h1.own.b (by omega) (by omega)
    have aS := k1.ax hS hsb
    have aG := k1.ax hG hgb
    have aT := k1.ax hT htb
    have em1 : nI g + (-1 : Int32) = nI g - 1 := (Int32.sub_eq_add_neg (nI g) 1).symm
    have bS : xb (xw x' X.1 g (nI (a g))) sz (nI g) = true := aS.b (by omega) (by omega)
    have eS : (xw x' X.1 g (nI (a g))).2.2 sz (nI g).toNatClampNeg = nI (Sz g) := aS.l (by omega) (by omega)
    refine ⟨_, ⟨xw x' X.1 g (nI (a g)), rfl, k1, fun p' g1 g2 => ?_, ?_⟩, fun r38 rec => ?_⟩
    · by_cases e : p' = g
      · rw [e, xw_e]
      · rw [xw_o (fun q => e q.2)]
        exact h2 p' (by omega) g2
    · rw [← h4]
      funext j'
      exact xw_o (by omega)
    · show q_L_bestStaff_60 r38 rec x0 x' (nI m) (nI k) sz gr tc b v6 X.1 v8 (nI j) (nI (j / (k + 1) ^ t)) (nI (csL m k W a t)) (bI (vsL m k (stk Tf Gf) Sz a t)) (nI (m - t) - 1) = _
      rw [hp, nI_pred]
      -- from 124 on
      have e200 : ∀ w : Bool, a g < k → q_L_bestStaff_200 r38 rec x0 (xw x' X.1 g (nI (a g))) (nI m) (nI k) sz gr tc b v6 X.1 v8 (nI j) (nI (j / (k + 1) ^ (t + 1))) (nI (csL m k W a t)) (nI g) (nI (a g)) (bI w) = rec (xw x' X.1 g (nI (a g)), nI m, nI k, sz, gr, tc, b, v6, X.1, v8, nI j, nI (j / (k + 1) ^ (t + 1)), nI (csL m k W a (t + 1)), bI (w && dq a g t), nI g - 1) := by
        intro w hl
        unfold q_L_bestStaff_200
        have := bs208 hD k1 (a := a) hgm (fun h g1 g2 => by
          rw [xw_o (fun q => by omega), h2 h (by omega) g2]
          refine ⟨?_, rfl⟩
          rw [← ha]
          exact dg_lt _ _ _ _) hl w (csL m k W a t) x0 v6 v8 (nI j) (nI (j / (k + 1) ^ (t + 1))) r38 rec
        rw [hp4, hWe] at this
        rw [nI_1, this, hcs, if_pos hl]
      have e124 : ∀ w : Bool, q_L_bestStaff_124 r38 rec x0 (xw x' X.1 g (nI (a g))) (nI m) (nI k) sz gr tc b v6 X.1 v8 (nI j) (nI (j / (k + 1) ^ (t + 1))) (nI (csL m k W a t)) (nI g) (nI (a g)) (bI w) = rec (xw x' X.1 g (nI (a g)), nI m, nI k, sz, gr, tc, b, v6, X.1, v8, nI j, nI (j / (k + 1) ^ (t + 1)), nI (csL m k W a (t + 1)), bI (w && (!decide (a g < k) || (stk Tf Gf (a g) g && dq a g t))), nI g - 1) := by
        intro w
        unfold q_L_bestStaff_124
        by_cases hl : a g < k
        · have e199 : q_L_bestStaff_199 r38 rec x0 (xw x' X.1 g (nI (a g))) (nI m) (nI k) sz gr tc b v6 X.1 v8 (nI j) (nI (j / (k + 1) ^ (t + 1))) (nI (csL m k W a t)) (nI g) (nI (a g)) = rec (xw x' X.1 g (nI (a g)), nI m, nI k, sz, gr, tc, b, v6, X.1, v8, nI j, nI (j / (k + 1) ^ (t + 1)), nI (csL m k W a (t + 1)), 0, nI g - 1) := e200 false hl
          rw [if_neg (nI_ge hl (by omega)), nI3, show (4 : Int32) = nI 4 from rfl, pk_mul, pk_mul, nI_1, nI_1, show (2 : Int32) = nI 2 from rfl, nI_add, if_pos (aG.b (by omega) (by omega)), bI_ite, e199, decide_eq_true hl]
          cases w
          · rw [if_neg (by decide)]
            rfl
          · rw [if_pos rfl, if_pos (aT.b (by omega) (by omega)), if_pos (aG.b (by omega) (by omega)), if_pos (aT.b (by omega) (by omega)), if_pos (aT.b (by omega) (by omega)), aT.l (by omega) (by omega), aT.l (by omega) (by omega), aT.l (by omega) (by omega), aG.l (by omega) (by omega), aG.l (by omega) (by omega)]
            have e1 := e200 true hl
            unfold stk
            by_cases q1 : ((Tf (4 * a g)) >>> ((Gf (3 * g + 1)) &&& 31)) &&& (1 : Int32) = (1 : Int32)
            · rw [if_pos q1, decide_eq_true q1]
              by_cases q2 : Gf (3 * g) < Tf (4 * a g + 1)
              · rw [if_pos q2, decide_eq_true q2]
                rfl
              · rw [if_neg q2, decide_eq_false q2]
                by_cases q3 : Tf (4 * a g + 2) < Gf (3 * g)
                · rw [if_pos q3, decide_eq_true q3]
                  rfl
                · rw [if_neg q3, decide_eq_false q3]
                  exact e1
            · rw [if_neg q1, decide_eq_false q1]
              rfl
        · unfold q_L_bestStaff_256
          rw [if_pos (nI_le (by omega) (by omega)), decide_eq_false hl, em1, hcs, if_neg hl]
          simp
      unfold q_L_bestStaff_60
      rw [if_neg (nI_pos (by omega)), nI_1, if_pos hne, if_pos hne, if_pos bo, hq1, hq2, nI_clamp (show g < 2 ^ 31 by omega), bI_ite, hvs, hp3]
      unfold q_L_bestStaff_123
      cases hv : vsL m k (stk Tf Gf) Sz a t
      · rw [if_neg (by decide)]
        exact e124 false
      · rw [if_pos rfl, Bool.true_and, ← e124]
        have hS6 := hSz g
        unfold q_L_bestStaff_104 q_L_bestStaff_116 q_L_bestStaff_123
        have z0 : (nI (Sz g) = (0 : Int32)) ↔ Sz g = 0 := nI_eq (b := 0) (by omega) (by omega)
        by_cases q1 : a g = k
        · rw [if_pos (by rw [q1]), if_pos bS, eS, decide_eq_true q1]
          by_cases q2 : Sz g = 0
          · rw [if_pos (z0.mpr q2), decide_eq_true q2, if_pos rfl]
            rfl
          · rw [if_neg (fun z => q2 (z0.mp z)), decide_eq_false q2, if_neg ne10]
            rfl
        · rw [if_neg (fun z => q1 ((nI_eq (by omega) (by omega)).mp z)), if_pos bS, eS, decide_eq_false q1]
          by_cases q2 : Sz g = 0
          · rw [if_pos (z0.mpr q2), decide_eq_true q2, if_neg (fun z => ne10 z.symm)]
            rfl
          · rw [if_neg (fun z => q2 (z0.mp z)), decide_eq_false q2, if_pos rfl]
            rfl
  · obtain ⟨x', rfl, h1, h2, h4⟩ := hp
    refine ⟨x', ⟨h1, fun p hp => h2 p (by omega) hp, h4⟩, fun r38 rec => ?_⟩
    show q_L_bestStaff_60 r38 rec x0 x' (nI m) (nI k) sz gr tc b v6 X.1 v8 (nI j) (nI (j / (k + 1) ^ m)) (nI (csL m k W a m)) (bI (vsL m k (stk Tf Gf) Sz a m)) (nI (m - m) - 1) = _
    rw [Nat.sub_self]
    unfold q_L_bestStaff_60 q_L_bestStaff_308 q_L_bestStaff_279
    rw [if_pos (show nI 0 - 1 < (0 : Int32) by decide), bI_ite]
/-- the best staffing is kept -/
theorem bs286 (hD : DS X sz gr tc b m k Sz Gf Tf) (hI : IY X b x) (x0 : Nat) (v6 v8 v9 : Int32) : ∃ x', (IY X b x' ∧ ∀ p, p < m → x'.2.2 b p = x.2.2 X.1 p) ∧ ∀ r38, l_L_bestStaff_286 r38 x0 sk_fu (x, nI m, nI k, sz, gr, tc, b, v6, X.1, v8, v9, 0) = r38 (x', nI m, nI k, sz, gr, tc, b, v6, X.1, v8, v9 + 1) := by
  obtain ⟨_, _, _, hb, h8, _, _, _, hm, _⟩ := hD
  have main := it_cn (F := fun r38 rec286 a => q_L_bestStaff_286 r38 rec286 x0 a.1 a.2.1 a.2.2.1 a.2.2.2.1 a.2.2.2.2.1 a.2.2.2.2.2.1 a.2.2.2.2.2.2.1 a.2.2.2.2.2.2.2.1 a.2.2.2.2.2.2.2.2.1 a.2.2.2.2.2.2.2.2.2.1 a.2.2.2.2.2.2.2.2.2.2.1 a.2.2.2.2.2.2.2.2.2.2.2)
    (fun r38 x' => r38 (x', nI m, nI k, sz, gr, tc, b, v6, X.1, v8, v9 + 1))
    (fun j a => ∃ x', a = (x', nI m, nI k, sz, gr, tc, b, v6, X.1, v8, v9, nI j) ∧ IY X b x' ∧ (∀ p, p < j → x'.2.2 b p = x.2.2 X.1 p) ∧ x'.2.2 X.1 = x.2.2 X.1)
    (fun x' => IY X b x' ∧ ∀ p, p < m → x'.2.2 b p = x.2.2 X.1 p) m (fun j a hj hp => ?_) (fun a hp => ?_) (by omega) (x, nI m, nI k, sz, gr, tc, b, v6, X.1, v8, v9, 0) ⟨x, rfl, hI, fun g hg => absurd hg (Nat.not_lt_zero g), rfl⟩
  · exact main
  · obtain ⟨x', rfl, h1, h2, h3⟩ := hp
    refine ⟨_, ⟨xw x' b j (x'.2.2 X.1 j), rfl, h1.w (.inr rfl) j _, fun p hp => ?_, ?_⟩, fun r38 rec => ?_⟩
    · by_cases e : p = j
      · rw [e, xw_e, h3]
      · rw [xw_o (fun q => e q.2)]
        exact h2 p (by omega)
    · rw [← h3]
      funext j'
      exact xw_o (by omega)
    · show q_L_bestStaff_286 r38 rec x0 x' (nI m) (nI k) sz gr tc b v6 X.1 v8 v9 (nI j) = _
      unfold q_L_bestStaff_286
      rw [if_neg (nI_ge hj (by omega)), if_pos (h1.own.b (by omega) (by omega)), if_pos ((h1.bst hb h8).b (by omega) (by omega)), nI_clamp (by omega), nI_1]
  · obtain ⟨x', rfl, h1, h2, h3⟩ := hp
    refine ⟨x', ⟨h1, h2⟩, fun r38 rec => ?_⟩
    show q_L_bestStaff_286 r38 rec x0 x' (nI m) (nI k) sz gr tc b v6 X.1 v8 v9 (nI m) = _
    unfold q_L_bestStaff_286 q_L_bestStaff_308
    rw [if_pos (nI_le (Nat.le_refl _) (by omega))]
def svl (m k : Nat) (Sz : Nat → Nat) (Gf Tf : Nat → Int32) (j : Nat) : Bool := vsL m k (stk Tf Gf) Sz (dg k m j) m
def sct (m k : Nat) (Tf : Nat → Int32) (j : Nat) : Nat := csL m k (swg Tf) (dg k m j) m
def ssc (m k : Nat) (Tf : Nat → Int32) (j : Nat) : Nat := 16 - sct m k Tf j
def cso (m k : Nat) (Tf : Nat → Int32) : Option Nat → Int32
  | none => -1
  | some i => nI (sct m k Tf i)
theorem sct_le (hW : ∀ i, i < k → swg Tf i ≤ 4) (hm : m ≤ 4) (j : Nat) : sct m k Tf j ≤ 16 := by
  have := csL_le (m := m) (a := dg k m j) hW m
  unfold sct
  omega
theorem svl_e (j : Nat) : vsL m k (stk Tf Gf) Sz (dg k m j) m = svl m k Sz Gf Tf j := rfl
theorem sct_e (j : Nat) : csL m k (swg Tf) (dg k m j) m = sct m k Tf j := rfl
theorem bs38 (hD : DS X sz gr tc b m k Sz Gf Tf) (hI : IY X b x) (x0 : Nat) {N : Nat} (hN : N < 20000) : ∃ x', (IY X b x' ∧ BO k m x' b (bst (svl m k Sz Gf Tf) (ssc m k Tf) N)) ∧ l_L_bestStaff_38 x0 sk_fu (x, nI m, nI k, sz, gr, tc, b, nI N, X.1, -1, 0) = some (cso m k Tf (bst (svl m k Sz Gf Tf) (ssc m k Tf) N), x') := by
  have hD' := hD
  obtain ⟨_, _, _, hb, h8, _, _, _, hm, hk, _, hW⟩ := hD'
  have h16 := fun j => sct_le (m := m) (fun i hi => (hW i hi).1) hm j
  have main := it_cn (ι := Unit) (F := fun _ rec38 a => q_L_bestStaff_38 rec38 x0 a.1 a.2.1 a.2.2.1 a.2.2.2.1 a.2.2.2.2.1 a.2.2.2.2.2.1 a.2.2.2.2.2.2.1 a.2.2.2.2.2.2.2.1 a.2.2.2.2.2.2.2.2.1 a.2.2.2.2.2.2.2.2.2.1 a.2.2.2.2.2.2.2.2.2.2)
    (fun _ x' => some (cso m k Tf (bst (svl m k Sz Gf Tf) (ssc m k Tf) N), x'))
    (fun j a => ∃ x', a = (x', nI m, nI k, sz, gr, tc, b, nI N, X.1, cso m k Tf (bst (svl m k Sz Gf Tf) (ssc m k Tf) j), nI j) ∧ IY X b x' ∧ BO k m x' b (bst (svl m k Sz Gf Tf) (ssc m k Tf) j))
    (fun x' => IY X b x' ∧ BO k m x' b (bst (svl m k Sz Gf Tf) (ssc m k Tf) N)) N (fun j a hj hp => ?_) (fun a hp => ?_) hN (x, nI m, nI k, sz, gr, tc, b, nI N, X.1, -1, 0) ⟨x, rfl, hI, fun i hi => by cases hi⟩
  · obtain ⟨x', h1, h2⟩ := main
    exact ⟨x', h1, h2 ()⟩
  · obtain ⟨x1, rfl, h1, h2⟩ := hp
    generalize hz : bst (svl m k Sz Gf Tf) (ssc m k Tf) j = z at h2
    obtain ⟨x3, ⟨i3, d3, b3⟩, e3⟩ := bs60 hD h1 (j := j) (by omega) x0 (nI N) (cso m k Tf z)
    rw [svl_e, sct_e] at e3
    have bo3 : BO k m x3 b z := fun i hi p hp => by rw [b3]; exact h2 i hi p hp
    have go : ∀ rec, q_L_bestStaff_38 rec x0 x1 (nI m) (nI k) sz gr tc b (nI N) X.1 (cso m k Tf z) (nI j) = l_L_bestStaff_60 rec x0 sk_fu (x1, nI m, nI k, sz, gr, tc, b, nI N, X.1, cso m k Tf z, nI j, nI j, 0, 1, nI m - 1) := by
      intro rec
      unfold q_L_bestStaff_38
      rw [if_neg (nI_ge hj (by omega))]
    by_cases hv : svl m k Sz Gf Tf j = true
    · have keep : bst (svl m k Sz Gf Tf) (ssc m k Tf) (j + 1) = some j → ∀ x4, (IY X b x4 ∧ ∀ p, p < m → x4.2.2 b p = x3.2.2 X.1 p) → (∃ x', (x4, nI m, nI k, sz, gr, tc, b, nI N, X.1, nI (sct m k Tf j), nI j + 1) = (x', nI m, nI k, sz, gr, tc, b, nI N, X.1, cso m k Tf (bst (svl m k Sz Gf Tf) (ssc m k Tf) (j + 1)), nI (j + 1)) ∧ IY X b x' ∧ BO k m x' b (bst (svl m k Sz Gf Tf) (ssc m k Tf) (j + 1))) := by
        intro hz2 x4 h4
        rw [hz2]
        refine ⟨x4, by rw [nI_1]; rfl, h4.1, fun i hi p hp => ?_⟩
        cases hi
        rw [h4.2 p hp, d3 p hp]
      obtain ⟨x4, h4, e5⟩ := bs286 hD i3 x0 (nI N) (nI (sct m k Tf j)) (nI j)
      cases z with
      | none =>
        refine ⟨_, keep (bst_n hz hv) x4 h4, fun _ rec => ?_⟩
        refine (go rec).trans ?_
        rw [e3, if_pos hv, if_pos (show cso m k Tf none < 0 from (by decide : (-1 : Int32) < 0)), e5]
      | some i =>
        have hi16 := h16 i
        have hj16 := h16 j
        by_cases hle : sct m k Tf i ≤ sct m k Tf j
        · have hz2 : bst (svl m k Sz Gf Tf) (ssc m k Tf) (j + 1) = some i := bst_l hz (by unfold ssc; omega)
          refine ⟨_, ⟨x3, rfl, i3, ?_⟩, fun _ rec => ?_⟩
          · rw [hz2]
            exact bo3
          · refine (go rec).trans ?_
            rw [e3, if_pos hv, if_neg (show ¬ cso m k Tf (some i) < 0 from nI_pos (by omega)), if_pos (show cso m k Tf (some i) ≤ nI (sct m k Tf j) from nI_le hle (by omega)), hz2, nI_1]
        · refine ⟨_, keep (bst_g hz hv (by unfold ssc; omega)) x4 h4, fun _ rec => ?_⟩
          refine (go rec).trans ?_
          rw [e3, if_pos hv, if_neg (show ¬ cso m k Tf (some i) < 0 from nI_pos (by omega)), if_neg (show ¬ cso m k Tf (some i) ≤ nI (sct m k Tf j) from fun q => hle ((nI_leI (by omega) (by omega)).mp q)), e5]
    · have hz2 : bst (svl m k Sz Gf Tf) (ssc m k Tf) (j + 1) = z := (bst_v hv).trans hz
      refine ⟨_, ⟨x3, rfl, i3, ?_⟩, fun _ rec => ?_⟩
      · rw [hz2]
        exact bo3
      · refine (go rec).trans ?_
        rw [e3, if_neg hv, hz2, nI_1]
  · obtain ⟨x1, rfl, h1, h2⟩ := hp
    refine ⟨x1, ⟨h1, h2⟩, fun _ rec => ?_⟩
    show q_L_bestStaff_38 rec x0 x1 (nI m) (nI k) sz gr tc b (nI N) X.1 _ (nI N) = _
    unfold q_L_bestStaff_38
    rw [if_pos (nI_le (Nat.le_refl _) (by omega))]
theorem pw4_le : ∀ k, k ≤ 4 → ∀ i, i ≤ 4 → (k + 1) ^ i < 20000 := by decide +kernel
/-- the law's best staffing -/
theorem bstaff (hD : DS X sz gr tc b m k Sz Gf Tf) : ∃ x', (IY X b x' ∧ BO k m x' b (bst (svl m k Sz Gf Tf) (ssc m k Tf) ((k + 1) ^ m))) ∧ q_L_bestStaff X (nI m) (nI k) sz gr tc b = some (cso m k Tf (bst (svl m k Sz Gf Tf) (ssc m k Tf) ((k + 1) ^ m)), x') := by
  have hD' := hD
  obtain ⟨_, _, _, hb, h8, _, _, _, hm, hk, _, hW⟩ := hD'
  have hI : IY X b (xn X 8) := by
    refine ⟨rfl, ?_, fun k hk => ⟨?_, fun _ => ?_⟩⟩
    · show (if X.1 = X.1 then 8 else X.2.1 X.1) = 8
      rw [if_pos rfl]
    · show (if k = X.1 then 8 else X.2.1 k) = X.2.1 k
      rw [if_neg (by omega)]
    · funext j
      show (if k = X.1 then 0 else X.2.2 k j) = X.2.2 k j
      rw [if_neg (by omega)]
  obtain ⟨x', h1, h2⟩ := bs38 hD hI X.1 (N := (k + 1) ^ m) (pw4_le k hk m hm)
  refine ⟨x', h1, ?_⟩
  unfold q_L_bestStaff q_L_bestStaff_0
  refine Eq.trans (congrArg (l_L_bestStaff_6 X.1 sk_fu) (?_ : _ = (X, nI m, nI k, sz, gr, tc, b, nI ((k + 1) ^ 0), nI 0))) (it_for0 (F := fun rec6 a => q_L_bestStaff_6 rec6 X.1 a.1 a.2.1 a.2.2.1 a.2.2.2.1 a.2.2.2.2.1 a.2.2.2.2.2.1 a.2.2.2.2.2.2.1 a.2.2.2.2.2.2.2.1 a.2.2.2.2.2.2.2.2) (fun i => (X, nI m, nI k, sz, gr, tc, b, nI ((k + 1) ^ i), nI i)) m (fun i hi rec => ?_) (fun rec => ?_) (by omega))
  · rw [Nat.pow_zero]
    rfl
  · show q_L_bestStaff_6 rec X.1 X (nI m) (nI k) sz gr tc b (nI ((k + 1) ^ i)) (nI i) = _
    unfold q_L_bestStaff_6
    rw [if_neg (nI_ge hi (by omega)), nI_1, nI_1, pk_mul, ← Nat.pow_succ]
  · show q_L_bestStaff_6 rec X.1 X (nI m) (nI k) sz gr tc b (nI ((k + 1) ^ m)) (nI m) = _
    unfold q_L_bestStaff_6
    rw [if_pos (nI_le (Nat.le_refl _) (by omega)), if_pos (by omega)]
    exact h2
end LS
