/-! THE SIMULATION: a departure *** by hand -/
def shq8 (d : sk_D) (l : Nat) : Nat → sk_D
  | 0 => d
  | n + 1 => sk_wi (shq8 d l n) 33 l n (d.1 33 l (n + 1))
def shq9 (e : sk_D) (l : Nat) : Nat → sk_D
  | 0 => e
  | n + 1 => sk_wi (shq9 e l n) 88 0 (4 * l + n) (e.1 88 0 (4 * l + n + 1))
theorem shq8_o (d : sk_D) (l : Nat) : ∀ (n s k f : Nat), ¬ (s = 33 ∧ k = l ∧ f < n) → (shq8 d l n).1 s k f = d.1 s k f
  | 0, _, _, _, _ => rfl
  | n + 1, s, k, f, h => by
    show (sk_wi (shq8 d l n) 33 l n _).1 s k f = _
    rw [wi_o (by omega), shq8_o d l n s k f (by omega)]
theorem shq8_g (d : sk_D) (l : Nat) : ∀ (n k : Nat), k < n → (shq8 d l n).1 33 l k = d.1 33 l (k + 1)
  | 0, k, h => absurd h (Nat.not_lt_zero _)
  | n + 1, k, h => by
    show (sk_wi (shq8 d l n) 33 l n (d.1 33 l (n + 1))).1 33 l k = _
    by_cases e : k = n
    · subst e
      exact wi_e
    · rw [wi_o (by omega), shq8_g d l n k (by omega)]
theorem shq9_o (e : sk_D) (l : Nat) : ∀ (n s k f : Nat), ¬ (s = 88 ∧ 4 * l ≤ f ∧ f < 4 * l + n) → (shq9 e l n).1 s k f = e.1 s k f
  | 0, _, _, _, _ => rfl
  | n + 1, s, k, f, h => by
    show (sk_wi (shq9 e l n) 88 0 (4 * l + n) _).1 s k f = _
    rw [wi_o (by omega), shq9_o e l n s k f (by omega)]
theorem shq9_g (e : sk_D) (l : Nat) : ∀ (n k : Nat), k < n → (shq9 e l n).1 88 0 (4 * l + k) = e.1 88 0 (4 * l + k + 1)
  | 0, k, h => absurd h (Nat.not_lt_zero _)
  | n + 1, k, h => by
    show (sk_wi (shq9 e l n) 88 0 (4 * l + n) (e.1 88 0 (4 * l + n + 1))).1 88 0 (4 * l + k) = _
    by_cases e1 : k = n
    · subst e1
      exact wi_e
    · rw [wi_o (by omega), shq9_g e l n k (by omega)]
theorem leave8 {d : sk_D} {l q : Nat} (hl : l < 3) (hq1 : 1 ≤ q) (hq : q ≤ 4) (h34 : d.1 34 0 l = nI q) : q_X6_leaveQueue d (nI l) = some (sk_wi (shq8 d l (q - 1)) 34 0 l (nI (q - 1))) := by
  have el := nI_clamp (n := l) (by omega)
  have bl : sk_bi (nI l) 3 = true := bi_nI (by omega) (by omega)
  refine it_for0 (F := fun rec a => q_X6_leaveQueue_2 rec a.1 a.2.1 a.2.2) (fun i => (shq8 d l i, nI l, nI (i + 1))) (q - 1) (fun j hj rec => ?_) (fun rec => ?_) (by omega)
  · show q_X6_leaveQueue_2 rec (shq8 d l j) (nI l) (nI (j + 1)) = rec (shq8 d l (j + 1), nI l, nI (j + 1 + 1))
    have o34 : (shq8 d l j).1 34 0 l = nI q := (shq8_o d l j 34 0 l (by omega)).trans h34
    have l1 : ¬ nI q ≤ nI (j + 1) := nI_ge (by omega) (by omega)
    have l2 : ¬ (4 : Int32) ≤ nI (j + 1) := le_nI (n := 4) rfl (by omega) (by omega)
    have b1 : sk_bi (nI (j + 1)) 4 = true := bi_nI (by omega) (by omega)
    have e1 := nI_clamp (n := j + 1) (by omega)
    have b0 : sk_bi (nI j) 4 = true := bi_nI (by omega) (by omega)
    have e0 := nI_clamp (n := j) (by omega)
    have o33 : (shq8 d l j).1 33 l (j + 1) = d.1 33 l (j + 1) := shq8_o d l j 33 l (j + 1) (by omega)
    simp only [q_X6_leaveQueue_2, bl, el, o34, l1, l2, b1, e1, nI_pred, b0, e0, o33, s1_nI, shq8, ↓reduceIte]
  · show q_X6_leaveQueue_2 rec (shq8 d l (q - 1)) (nI l) (nI (q - 1 + 1)) = _
    have o34 : (shq8 d l (q - 1)).1 34 0 l = nI (q - 1 + 1) := by
      rw [shq8_o d l (q - 1) 34 0 l (by omega), h34]
      congr 1
      omega
    have l1 : nI (q - 1 + 1) ≤ nI (q - 1 + 1) := nI_le (by omega) (by omega)
    simp only [q_X6_leaveQueue_2, q_X6_leaveQueue_41, bl, el, o34, l1, nI_pred, ↓reduceIte]
theorem leave9 {e : sk_D} {l q m g : Nat} (hl : l < 3) (hq1 : 1 ≤ q) (hq : q ≤ 4) (h89 : e.1 89 0 l = nI q) (h88 : e.1 88 0 (4 * l) = nI g) : q_X9_leave e (nI l) (nI m) = q_X9_leave_69 (sk_wi (shq9 e l (q - 1)) 89 0 l (nI (q - 1))) (nI l) (nI m) (nI g) (nI g) (nI g) := by
  have el := nI_clamp (n := l) (by omega)
  have bl : sk_bi (nI l) 3 = true := bi_nI (by omega) (by omega)
  have x0 : (4 : Int32) * nI l = nI (4 * l) := by
    have := x4_nI l 0
    rw [show nI 0 = (0 : Int32) from rfl, Int32.add_zero, Nat.add_zero] at this
    exact this
  have b12 : sk_bi (nI (4 * l)) 12 = true := bi_nI (by omega) (by omega)
  have e12 := nI_clamp (n := 4 * l) (by omega)
  have hd : q_X9_leave e (nI l) (nI m) = l_X9_leave_12 sk_fu (e, nI l, nI m, nI g, (1 : Int32)) := by
    simp only [q_X9_leave, q_X9_leave_0, x0, b12, e12, h88, ↓reduceIte]
  rw [hd]
  refine it_for0 (F := fun rec a => q_X9_leave_12 rec a.1 a.2.1 a.2.2.1 a.2.2.2.1 a.2.2.2.2) (fun i => (shq9 e l i, nI l, nI m, nI g, nI (i + 1))) (q - 1) (fun j hj rec => ?_) (fun rec => ?_) (by omega)
  · show q_X9_leave_12 rec (shq9 e l j) (nI l) (nI m) (nI g) (nI (j + 1)) = rec (shq9 e l (j + 1), nI l, nI m, nI g, nI (j + 1 + 1))
    have o89 : (shq9 e l j).1 89 0 l = nI q := (shq9_o e l j 89 0 l (by omega)).trans h89
    have l1 : ¬ nI q ≤ nI (j + 1) := nI_ge (by omega) (by omega)
    have b1 : sk_bi (nI (4 * l + (j + 1))) 12 = true := bi_nI (by omega) (by omega)
    have e1 := nI_clamp (n := 4 * l + (j + 1)) (by omega)
    have pr : nI (4 * l + (j + 1)) - 1 = nI (4 * l + j) := nI_pred (4 * l + j)
    have b0 : sk_bi (nI (4 * l + j)) 12 = true := bi_nI (by omega) (by omega)
    have e0 := nI_clamp (n := 4 * l + j) (by omega)
    have o88 : (shq9 e l j).1 88 0 (4 * l + (j + 1)) = e.1 88 0 (4 * l + j + 1) := shq9_o e l j 88 0 (4 * l + (j + 1)) (by omega)
    simp only [q_X9_leave_12, bl, el, o89, l1, x4n_nI, b1, e1, pr, b0, e0, o88, s1_nI, shq9, ↓reduceIte]
  · show q_X9_leave_12 rec (shq9 e l (q - 1)) (nI l) (nI m) (nI g) (nI (q - 1 + 1)) = _
    have o89 : (shq9 e l (q - 1)).1 89 0 l = nI (q - 1 + 1) := by
      rw [shq9_o e l (q - 1) 89 0 l (by omega), h89]
      congr 1
      omega
    have l1 : nI (q - 1 + 1) ≤ nI (q - 1 + 1) := nI_le (by omega) (by omega)
    simp only [q_X9_leave_12, bl, el, o89, l1, nI_pred, ↓reduceIte]
theorem nI_min (a b : Nat) (ha : a < 2 ^ 31) (hb : b < 2 ^ 31) : (if nI a < nI b then nI a else nI b) = nI (min a b) ∧ (if nI b ≤ nI a then nI b else nI a) = nI (min a b) := by
  simp only [nI_ltI ha hb, nI_leI hb ha]
  constructor <;> split <;> congr 1 <;> omega
/-- what stays of the other lifts -/
def OL (l : Nat) (W L : Nat → Nat) (Q : Nat → Nat → Nat) (W' L' : Nat → Nat) (Q' : Nat → Nat → Nat) : Prop := ∀ x, x < 3 → x ≠ l → L' x = L x ∧ (∀ k, Q' x k = Q x k) ∧ ∀ k, k < L x → W' (Q x k) = W (Q x k)
theorem OL.tr {l : Nat} {W L W' L' W2 L2 : Nat → Nat} {Q Q' Q2 : Nat → Nat → Nat} (h : OL l W L Q W' L' Q') (h2 : OL l W' L' Q' W2 L2 Q2) : OL l W L Q W2 L2 Q2 := by
  intro x hx hn
  obtain ⟨a1, a2, a3⟩ := h x hx hn
  obtain ⟨b1, b2, b3⟩ := h2 x hx hn
  refine ⟨b1.trans a1, fun k => (b2 k).trans (a2 k), fun k hk => ?_⟩
  have := b3 k (by rw [a1]; exact hk)
  rw [a2 k] at this
  exact this.trans (a3 k hk)
set_option maxHeartbeats 4000000 in
/-- one turn of a departure -/
theorem dep1 {n : Nat} {st p W T : Nat → Nat} {A : Nat → Option Nat} {L : Nat → Nat} {Q : Nat → Nat → Nat} {d e : sk_D} {m l f j : Nat} (hm : m < 180) (hl : l < n) (hf1 : 1 ≤ f) (hf : f ≤ 8) (hj : j < 4)
    (hS : SS n st p d e) (hD : DY (fun _ => m + 1) p W T A L Q d e) (hI : IV n st (fun _ => m + 1) p W T A L Q) (hq : 1 ≤ L l) :
    ∃ f' W' T' A' L' Q' d' e', f' ≤ 8 ∧ (f' = 0 ∨ L' l + 1 = L l) ∧ DY (fun _ => m + 1) p W' T' A' L' Q' d' e' ∧ IV n st (fun _ => m + 1) p W' T' A' L' Q' ∧ OL l W L Q W' L' Q' ∧ (∀ h, h < 4 → p h = 0 → d'.1 27 0 h = d.1 27 0 h) ∧ FA8 d d' ∧ FA9 e e' ∧
      (∀ rec, q_X6_depart_9 rec d (nI l) l (nI m) (nI f) (nI j) = rec (d', nI l, l, nI m, nI f', nI (j + 1))) ∧ ∀ rec, q_X9_depart_7 rec e (nI l) (nI m) (nI f) = rec (e', nI l, nI m, nI f') := by
  obtain ⟨S1, hn3, S3, S4, S5⟩ := hS
  have hl3 : l < 3 := by omega
  obtain ⟨D1, D2⟩ := hD
  obtain ⟨I1, I2, I3⟩ := hI
  obtain ⟨r1, r2, r3, r4⟩ := D2 l hl3
  obtain ⟨i1, i2⟩ := I2 l hl3
  obtain ⟨g, hgQ⟩ : ∃ g, Q l 0 = g := ⟨_, rfl⟩
  obtain ⟨hg, hwg⟩ := i2 0 (by omega)
  rw [hgQ] at hg hwg
  obtain ⟨k1, k2⟩ := r4 0 (by omega)
  rw [hgQ] at k1 k2
  rw [Nat.add_zero] at k2
  obtain ⟨x1, x2, x3, x4, x5, x6, x7, x8, x9⟩ := D1 g hg
  obtain ⟨y0, y1, y2, y3, y4, y5⟩ := I1 g hg
  have hp21 := (S1 g hg).1
  have hpg : p g ≠ 0 := by omega
  obtain ⟨tt1, tt2, tt3, tt4, tt5⟩ := (S1 g hg).2 hpg
  have hTs := y3 hpg
  obtain ⟨lx, w, hlx, hw1, hw20, _, _, e41, e61⟩ := tt5 (T g) hTs
  obtain ⟨ss, ii, rr, hs1, hs2, hi1, hi2, hr1, hr2, e430, e68, e431, e69, e432, e70⟩ := S5 l hl
  have eg := nI_clamp (n := g) (by omega)
  have bg : sk_bi (nI g) 4 = true := bi_nI (by omega) (by omega)
  have el := nI_clamp (n := l) (by omega)
  have bl : sk_bi (nI l) 3 = true := bi_nI (by omega) (by omega)
  have lj : ¬ (4 : Int32) ≤ nI j := le_nI (n := 4) rfl hj (by omega)
  have lf : ¬ nI f ≤ (0 : Int32) := nI_nle (by omega) (by omega)
  have lq : ¬ nI (L l) ≤ (0 : Int32) := nI_nle (by omega) (by omega)
  have b0 : sk_bi (0 : Int32) 4 = true := by decide
  have z0 : (0 : Int32).toNatClampNeg = 0 := by decide
  have x0 : (4 : Int32) * nI l = nI (4 * l) := by
    have := x4_nI l 0
    rw [show nI 0 = (0 : Int32) from rfl, Int32.add_zero, Nat.add_zero] at this
    exact this
  have b12 : sk_bi (nI (4 * l)) 12 = true := bi_nI (by omega) (by omega)
  have e12 := nI_clamp (n := 4 * l) (by omega)
  have wg1 := (wi_in g (a := nI g) (lo := 0) (hi := 3) 0 3 rfl rfl rfl (by omega) (by omega) (by omega)).1 d
  have hm1 := (nI_min (W g) f (by omega) (by omega)).1
  have hm2 := (nI_min (W g) f (by omega) (by omega)).2
  obtain ⟨b, hb⟩ : ∃ b, min (W g) f = b := ⟨_, rfl⟩
  rw [hb] at hm1 hm2
  have hbW : b ≤ W g := by omega
  have hbf : b ≤ f := by omega
  have sW : nI (W g) - nI b = nI (W g - b) := pk_sub hbW
  have sf : nI f - nI b = nI (f - b) := pk_sub hbf
  -- the state after boarding
  obtain ⟨D, hDd⟩ : ∃ D, sk_wi (sk_wi d 31 0 g (nI (W g - b))) 29 0 l (d.1 29 0 l + nI b) = D := ⟨_, rfl⟩
  obtain ⟨E, hEe⟩ : ∃ E, sk_wi (sk_wi e 85 0 g (nI (W g - b))) 93 0 l (d.1 29 0 l + nI b) = E := ⟨_, rfl⟩
  have oD (s k f : Nat) (h : ¬ (s = 31 ∧ k = 0 ∧ f = g)) (h2 : ¬ (s = 29 ∧ k = 0 ∧ f = l)) : D.1 s k f = d.1 s k f := by rw [← hDd, wi_o h2, wi_o h]
  have oE (s k f : Nat) (h : ¬ (s = 85 ∧ k = 0 ∧ f = g)) (h2 : ¬ (s = 93 ∧ k = 0 ∧ f = l)) : E.1 s k f = e.1 s k f := by rw [← hEe, wi_o h2, wi_o h]
  have D31 : D.1 31 0 g = nI (W g - b) := by rw [← hDd, wi_o (by omega), wi_e]
  have E85 : E.1 85 0 g = nI (W g - b) := by rw [← hEe, wi_o (by omega), wi_e]
  have D29 : D.1 29 0 l = d.1 29 0 l + nI b := by rw [← hDd, wi_e]
  have E93 : E.1 93 0 l = d.1 29 0 l + nI b := by rw [← hEe, wi_e]
  have step8 : ∀ rec, q_X6_depart_9 rec d (nI l) l (nI m) (nI f) (nI j) = if nI (W g - b) = 0 then (q_X6_leaveQueue D (nI l)).bind fun x2 => (q_X6_completeRide x2 (nI g) g (nI m + (x2.1 43 l 2))).bind fun x4 => rec (x4, nI l, l, nI m, nI (f - b), nI (j + 1)) else rec (D, nI l, l, nI m, nI (f - b), nI (j + 1)) := by
    intro rec
    have c1 : (sk_wi d 31 0 g (nI (W g - b))).1 29 0 l = d.1 29 0 l := wi_o (by omega)
    simp only [q_X6_depart_9, q_X6_depart_89, q_X6_depart_100, q_X6_depart_126, lj, lf, bl, el, r1, lq, b0, z0, k1, wg1, i10, bg, eg, x3, hm1, sW, sf, c1, hDd, D31, s1_nI, Option.bind_some, ↓reduceIte]
  have step9 : ∀ rec, q_X9_depart_7 rec e (nI l) (nI m) (nI f) = if nI (W g - b) = 0 then (q_X9_leave E (nI l) (nI m)).bind fun x2 => rec (x2, nI l, nI m, nI (f - b)) else rec (E, nI l, nI m, nI (f - b)) := by
    intro rec
    have c1 : (sk_wi e 85 0 g (nI (W g - b))).1 93 0 l = d.1 29 0 l := (wi_o (by omega)).trans r3
    by_cases c : nI f ≤ nI (W g)
    · have hbf' : nI f = nI b := by
        rw [if_pos c] at hm2
        exact hm2
      have sW' : nI (W g) - nI f = nI (W g - b) := by rw [hbf', sW]
      have sf' : nI f - nI f = nI (f - b) := by
        rw [← sf]
        rw [hbf']
      have c93 : d.1 29 0 l + nI f = d.1 29 0 l + nI b := by rw [hbf']
      simp only [q_X9_depart_7, q_X9_depart_52, q_X9_depart_77, q_X9_depart_88, q_X9_depart_98, lf, bl, el, r2, lq, x0, b12, e12, k2, bg, eg, x4, c, sW', sf', c1, c93, hEe, E85, ↓reduceIte]
    · have hbw' : nI (W g) = nI b := by
        rw [if_neg c] at hm2
        exact hm2
      have sW' : nI (W g) - nI (W g) = nI (W g - b) := by
        rw [← sW]
        rw [hbw']
      have sf' : nI f - nI (W g) = nI (f - b) := by rw [hbw', sf]
      have c93 : d.1 29 0 l + nI (W g) = d.1 29 0 l + nI b := by rw [hbw']
      simp only [q_X9_depart_7, q_X9_depart_52, q_X9_depart_77, q_X9_depart_88, q_X9_depart_98, lf, bl, el, r2, lq, x0, b12, e12, k2, bg, eg, x4, c, sW', sf', c1, c93, hEe, E85, ↓reduceIte]
  have ng : ∀ x k, x < 3 → k < L x → ¬ (x = l ∧ k = 0) → Q x k ≠ g := fun x k hx hk hne q => hne (I3 x k l 0 hx hl3 hk (by omega) (q.trans hgQ.symm))
  by_cases hz : W g - b = 0
  · -- the group leaves the queue
    have z1 : (nI (W g - b) = (0 : Int32)) = True := eq_true (by rw [hz]; rfl)
    have h34 : D.1 34 0 l = nI (L l) := (oD 34 0 l (by omega) (by omega)).trans r1
    have h89 : E.1 89 0 l = nI (L l) := (oE 89 0 l (by omega) (by omega)).trans r2
    have h88 : E.1 88 0 (4 * l) = nI g := (oE 88 0 (4 * l) (by omega) (by omega)).trans k2
    have L8 := leave8 (d := D) hl3 hq i1 h34
    have L9 := leave9 (e := E) (m := m) hl3 hq i1 h89 h88
    obtain ⟨D2', hD2⟩ : ∃ D2', sk_wi (shq8 D l (L l - 1)) 34 0 l (nI (L l - 1)) = D2' := ⟨_, rfl⟩
    obtain ⟨E2', hE2⟩ : ∃ E2', sk_wi (shq9 E l (L l - 1)) 89 0 l (nI (L l - 1)) = E2' := ⟨_, rfl⟩
    rw [hD2] at L8
    rw [hE2] at L9
    have oD2 (s k f : Nat) (h : ¬ (s = 33 ∧ k = l ∧ f < L l - 1)) (h2 : ¬ (s = 34 ∧ k = 0 ∧ f = l)) : D2'.1 s k f = D.1 s k f := by rw [← hD2, wi_o h2, shq8_o _ _ _ _ _ _ h]
    have oE2 (s k f : Nat) (h : ¬ (s = 88 ∧ 4 * l ≤ f ∧ f < 4 * l + (L l - 1))) (h2 : ¬ (s = 89 ∧ k = 0 ∧ f = l)) : E2'.1 s k f = E.1 s k f := by rw [← hE2, wi_o h2, shq9_o _ _ _ _ _ _ h]
    have g33 (k : Nat) (hk : k < L l - 1) : D2'.1 33 l k = nI (Q l (k + 1)) := by rw [← hD2, wi_o (by omega), shq8_g _ _ _ _ hk, oD 33 l (k + 1) (by omega) (by omega), (r4 (k + 1) (by omega)).1]
    have g88 (k : Nat) (hk : k < L l - 1) : E2'.1 88 0 (4 * l + k) = nI (Q l (k + 1)) := by rw [← hE2, wi_o (by omega), shq9_g _ _ _ _ hk, oE 88 0 (4 * l + k + 1) (by omega) (by omega), Nat.add_assoc, (r4 (k + 1) (by omega)).2]
    -- the ride completed
    obtain ⟨T2, hT2⟩ : ∃ T2, (if T g + 1 < st g then T g + 1 else 0) = T2 := ⟨_, rfl⟩
    have hT2lt : T2 < st g := by
      rw [← hT2]
      split <;> omega
    have d43 : D2'.1 43 l 2 = nI rr := by rw [oD2 43 l 2 (by omega) (by omega), oD 43 l 2 (by omega) (by omega), e432]
    have d30 : D2'.1 30 0 g = nI (T g) := by rw [oD2 30 0 g (by omega) (by omega), oD 30 0 g (by omega) (by omega), x5]
    have d41 : D2'.1 41 g (T g) = nI w := by rw [oD2 41 g _ (by omega) (by omega), oD 41 g _ (by omega) (by omega), e41]
    have d39 : D2'.1 39 g 6 = nI (st g) := by rw [oD2 39 g 6 (by omega) (by omega), oD 39 g 6 (by omega) (by omega), tt3]
    have d27 : D2'.1 27 0 g = d.1 27 0 g := by rw [oD2 27 0 g (by omega) (by omega), oD 27 0 g (by omega) (by omega)]
    have eT := nI_clamp (n := T g) (by omega)
    have bT : sk_bi (nI (T g)) 4 = true := bi_nI (by omega) (by omega)
    have wT (z : sk_D) := (wi_in (T g) (a := nI (T g)) (lo := 0) (hi := 3) 0 3 rfl rfl rfl (by omega) (by omega) (by omega)).1 z
    have C8 : ∃ D3, q_X6_completeRide D2' (nI g) g (nI m + D2'.1 43 l 2) = some D3 ∧ D3.1 25 0 g = nI (m + rr + w) ∧ D3.1 27 0 g = d.1 27 0 g + 1 ∧ D3.1 30 0 g = nI T2 ∧ ∀ s k f, ¬ ((s = 25 ∨ s = 27 ∨ s = 30) ∧ k = 0 ∧ f = g) → D3.1 s k f = D2'.1 s k f := by
      obtain ⟨Da, hDa⟩ : ∃ Da, sk_wi D2' 27 0 g (d.1 27 0 g + 1) = Da := ⟨_, rfl⟩
      have a30 : Da.1 30 0 g = nI (T g) := by rw [← hDa, wi_o (by omega), d30]
      have a41 : Da.1 41 g (T g) = nI w := by rw [← hDa, wi_o (by omega), d41]
      obtain ⟨Db, hDb⟩ : ∃ Db, sk_wi Da 25 0 g (nI (m + rr + w)) = Db := ⟨_, rfl⟩
      have c30 : Db.1 30 0 g = nI (T g) := by rw [← hDb, wi_o (by omega), a30]
      have c39 : (sk_wi Db 30 0 g (nI (T g + 1))).1 39 g 6 = nI (st g) := by rw [wi_o (by omega), ← hDb, wi_o (by omega), ← hDa, wi_o (by omega), d39]
      have sum : nI m + nI rr + nI w = nI (m + rr + w) := by rw [nI_add, nI_add]
      by_cases hc : T g + 1 < st g
      · have hlt : nI (T g + 1) < nI (st g) := nI_lt hc (by omega)
        rw [if_pos hc] at hT2
        refine ⟨sk_wi Db 30 0 g (nI (T g + 1)), ?_, ?_, ?_, ?_, ?_⟩
        · simp only [q_X6_completeRide, q_X6_completeRide_0, q_X6_completeRide_15, q_X6_completeRide_43, q_X6_completeRide_58, bg, eg, d27, hDa, a30, wT, i10, bT, eT, a41, d43, sum, hDb, c30, s1_nI, wi_e, c39, hlt, Option.bind_some, ↓reduceIte]
        · rw [wi_o (by omega), ← hDb, wi_e]
        · rw [wi_o (by omega), ← hDb, wi_o (by omega), ← hDa, wi_e]
        · rw [wi_e, ← hT2]
        · intro s k f hh
          rw [wi_o (by omega), ← hDb, wi_o (by omega), ← hDa, wi_o (by omega)]
      · have hlt : ¬ nI (T g + 1) < nI (st g) := nI_nlt (by omega) (by omega)
        rw [if_neg hc] at hT2
        refine ⟨sk_wi (sk_wi Db 30 0 g (nI (T g + 1))) 30 0 g 0, ?_, ?_, ?_, ?_, ?_⟩
        · simp only [q_X6_completeRide, q_X6_completeRide_0, q_X6_completeRide_15, q_X6_completeRide_43, q_X6_completeRide_58, bg, eg, d27, hDa, a30, wT, i10, bT, eT, a41, d43, sum, hDb, c30, s1_nI, wi_e, c39, hlt, Option.bind_some, ↓reduceIte]
        · rw [wi_o (by omega), wi_o (by omega), ← hDb, wi_e]
        · rw [wi_o (by omega), wi_o (by omega), ← hDb, wi_o (by omega), ← hDa, wi_e]
        · rw [wi_e, ← hT2]
          rfl
        · intro s k f hh
          rw [wi_o (by omega), wi_o (by omega), ← hDb, wi_o (by omega), ← hDa, wi_o (by omega)]
    have u91 : E2'.1 91 0 g = d.1 27 0 g := by rw [oE2 91 0 g (by omega) (by omega), oE 91 0 g (by omega) (by omega), x7]
    have u70 : E2'.1 70 0 l = nI rr := by rw [oE2 70 0 l (by omega) (by omega), oE 70 0 l (by omega) (by omega), e70]
    have u87 : E2'.1 87 0 g = nI (4 * g + T g) := by rw [oE2 87 0 g (by omega) (by omega), oE 87 0 g (by omega) (by omega), x6]
    have u61 : E2'.1 61 0 (4 * g + T g) = nI w := by rw [oE2 61 0 _ (by omega) (by omega), oE 61 0 _ (by omega) (by omega), e61]
    have u59 : E2'.1 59 0 g = nI (st g) := by rw [oE2 59 0 g (by omega) (by omega), oE 59 0 g (by omega) (by omega), tt4]
    have e4 := nI_clamp (n := 4 * g + T g) (by omega)
    have b4 : sk_bi (nI (4 * g + T g)) 16 = true := bi_nI (by omega) (by omega)
    have C9 : ∃ E3, q_X9_leave_69 E2' (nI l) (nI m) (nI g) (nI g) (nI g) = some E3 ∧ E3.1 86 0 g = nI (m + rr + w) ∧ E3.1 91 0 g = d.1 27 0 g + 1 ∧ E3.1 87 0 g = nI (4 * g + T2) ∧ ∀ s k f, ¬ ((s = 86 ∨ s = 87 ∨ s = 91) ∧ k = 0 ∧ f = g) → E3.1 s k f = E2'.1 s k f := by
      obtain ⟨Ea, hEa⟩ : ∃ Ea, sk_wi E2' 91 0 g (d.1 27 0 g + 1) = Ea := ⟨_, rfl⟩
      have a87 : Ea.1 87 0 g = nI (4 * g + T g) := by rw [← hEa, wi_o (by omega), u87]
      have a70 : Ea.1 70 0 l = nI rr := by rw [← hEa, wi_o (by omega), u70]
      have a61 : Ea.1 61 0 (4 * g + T g) = nI w := by rw [← hEa, wi_o (by omega), u61]
      obtain ⟨Eb, hEb⟩ : ∃ Eb, sk_wi Ea 86 0 g (nI (m + rr + w)) = Eb := ⟨_, rfl⟩
      have c87 : Eb.1 87 0 g = nI (4 * g + T g) := by rw [← hEb, wi_o (by omega), a87]
      have c59 : Eb.1 59 0 g = nI (st g) := by rw [← hEb, wi_o (by omega), ← hEa, wi_o (by omega), u59]
      have sum : nI m + nI rr + nI w = nI (m + rr + w) := by rw [nI_add, nI_add]
      have xg : (4 : Int32) * nI g = nI (4 * g) := by
        have := x4_nI g 0
        rw [show nI 0 = (0 : Int32) from rfl, Int32.add_zero, Nat.add_zero] at this
        exact this
      have res : ∀ v, (∀ s k f, ¬ ((s = 86 ∨ s = 87 ∨ s = 91) ∧ k = 0 ∧ f = g) → (sk_wi Eb 87 0 g v).1 s k f = E2'.1 s k f) ∧ (sk_wi Eb 87 0 g v).1 86 0 g = nI (m + rr + w) ∧ (sk_wi Eb 87 0 g v).1 91 0 g = d.1 27 0 g + 1 := by
        intro v
        refine ⟨fun s k f hh => ?_, ?_, ?_⟩
        · rw [wi_o (by omega), ← hEb, wi_o (by omega), ← hEa, wi_o (by omega)]
        · rw [wi_o (by omega), ← hEb, wi_e]
        · rw [wi_o (by omega), ← hEb, wi_o (by omega), ← hEa, wi_e]
      by_cases hc : T g + 1 < st g
      · have hne : ¬ nI (4 * g + T g + 1) = nI (4 * g + st g) := ne_nI (n := 4 * g + st g) rfl (by omega) (by omega)
        rw [if_pos hc] at hT2
        obtain ⟨q1, q2, q3⟩ := res (nI (4 * g + T g + 1))
        refine ⟨sk_wi Eb 87 0 g (nI (4 * g + T g + 1)), ?_, q2, q3, ?_, q1⟩
        · simp only [q_X9_leave_69, q_X9_leave_84, q_X9_leave_109, q_X9_leave_139, bg, eg, u91, hEa, bl, el, a87, b4, e4, a70, a61, sum, hEb, c87, c59, x4_nI, s1_nI, hne, ↓reduceIte]
        · rw [wi_e, ← hT2]
          rfl
      · have hne : (nI (4 * g + T g + 1) = nI (4 * g + st g)) = True := eq_true (by rw [show 4 * g + T g + 1 = 4 * g + st g by omega])
        rw [if_neg hc] at hT2
        obtain ⟨q1, q2, q3⟩ := res (nI (4 * g))
        refine ⟨sk_wi Eb 87 0 g (nI (4 * g)), ?_, q2, q3, ?_, q1⟩
        · simp only [q_X9_leave_69, q_X9_leave_84, q_X9_leave_109, q_X9_leave_139, bg, eg, u91, hEa, bl, el, a87, b4, e4, a70, a61, sum, hEb, c87, c59, xg, nI_add, s1_nI, hne, ↓reduceIte]
        · rw [wi_e, ← hT2]
          rfl
    obtain ⟨D3, C1, C25, C27, C30, Co⟩ := C8
    obtain ⟨E3, K1, K86, K91, K87, Ko⟩ := C9
    refine ⟨f - b, up1 W g 0, up1 T g T2, up1 A g (some (m + rr + w)), up1 L l (L l - 1), fun x k => if x = l then Q l (k + 1) else Q x k, D3, E3, by omega, ?_, ?_, ?_, ?_, ?_, ?_, ?_, fun rec => ?_, fun rec => ?_⟩
    · right
      rw [up1_e]
      omega
    · refine ⟨fun h hh => ?_, fun x hx => ?_⟩
      · obtain ⟨u1, u2, u3, u4, u5, u6, u7, u8, u9⟩ := D1 h hh
        by_cases eh : h = g
        · subst eh
          rw [up1_e, up1_e, up1_e]
          refine ⟨?_, ?_, ?_, ?_, C30, K87, K91.trans C27.symm, fun c hc => ?_, fun hc => (by cases hc)⟩
          · rw [Co 24 0 h (by omega), oD2 24 0 h (by omega) (by omega), oD 24 0 h (by omega) (by omega)]
            exact u1
          · rw [Ko 84 0 h (by omega), oE2 84 0 h (by omega) (by omega), oE 84 0 h (by omega) (by omega)]
            exact u2
          · rw [Co 31 0 h (by omega), oD2 31 0 h (by omega) (by omega), D31, hz]
          · rw [Ko 85 0 h (by omega), oE2 85 0 h (by omega) (by omega), E85, hz]
          · cases hc
            exact ⟨C25, K86⟩
        · rw [up1_o eh, up1_o eh, up1_o eh]
          have o8 (s : Nat) (hs : s ≠ 29 ∧ s ≠ 34 ∧ s ≠ 33) : D3.1 s 0 h = d.1 s 0 h := by
            rw [Co s 0 h (by omega), oD2 s 0 h (by omega) (by omega), oD s 0 h (by omega) (by omega)]
          have o9 (s : Nat) (hs : s ≠ 88 ∧ s ≠ 89 ∧ s ≠ 93) : E3.1 s 0 h = e.1 s 0 h := by
            rw [Ko s 0 h (by omega), oE2 s 0 h (by omega) (by omega), oE s 0 h (by omega) (by omega)]
          rw [o8 24 (by omega), o8 25 (by omega), o8 27 (by omega), o8 30 (by omega), o8 31 (by omega), o9 84 (by omega), o9 85 (by omega), o9 86 (by omega), o9 87 (by omega), o9 91 (by omega)]
          exact ⟨u1, u2, u3, u4, u5, u6, u7, u8, u9⟩
      · obtain ⟨u1, u2, u3, u4⟩ := D2 x hx
        dsimp only
        by_cases ex : x = l
        · subst ex
          rw [up1_e]
          refine ⟨?_, ?_, ?_, fun k hk => ?_⟩
          · rw [Co 34 0 x (by omega), ← hD2, wi_e]
          · rw [Ko 89 0 x (by omega), ← hE2, wi_e]
          · rw [Co 29 0 x (by omega), oD2 29 0 x (by omega) (by omega), D29, Ko 93 0 x (by omega), oE2 93 0 x (by omega) (by omega), E93]
          · rw [if_pos rfl, Co 33 x k (by omega), g33 k hk, Ko 88 0 _ (by omega), g88 k hk]
            exact ⟨rfl, rfl⟩
        · rw [up1_o ex]
          have hL4 := (I2 x hx).1
          refine ⟨?_, ?_, ?_, fun k hk => ?_⟩
          · rw [Co 34 0 x (by omega), oD2 34 0 x (by omega) (by omega), oD 34 0 x (by omega) (by omega)]
            exact u1
          · rw [Ko 89 0 x (by omega), oE2 89 0 x (by omega) (by omega), oE 89 0 x (by omega) (by omega)]
            exact u2
          · rw [Co 29 0 x (by omega), oD2 29 0 x (by omega) (by omega), oD 29 0 x (by omega) (by omega), Ko 93 0 x (by omega), oE2 93 0 x (by omega) (by omega), oE 93 0 x (by omega) (by omega)]
            exact u3
          · rw [if_neg ex, Co 33 x k (by omega), oD2 33 x k (by omega) (by omega), oD 33 x k (by omega) (by omega), Ko 88 0 _ (by omega), oE2 88 0 _ (by omega) (by omega), oE 88 0 _ (by omega) (by omega)]
            exact u4 k hk
    · refine ⟨fun h hh => ?_, fun x hx => ?_, fun x k x' k' hx hx' hk hk' q => ?_⟩
      · obtain ⟨u0, u1, u2, u3, u4, u5⟩ := I1 h hh
        by_cases eh : h = g
        · subst eh
          rw [up1_e, up1_e, up1_e]
          refine ⟨u0, Nat.zero_le _, by omega, fun _ => hT2lt, fun c hc => ?_, fun q => absurd rfl q⟩
          cases hc
          refine ⟨hpg, rfl, ?_, by omega⟩
          show m + 1 ≤ m + rr + w
          omega
        · rw [up1_o eh, up1_o eh, up1_o eh]
          refine ⟨u0, u1, u2, u3, u4, fun hw => ?_⟩
          obtain ⟨s1, x, k, s2, s3, s4⟩ := u5 hw
          dsimp only
          by_cases ex : x = l
          · subst ex
            have hk0 : k ≠ 0 := by
              intro q
              subst q
              exact eh (s4.symm.trans hgQ)
            refine ⟨s1, x, k - 1, s2, ?_, ?_⟩
            · rw [up1_e]
              omega
            · rw [if_pos rfl, show k - 1 + 1 = k by omega]
              exact s4
          · refine ⟨s1, x, k, s2, ?_, ?_⟩
            · rw [up1_o ex]
              exact s3
            · rw [if_neg ex]
              exact s4
      · dsimp only
        by_cases ex : x = l
        · subst ex
          rw [up1_e]
          refine ⟨by omega, fun k hk => ?_⟩
          rw [if_pos rfl, up1_o (ng x (k + 1) hx (by omega) (by omega))]
          exact i2 (k + 1) (by omega)
        · rw [up1_o ex]
          refine ⟨(I2 x hx).1, fun k hk => ?_⟩
          rw [if_neg ex, up1_o (ng x k hx hk (by omega))]
          exact (I2 x hx).2 k hk
      · dsimp only at q
        by_cases ex : x = l <;> by_cases ex' : x' = l
        · subst ex
          subst ex'
          rw [up1_e] at hk hk'
          rw [if_pos rfl, if_pos rfl] at q
          have := I3 x' (k + 1) x' (k' + 1) hx hx' (by omega) (by omega) q
          exact ⟨rfl, by omega⟩
        · subst ex
          rw [up1_e] at hk
          rw [up1_o ex'] at hk'
          rw [if_pos rfl, if_neg ex'] at q
          exact absurd (I3 x (k + 1) x' k' hx hx' (by omega) hk' q).1.symm ex'
        · subst ex'
          rw [up1_e] at hk'
          rw [up1_o ex] at hk
          rw [if_neg ex, if_pos rfl] at q
          exact absurd (I3 x k x' (k' + 1) hx hx' hk (by omega) q).1 ex
        · rw [up1_o ex] at hk
          rw [up1_o ex'] at hk'
          rw [if_neg ex, if_neg ex'] at q
          exact I3 x k x' k' hx hx' hk hk' q
    · intro x hx hn
      refine ⟨up1_o hn, fun k => if_neg hn, fun k hk => up1_o (ng x k hx hk (by omega))⟩
    · intro h hh hp0
      have hne : h ≠ g := by
        intro q
        subst q
        exact hpg hp0
      rw [Co 27 0 h (by omega), oD2 27 0 h (by omega) (by omega), oD 27 0 h (by omega) (by omega)]
    · intro s k f hs
      rw [Co s k f (by omega), oD2 s k f (by omega) (by omega), oD s k f (by omega) (by omega)]
    · intro s k f hs
      rw [Ko s k f (by omega), oE2 s k f (by omega) (by omega), oE s k f (by omega) (by omega)]
    · rw [step8 rec]
      simp only [z1, L8, C1, Option.bind_some, ↓reduceIte]
    · rw [step9 rec]
      simp only [z1, L9, K1, Option.bind_some, ↓reduceIte]
  · -- some of the group still wait: all seats are taken
    have z1 : ¬ nI (W g - b) = (0 : Int32) := nI_ne0 (by omega) (by omega)
    refine ⟨f - b, up1 W g (W g - b), T, A, L, Q, D, E, by omega, .inl (by omega), ?_, ?_, ?_, ?_, ?_, ?_, fun rec => ?_, fun rec => ?_⟩
    · refine ⟨fun h hh => ?_, fun x hx => ?_⟩
      · obtain ⟨u1, u2, u3, u4, u5, u6, u7, u8, u9⟩ := D1 h hh
        have o8 (s : Nat) (hs : s ≠ 29 ∧ s ≠ 31) : D.1 s 0 h = d.1 s 0 h := oD s 0 h (by omega) (by omega)
        have o9 (s : Nat) (hs : s ≠ 85 ∧ s ≠ 93) : E.1 s 0 h = e.1 s 0 h := oE s 0 h (by omega) (by omega)
        rw [o8 24 (by omega), o8 25 (by omega), o8 27 (by omega), o8 30 (by omega), o9 84 (by omega), o9 86 (by omega), o9 87 (by omega), o9 91 (by omega)]
        refine ⟨u1, u2, ?_, ?_, u5, u6, u7, u8, u9⟩
        · by_cases eh : h = g
          · subst eh
            rw [up1_e]
            exact D31
          · rw [up1_o eh, oD 31 0 h (by omega) (by omega)]
            exact u3
        · by_cases eh : h = g
          · subst eh
            rw [up1_e]
            exact E85
          · rw [up1_o eh, oE 85 0 h (by omega) (by omega)]
            exact u4
      · obtain ⟨u1, u2, u3, u4⟩ := D2 x hx
        refine ⟨?_, ?_, ?_, fun k hk => ?_⟩
        · rw [oD 34 0 x (by omega) (by omega)]
          exact u1
        · rw [oE 89 0 x (by omega) (by omega)]
          exact u2
        · by_cases ex : x = l
          · subst ex
            rw [D29, E93]
          · rw [oD 29 0 x (by omega) (by omega), oE 93 0 x (by omega) (by omega)]
            exact u3
        · rw [oD 33 x k (by omega) (by omega), oE 88 0 _ (by omega) (by omega)]
          exact u4 k hk
    · refine ⟨fun h hh => ?_, fun x hx => ?_, I3⟩
      · obtain ⟨u0, u1, u2, u3, u4, u5⟩ := I1 h hh
        by_cases eh : h = g
        · subst eh
          rw [up1_e]
          refine ⟨u0, by omega, u2, u3, fun c hc => ?_, fun _ => u5 hwg⟩
          obtain ⟨v1, v2, _⟩ := u4 c hc
          exact absurd v2 hwg
        · rw [up1_o eh]
          exact ⟨u0, u1, u2, u3, u4, u5⟩
      · refine ⟨(I2 x hx).1, fun k hk => ?_⟩
        obtain ⟨v1, v2⟩ := (I2 x hx).2 k hk
        refine ⟨v1, ?_⟩
        by_cases eh : Q x k = g
        · rw [eh, up1_e]
          exact hz
        · rw [up1_o eh]
          exact v2
    · intro x hx hn
      refine ⟨rfl, fun k => rfl, fun k hk => up1_o (ng x k hx hk (by omega))⟩
    · intro h hh hp0
      exact oD 27 0 h (by omega) (by omega)
    · intro s k f hs
      exact oD s k f (by omega) (by omega)
    · intro s k f hs
      exact oE s k f (by omega) (by omega)
    · rw [step8 rec, if_neg z1]
    · rw [step9 rec, if_neg z1]
