/-! THE LAW, pure: its plans, one by one *** by hand -/
/-- does the pupil fit, is he out of level, the seats: by the law's rows -/
def lfit (Pf Gf : Nat → Int32) (p g : Nat) : Bool := ftb (Pf (3 * p)) (Pf (3 * p + 1)) (Gf (3 * g)) (Gf (3 * g + 1))
def llv (Pf Gf : Nat → Int32) (p g : Nat) : Bool := decide (¬ Gf (3 * g) = Pf (3 * p))
def lcap (Gf : Nat → Int32) (g : Nat) : Nat := (Gf (3 * g + 2)).toNatClampNeg
/-- the family's bit -/
def tbit (t f : Nat) : Bool := (t >>> f) % 2 == 1
/-- what the law's rows hold before plans are tried -/
def DL (X : sk_X) (pu gr b n m : Nat) (Pf Gf : Nat → Int32) : Prop :=
  AX X pu 24 Pf ∧ AX X gr 16 Gf ∧ b < X.1 ∧ X.2.1 b = 8 ∧ pu ≠ b ∧ gr ≠ b ∧ n ≤ 6 ∧ m ≤ 4 ∧ (∀ p, p < n → ∃ l, l < 8 ∧ Pf (3 * p) = nI l) ∧ (∀ g, g < m → ∃ l, l < 8 ∧ Gf (3 * g) = nI l) ∧ (∀ g, g < m → lcap Gf g ≤ 6 ∧ Gf (3 * g + 2) = nI (lcap Gf g)) ∧ (∀ p, p < n → Pf (3 * p + 2) = nI 8 ∨ ∃ f, f < 2 ∧ Pf (3 * p + 2) = nI f)
/-- .. and while they are: two more rows of 8 -/
def IX (X : sk_X) (b : Nat) (x : sk_X) : Prop := x.1 = X.1 + 2 ∧ x.2.1 X.1 = 8 ∧ x.2.1 (X.1 + 1) = 8 ∧ ∀ k, k < X.1 → x.2.1 k = X.2.1 k ∧ (k ≠ b → x.2.2 k = X.2.2 k)
theorem IX.ax {X x : sk_X} {b k n : Nat} {f : Nat → Int32} (h : IX X b x) (hA : AX X k n f) (hk : k ≠ b) : AX x k n f :=
  hA.fr (by have := h.1; have := hA.1; omega) (h.2.2.2 k hA.1).1 ((h.2.2.2 k hA.1).2 hk)
theorem IX.own {X x : sk_X} {b : Nat} (h : IX X b x) : AX x X.1 8 (x.2.2 X.1) := ⟨by have := h.1; omega, h.2.1, fun _ _ => rfl⟩
theorem IX.psz {X x : sk_X} {b : Nat} (h : IX X b x) : AX x (X.1 + 1) 8 (x.2.2 (X.1 + 1)) := ⟨by have := h.1; omega, h.2.2.1, fun _ _ => rfl⟩
theorem IX.bst {X x : sk_X} {b : Nat} (h : IX X b x) (hb : b < X.1) (h8 : X.2.1 b = 8) : AX x b 8 (x.2.2 b) := ⟨by have := h.1; omega, (h.2.2.2 b hb).1.trans h8, fun _ _ => rfl⟩
theorem IX.w {X x : sk_X} {b k : Nat} (h : IX X b x) (hk : X.1 ≤ k ∨ k = b) (j : Nat) (v : Int32) : IX X b (xw x k j v) := by
  refine ⟨h.1, h.2.1, h.2.2.1, fun i hi => ⟨(h.2.2.2 i hi).1, fun hb => ?_⟩⟩
  have e := (h.2.2.2 i hi).2 hb
  rw [← e]
  funext j'
  show (if i = k ∧ j' = j then v else x.2.2 i j') = x.2.2 i j'
  rw [if_neg (fun q => by omega)]
theorem xw_e {x : sk_X} {k j : Nat} {v : Int32} : (xw x k j v).2.2 k j = v := if_pos ⟨rfl, rfl⟩
theorem xw_o {x : sk_X} {k j k' j' : Nat} {v : Int32} (h : ¬ (k' = k ∧ j' = j)) : (xw x k j v).2.2 k' j' = x.2.2 k' j' := if_neg h
/-- the digit of pupil p in plan j -/
def dg (m n j p : Nat) : Nat := j / (m + 1) ^ (n - 1 - p) % (m + 1)
def mnL (m n : Nat) (a : Nat → Nat) : Nat → Nat
  | 0 => 0
  | t + 1 => mnL m n a t + if a (n - 1 - t) < m then 1 else 0
def ouL (m n : Nat) (lv : Nat → Nat → Bool) (a : Nat → Nat) : Nat → Nat
  | 0 => 0
  | t + 1 => ouL m n lv a t + if a (n - 1 - t) < m ∧ lv (n - 1 - t) (a (n - 1 - t)) = true then 1 else 0
def szL (n : Nat) (a : Nat → Nat) (g : Nat) : Nat → Nat
  | 0 => 0
  | t + 1 => szL n a g t + if a (n - 1 - t) = g then 1 else 0
def vaL (m n : Nat) (fit : Nat → Nat → Bool) (cap : Nat → Nat) (a : Nat → Nat) : Nat → Bool
  | 0 => true
  | t + 1 => vaL m n fit cap a t && (!decide (a (n - 1 - t) < m) || (fit (n - 1 - t) (a (n - 1 - t)) && decide (szL n a (a (n - 1 - t)) (t + 1) ≤ cap (a (n - 1 - t)))))
/-- families: of p with those before him -/
def fok (Pf : Nat → Int32) (t : Nat) (a : Nat → Nat) (p q : Nat) : Bool := decide (Pf (3 * p + 2) = 8) || !decide (Pf (3 * q + 2) = Pf (3 * p + 2)) || !tbit t (Pf (3 * p + 2)).toNatClampNeg || decide (a p = a q)
def faQ (Pf : Nat → Int32) (t : Nat) (a : Nat → Nat) (p : Nat) : Nat → Bool
  | 0 => true
  | q + 1 => faQ Pf t a p q && fok Pf t a p q
def faP (Pf : Nat → Int32) (t : Nat) (a : Nat → Nat) : Nat → Bool
  | 0 => true
  | p + 1 => faP Pf t a p && faQ Pf t a p p
theorem mnL_le (m n : Nat) (a : Nat → Nat) : ∀ t, mnL m n a t ≤ t
  | 0 => Nat.le_refl _
  | t + 1 => by
    have := mnL_le m n a t
    show mnL m n a t + _ ≤ t + 1
    split <;> omega
theorem ouL_le (m n : Nat) (lv : Nat → Nat → Bool) (a : Nat → Nat) : ∀ t, ouL m n lv a t ≤ mnL m n a t
  | 0 => Nat.le_refl _
  | t + 1 => by
    have := ouL_le m n lv a t
    show ouL m n lv a t + _ ≤ mnL m n a t + _
    split
    · rename_i h
      rw [if_pos h.1]
      omega
    · omega
theorem szL_le (n : Nat) (a : Nat → Nat) (g : Nat) : ∀ t, szL n a g t ≤ t
  | 0 => Nat.le_refl _
  | t + 1 => by
    have := szL_le n a g t
    show szL n a g t + _ ≤ t + 1
    split <;> omega
theorem dg_lt (m n j p : Nat) : dg m n j p < m + 1 := Nat.mod_lt _ (Nat.succ_pos m)
theorem nI3 : (3 : Int32) = nI 3 := rfl
section LP
variable {X x : sk_X} {pu gr b n m : Nat} {Pf Gf : Nat → Int32}
theorem fits_q (hD : DL X pu gr b n m Pf Gf) (hI : IX X b x) {p g : Nat} (hp : p < n) (hg : g < m) : q_L_fits x (nI p) (nI g) pu gr = some (bI (lfit Pf Gf p g)) := by
  obtain ⟨hP, hG, _, _, hpb, hgb, hn, hm, hl, hl2, _⟩ := hD
  have aP := hI.ax hP hpb
  have aG := hI.ax hG hgb
  obtain ⟨a, ha, ea⟩ := hl p hp
  obtain ⟨c, hc, ec⟩ := hl2 g hg
  unfold q_L_fits q_L_fits_0 lfit ftb
  rw [nI3, pk_mul, pk_mul, nI_1, nI_1, if_pos (aP.b (by omega) (by omega)), if_pos (aG.b (by omega) (by omega)), aP.l (by omega) (by omega), aG.l (by omega) (by omega), ea, ec, if_pos (aP.b (by omega) (by omega)), if_pos (aG.b (by omega) (by omega)), aP.l (by omega) (by omega), aG.l (by omega) (by omega)]
  have hd := fit_dec a ha c hc
  by_cases h1 : (nI a - nI c : Int32) < -1
  · rw [if_pos h1, decide_eq_true (hd.mp (.inl h1))]
    rfl
  · rw [if_neg h1]
    by_cases h2 : (1 : Int32) < nI a - nI c
    · rw [if_pos h2, decide_eq_true (hd.mp (.inr h2))]
      rfl
    · rw [if_neg h2, decide_eq_false (fun z => (hd.mpr z).elim h1 h2)]
      by_cases h3 : ((Pf (3 * p + 1)) >>> ((Gf (3 * g + 1)) &&& 31)) &&& (1 : Int32) = (1 : Int32)
      · rw [if_pos h3, decide_eq_true h3]
        rfl
      · rw [if_neg h3, decide_eq_false h3]
        rfl
/-- the sizes start anew -/
theorem bp57 (hD : DL X pu gr b n m Pf Gf) (hI : IX X b x) (x0 : Nat) (v2 v6 v9 v10 v11 : Int32) (k3 k4 : Nat) : ∃ x', (IX X b x' ∧ (∀ g, g < m → x'.2.2 (X.1 + 1) g = 0) ∧ x'.2.2 b = x.2.2 b) ∧ ∀ r47, l_L_bestPlan_57 r47 x0 sk_fu (x, nI n, nI m, v2, k3, k4, b, v6, X.1, X.1 + 1, v9, v10, v11, 0) = l_L_bestPlan_93 r47 x0 sk_fu (x', nI n, nI m, v2, k3, k4, b, v6, X.1, X.1 + 1, v9, v10, v11, v11, 0, 0, 1, nI n - 1) := by
  obtain ⟨_, _, hb, _, _, _, hn, hm, _⟩ := hD
  have main := it_cn (F := fun r47 rec57 a => q_L_bestPlan_57 r47 rec57 x0 a.1 a.2.1 a.2.2.1 a.2.2.2.1 a.2.2.2.2.1 a.2.2.2.2.2.1 a.2.2.2.2.2.2.1 a.2.2.2.2.2.2.2.1 a.2.2.2.2.2.2.2.2.1 a.2.2.2.2.2.2.2.2.2.1 a.2.2.2.2.2.2.2.2.2.2.1 a.2.2.2.2.2.2.2.2.2.2.2.1 a.2.2.2.2.2.2.2.2.2.2.2.2.1 a.2.2.2.2.2.2.2.2.2.2.2.2.2)
    (fun r47 x' => l_L_bestPlan_93 r47 x0 sk_fu (x', nI n, nI m, v2, k3, k4, b, v6, X.1, X.1 + 1, v9, v10, v11, v11, 0, 0, 1, nI n - 1))
    (fun j a => ∃ x', a = (x', nI n, nI m, v2, k3, k4, b, v6, X.1, X.1 + 1, v9, v10, v11, nI j) ∧ IX X b x' ∧ (∀ g, g < j → x'.2.2 (X.1 + 1) g = 0) ∧ x'.2.2 b = x.2.2 b)
    (fun x' => IX X b x' ∧ (∀ g, g < m → x'.2.2 (X.1 + 1) g = 0) ∧ x'.2.2 b = x.2.2 b) m (fun j a hj hp => ?_) (fun a hp => ?_) (by omega) (x, nI n, nI m, v2, k3, k4, b, v6, X.1, X.1 + 1, v9, v10, v11, 0) ⟨x, rfl, hI, fun g hg => absurd hg (Nat.not_lt_zero g), rfl⟩
  · exact main
  · obtain ⟨x', rfl, h1, h2, h3⟩ := hp
    refine ⟨_, ⟨xw x' (X.1 + 1) j 0, rfl, h1.w (.inl (by omega)) j 0, fun g hg => ?_, ?_⟩, fun r47 rec => ?_⟩
    · by_cases e : g = j
      · rw [e, xw_e]
      · rw [xw_o (fun q => e q.2)]
        exact h2 g (by omega)
    · rw [← h3]
      funext j'
      exact xw_o (by omega)
    · show q_L_bestPlan_57 r47 rec x0 x' (nI n) (nI m) v2 k3 k4 b v6 X.1 (X.1 + 1) v9 v10 v11 (nI j) = _
      unfold q_L_bestPlan_57
      rw [if_neg (nI_ge hj (by omega)), if_pos (h1.psz.b (by omega) (by omega)), nI_clamp (by omega), nI_1]
  · obtain ⟨x', rfl, h1, h2, h3⟩ := hp
    refine ⟨x', ⟨h1, h2, h3⟩, fun r47 rec => ?_⟩
    show q_L_bestPlan_57 r47 rec x0 x' (nI n) (nI m) v2 k3 k4 b v6 X.1 (X.1 + 1) v9 v10 v11 (nI m) = _
    unfold q_L_bestPlan_57
    rw [if_pos (nI_le (Nat.le_refl _) (by omega))]
end LP
