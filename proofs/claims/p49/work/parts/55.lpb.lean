/-! THE LAW, pure: families, the best plan so far, all plans *** by hand -/
theorem tb_dec : ∀ t, t < 4 → ∀ f, f < 2 → (((nI t >>> (nI f &&& 31)) &&& (1 : Int32)) = 0 ↔ tbit t f = false) := by decide +kernel
theorem tb_dec1 : ∀ t, t < 4 → ∀ f, f < 2 → (((nI t >>> (nI f &&& 31)) &&& (1 : Int32)) = 1 ↔ tbit t f = true) := by decide +kernel
def pvl (m n : Nat) (Pf Gf : Nat → Int32) (t j : Nat) : Bool := vaL m n (lfit Pf Gf) (lcap Gf) (dg m n j) n && faP Pf t (dg m n j) n
def psc (m n : Nat) (Pf Gf : Nat → Int32) (j : Nat) : Nat := 100 * mnL m n (dg m n j) n - ouL m n (llv Pf Gf) (dg m n j) n
/-- the best of the first plans -/
def bst (vl : Nat → Bool) (sc : Nat → Nat) : Nat → Option Nat
  | 0 => none
  | j + 1 => match bst vl sc j with
    | none => if vl j = true then some j else none
    | some i => if vl j = true ∧ sc i < sc j then some j else some i
theorem bst_or (vl : Nat → Bool) (sc : Nat → Nat) : ∀ N, (bst vl sc N = none ∧ ∀ i, i < N → vl i = false) ∨ ∃ i, i < N ∧ bst vl sc N = some i ∧ vl i = true ∧ (∀ k, k < N → vl k = true → sc k ≤ sc i) ∧ (∀ k, k < i → vl k = true → sc k < sc i)
  | 0 => .inl ⟨rfl, fun i hi => absurd hi (Nat.not_lt_zero i)⟩
  | N + 1 => by
    rcases bst_or vl sc N with ⟨h1, h2⟩ | ⟨i, h1, h2, h3, h4, h5⟩
    · have e : bst vl sc (N + 1) = if vl N = true then some N else none := by
        show (match bst vl sc N with | none => _ | some i => _) = _
        rw [h1]
      by_cases q : vl N = true
      · right
        rw [e, if_pos q]
        refine ⟨N, by omega, rfl, q, fun k hk hv => ?_, fun k hk hv => ?_⟩
        · by_cases ek : k = N
          · rw [ek]
            exact Nat.le_refl _
          · rw [h2 k (by omega)] at hv
            cases hv
        · rw [h2 k hk] at hv
          cases hv
      · left
        rw [e, if_neg q]
        refine ⟨rfl, fun i hi => ?_⟩
        by_cases ei : i = N
        · rw [ei]
          exact (Bool.not_eq_true _).mp q
        · exact h2 i (by omega)
    · have e : bst vl sc (N + 1) = if vl N = true ∧ sc i < sc N then some N else some i := by
        show (match bst vl sc N with | none => _ | some i => _) = _
        rw [h2]
      right
      rw [e]
      by_cases q : vl N = true ∧ sc i < sc N
      · rw [if_pos q]
        refine ⟨N, by omega, rfl, q.1, fun k hk hv => ?_, fun k hk hv => ?_⟩
        · by_cases ek : k = N
          · rw [ek]
            exact Nat.le_refl _
          · have := h4 k (by omega) hv
            omega
        · have := h4 k hk hv
          omega
      · rw [if_neg q]
        refine ⟨i, by omega, rfl, h3, fun k hk hv => ?_, h5⟩
        by_cases ek : k = N
        · subst ek
          exact Nat.not_lt.mp (fun z => q ⟨hv, z⟩)
        · exact h4 k (by omega) hv
theorem bst_v {vl : Nat → Bool} {sc : Nat → Nat} {j : Nat} (hv : ¬ vl j = true) : bst vl sc (j + 1) = bst vl sc j := by
  show (match bst vl sc j with | none => if vl j = true then some j else none | some i => if vl j = true ∧ sc i < sc j then some j else some i) = bst vl sc j
  cases bst vl sc j with
  | none => exact if_neg hv
  | some i => exact if_neg (fun q => hv q.1)
theorem bst_n {vl : Nat → Bool} {sc : Nat → Nat} {j : Nat} (h : bst vl sc j = none) (hv : vl j = true) : bst vl sc (j + 1) = some j := by
  show (match bst vl sc j with | none => if vl j = true then some j else none | some i => if vl j = true ∧ sc i < sc j then some j else some i) = some j
  rw [h]
  exact if_pos hv
theorem bst_l {vl : Nat → Bool} {sc : Nat → Nat} {j i : Nat} (h : bst vl sc j = some i) (hl : ¬ sc i < sc j) : bst vl sc (j + 1) = some i := by
  show (match bst vl sc j with | none => if vl j = true then some j else none | some i => if vl j = true ∧ sc i < sc j then some j else some i) = some i
  rw [h]
  exact if_neg (fun q => hl q.2)
theorem bst_g {vl : Nat → Bool} {sc : Nat → Nat} {j i : Nat} (h : bst vl sc j = some i) (hv : vl j = true) (hl : sc i < sc j) : bst vl sc (j + 1) = some j := by
  show (match bst vl sc j with | none => if vl j = true then some j else none | some i => if vl j = true ∧ sc i < sc j then some j else some i) = some j
  rw [h]
  exact if_pos ⟨hv, hl⟩
theorem pvl_e (m n : Nat) (Pf Gf : Nat → Int32) (t j : Nat) : (vaL m n (lfit Pf Gf) (lcap Gf) (dg m n j) n && faP Pf t (dg m n j) n) = pvl m n Pf Gf t j := rfl
theorem psc_e (m n : Nat) (Pf Gf : Nat → Int32) (j : Nat) : 100 * mnL m n (dg m n j) n - ouL m n (llv Pf Gf) (dg m n j) n = psc m n Pf Gf j := rfl
def mso (sc : Nat → Nat) : Option Nat → Int32
  | none => -1
  | some i => nI (sc i)
section LP
variable {X x : sk_X} {pu gr b n m : Nat} {Pf Gf : Nat → Int32}
theorem bp249 (hD : DL X pu gr b n m Pf Gf) (hI : IX X b x) {a : Nat → Nat} (ha : ∀ p, p < n → a p < m + 1 ∧ x.2.2 X.1 p = nI (a p)) {t : Nat} (ht : t < 4) {p : Nat} (hp : p < n) (v : Bool) (x0 : Nat) (v6 v9 v10 v11 v13 v14 : Int32)
    (r47 : (sk_X × Int32 × Int32 × Int32 × Nat × Nat × Nat × Int32 × Nat × Nat × Int32 × Int32 × Int32) → Option (Int32 × sk_X)) (r230 : (sk_X × Int32 × Int32 × Int32 × Nat × Nat × Nat × Int32 × Nat × Nat × Int32 × Int32 × Int32 × Int32 × Int32 × Int32 × Int32) → Option (Int32 × sk_X)) :
    l_L_bestPlan_249 r47 r230 x0 sk_fu (x, nI n, nI m, nI t, pu, gr, b, v6, X.1, X.1 + 1, v9, v10, v11, v13, v14, bI v, nI p, Pf (3 * p + 2), 0) = r230 (x, nI n, nI m, nI t, pu, gr, b, v6, X.1, X.1 + 1, v9, v10, v11, v13, v14, bI (v && faQ Pf t a p p), nI (p + 1)) := by
  obtain ⟨hP, hG, hb, _, hpb, hgb, hn, hm, hl, hl2, hcp, hf8⟩ := hD
  have aP := hI.ax hP hpb
  refine Eq.trans (congrArg (l_L_bestPlan_249 r47 r230 x0 sk_fu) (?_ : _ = (x, nI n, nI m, nI t, pu, gr, b, v6, X.1, X.1 + 1, v9, v10, v11, v13, v14, bI (v && faQ Pf t a p 0), nI p, Pf (3 * p + 2), nI 0))) (it_for0 (F := fun rec249 a => q_L_bestPlan_249 r47 r230 rec249 x0 a.1 a.2.1 a.2.2.1 a.2.2.2.1 a.2.2.2.2.1 a.2.2.2.2.2.1 a.2.2.2.2.2.2.1 a.2.2.2.2.2.2.2.1 a.2.2.2.2.2.2.2.2.1 a.2.2.2.2.2.2.2.2.2.1 a.2.2.2.2.2.2.2.2.2.2.1 a.2.2.2.2.2.2.2.2.2.2.2.1 a.2.2.2.2.2.2.2.2.2.2.2.2.1 a.2.2.2.2.2.2.2.2.2.2.2.2.2.1 a.2.2.2.2.2.2.2.2.2.2.2.2.2.2.1 a.2.2.2.2.2.2.2.2.2.2.2.2.2.2.2.1 a.2.2.2.2.2.2.2.2.2.2.2.2.2.2.2.2.1 a.2.2.2.2.2.2.2.2.2.2.2.2.2.2.2.2.2.1 a.2.2.2.2.2.2.2.2.2.2.2.2.2.2.2.2.2.2)
    (fun q => (x, nI n, nI m, nI t, pu, gr, b, v6, X.1, X.1 + 1, v9, v10, v11, v13, v14, bI (v && faQ Pf t a p q), nI p, Pf (3 * p + 2), nI q)) p (fun q hq rec => ?_) (fun rec => ?_) (by omega))
  · rw [show (v && faQ Pf t a p 0) = v from Bool.and_true v]
    rfl
  · show q_L_bestPlan_249 r47 r230 rec x0 x (nI n) (nI m) (nI t) pu gr b v6 X.1 (X.1 + 1) v9 v10 v11 v13 v14 (bI (v && faQ Pf t a p q)) (nI p) (Pf (3 * p + 2)) (nI q) = _
    have e7 : q_L_bestPlan_307 r47 r230 rec x0 x (nI n) (nI m) (nI t) pu gr b v6 X.1 (X.1 + 1) v9 v10 v11 v13 v14 (nI p) (Pf (3 * p + 2)) (nI q) = rec (x, nI n, nI m, nI t, pu, gr, b, v6, X.1, X.1 + 1, v9, v10, v11, v13, v14, 0, nI p, Pf (3 * p + 2), nI (q + 1)) := by
      unfold q_L_bestPlan_307 q_L_bestPlan_308
      rw [nI_1]
    have e3 : q_L_bestPlan_303 r47 r230 rec x0 x (nI n) (nI m) (nI t) pu gr b v6 X.1 (X.1 + 1) v9 v10 v11 v13 v14 (nI p) (Pf (3 * p + 2)) (nI q) = rec (x, nI n, nI m, nI t, pu, gr, b, v6, X.1, X.1 + 1, v9, v10, v11, v13, v14, 1, nI p, Pf (3 * p + 2), nI (q + 1)) := by
      unfold q_L_bestPlan_303 q_L_bestPlan_308
      rw [nI_1]
    have ef : faQ Pf t a p (q + 1) = (faQ Pf t a p q && fok Pf t a p q) := rfl
    have bp : xb x X.1 (nI p) = true := hI.own.b (by omega) (by omega)
    have bq : xb x X.1 (nI q) = true := hI.own.b (by omega) (by omega)
    have op : x.2.2 X.1 (nI p).toNatClampNeg = nI (a p) := by rw [nI_clamp (by omega)]; exact (ha p hp).2
    have oq : x.2.2 X.1 (nI q).toNatClampNeg = nI (a q) := by rw [nI_clamp (by omega)]; exact (ha q (by omega)).2
    have lp := (ha p hp).1
    have lq := (ha q (by omega)).1
    unfold q_L_bestPlan_249
    rw [if_neg (nI_ge hq (by omega)), bI_ite, e7, e3, ef]
    cases hv : (v && faQ Pf t a p q)
    · rw [if_neg (by decide)]
      have : (v && (faQ Pf t a p q && fok Pf t a p q)) = false := by
        rw [← Bool.and_assoc, hv]
        rfl
      rw [this]
      rfl
    · have e : (v && (faQ Pf t a p q && fok Pf t a p q)) = fok Pf t a p q := by
        rw [← Bool.and_assoc, hv]
        rfl
      rw [if_pos rfl, e]
      unfold fok
      by_cases h8 : Pf (3 * p + 2) = 8
      · rw [if_pos h8, decide_eq_true h8]
        rfl
      · rw [if_neg h8, decide_eq_false h8, nI3, pk_mul, show (2 : Int32) = nI 2 from rfl, nI_add, if_pos (aP.b (by omega) (by omega)), aP.l (by omega) (by omega)]
        by_cases hs : Pf (3 * q + 2) = Pf (3 * p + 2)
        · rw [if_pos hs, decide_eq_true hs]
          obtain ⟨f, hf, ef⟩ : ∃ f, f < 2 ∧ Pf (3 * p + 2) = nI f := by
            rcases hf8 p hp with z | z
            · exact absurd z h8
            · exact z
          have ec : (nI f).toNatClampNeg = f := nI_clamp (by omega)
          rw [ef, ec]
          cases hb : tbit t f
          · rw [if_pos ((tb_dec t ht f hf).mpr hb)]
            rfl
          · rw [if_neg (fun z => by rw [(tb_dec t ht f hf).mp z] at hb; cases hb), if_pos bp, if_pos bq, op, oq]
            by_cases hpq : a p = a q
            · rw [if_pos (by rw [hpq]), decide_eq_true hpq]
              rfl
            · rw [if_neg (fun z => hpq ((nI_eq (by omega) (by omega)).mp z)), decide_eq_false hpq]
              rfl
        · rw [if_neg hs, decide_eq_false hs]
          rfl
  · show q_L_bestPlan_249 r47 r230 rec x0 x (nI n) (nI m) (nI t) pu gr b v6 X.1 (X.1 + 1) v9 v10 v11 v13 v14 (bI (v && faQ Pf t a p p)) (nI p) (Pf (3 * p + 2)) (nI p) = _
    unfold q_L_bestPlan_249
    rw [if_pos (nI_le (Nat.le_refl _) (by omega)), nI_1]
/-- the families' check ends, and what follows it *** -/
theorem bp230 (hD : DL X pu gr b n m Pf Gf) (hI : IX X b x) {a : Nat → Nat} (ha : ∀ p, p < n → a p < m + 1 ∧ x.2.2 X.1 p = nI (a p)) {t : Nat} (ht : t < 4) (v : Bool) (x0 : Nat) (v6 v9 v10 v11 v13 v14 : Int32)
    (r47 : (sk_X × Int32 × Int32 × Int32 × Nat × Nat × Nat × Int32 × Nat × Nat × Int32 × Int32 × Int32) → Option (Int32 × sk_X)) :
    l_L_bestPlan_230 r47 x0 sk_fu (x, nI n, nI m, nI t, pu, gr, b, v6, X.1, X.1 + 1, v9, v10, v11, v13, v14, bI v, 0) = if (v && faP Pf t a n) = true then (if (100 : Int32) * v13 - v14 ≤ v9 then r47 (x, nI n, nI m, nI t, pu, gr, b, v6, X.1, X.1 + 1, v9, v10, v11 + 1) else l_L_bestPlan_357 r47 x0 sk_fu (x, nI n, nI m, nI t, pu, gr, b, v6, X.1, X.1 + 1, (100 : Int32) * v13 - v14, v13, v11, 0)) else r47 (x, nI n, nI m, nI t, pu, gr, b, v6, X.1, X.1 + 1, v9, v10, v11 + 1) := by
  have hD' := hD
  obtain ⟨hP, hG, hb, _, hpb, hgb, hn, hm, hl, hl2, hcp, hf8⟩ := hD'
  have aP := hI.ax hP hpb
  refine Eq.trans (congrArg (l_L_bestPlan_230 r47 x0 sk_fu) (?_ : _ = (x, nI n, nI m, nI t, pu, gr, b, v6, X.1, X.1 + 1, v9, v10, v11, v13, v14, bI (v && faP Pf t a 0), nI 0))) (it_for0 (F := fun rec230 a => q_L_bestPlan_230 r47 rec230 x0 a.1 a.2.1 a.2.2.1 a.2.2.2.1 a.2.2.2.2.1 a.2.2.2.2.2.1 a.2.2.2.2.2.2.1 a.2.2.2.2.2.2.2.1 a.2.2.2.2.2.2.2.2.1 a.2.2.2.2.2.2.2.2.2.1 a.2.2.2.2.2.2.2.2.2.2.1 a.2.2.2.2.2.2.2.2.2.2.2.1 a.2.2.2.2.2.2.2.2.2.2.2.2.1 a.2.2.2.2.2.2.2.2.2.2.2.2.2.1 a.2.2.2.2.2.2.2.2.2.2.2.2.2.2.1 a.2.2.2.2.2.2.2.2.2.2.2.2.2.2.2.1 a.2.2.2.2.2.2.2.2.2.2.2.2.2.2.2.2)
    (fun p => (x, nI n, nI m, nI t, pu, gr, b, v6, X.1, X.1 + 1, v9, v10, v11, v13, v14, bI (v && faP Pf t a p), nI p)) n (fun p hp rec => ?_) (fun rec => ?_) (by omega))
  · rw [show (v && faP Pf t a 0) = v from Bool.and_true v]
    rfl
  · show q_L_bestPlan_230 r47 rec x0 x (nI n) (nI m) (nI t) pu gr b v6 X.1 (X.1 + 1) v9 v10 v11 v13 v14 (bI (v && faP Pf t a p)) (nI p) = _
    unfold q_L_bestPlan_230
    rw [if_neg (nI_ge hp (by omega)), nI3, pk_mul, show (2 : Int32) = nI 2 from rfl, nI_add, if_pos (aP.b (by omega) (by omega)), aP.l (by omega) (by omega), bp249 hD hI ha ht hp, Bool.and_assoc]
    rfl
  · show q_L_bestPlan_230 r47 rec x0 x (nI n) (nI m) (nI t) pu gr b v6 X.1 (X.1 + 1) v9 v10 v11 v13 v14 (bI (v && faP Pf t a n)) (nI n) = _
    unfold q_L_bestPlan_230 q_L_bestPlan_379
    rw [if_pos (nI_le (Nat.le_refl _) (by omega)), bI_ite]
/-- the best plan is kept -/
theorem bp357 (hD : DL X pu gr b n m Pf Gf) (hI : IX X b x) (x0 : Nat) (v2 v6 v9 v10 v11 : Int32) : ∃ x', (IX X b x' ∧ ∀ p, p < n → x'.2.2 b p = x.2.2 X.1 p) ∧ ∀ r47, l_L_bestPlan_357 r47 x0 sk_fu (x, nI n, nI m, v2, pu, gr, b, v6, X.1, X.1 + 1, v9, v10, v11, 0) = r47 (x', nI n, nI m, v2, pu, gr, b, v6, X.1, X.1 + 1, v9, v10, v11 + 1) := by
  obtain ⟨_, _, hb, h8, _, _, hn, hm, _⟩ := hD
  have main := it_cn (F := fun r47 rec357 a => q_L_bestPlan_357 r47 rec357 x0 a.1 a.2.1 a.2.2.1 a.2.2.2.1 a.2.2.2.2.1 a.2.2.2.2.2.1 a.2.2.2.2.2.2.1 a.2.2.2.2.2.2.2.1 a.2.2.2.2.2.2.2.2.1 a.2.2.2.2.2.2.2.2.2.1 a.2.2.2.2.2.2.2.2.2.2.1 a.2.2.2.2.2.2.2.2.2.2.2.1 a.2.2.2.2.2.2.2.2.2.2.2.2.1 a.2.2.2.2.2.2.2.2.2.2.2.2.2)
    (fun r47 x' => r47 (x', nI n, nI m, v2, pu, gr, b, v6, X.1, X.1 + 1, v9, v10, v11 + 1))
    (fun j a => ∃ x', a = (x', nI n, nI m, v2, pu, gr, b, v6, X.1, X.1 + 1, v9, v10, v11, nI j) ∧ IX X b x' ∧ (∀ p, p < j → x'.2.2 b p = x.2.2 X.1 p) ∧ x'.2.2 X.1 = x.2.2 X.1)
    (fun x' => IX X b x' ∧ ∀ p, p < n → x'.2.2 b p = x.2.2 X.1 p) n (fun j a hj hp => ?_) (fun a hp => ?_) (by omega) (x, nI n, nI m, v2, pu, gr, b, v6, X.1, X.1 + 1, v9, v10, v11, 0) ⟨x, rfl, hI, fun g hg => absurd hg (Nat.not_lt_zero g), rfl⟩
  · exact main
  · obtain ⟨x', rfl, h1, h2, h3⟩ := hp
    refine ⟨_, ⟨xw x' b j (x'.2.2 X.1 j), rfl, h1.w (.inr rfl) j _, fun p hp => ?_, ?_⟩, fun r47 rec => ?_⟩
    · by_cases e : p = j
      · rw [e, xw_e, h3]
      · rw [xw_o (fun q => e q.2)]
        exact h2 p (by omega)
    · rw [← h3]
      funext j'
      exact xw_o (by omega)
    · show q_L_bestPlan_357 r47 rec x0 x' (nI n) (nI m) v2 pu gr b v6 X.1 (X.1 + 1) v9 v10 v11 (nI j) = _
      unfold q_L_bestPlan_357
      rw [if_neg (nI_ge hj (by omega)), if_pos (h1.own.b (by omega) (by omega)), if_pos ((h1.bst hb h8).b (by omega) (by omega)), nI_clamp (by omega), nI_1]
  · obtain ⟨x', rfl, h1, h2, h3⟩ := hp
    refine ⟨x', ⟨h1, h2⟩, fun r47 rec => ?_⟩
    show q_L_bestPlan_357 r47 rec x0 x' (nI n) (nI m) v2 pu gr b v6 X.1 (X.1 + 1) v9 v10 v11 (nI n) = _
    unfold q_L_bestPlan_357 q_L_bestPlan_379
    rw [if_pos (nI_le (Nat.le_refl _) (by omega))]
end LP
