/-! STAFFINGS, the law's and the class's: what a checked way is *** by hand -/
def tkn (d : sk_D) (v : Nat → Nat) (j : Nat) : Nat → Bool
  | 0 => false
  | g + 1 => tkn d v j g || (acb d g && decide (v g = j))
def vgc (d : sk_D) (v : Nat → Nat) : Nat → Bool
  | 0 => true
  | g + 1 => vgc d v g && (if acb d g = true then ib d (v g) && !tkn d v (v g) g && tcb d (v g) g else decide (v g = 0))
def cgc (d : sk_D) (v : Nat → Nat) : Nat → Nat
  | 0 => 0
  | g + 1 => cgc d v g + if acb d g = true then wg d (v g) else 0
theorem bt0 : ∀ j, j < 8 → btb 0 j = true := by decide +kernel
theorem ck_spec (d : sk_D) (v : Nat → Nat) : ∀ g P, (∀ h, h < g → v h = dgt g P h) → (ck d g P = none ∧ vgc d v g = false) ∨ ∃ t c, ck d g P = some (t, c) ∧ vgc d v g = true ∧ c = cgc d v g ∧ (∃ m, m < 256 ∧ t = nI m) ∧ ∀ j, j < 8 → btb t j = !tkn d v j g
  | 0, P, _ => .inr ⟨0, 0, rfl, rfl, rfl, ⟨0, by omega, rfl⟩, fun j hj => bt0 j hj⟩
  | g + 1, P, hv => by
    have e1 : ck d (g + 1) P = (match ck d g (P / 8) with
      | none => none
      | some (t, c) => if acb d g = true then (if okb d g t (P % 8) = true then some (tup t (P % 8), c + wg d (P % 8)) else none) else (if P % 8 = 0 then some (t, c) else none)) := rfl
    have e2 : vgc d v (g + 1) = (vgc d v g && (if acb d g = true then ib d (v g) && !tkn d v (v g) g && tcb d (v g) g else decide (v g = 0))) := rfl
    have e3 : cgc d v (g + 1) = cgc d v g + if acb d g = true then wg d (v g) else 0 := rfl
    have e4 : ∀ j, tkn d v j (g + 1) = (tkn d v j g || (acb d g && decide (v g = j))) := fun _ => rfl
    have hvg : P % 8 = v g := by rw [hv g (by omega), dgt_e]
    have hv8 : v g < 8 := by rw [← hvg]; exact Nat.mod_lt _ (by omega)
    rcases ck_spec d v g (P / 8) (fun h hh => by rw [hv h (by omega), dgt_d hh]) with ⟨i1, i2⟩ | ⟨t, c, i1, i2, i3, ⟨m, hm, em⟩, i5⟩
    · left
      rw [e1, i1, e2, i2]
      exact ⟨rfl, rfl⟩
    · rw [e1, i1, e2, i2, hvg, Bool.true_and]
      by_cases ha : acb d g = true
      · have eo : okb d g t (v g) = (ib d (v g) && !tkn d v (v g) g && tcb d (v g) g) := by
          unfold okb
          rw [i5 _ hv8]
        simp only [ha, ↓reduceIte]
        rw [← eo]
        by_cases ho : okb d g t (v g) = true
        · right
          obtain ⟨⟨m', hm', em'⟩, hb⟩ := bt_dec m hm (v g) hv8
          refine ⟨tup t (v g), c + wg d (v g), if_pos ho, ho, ?_, ⟨m', hm', by rw [em]; exact em'⟩, fun j hj => ?_⟩
          · rw [e3, if_pos ha, i3]
          · rw [e4, em, hb j hj, ← em, i5 j hj, ha, Bool.true_and, Bool.not_or]
        · left
          exact ⟨if_neg ho, (Bool.not_eq_true _).mp ho⟩
      · have hf := (Bool.not_eq_true _).mp ha
        simp only [ha, ↓reduceIte, Bool.false_eq_true]
        by_cases ho : v g = 0
        · right
          refine ⟨t, c, if_pos ho, decide_eq_true ho, ?_, ⟨m, hm, em⟩, fun j hj => ?_⟩
          · rw [e3, if_neg ha, i3]
            rfl
          · rw [e4, i5 j hj, hf, Bool.false_and, Bool.or_false]
        · left
          exact ⟨if_neg ho, decide_eq_false ho⟩
theorem tkn_iff {d : sk_D} {v : Nat → Nat} {j : Nat} : ∀ g, (tkn d v j g = true ↔ ∃ h, h < g ∧ acb d h = true ∧ v h = j)
  | 0 => ⟨fun h => by (cases h), fun ⟨h, hh, _⟩ => absurd hh (Nat.not_lt_zero h)⟩
  | g + 1 => by
    show (tkn d v j g || (acb d g && decide (v g = j))) = true ↔ _
    rw [Bool.or_eq_true, tkn_iff g, Bool.and_eq_true, decide_eq_true_eq]
    constructor
    · rintro (⟨h, h1, h2⟩ | h)
      · exact ⟨h, by omega, h2⟩
      · exact ⟨g, by omega, h⟩
    · rintro ⟨h, h1, h2⟩
      by_cases e : h = g
      · subst e
        exact .inr h2
      · exact .inl ⟨h, by omega, h2⟩
/-- a way the class may take -/
def VC (d : sk_D) (v : Nat → Nat) (n : Nat) : Prop := ∀ g, g < n → (acb d g = true → ib d (v g) = true ∧ tcb d (v g) g = true ∧ ∀ h, h < g → acb d h = true → v h ≠ v g) ∧ (acb d g = false → v g = 0)
theorem vgc_iff {d : sk_D} {v : Nat → Nat} : ∀ n, (vgc d v n = true ↔ VC d v n)
  | 0 => ⟨fun _ g h => absurd h (Nat.not_lt_zero g), fun _ => rfl⟩
  | n + 1 => by
    have e2 : vgc d v (n + 1) = (vgc d v n && (if acb d n = true then ib d (v n) && !tkn d v (v n) n && tcb d (v n) n else decide (v n = 0))) := rfl
    rw [e2, Bool.and_eq_true, vgc_iff n]
    have key : ((if acb d n = true then ib d (v n) && !tkn d v (v n) n && tcb d (v n) n else decide (v n = 0)) = true) ↔ ((acb d n = true → ib d (v n) = true ∧ tcb d (v n) n = true ∧ ∀ h, h < n → acb d h = true → v h ≠ v n) ∧ (acb d n = false → v n = 0)) := by
      cases ha : acb d n
      · rw [if_neg (by decide), decide_eq_true_eq]
        exact ⟨fun h => ⟨fun z => by (cases z), fun _ => h⟩, fun h => h.2 rfl⟩
      · rw [if_pos rfl, Bool.and_eq_true, Bool.and_eq_true, Bool.not_eq_true', ← Bool.not_eq_true, tkn_iff]
        constructor
        · rintro ⟨⟨h1, h2⟩, h3⟩
          exact ⟨fun _ => ⟨h1, h3, fun h hh hha q => h2 ⟨h, hh, hha, q⟩⟩, fun z => by (cases z)⟩
        · rintro ⟨h, _⟩
          obtain ⟨h1, h2, h3⟩ := h rfl
          exact ⟨⟨h1, fun ⟨h, hh, hha, q⟩ => h3 h hh hha q⟩, h2⟩
    rw [key]
    constructor
    · rintro ⟨h1, h2⟩ g hg
      by_cases e : g = n
      · subst e
        exact h2
      · exact h1 g (by omega)
    · intro h
      exact ⟨fun g hg => h g (by omega), h n (by omega)⟩
/-- the law's -/
def VL (m k : Nat) (tk : Nat → Nat → Bool) (Sz : Nat → Nat) (a : Nat → Nat) : Prop := ∀ g, g < m → (a g = k ↔ Sz g = 0) ∧ (a g < k → tk (a g) g = true ∧ ∀ h, g < h → h < m → a h ≠ a g)
theorem dq_iff {a : Nat → Nat} {g : Nat} : ∀ t, (dq a g t = true ↔ ∀ h, g < h → h < g + 1 + t → a h ≠ a g)
  | 0 => ⟨fun _ h h1 h2 => by omega, fun _ => rfl⟩
  | t + 1 => by
    show (dq a g t && !decide (a (g + 1 + t) = a g)) = true ↔ _
    rw [Bool.and_eq_true, dq_iff t, Bool.not_eq_true', decide_eq_false_iff_not]
    constructor
    · rintro ⟨h1, h2⟩ h g1 g2
      by_cases e : h = g + 1 + t
      · rw [e]
        exact h2
      · exact h1 h g1 (by omega)
    · intro h
      exact ⟨fun h' g1 g2 => h h' g1 (by omega), h _ (by omega) (by omega)⟩
theorem vsL_iff {m k : Nat} {tk : Nat → Nat → Bool} {Sz : Nat → Nat} {a : Nat → Nat} : ∀ t, t ≤ m → (vsL m k tk Sz a t = true ↔ ∀ g, m - t ≤ g → g < m → (a g = k ↔ Sz g = 0) ∧ (a g < k → tk (a g) g = true ∧ ∀ h, g < h → h < m → a h ≠ a g))
  | 0, _ => ⟨fun _ g h1 h2 => absurd h1 (by omega), fun _ => rfl⟩
  | t + 1, ht => by
    obtain ⟨g0, hg0⟩ : ∃ g0, m - 1 - t = g0 := ⟨_, rfl⟩
    have e2 : vsL m k tk Sz a (t + 1) = ((vsL m k tk Sz a t && (decide (a g0 = k) == decide (Sz g0 = 0))) && (!decide (a g0 < k) || (tk (a g0) g0 && dq a g0 t))) := by
      rw [← hg0]
      rfl
    have key : ((decide (a g0 = k) == decide (Sz g0 = 0)) = true ∧ (!decide (a g0 < k) || (tk (a g0) g0 && dq a g0 t)) = true) ↔ ((a g0 = k ↔ Sz g0 = 0) ∧ (a g0 < k → tk (a g0) g0 = true ∧ ∀ h, g0 < h → h < m → a h ≠ a g0)) := by
      rw [beq_iff_eq, decide_eq_decide, Bool.or_eq_true, Bool.not_eq_true', decide_eq_false_iff_not, Bool.and_eq_true, dq_iff, show g0 + 1 + t = m by omega]
      refine and_congr Iff.rfl ⟨fun h hl => h.elim (fun z => absurd hl z) id, fun h => ?_⟩
      by_cases hl : a g0 < k
      · exact .inr (h hl)
      · exact .inl hl
    rw [e2, Bool.and_eq_true, Bool.and_eq_true, vsL_iff t (by omega), and_assoc, key]
    constructor
    · rintro ⟨h1, h2⟩ g g1 g2
      by_cases e : g = g0
      · subst e
        exact h2
      · exact h1 g (by omega) g2
    · intro h
      exact ⟨fun g g1 g2 => h g (by omega) g2, h g0 (by omega) (by omega)⟩
theorem vsL_ok {m k : Nat} {tk : Nat → Nat → Bool} {Sz : Nat → Nat} {a : Nat → Nat} : vsL m k tk Sz a m = true ↔ VL m k tk Sz a := by
  rw [vsL_iff m (Nat.le_refl _)]
  exact ⟨fun h g hg => h g (by omega) hg, fun h g _ hg => h g hg⟩
/-- sums -/
def sm (f : Nat → Nat) : Nat → Nat
  | 0 => 0
  | n + 1 => sm f n + f n
theorem sm_congr {f g : Nat → Nat} : ∀ {n : Nat}, (∀ i, i < n → f i = g i) → sm f n = sm g n
  | 0, _ => rfl
  | n + 1, h => by
    show sm f n + f n = sm g n + g n
    rw [sm_congr (n := n) (fun i hi => h i (by omega)), h n (by omega)]
theorem sm_cut {f : Nat → Nat} {m : Nat} : ∀ {n : Nat}, m ≤ n → (∀ i, m ≤ i → i < n → f i = 0) → sm f n = sm f m
  | 0, h, _ => by
    obtain rfl : m = 0 := by omega
    rfl
  | n + 1, h, h2 => by
    by_cases e : m = n + 1
    · rw [e]
    · show sm f n + f n = sm f m
      rw [h2 n (by omega) (by omega), sm_cut (n := n) (by omega) (fun i h3 h4 => h2 i h3 (by omega))]
      rfl
theorem csL_sm {m k : Nat} {W a : Nat → Nat} : ∀ t, t ≤ m → sm (fun g => if a g < k then W (a g) else 0) m = sm (fun g => if a g < k then W (a g) else 0) (m - t) + csL m k W a t
  | 0, _ => rfl
  | t + 1, ht => by
    have ih := csL_sm (m := m) (k := k) (W := W) (a := a) t (by omega)
    have e : csL m k W a (t + 1) = csL m k W a t + if a (m - 1 - t) < k then W (a (m - 1 - t)) else 0 := rfl
    rw [ih, e, show m - t = (m - (t + 1)) + 1 by omega, show m - 1 - t = m - (t + 1) by omega]
    show sm _ (m - (t + 1)) + (if a (m - (t + 1)) < k then W (a (m - (t + 1))) else 0) + _ = _
    omega
theorem csL_e {m k : Nat} {W a : Nat → Nat} : csL m k W a m = sm (fun g => if a g < k then W (a g) else 0) m := by
  have := csL_sm (m := m) (k := k) (W := W) (a := a) m (Nat.le_refl _)
  rw [this, Nat.sub_self]
  show _ = 0 + _
  omega
theorem cgc_sm {d : sk_D} {v : Nat → Nat} : ∀ n, cgc d v n = sm (fun g => if acb d g = true then wg d (v g) else 0) n
  | 0 => rfl
  | n + 1 => by
    show cgc d v n + _ = sm _ n + _
    rw [cgc_sm n]
/-- the class's search, as the first best of all -/
def clv (d : sk_D) (P : Nat) : Bool := vgc d (dgt 4 P) 4
def clc (d : sk_D) (P : Nat) : Nat := cgc d (dgt 4 P) 4
theorem mst_bst {d : sk_D} (hc : ∀ P, clv d P = true → clc d P ≤ 16) : ∀ N, fo (mst d) N none = (bst (clv d) (fun P => 16 - clc d P) N).map (fun P => (clc d P, P))
  | 0 => rfl
  | N + 1 => by
    show mst d (fo (mst d) N none) N = _
    rw [mst_bst hc N]
    unfold mst
    rcases ck_spec d (dgt 4 N) 4 N (fun _ _ => rfl) with ⟨h1, h2⟩ | ⟨t, c, h1, h2, h3, _⟩
    · rw [h1, bst_v (show ¬ clv d N = true by unfold clv; rw [h2]; exact Bool.false_ne_true)]
    · have hv : clv d N = true := h2
      have hcN := hc N hv
      have h3 : c = clc d N := h3
      rw [h1]
      cases hz : bst (clv d) (fun P => 16 - clc d P) N with
      | none =>
        rw [bst_n hz hv]
        show (if c < stc none then some (c, N) else none) = some (clc d N, N)
        rw [if_pos (show c < stc none from (by omega : c < 3999997)), h3]
      | some i =>
        have hi : clv d i = true := by
          rcases bst_or (clv d) (fun P => 16 - clc d P) N with ⟨q, _⟩ | ⟨i', _, q, q2, _⟩
          · rw [q] at hz
            cases hz
          · rw [q] at hz
            cases hz
            exact q2
        have hci := hc i hi
        show (if c < stc (some (clc d i, i)) then some (c, N) else some (clc d i, i)) = _
        by_cases hl : c < clc d i
        · rw [bst_g hz hv (show 16 - clc d i < 16 - clc d N by omega), if_pos (show c < stc (some (clc d i, i)) from hl), h3]
          rfl
        · rw [bst_l hz (show ¬ 16 - clc d i < 16 - clc d N by omega), if_neg (show ¬ c < stc (some (clc d i, i)) from hl)]
          rfl
