/-! STAFFINGS, pure: the search by groups and the search by ways are one *** by hand -/
def fo {σ : Type} (f : σ → Nat → σ) : Nat → σ → σ
  | 0, s => s
  | n + 1, s => f (fo f n s) n
theorem fo_add {σ : Type} (f : σ → Nat → σ) (n : Nat) : ∀ (m : Nat) (s : σ), fo f (n + m) s = fo (fun s b => f s (n + b)) m (fo f n s)
  | 0, _ => rfl
  | m + 1, s => by
    show f (fo f (n + m) s) (n + m) = f (fo (fun s b => f s (n + b)) m (fo f n s)) (n + m)
    rw [fo_add f n m s]
theorem fo_mul {σ : Type} (f : σ → Nat → σ) (m : Nat) : ∀ (n : Nat) (s : σ), fo f (n * m) s = fo (fun s a => fo (fun s b => f s (a * m + b)) m s) n s
  | 0, s => by rw [Nat.zero_mul]; rfl
  | n + 1, s => by
    rw [Nat.succ_mul, fo_add, fo_mul f m n s]
    rfl
theorem fo_congr {σ : Type} {f g : σ → Nat → σ} : ∀ {n : Nat} {s : σ}, (∀ i, i < n → ∀ s, f s i = g s i) → fo f n s = fo g n s
  | 0, _, _ => rfl
  | n + 1, s, h => by
    show f (fo f n s) n = g (fo g n s) n
    rw [fo_congr (n := n) (fun i hi => h i (by omega)), h n (by omega)]
theorem fo_id {σ : Type} {f : σ → Nat → σ} : ∀ {n : Nat} {s : σ}, (∀ i, i < n → ∀ s, f s i = s) → fo f n s = s
  | 0, _, _ => rfl
  | n + 1, s, h => by
    show f (fo f n s) n = s
    rw [fo_id (n := n) (fun i hi => h i (by omega)), h n (by omega)]
theorem fo_ind {σ : Type} {f : σ → Nat → σ} (Q : σ → Prop) : ∀ {n : Nat} {s : σ}, Q s → (∀ i s, i < n → Q s → Q (f s i)) → Q (fo f n s)
  | 0, _, h, _ => h
  | n + 1, s, h, hs => hs n _ (by omega) (fo_ind (n := n) Q h (fun i s hi => hs i s (by omega)))
/-- the cheapest so far -/
def stc : Option (Nat × Nat) → Nat
  | none => 3999997
  | some (c, _) => c
def btb (t : Int32) (i : Nat) : Bool := decide ((t >>> (nI i &&& 31)) &&& (1 : Int32) = 0)
def tup (t : Int32) (i : Nat) : Int32 := t ||| ((1 : Int32) <<< (nI i &&& 31))
def okb (d : sk_D) (g : Nat) (t : Int32) (i : Nat) : Bool := ib d i && btb t i && tcb d i g
def wg (d : sk_D) (i : Nat) : Nat := (d.1 42 i 4).toNatClampNeg
def tf (d : sk_D) : Nat → Int32 → Nat → Nat → Option (Nat × Nat) → Option (Nat × Nat)
  | 0, _, c, P, s => if c < stc s then some (c, P) else s
  | r + 1, t, c, P, s => if acb d (3 - r) = true then fo (fun s i => if okb d (3 - r) t i = true then tf d r (tup t i) (c + wg d i) (P * 8 + i) s else s) 8 s else tf d r t c (P * 8) s
theorem tf_prune (d : sk_D) : ∀ (r : Nat) (t : Int32) (c P : Nat) (s : Option (Nat × Nat)), stc s ≤ c → tf d r t c P s = s
  | 0, t, c, P, s, h => if_neg (by omega)
  | r + 1, t, c, P, s, h => by
    show (if acb d (3 - r) = true then fo (fun s i => if okb d (3 - r) t i = true then tf d r (tup t i) (c + wg d i) (P * 8 + i) s else s) 8 s else tf d r t c (P * 8) s) = s
    split
    · have : ∀ n, fo (fun s i => if okb d (3 - r) t i = true then tf d r (tup t i) (c + wg d i) (P * 8 + i) s else s) n s = s := by
        intro n
        induction n with
        | zero => rfl
        | succ n ih =>
          show (if okb d (3 - r) t n = true then tf d r (tup t n) (c + wg d n) (P * 8 + n) (fo _ n s) else fo _ n s) = s
          rw [ih]
          split
          · exact tf_prune d r _ _ _ s (by omega)
          · rfl
      exact this 8
    · exact tf_prune d r _ _ _ s h
theorem tf_le (d : sk_D) : ∀ (r : Nat) (t : Int32) (c P : Nat) (s : Option (Nat × Nat)), stc (tf d r t c P s) ≤ stc s
  | 0, t, c, P, s => by
    show stc (if c < stc s then some (c, P) else s) ≤ stc s
    split
    · show c ≤ stc s
      omega
    · exact Nat.le_refl _
  | r + 1, t, c, P, s => by
    show stc (if acb d (3 - r) = true then fo (fun s i => if okb d (3 - r) t i = true then tf d r (tup t i) (c + wg d i) (P * 8 + i) s else s) 8 s else tf d r t c (P * 8) s) ≤ stc s
    split
    · refine fo_ind (fun s' => stc s' ≤ stc s) (Nat.le_refl _) (fun i s' _ h => ?_)
      show stc (if okb d (3 - r) t i = true then tf d r (tup t i) (c + wg d i) (P * 8 + i) s' else s') ≤ stc s
      split
      · exact Nat.le_trans (tf_le d r _ _ _ s') h
      · exact h
    · exact tf_le d r _ _ _ s
/-- the check of the first g digits -/
def ck (d : sk_D) : Nat → Nat → Option (Int32 × Nat)
  | 0, _ => some (0, 0)
  | g + 1, P => match ck d g (P / 8) with
    | none => none
    | some (t, c) => if acb d g = true then (if okb d g t (P % 8) = true then some (tup t (P % 8), c + wg d (P % 8)) else none) else (if P % 8 = 0 then some (t, c) else none)
def mst (d : sk_D) (s : Option (Nat × Nat)) (P : Nat) : Option (Nat × Nat) := match ck d 4 P with
  | none => s
  | some (_, c) => if c < stc s then some (c, P) else s
theorem fo_zero {σ : Type} (h : σ → σ) (s : σ) : fo (fun s a => if a = 0 then h s else s) 8 s = h s := by
  simp [fo]
theorem tmf (d : sk_D) : ∀ (r P : Nat) (s : Option (Nat × Nat)), r ≤ 4 → fo (fun s j => mst d s (P * 8 ^ r + j)) (8 ^ r) s = (match ck d (4 - r) P with
    | none => s
    | some (t, c) => tf d r t c P s)
  | 0, P, s, _ => by
    show mst d s (P * 8 ^ 0 + 0) = _
    rw [Nat.pow_zero, Nat.mul_one, Nat.add_zero]
    unfold mst
    rfl
  | r + 1, P, s, hr => by
    rw [show 8 ^ (r + 1) = 8 * 8 ^ r by rw [Nat.pow_succ, Nat.mul_comm], fo_mul]
    have e1 : ∀ a, a < 8 → ∀ s : Option (Nat × Nat), fo (fun s b => mst d s (P * (8 * 8 ^ r) + (a * 8 ^ r + b))) (8 ^ r) s = (match ck d (4 - r) (P * 8 + a) with
        | none => s
        | some (t, c) => tf d r t c (P * 8 + a) s) := by
      intro a _ s
      rw [← tmf d r (P * 8 + a) s (by omega)]
      refine fo_congr fun b _ s => ?_
      rw [show P * (8 * 8 ^ r) + (a * 8 ^ r + b) = (P * 8 + a) * 8 ^ r + b by rw [Nat.add_mul, Nat.mul_assoc, Nat.add_assoc]]
    rw [fo_congr e1]
    obtain ⟨g, hg⟩ : ∃ g, 4 - r = g + 1 := ⟨3 - r, by omega⟩
    have hg2 : 4 - (r + 1) = g := by omega
    have hg3 : 3 - r = g := by omega
    rw [hg, hg2]
    have e2 : ∀ a, a < 8 → ck d (g + 1) (P * 8 + a) = (match ck d g P with
        | none => none
        | some (t, c) => if acb d g = true then (if okb d g t a = true then some (tup t a, c + wg d a) else none) else (if a = 0 then some (t, c) else none)) := by
      intro a ha
      show (match ck d g ((P * 8 + a) / 8) with
        | none => none
        | some (t, c) => if acb d g = true then (if okb d g t ((P * 8 + a) % 8) = true then some (tup t ((P * 8 + a) % 8), c + wg d ((P * 8 + a) % 8)) else none) else (if (P * 8 + a) % 8 = 0 then some (t, c) else none)) = _
      rw [show (P * 8 + a) / 8 = P by omega, show (P * 8 + a) % 8 = a by omega]
    cases hc : ck d g P with
    | none =>
      refine fo_id fun a ha s => ?_
      rw [e2 a ha, hc]
    | some tc =>
      obtain ⟨t, c⟩ := tc
      show _ = (if acb d (3 - r) = true then fo (fun s i => if okb d (3 - r) t i = true then tf d r (tup t i) (c + wg d i) (P * 8 + i) s else s) 8 s else tf d r t c (P * 8) s)
      rw [hg3]
      by_cases ha : acb d g = true
      · rw [if_pos ha]
        refine fo_congr fun a ha8 s => ?_
        rw [e2 a ha8, hc]
        simp only [ha, ↓reduceIte]
        by_cases ho : okb d g t a = true
        · rw [if_pos ho, if_pos ho]
        · rw [if_neg ho, if_neg ho]
      · rw [if_neg ha, ← fo_zero (fun s => tf d r t c (P * 8) s) s]
        refine fo_congr fun a ha8 s => ?_
        rw [e2 a ha8, hc]
        simp only [ha, ↓reduceIte, Bool.false_eq_true]
        by_cases ho : a = 0
        · subst ho
          rfl
        · rw [if_neg ho, if_neg ho]
theorem tf_all (d : sk_D) : fo (mst d) 4096 none = tf d 4 0 0 0 none := by
  have h := tmf d 4 0 none (by omega)
  rw [show 4 - 4 = 0 from rfl, show (8 : Nat) ^ 4 = 4096 from rfl] at h
  rw [show ck d 0 0 = some (0, 0) from rfl] at h
  have h3 : fo (fun s j => mst d s (0 * 4096 + j)) 4096 none = tf d 4 0 0 0 none := h
  rw [← h3]
  refine fo_congr fun i _ s => ?_
  rw [Nat.zero_mul, Nat.zero_add]
/-- the digit of group h in a way of g digits -/
def dgt (g P h : Nat) : Nat := P / 8 ^ (g - 1 - h) % 8
theorem dgt_s {g P i h : Nat} (hi : i < 8) (hh : h < g) : dgt (g + 1) (P * 8 + i) h = dgt g P h := by
  unfold dgt
  rw [show g + 1 - 1 - h = (g - 1 - h) + 1 by omega, Nat.pow_succ, Nat.mul_comm (8 ^ (g - 1 - h)) 8, ← Nat.div_div_eq_div_mul, show (P * 8 + i) / 8 = P by omega]
theorem dgt_l {g P i : Nat} (hi : i < 8) : dgt (g + 1) (P * 8 + i) g = i := by
  unfold dgt
  rw [show g + 1 - 1 - g = 0 by omega, Nat.pow_zero, Nat.div_one]
  omega
theorem dgt_d {g P h : Nat} (hh : h < g) : dgt (g + 1) P h = dgt g (P / 8) h := by
  have := dgt_s (g := g) (P := P / 8) (i := P % 8) (h := h) (by omega) hh
  rw [show P / 8 * 8 + P % 8 = P by omega] at this
  exact this
theorem dgt_e {g P : Nat} : dgt (g + 1) P g = P % 8 := by
  have := dgt_l (g := g) (P := P / 8) (i := P % 8) (by omega)
  rw [show P / 8 * 8 + P % 8 = P by omega] at this
  exact this
theorem bt_all : (List.range 256).all (fun m => (List.range 8).all (fun i => decide (tup (nI m) i = nI (m ||| 2 ^ i)) && Nat.blt (m ||| 2 ^ i) 256 && (List.range 8).all (fun j => btb (tup (nI m) i) j == (btb (nI m) j && !decide (i = j))))) = true := by decide +kernel
theorem bt_dec (m : Nat) (hm : m < 256) (i : Nat) (hi : i < 8) : (∃ m', m' < 256 ∧ tup (nI m) i = nI m') ∧ ∀ j, j < 8 → btb (tup (nI m) i) j = (btb (nI m) j && !decide (i = j)) := by
  have h := List.all_eq_true.mp (List.all_eq_true.mp bt_all m (List.mem_range.mpr hm)) i (List.mem_range.mpr hi)
  rw [Bool.and_eq_true, Bool.and_eq_true, decide_eq_true_eq] at h
  refine ⟨⟨m ||| 2 ^ i, Nat.le_of_ble_eq_true h.1.2, h.1.1⟩, fun j hj => ?_⟩
  exact eq_of_beq (List.all_eq_true.mp h.2 j (List.mem_range.mpr hj))
/-- what a checked way says -/
theorem ck_ok (d : sk_D) : ∀ (g P : Nat) (t : Int32) (c : Nat), ck d g P = some (t, c) → (∃ m, m < 256 ∧ t = nI m) ∧ (∀ h, h < g → acb d h = true → ib d (dgt g P h) = true ∧ tcb d (dgt g P h) h = true ∧ btb t (dgt g P h) = false) ∧ ∀ h k, h < g → k < g → h ≠ k → acb d h = true → acb d k = true → dgt g P h ≠ dgt g P k
  | 0, P, t, c, hck => by
    cases hck
    exact ⟨⟨0, by omega, rfl⟩, fun h hh => absurd hh (Nat.not_lt_zero _), fun h k hh => absurd hh (Nat.not_lt_zero _)⟩
  | g + 1, P, t, c, hck => by
    have h' : (match ck d g (P / 8) with
      | none => none
      | some (t, c) => if acb d g = true then (if okb d g t (P % 8) = true then some (tup t (P % 8), c + wg d (P % 8)) else none) else (if P % 8 = 0 then some (t, c) else none)) = some (t, c) := hck
    cases hc : ck d g (P / 8) with
    | none => rw [hc] at h'; cases h'
    | some tc =>
      obtain ⟨t1, c1⟩ := tc
      rw [hc] at h'
      obtain ⟨⟨m, hm, em⟩, i2, i3⟩ := ck_ok d g (P / 8) t1 c1 hc
      by_cases ha : acb d g = true
      · simp only [ha, ↓reduceIte] at h'
        by_cases ho : okb d g t1 (P % 8) = true
        · rw [if_pos ho] at h'
          have e1 : tup t1 (P % 8) = t := congrArg (fun z => z.1) (Option.some.inj h')
          rw [em] at e1 i2
          obtain ⟨⟨m', hm', em'⟩, hb⟩ := bt_dec m hm (P % 8) (by omega)
          have ho2 := ho
          unfold okb at ho2
          rw [Bool.and_eq_true, Bool.and_eq_true, em] at ho2
          obtain ⟨⟨o1, o2⟩, o3⟩ := ho2
          have hd8 : ∀ g P h, dgt g P h < 8 := fun g P h => Nat.mod_lt _ (by omega)
          have neq : ∀ h, h < g → acb d h = true → dgt g (P / 8) h ≠ P % 8 := by
            intro h hh hah q
            have := (i2 h hh hah).2.2
            rw [q, o2] at this
            cases this
          refine ⟨⟨m', hm', by rw [← e1, em']⟩, fun h hh hah => ?_, fun h k hh hk hne hah hak => ?_⟩
          · rw [← e1]
            by_cases eh : h = g
            · subst eh
              rw [dgt_e, hb _ (by omega), decide_eq_true rfl]
              exact ⟨o1, o3, Bool.and_false _⟩
            · rw [dgt_d (by omega), hb _ (hd8 _ _ _)]
              obtain ⟨u1, u2, u3⟩ := i2 h (by omega) hah
              rw [u3]
              exact ⟨u1, u2, rfl⟩
          · by_cases eh : h = g
            · subst eh
              rw [dgt_e, dgt_d (by omega)]
              exact fun q => neq k (by omega) hak q.symm
            · by_cases ek : k = g
              · subst ek
                rw [dgt_e, dgt_d (by omega)]
                exact neq h (by omega) hah
              · rw [dgt_d (by omega), dgt_d (by omega)]
                exact i3 h k (by omega) (by omega) hne hah hak
        · rw [if_neg ho] at h'
          cases h'
      · simp only [ha, ↓reduceIte, Bool.false_eq_true] at h'
        have e1 : t1 = t := by
          by_cases ho : P % 8 = 0
          · rw [if_pos ho] at h'
            exact congrArg (fun z => z.1) (Option.some.inj h')
          · rw [if_neg ho] at h'
            cases h'
        rw [← e1]
        refine ⟨⟨m, hm, em⟩, fun h hh hah => ?_, fun h k hh hk hne hah hak => ?_⟩
        · by_cases eh : h = g
          · subst eh
            exact absurd hah ha
          · rw [dgt_d (by omega)]
            exact i2 h (by omega) hah
        · by_cases eh : h = g
          · subst eh
            exact absurd hah ha
          · by_cases ek : k = g
            · subst ek
              exact absurd hak ha
            · rw [dgt_d (by omega), dgt_d (by omega)]
              exact i3 h k (by omega) (by omega) hne hah hak
theorem ck_c (d : sk_D) (hw : ∀ i, i < 8 → ib d i = true → wg d i ≤ 999999) : ∀ (g P : Nat) (t : Int32) (c : Nat), ck d g P = some (t, c) → c ≤ g * 999999
  | 0, P, t, c, h => by
    cases h
    omega
  | g + 1, P, t, c, h => by
    have h' : (match ck d g (P / 8) with
      | none => none
      | some (t, c) => if acb d g = true then (if okb d g t (P % 8) = true then some (tup t (P % 8), c + wg d (P % 8)) else none) else (if P % 8 = 0 then some (t, c) else none)) = some (t, c) := h
    cases hc : ck d g (P / 8) with
    | none => rw [hc] at h'; cases h'
    | some tc =>
      obtain ⟨t1, c1⟩ := tc
      rw [hc] at h'
      have ih := ck_c d hw g (P / 8) t1 c1 hc
      by_cases ha : acb d g = true
      · simp only [ha, ↓reduceIte] at h'
        by_cases ho : okb d g t1 (P % 8) = true
        · rw [if_pos ho] at h'
          have e1 : c1 + wg d (P % 8) = c := congrArg (fun z => z.2) (Option.some.inj h')
          unfold okb at ho
          rw [Bool.and_eq_true, Bool.and_eq_true] at ho
          have := hw (P % 8) (by omega) ho.1.1
          omega
        · rw [if_neg ho] at h'
          cases h'
      · simp only [ha, ↓reduceIte, Bool.false_eq_true] at h'
        by_cases ho : P % 8 = 0
        · rw [if_pos ho] at h'
          have e1 : c1 = c := congrArg (fun z => z.2) (Option.some.inj h')
          omega
        · rw [if_neg ho] at h'
          cases h'
