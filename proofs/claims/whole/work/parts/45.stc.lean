/-! staff *** by hand -/
theorem it_or {α β : Type} {F : (α → Option β) → α → Option β} {P : Nat → α → Prop} {Q : β → Prop} {N : Nat}
    (hs : ∀ j a, P j a → (∃ r, Q r ∧ ∀ rec, F rec a = some r) ∨ (j < N ∧ ∃ b, P (j + 1) b ∧ ∀ rec, F rec a = rec b)) :
    ∀ (m i fl : Nat) (a : α), i + m = N → m < fl → P i a → ∃ r, sk_it F fl a = some r ∧ Q r
  | 0, _, 0, _, _, h, _ => absurd h (Nat.lt_irrefl 0)
  | m + 1, _, 0, _, _, h, _ => absurd h (by omega)
  | 0, i, fl + 1, a, hi, _, hp => by
    rcases hs i a hp with ⟨r, h1, h2⟩ | ⟨h, _⟩
    · exact ⟨r, h2 _, h1⟩
    · omega
  | m + 1, i, fl + 1, a, hi, h, hp => by
    rcases hs i a hp with ⟨r, h1, h2⟩ | ⟨_, b, h1, h2⟩
    · exact ⟨r, h2 _, h1⟩
    · obtain ⟨r, h3, h4⟩ := it_or hs m (i + 1) fl b (by omega) (by omega) h1
      exact ⟨r, (h2 _).trans h3, h4⟩
theorem it_or0 {α β : Type} {F : (α → Option β) → α → Option β} (P : Nat → α → Prop) (Q : β → Prop) (N : Nat)
    (hs : ∀ j a, P j a → (∃ r, Q r ∧ ∀ rec, F rec a = some r) ∨ (j < N ∧ ∃ b, P (j + 1) b ∧ ∀ rec, F rec a = rec b)) (hN : N < 5000) (a : α) (h0 : P 0 a) : ∃ r, sk_it F sk_fu a = some r ∧ Q r := it_or hs N 0 sk_fu a (by omega) hN h0
theorem si9 (e : sk_D) {P g : Nat} (hP : P < 4096) (hg : g < 4) : q_X9_staffIn e (nI P) (nI g) = some (nI (dgt 4 P g)) := by
  unfold dgt
  simp only [q_X9_staffIn, q_X9_staffIn_0]
  have h7 : ∀ n, n < 2 ^ 32 → nI n &&& (7 : Int32) = nI (n % 8) := fun n hn => pk_andN hn 3 (by decide)
  match g, hg with
  | 0, _ => rw [pk_shrN (by omega) _ 9 (by decide), h7 _ (by omega)]
  | 1, _ => rw [pk_shrN (by omega) _ 6 (by decide), h7 _ (by omega)]
  | 2, _ => rw [pk_shrN (by omega) _ 3 (by decide), h7 _ (by omega)]
  | 3, _ => rw [pk_shrN (by omega) _ 0 (by decide), h7 _ (by omega)]
/-- the check of the first g digits of a whole way -/
def cs (d : sk_D) (P g : Nat) : Option (Int32 × Nat) := ck d g (P / 8 ^ (4 - g))
theorem cs_s (d : sk_D) (P : Nat) {g : Nat} (hg : g < 4) : cs d P (g + 1) = (match cs d P g with
    | none => none
    | some (t, c) => if acb d g = true then (if okb d g t (dgt 4 P g) = true then some (tup t (dgt 4 P g), c + wg d (dgt 4 P g)) else none) else (if dgt 4 P g = 0 then some (t, c) else none)) := by
  have e1 : P / 8 ^ (4 - (g + 1)) / 8 = P / 8 ^ (4 - g) := by
    rw [Nat.div_div_eq_div_mul, show 4 - g = (4 - (g + 1)) + 1 by omega, Nat.pow_succ]
  have e2 : P / 8 ^ (4 - (g + 1)) % 8 = dgt 4 P g := by
    unfold dgt
    rw [show 4 - (g + 1) = 4 - 1 - g by omega]
  show (match ck d g (P / 8 ^ (4 - (g + 1)) / 8) with
    | none => none
    | some (t, c) => if acb d g = true then (if okb d g t (P / 8 ^ (4 - (g + 1)) % 8) = true then some (tup t (P / 8 ^ (4 - (g + 1)) % 8), c + wg d (P / 8 ^ (4 - (g + 1)) % 8)) else none) else (if P / 8 ^ (4 - (g + 1)) % 8 = 0 then some (t, c) else none)) = _
  rw [e1, e2]
  rfl
theorem cs_up (d : sk_D) (P : Nat) : ∀ m g, g + m = 4 → cs d P g = none → cs d P 4 = none
  | 0, g, hg, h => by
    have e : g = 4 := by omega
    subst e
    exact h
  | m + 1, g, hg, h => cs_up d P m (g + 1) (by omega) (by rw [cs_s d P (by omega), h])
def cres (d : sk_D) (P : Nat) : Int32 := match cs d P 4 with
  | none => -1
  | some (_, c) => nI c
theorem co9 {d e : sk_D} (hR : sk_R2 d e) {P : Nat} (hP : P < 4096) : q_X9_costOf e (nI P) = some (cres d P) := by
  have hd8 : ∀ g, dgt 4 P g < 8 := fun g => Nat.mod_lt _ (by omega)
  have key : ∃ r, l_X9_costOf_10 e sk_fu (nI P, (0 : Int32), (0 : Int32), (1 : Int32), (0 : Int32)) = some r ∧ r = cres d P := by
    refine it_or0 (F := fun rec a => q_X9_costOf_10 rec e a.1 a.2.1 a.2.2.1 a.2.2.2.1 a.2.2.2.2)
      (fun i a => i ≤ 4 ∧ ((∃ t c, cs d P i = some (t, c) ∧ a = (nI P, nI c, t, 1, nI i)) ∨ (cs d P 4 = none ∧ ∃ v2 v3, a = (nI P, v2, v3, 0, nI i)))) (fun r => r = cres d P) 4 ?_ (by omega) _ ⟨by omega, .inl ⟨0, 0, rfl, rfl⟩⟩
    rintro j a ⟨hj, h⟩
    rcases h with ⟨t, c, hc, rfl⟩ | ⟨hn, v2, v3, rfl⟩
    · by_cases hj4 : j = 4
      · subst hj4
        left
        refine ⟨nI c, ?_, fun rec => ?_⟩
        · unfold cres
          rw [hc]
        · show q_X9_costOf_10 rec e (nI P) (nI c) t 1 (nI 4) = _
          have l : (4 : Int32) ≤ nI 4 := ge_nI (n := 4) rfl (by omega) (by omega)
          simp only [q_X9_costOf_10, q_X9_costOf_103, l, i10, ↓reduceIte]
      · right
        have hj' : j < 4 := by omega
        refine ⟨hj', ?_⟩
        have lj : ¬ (4 : Int32) ≤ nI j := le_nI (n := 4) rfl hj' (by omega)
        have hs := cs_s d P hj'
        rw [hc] at hs
        have st := si9 e hP hj'
        have ac := ac9 hR hj'
        have hi8 := hd8 j
        have zi : (nI (dgt 4 P j) = (0 : Int32)) = (dgt 4 P j = 0) := propext (nI_eq (b := 0) (by omega) (by omega))
        generalize dgt 4 P j = i at hs st hi8 zi
        have ei := nI_clamp (n := i) (by omega)
        have bi : sk_bi (nI i) 8 = true := bi_nI (by omega) (by omega)
        cases ha : acb d j with
        | false =>
          rw [ha] at ac
          simp only [ha, ↓reduceIte, Bool.false_eq_true] at hs
          by_cases hi0 : i = 0
          · rw [if_pos hi0] at hs
            subst hi0
            have z0 : (nI 0 = (0 : Int32)) = True := eq_true rfl
            refine ⟨_, ⟨by omega, .inl ⟨t, c, hs, rfl⟩⟩, fun rec => ?_⟩
            show q_X9_costOf_10 rec e (nI P) (nI c) t 1 (nI j) = _
            simp only [q_X9_costOf_10, q_X9_costOf_95, q_X9_costOf_97, lj, i10, st, ac, bI_f, z0, Option.bind_some, s1_nI, ↓reduceIte]
          · rw [if_neg hi0] at hs
            refine ⟨_, ⟨by omega, .inr ⟨cs_up d P (4 - (j + 1)) (j + 1) (by omega) hs, nI c, t, rfl⟩⟩, fun rec => ?_⟩
            show q_X9_costOf_10 rec e (nI P) (nI c) t 1 (nI j) = _
            simp only [q_X9_costOf_10, q_X9_costOf_95, q_X9_costOf_97, lj, i10, st, ac, bI_f, zi, hi0, Option.bind_some, s1_nI, ↓reduceIte]
        | true =>
          rw [ha] at ac
          simp only [ha, ↓reduceIte] at hs
          have ho := acb_o hR.2.2.1.1 hj' ha
          have t9 := tc9 hR hi8 hj' ho
          have fail : (∀ rec : (Int32 × Int32 × Int32 × Int32 × Int32) → Option Int32, q_X9_costOf_10 rec e (nI P) (nI c) t 1 (nI j) = q_X9_costOf_62 rec e (nI P) (nI c) t (nI j) (nI i)) → okb d j t i = false → ∃ b, (j + 1 ≤ 4 ∧ ((∃ t c, cs d P (j + 1) = some (t, c) ∧ b = (nI P, nI c, t, 1, nI (j + 1))) ∨ (cs d P 4 = none ∧ ∃ v2 v3, b = (nI P, v2, v3, 0, nI (j + 1))))) ∧ ∀ rec, q_X9_costOf_10 rec e (nI P) (nI c) t 1 (nI j) = rec b := by
            intro hq hok
            rw [hok, if_neg Bool.false_ne_true] at hs
            refine ⟨(nI P, nI c + e.1 66 0 i, t ||| ((1 : Int32) <<< (nI i &&& 31)), 0, nI (j + 1)), ⟨by omega, .inr ⟨cs_up d P (4 - (j + 1)) (j + 1) (by omega) hs, _, _, rfl⟩⟩, fun rec => ?_⟩
            rw [hq rec]
            simp only [q_X9_costOf_62, q_X9_costOf_63, q_X9_costOf_97, bi, ei, s1_nI, ↓reduceIte]
          cases hic : ib d i && tcb d i j with
          | false =>
            rw [hic] at t9
            refine fail (fun rec => ?_) ?_
            · simp only [q_X9_costOf_10, lj, i10, st, ac, bI_t, bI_f, t9, Option.bind_some, ↓reduceIte]
            · unfold okb
              cases h1 : ib d i with
              | false => rfl
              | true =>
                rw [h1, Bool.true_and] at hic
                rw [hic, Bool.and_false]
          | true =>
            rw [hic] at t9
            rw [Bool.and_eq_true] at hic
            cases hbt : btb t i with
            | false =>
              have hb : ¬ ((t >>> (nI i &&& 31)) &&& (1 : Int32)) = 0 := by
                rw [← shr_e, hbt]
                exact Bool.false_ne_true
              refine fail (fun rec => ?_) ?_
              · simp only [q_X9_costOf_10, lj, i10, st, ac, bI_t, t9, hb, Option.bind_some, ↓reduceIte]
              · unfold okb
                rw [hbt, Bool.and_false, Bool.false_and]
            | true =>
              have hb : ((t >>> (nI i &&& 31)) &&& (1 : Int32)) = 0 := by
                rw [← shr_e, hbt]
              have hok : okb d j t i = true := by
                unfold okb
                rw [hic.1, hbt, hic.2]
                rfl
              rw [if_pos hok] at hs
              have e66 : e.1 66 0 i = nI (wg d i) := by
                have o1 := (hR.2.2.2.1.1.o1 hi8 hic.1).1
                obtain ⟨_, _, _, ⟨w, _, hw, ew⟩, _⟩ := hR.2.2.2.1.2 i hi8 o1
                rw [((hR.2.2.2.1.1 i hi8).2.2 o1).2.2.2.1]
                unfold wg
                rw [ew, nI_clamp (by omega)]
              refine ⟨_, ⟨by omega, .inl ⟨_, _, hs, rfl⟩⟩, fun rec => ?_⟩
              show q_X9_costOf_10 rec e (nI P) (nI c) t 1 (nI j) = _
              simp only [q_X9_costOf_10, q_X9_costOf_63, q_X9_costOf_97, lj, i10, st, ac, bI_t, t9, hb, bi, ei, e66, nI_add, Option.bind_some, s1_nI, ↓reduceIte]
              rfl
    · left
      refine ⟨-1, ?_, fun rec => ?_⟩
      · unfold cres
        rw [hn]
      · show q_X9_costOf_10 rec e (nI P) v2 v3 0 (nI j) = _
        by_cases l : (4 : Int32) ≤ nI j
        · simp only [q_X9_costOf_10, q_X9_costOf_103, l, ↓reduceIte]
        · simp only [q_X9_costOf_10, q_X9_costOf_103, l, ↓reduceIte]
  obtain ⟨r, h1, h2⟩ := key
  rw [h2] at h1
  exact h1
/-- the groups' instructors set, the first n of them -/
def sv8 (d : sk_D) : Nat → sk_D
  | 0 => d
  | n + 1 => sk_wi (sv8 d n) 39 n 4 (d.1 21 0 n)
def sv9 (v : Nat → Int32) (e : sk_D) : Nat → sk_D
  | 0 => e
  | n + 1 => sk_wi (sv9 v e n) 57 0 n (v n)
theorem sv8_o (d : sk_D) : ∀ (n s k f : Nat), ¬ (s = 39 ∧ f = 4 ∧ k < n) → (sv8 d n).1 s k f = d.1 s k f
  | 0, _, _, _, _ => rfl
  | n + 1, s, k, f, h => by
    show (sk_wi (sv8 d n) 39 n 4 _).1 s k f = _
    rw [wi_o (by omega), sv8_o d n s k f (by omega)]
theorem sv8_g (d : sk_D) : ∀ (n k : Nat), k < n → (sv8 d n).1 39 k 4 = d.1 21 0 k
  | 0, k, h => absurd h (Nat.not_lt_zero _)
  | n + 1, k, h => by
    show (sk_wi (sv8 d n) 39 n 4 (d.1 21 0 n)).1 39 k 4 = _
    by_cases e : k = n
    · subst e
      exact wi_e
    · rw [wi_o (by omega), sv8_g d n k (by omega)]
theorem sv9_o (v : Nat → Int32) (e : sk_D) : ∀ (n s k f : Nat), ¬ (s = 57 ∧ f < n) → (sv9 v e n).1 s k f = e.1 s k f
  | 0, _, _, _, _ => rfl
  | n + 1, s, k, f, h => by
    show (sk_wi (sv9 v e n) 57 0 n _).1 s k f = _
    rw [wi_o (by omega), sv9_o v e n s k f (by omega)]
theorem sv9_g (v : Nat → Int32) (e : sk_D) : ∀ (n k : Nat), k < n → (sv9 v e n).1 57 0 k = v k
  | 0, k, h => absurd h (Nat.not_lt_zero _)
  | n + 1, k, h => by
    show (sk_wi (sv9 v e n) 57 0 n (v n)).1 57 0 k = _
    by_cases e1 : k = n
    · subst e1
      exact wi_e
    · rw [wi_o (by omega), sv9_g v e n k (by omega)]
theorem sv8_F (d : sk_D) : ∀ n, sk_F8 d (sv8 d n)
  | 0 => sk_F8.rf d
  | n + 1 => (sv8_F d n).wi _ _ _ _ (by omega)
theorem sv9_F (v : Nat → Int32) (e : sk_D) : ∀ n, sk_F9 e (sv9 v e n)
  | 0 => sk_F9.rf e
  | n + 1 => (sv9_F v e n).wi _ _ _ _ (by omega)
theorem rP_e {d e e' : sk_D} (h : rP d e) (he : ∀ s f, 45 ≤ s → s ≤ 51 → e'.1 s 0 f = e.1 s 0 f) : rP d e' := by
  unfold rP at h ⊢
  simp only [he 45 _ (by omega) (by omega), he 46 _ (by omega) (by omega), he 47 _ (by omega) (by omega), he 48 _ (by omega) (by omega), he 49 _ (by omega) (by omega), he 50 _ (by omega) (by omega), he 51 _ (by omega) (by omega)]
  exact h
theorem ac9w {d e : sk_D} (hp : rP d e) {g : Nat} (hg : g < 4) (h53 : e.1 53 0 g = bI (ob d g)) : q_X9_isActive e (nI g) = some (bI (acb d g)) := by
  have eg := nI_clamp (n := g) (by omega)
  have bg : sk_bi (nI g) 4 = true := bi_nI (by omega) (by omega)
  unfold acb
  cases ho : ob d g with
  | false =>
    rw [ho] at h53
    simp only [q_X9_isActive, q_X9_isActive_0, bg, eg, h53, bI_f, i01, Bool.false_and, ↓reduceIte]
  | true =>
    rw [ho] at h53
    simp only [q_X9_isActive, q_X9_isActive_0, bg, eg, h53, bI_t, c9_sizeOf hp, Option.bind_some, Bool.true_and, kc_kn, le0_nI (kn20 _), ↓reduceIte]
    by_cases c : kn (gb d (nI g)) 20 = 0
    · rw [if_pos c, decide_eq_false (by omega)]
      rfl
    · rw [if_neg c, decide_eq_true (by omega)]
      rfl
theorem acb_same {d d' : sk_D} (h37 : ∀ k f, d'.1 37 k f = d.1 37 k f) (h39 : ∀ k, d'.1 39 k 0 = d.1 39 k 0) (g : Nat) : acb d' g = acb d g := by
  have ge : gb d' (nI g) = gb d (nI g) := by
    funext k
    unfold gb pb
    rw [h37, h37]
  unfold acb ob
  rw [ge, h39]
def v1s : Option (Nat × Nat) → Int32
  | none => -9
  | some (_, B) => nI B
def v2s : Option (Nat × Nat) → Int32
  | none => -1
  | some (c, _) => nI c
/-- the reference's search -/
theorem sta9 {d e : sk_D} (hR : sk_R2 d e) (hwg : ∀ i, i < 8 → ib d i = true → wg d i ≤ 999999) {r : Option (Int32 × sk_D)} (S : Option (Nat × Nat)) (hS : fo (mst d) 4096 none = S)
    (hr : (if v1s S = (-9 : Int32) then some ((-2 : Int32), e) else l_X9_staff_85 sk_fu (e, v1s S, v2s S, (0 : Int32))) = r) : q_X9_staff e = r := by
  show l_X9_staff_7 sk_fu (e, (-9 : Int32), (-1 : Int32), (0 : Int32)) = r
  refine it_for0 (F := fun rec a => q_X9_staff_7 rec a.1 a.2.1 a.2.2.1 a.2.2.2) (fun i => (e, v1s (fo (mst d) i none), v2s (fo (mst d) i none), nI i)) 4096 (fun j hj rec => ?_) (fun rec => ?_) (by omega)
  · obtain ⟨s, hs⟩ : ∃ s, fo (mst d) j none = s := ⟨_, rfl⟩
    have hs1 : fo (mst d) (j + 1) none = mst d s j := by
      rw [← hs]
      rfl
    show q_X9_staff_7 rec e (v1s (fo (mst d) j none)) (v2s (fo (mst d) j none)) (nI j) = rec (e, v1s (fo (mst d) (j + 1) none), v2s (fo (mst d) (j + 1) none), nI (j + 1))
    rw [hs, hs1]
    have hsB : ∀ c B, s = some (c, B) → B < 4096 ∧ c ≤ 4 * 999999 := by
      rw [← hs]
      refine fo_ind (fun s => ∀ c B, s = some (c, B) → B < 4096 ∧ c ≤ 4 * 999999) (fun c B h => by cases h) (fun i s' hi h c B h2 => ?_)
      unfold mst at h2
      cases hc : ck d 4 i with
      | none =>
        rw [hc] at h2
        exact h c B h2
      | some tc =>
        obtain ⟨t, c1⟩ := tc
        rw [hc] at h2
        have h3 : (if c1 < stc s' then some (c1, i) else s') = some (c, B) := h2
        by_cases hlt : c1 < stc s'
        · rw [if_pos hlt] at h3
          cases h3
          exact ⟨by omega, ck_c d hwg 4 _ _ _ hc⟩
        · rw [if_neg hlt] at h3
          exact h c B h3
    have lj : ¬ (4096 : Int32) ≤ nI j := le_nI (n := 4096) rfl hj (by omega)
    have co := co9 hR hj
    have ecs : cs d j 4 = ck d 4 j := by
      unfold cs
      rw [show 4 - 4 = 0 from rfl, Nat.pow_zero, Nat.div_one]
    unfold cres at co
    rw [ecs] at co
    unfold mst
    cases hc : ck d 4 j with
    | none =>
      rw [hc] at co
      have n1 : ((-1 : Int32) < 0) = True := eq_true (by decide)
      simp only [q_X9_staff_7, q_X9_staff_42, q_X9_staff_43, q_X9_staff_55, q_X9_staff_67, lj, co, n1, Option.bind_some, s1_nI, ↓reduceIte]
    | some tc =>
      obtain ⟨t, c⟩ := tc
      rw [hc] at co
      have hcb := ck_c d hwg 4 j t c hc
      have hp : ¬ nI c < 0 := nI_pos (by omega)
      have co' : q_X9_costOf e (nI j) = some (nI c) := co
      cases s with
      | none =>
        have hlt : c < stc none := by
          show c < 3999997
          omega
        simp only [q_X9_staff_7, q_X9_staff_38, q_X9_staff_43, q_X9_staff_55, q_X9_staff_67, lj, co', hp, v1s, hlt, v2s, i10, Option.bind_some, s1_nI, ↓reduceIte]
      | some cB =>
        obtain ⟨c', B⟩ := cB
        obtain ⟨hB, hc'⟩ := hsB c' B rfl
        have nB := nm_nI (j := B) (by omega)
        by_cases hlt : c < c'
        · have h2 : ¬ nI c' ≤ nI c := nI_ge hlt (by omega)
          have hlt' : c < stc (some (c', B)) := hlt
          simp only [q_X9_staff_7, q_X9_staff_38, q_X9_staff_43, q_X9_staff_55, q_X9_staff_67, lj, co', hp, v1s, nB, h2, hlt', v2s, i10, Option.bind_some, s1_nI, ↓reduceIte]
        · have h2 : nI c' ≤ nI c := nI_le (by omega) (by omega)
          have hlt' : ¬ c < stc (some (c', B)) := hlt
          simp only [q_X9_staff_7, q_X9_staff_42, q_X9_staff_43, q_X9_staff_55, q_X9_staff_67, lj, co', hp, v1s, nB, h2, hlt', v2s, i10, Option.bind_some, s1_nI, ↓reduceIte]
  · show q_X9_staff_7 rec e (v1s (fo (mst d) 4096 none)) (v2s (fo (mst d) 4096 none)) (nI 4096) = r
    rw [hS, ← hr]
    have l : (4096 : Int32) ≤ nI 4096 := ge_nI (n := 4096) rfl (by omega) (by omega)
    simp only [q_X9_staff_7, l, ↓reduceIte]
