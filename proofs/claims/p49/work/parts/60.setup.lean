/-! THE CLASS, as the law sets it up: pupils, groups, families *** by hand -/
/-- numbers that stand beside the class's as the reference's would -/
def ee (d : sk_D) : sk_D := (fun s _ f => match s with
  | 45 => d.1 37 f 0
  | 46 => d.1 37 f 1
  | 47 => d.1 37 f 2
  | 48 => d.1 37 f 3
  | 49 => d.1 37 f 4
  | 50 => d.1 38 (f / 4) (f % 4)
  | 51 => d.1 37 f 5
  | 52 => d.1 5 0 f
  | 53 => d.1 39 f 0
  | 54 => d.1 39 f 1
  | 55 => d.1 39 f 2
  | 56 => d.1 39 f 3
  | 57 => d.1 39 f 4
  | 58 => d.1 39 f 5
  | 59 => d.1 39 f 6
  | 60 => d.1 40 (f / 4) (f % 4)
  | 61 => d.1 41 (f / 4) (f % 4)
  | 71 => d.1 39 f 9
  | 72 => d.1 39 f 10
  | 62 => d.1 42 f 0
  | 63 => d.1 42 f 1
  | 64 => d.1 42 f 2
  | 65 => d.1 42 f 3
  | 66 => d.1 42 f 4
  | 67 => d.1 42 f 5
  | _ => 0, fun _ _ _ => 0)
def F01 (x : Int32) : Prop := x = 0 ∨ x = 1
theorem b01_F (b : Bool) : F01 (b01 b) := by
  cases b
  · exact .inl rfl
  · exact .inr rfl
theorem ee_P {d : sk_D} (h : ∀ k, k < 20 → F01 (d.1 37 k 0)) : rP d (ee d) := fun k hk => ⟨h k hk, rfl, fun _ => ⟨rfl, rfl, rfl, rfl, rfl, fun j hj => by
  show d.1 38 ((4 * k + j) / 4) ((4 * k + j) % 4) = d.1 38 k j
  rw [show (4 * k + j) / 4 = k by omega, show (4 * k + j) % 4 = j by omega]⟩⟩
theorem ee_G {d : sk_D} (h : ∀ g, g < 4 → F01 (d.1 39 g 0)) : rG d (ee d) := fun g hg => ⟨h g hg, rfl, rfl, rfl, fun _ => ⟨rfl, rfl, rfl, rfl, rfl, rfl, fun j hj _ => ⟨by
  show d.1 40 ((4 * g + j) / 4) ((4 * g + j) % 4) = d.1 40 g j
  rw [show (4 * g + j) / 4 = g by omega, show (4 * g + j) % 4 = j by omega], by
  show d.1 41 ((4 * g + j) / 4) ((4 * g + j) % 4) = d.1 41 g j
  rw [show (4 * g + j) / 4 = g by omega, show (4 * g + j) % 4 = j by omega]⟩⟩⟩
theorem ee_F {d : sk_D} (h : ∀ f, f < 8 → F01 (d.1 5 0 f)) : rF d (ee d) := fun f hf => ⟨h f hf, rfl⟩
theorem ee_I {d : sk_D} (h : ∀ i, i < 8 → F01 (d.1 42 i 0)) : rI d (ee d) := fun i hi => ⟨h i hi, rfl, fun _ => ⟨rfl, rfl, rfl, rfl, rfl⟩⟩
/-- nobody has a group: no family is broken -/
theorem brk_0 {d : sk_D} {f : Int32} (h : ∀ k, k < 20 → d.1 37 k 0 = 1 → d.1 37 k 4 = -9) : ∀ i, i ≤ 20 → brk d f i = false ∧ (lgo d f i = none ∨ lgo d f i = some (-9))
  | 0, _ => ⟨rfl, .inl rfl⟩
  | i + 1, hi => by
    obtain ⟨h1, h2⟩ := brk_0 h i (by omega)
    have hm : mb d f i = true → d.1 37 i 4 = -9 := fun q => by
      unfold mb pb at q
      rw [Bool.and_eq_true, decide_eq_true_eq] at q
      exact h i (by omega) q.1
    have eb : brk d f (i + 1) = (brk d f i || (mb d f i && (match lgo d f i with
      | some g => decide (¬ d.1 37 i 4 = g)
      | none => false))) := rfl
    have el : lgo d f (i + 1) = if mb d f i = true then some (d.1 37 i 4) else lgo d f i := rfl
    rw [eb, el, h1]
    by_cases q : mb d f i = true
    · rw [if_pos q, hm q, q]
      refine ⟨?_, .inr rfl⟩
      rcases h2 with z | z <;> rw [z] <;> rfl
    · rw [if_neg q, (Bool.not_eq_true _).mp q]
      exact ⟨rfl, h2⟩
theorem sib0 {d : sk_D} (h01 : ∀ k, k < 20 → F01 (d.1 37 k 0)) (h : ∀ k, k < 20 → d.1 37 k 0 = 1 → d.1 37 k 4 = -9) {v : Int32} (hv : v = -9 ∨ ∃ f, f < 8 ∧ v = nI f) : q_X8_separateIfBroken d v = some (0, d) := by
  unfold q_X8_separateIfBroken q_X8_separateIfBroken_0
  rcases hv with rfl | ⟨f, hf, rfl⟩
  · have : q_X8_isFamily d (-9) = some 0 := by
      unfold q_X8_isFamily q_X8_isFamily_0
      rw [wi_m9 0 7 0 7 rfl rfl (by omega)]
      rfl
    rw [this]
    rfl
  · rw [isFa hf d, Option.bind_some, if_neg ne10, if_pos (bi_nI hf (by omega)), nI_clamp (by omega), c8_one (ee_P h01) (nI f), (brk_0 (f := nI f) h 20 (Nat.le_refl _)).1]
    split <;> rfl
/-- the class's other numbers, before anything is placed -/
def ZR (d : sk_D) (m : Nat) : Prop := (∀ g, g < m → d.1 39 g 4 = -9 ∧ d.1 39 g 5 = 0 ∧ d.1 39 g 6 = 0) ∧ (∀ g, g < 4 → d.1 39 g 9 = 0 ∧ d.1 39 g 10 = 0) ∧ (∀ i, i < 8 → d.1 42 i 0 = 0) ∧ d.1 0 0 9 = 0 ∧ ∀ l, l < 3 → d.1 43 l 3 = 0 ∧ d.1 43 l 4 = 0
def ZZ (d : sk_D) (n m t : Nat) (Pf Gf : Nat → Int32) : Prop := CL d n m t Pf Gf ∧ (∀ k, k < n → d.1 37 k 4 = -9 ∧ ∀ j, j < 4 → d.1 38 k j = -9) ∧ ZR d m
theorem cl_01 {d : sk_D} {n m t : Nat} {Pf Gf : Nat → Int32} (h : CL d n m t Pf Gf) : ∀ k, k < 20 → F01 (d.1 37 k 0) := fun k hk => by
  rw [h.2.2.1 k hk]
  exact b01_F _
theorem cl_n {d : sk_D} {n m t : Nat} {Pf Gf : Nat → Int32} (h : CL d n m t Pf Gf) {k : Nat} (hk : k < 20) (h1 : d.1 37 k 0 = 1) : k < n := by
  rw [h.2.2.1 k hk] at h1
  exact of_decide_eq_true (b01_1.mp h1)
theorem ZZ.no {d : sk_D} {n m t : Nat} {Pf Gf : Nat → Int32} (h : ZZ d n m t Pf Gf) : ∀ k, k < 20 → d.1 37 k 0 = 1 → d.1 37 k 4 = -9 := fun k hk h1 => (h.2.1 k (cl_n h.1 hk h1)).1
theorem en8_o {d : sk_D} {j : Nat} {v1 v2 v3 : Int32} {s k f : Nat} (h : ¬ (s = 37 ∧ k = j)) (h2 : ¬ (s = 38 ∧ k = j)) : (en8 d j v1 v2 v3).1 s k f = d.1 s k f := by
  unfold en8
  rw [fi_o (by omega), wi_o (by omega), wi_o (by omega), wi_o (by omega), wi_o (by omega), wi_o (by omega), wi_o (by omega)]
theorem en8_e {d : sk_D} {j : Nat} {v1 v2 v3 : Int32} : (en8 d j v1 v2 v3).1 37 j 0 = 1 ∧ (en8 d j v1 v2 v3).1 37 j 1 = v1 ∧ (en8 d j v1 v2 v3).1 37 j 2 = v2 ∧ (en8 d j v1 v2 v3).1 37 j 3 = v3 ∧ (en8 d j v1 v2 v3).1 37 j 4 = -9 := by
  refine ⟨?_, ?_, ?_, ?_, ?_⟩ <;> simp [en8, sk_fi, sk_wf, sk_wi, sk_up]
theorem za_add {d : sk_D} {n : Nat} {Pf Gf : Nat → Int32} (h : ZZ d n 0 0 Pf Gf) (hn : n < 6) {l g : Nat} (hl : l < 8) (hg1 : 1 ≤ g) (hg : g < 64) (e1 : Pf (3 * n) = nI l) (e2 : Pf (3 * n + 1) = nI g) (e3 : Pf (3 * n + 2) = nI 8 ∨ ∃ f, f < 2 ∧ Pf (3 * n + 2) = nI f) : ∃ d', q_X8_addPupil d (Pf (3 * n)) (Pf (3 * n + 1)) (if Pf (3 * n + 2) = 8 then -9 else Pf (3 * n + 2)) = some (nI n, d') ∧ ZZ d' (n + 1) 0 0 Pf Gf := by
  generalize hv : (if Pf (3 * n + 2) = 8 then -9 else Pf (3 * n + 2)) = v
  have hv8 : v = -9 ∨ ∃ f, f < 8 ∧ v = nI f := by
    rcases e3 with z | ⟨f, hf, z⟩
    · rw [z, if_pos (show nI 8 = (8 : Int32) from rfl)] at hv
      exact .inl hv.symm
    · rw [z, if_neg (nI_8 hf)] at hv
      exact .inr ⟨f, by omega, hv.symm⟩
  have h01 := cl_01 h.1
  refine ⟨en8 d n (nI l) (nI g) v, ?_, ?_⟩
  · have hfree : q_X8_freePupilNumber d = some (nI n) := by
      rcases c8_free (ee_P h01) with ⟨j, hj, j0, j1, j2⟩ | ⟨j1, _⟩
      · have : j = n := by
          have a1 : ¬ j < n := fun q => by
            unfold pb at j0
            rw [h.1.2.2.1 j hj, decide_eq_true q] at j0
            cases j0
          have a2 : ¬ n < j := fun q => by
            have := j1 n q
            unfold pb at this
            rw [h.1.2.2.1 n (by omega), decide_eq_false (Nat.lt_irrefl n)] at this
            cases this
          omega
        rw [this] at j2
        exact j2
      · have := j1 n (by omega)
        unfold pb at this
        rw [h.1.2.2.1 n (by omega), decide_eq_false (Nat.lt_irrefl n)] at this
        cases this
    have w1 := (wi_in l (a := nI l) (lo := 0) (hi := 7) 0 7 rfl rfl rfl (by omega) (by omega) (by omega)).1 d
    have w2 := (wi_in g (a := nI g) (lo := 1) (hi := 63) 1 63 rfl rfl rfl (by omega) (by omega) (by omega)).1 d
    have w3 := (wi_in n (a := nI n) (lo := 0) (hi := 19) 0 19 rfl rfl rfl (by omega) (by omega) (by omega)).1 d
    have en : q_X4_enrol d n (nI l) (nI g) v = some (en8 d n (nI l) (nI g) v) := rfl
    have s0 : q_X8_separateIfBroken (en8 d n (nI l) (nI g) v) v = some (0, en8 d n (nI l) (nI g) v) := by
      refine sib0 (fun k hk => ?_) (fun k hk h1 => ?_) hv8
      · by_cases q : k = n
        · rw [q, en8_e.1]
          exact .inr rfl
        · rw [en8_o (fun z => q z.2) (fun z => q z.2)]
          exact h01 k hk
      · by_cases q : k = n
        · rw [q]
          exact en8_e.2.2.2.2
        · rw [en8_o (fun z => q z.2) (fun z => q z.2)] at h1 ⊢
          exact h.no k hk h1
    have core : q_X8_addPupil_37 d (nI l) (nI g) v = some (nI n, en8 d n (nI l) (nI g) v) := by
      unfold q_X8_addPupil_37
      rw [hfree, Option.bind_some, w3, Option.bind_some, if_neg ne10, if_pos (bi_nI (by omega) (by omega)), nI_clamp (by omega), en, Option.bind_some, s0]
      rfl
    unfold q_X8_addPupil q_X8_addPupil_0
    rw [e1, e2, w1, Option.bind_some, if_neg ne10, w2, Option.bind_some, if_neg ne10, core]
    rcases hv8 with z | ⟨f, hf, z⟩
    · rw [if_pos z]
    · rw [z, if_neg (nm_nI (by omega)), isFa hf d]
      rfl
  · obtain ⟨⟨c1, c2, c3, c4, c5, c6, c7⟩, p4, z1, z2, z3, z4, z5⟩ := h
    have o : ∀ s k f, s ≠ 37 → s ≠ 38 → (en8 d n (nI l) (nI g) v).1 s k f = d.1 s k f := fun s k f a b => en8_o (fun z => a z.1) (fun z => b z.1)
    have oo : ∀ k f, k ≠ n → (en8 d n (nI l) (nI g) v).1 37 k f = d.1 37 k f := fun k f a => en8_o (fun z => a z.2) (fun z => a z.2)
    refine ⟨⟨by omega, c2, fun k hk => ?_, fun k hk => ?_, fun g' hg' => ?_, fun g' hg' => absurd hg' (Nat.not_lt_zero _), fun f hf => ?_⟩, fun k hk => ?_, fun g' hg' => absurd hg' (Nat.not_lt_zero _), fun g' hg' => ?_, fun i hi => ?_, ?_, fun l' hl' => ?_⟩
    · by_cases q : k = n
      · rw [q, en8_e.1, decide_eq_true (by omega)]
        rfl
      · rw [oo k 0 q, c3 k hk]
        congr 1
        exact decide_eq_decide.mpr (by omega)
    · by_cases q : k = n
      · subst q
        obtain ⟨_, q1, q2, q3, _⟩ := en8_e (d := d) (j := k) (v1 := nI l) (v2 := nI g) (v3 := v)
        exact ⟨q1.trans e1.symm, q2.trans e2.symm, q3.trans hv.symm, e3⟩
      · rw [oo k 1 q, oo k 2 q, oo k 3 q]
        exact c4 k (by omega)
    · rw [o 39 g' 0 (by omega) (by omega)]
      exact c5 g' hg'
    · rw [o 5 0 f (by omega) (by omega)]
      exact c7 f hf
    · by_cases q : k = n
      · rw [q]
        refine ⟨en8_e.2.2.2.2, fun j hj => ?_⟩
        unfold en8
        exact fi_e hj
      · rw [oo k 4 q]
        refine ⟨(p4 k (by omega)).1, fun j hj => ?_⟩
        rw [en8_o (fun z => by omega) (fun z => q z.2)]
        exact (p4 k (by omega)).2 j hj
    · rw [o 39 g' 9 (by omega) (by omega), o 39 g' 10 (by omega) (by omega)]
      exact z2 g' hg'
    · rw [o 42 i 0 (by omega) (by omega)]
      exact z3 i hi
    · rw [o 0 0 9 (by omega) (by omega)]
      exact z4
    · rw [o 43 l' 3 (by omega) (by omega), o 43 l' 4 (by omega) (by omega)]
      exact z5 l' hl'
