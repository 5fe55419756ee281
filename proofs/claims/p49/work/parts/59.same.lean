/-! THE LAW's plan is the class's *** by hand -/
def b01 (b : Bool) : Int32 := if b = true then 1 else 0
/-- the class has the pupils, groups and families of the law's rows -/
def CL (d : sk_D) (n m t : Nat) (Pf Gf : Nat → Int32) : Prop :=
  n ≤ 6 ∧ m ≤ 4 ∧ (∀ k, k < 20 → d.1 37 k 0 = b01 (decide (k < n))) ∧
  (∀ k, k < n → d.1 37 k 1 = Pf (3 * k) ∧ d.1 37 k 2 = Pf (3 * k + 1) ∧ d.1 37 k 3 = (if Pf (3 * k + 2) = 8 then -9 else Pf (3 * k + 2)) ∧ (Pf (3 * k + 2) = nI 8 ∨ ∃ f, f < 2 ∧ Pf (3 * k + 2) = nI f)) ∧
  (∀ g, g < 4 → d.1 39 g 0 = b01 (decide (g < m))) ∧
  (∀ g, g < m → d.1 39 g 1 = Gf (3 * g) ∧ d.1 39 g 2 = Gf (3 * g + 1) ∧ d.1 39 g 3 = Gf (3 * g + 2)) ∧
  (∀ f, f < 8 → d.1 5 0 f = b01 (decide (f < 2) && tbit t f))
theorem b01_1 {b : Bool} : b01 b = 1 ↔ b = true := by cases b <;> decide
theorem b01_0 {b : Bool} : b01 b = 0 ↔ b = false := by cases b <;> decide
def cd (m : Nat) (a : Nat → Nat) (p : Nat) : Nat := if a p < m then a p + 1 else 0
def dc (m : Nat) (c : Nat → Nat) (p : Nat) : Nat := if c p = 0 then m else c p - 1
theorem nI_8 {f : Nat} (hf : f < 2) : ¬ nI f = (8 : Int32) := by
  rw [show (8 : Int32) = nI 8 from rfl, nI_eq (by omega) (by omega)]
  omega
section CL
variable {d : sk_D} {n m t : Nat} {Pf Gf : Nat → Int32}
theorem cl_p (h : CL d n m t Pf Gf) {k : Nat} (hk : k < 20) : pp (d.1 37) k = decide (k < n) := by
  unfold pp
  rw [h.2.2.1 k hk]
  cases hq : decide (k < n) <;> rfl
theorem cl_su (h : CL d n m t Pf Gf) {k g : Nat} (hk : k < n) (hg : g < 4) : su8 (d.1 37) (d.1 39) k g = (decide (g < m) && lfit Pf Gf k g) := by
  unfold su8 lfit
  obtain ⟨e1, e2, _⟩ := h.2.2.2.1 k hk
  rw [h.2.2.2.2.1 g hg, e1, e2]
  by_cases q : g < m
  · obtain ⟨f1, f2, _⟩ := h.2.2.2.2.2.1 g q
    rw [f1, f2, decide_eq_true q]
    rfl
  · rw [decide_eq_false q]
    rfl
theorem cl_lv (h : CL d n m t Pf Gf) {k g : Nat} (hk : k < n) (hg : g < m) : lv8d (d.1 37) (d.1 39) k g = llv Pf Gf k g := by
  unfold lv8d llv
  rw [(h.2.2.2.1 k hk).1, (h.2.2.2.2.2.1 g hg).1]
theorem cl_cap (h : CL d n m t Pf Gf) {g : Nat} (hg : g < 4) : cpt (d.1 39) g = if g < m then lcap Gf g else 0 := by
  unfold cpt lcap
  rw [h.2.2.2.2.1 g hg]
  by_cases q : g < m
  · rw [decide_eq_true q, if_neg (by decide), if_pos q, (h.2.2.2.2.2.1 g q).2.2]
  · rw [decide_eq_false q, if_pos (by decide), if_neg q]
theorem cl_tk (h : CL d n m t Pf Gf) {k : Nat} (hk : k < n) : tk (d.1 37) (d.1 5 0) k = (!decide (Pf (3 * k + 2) = 8) && tbit t (Pf (3 * k + 2)).toNatClampNeg) := by
  unfold tk
  obtain ⟨_, _, e3, e4⟩ := h.2.2.2.1 k hk
  rw [e3]
  by_cases q : Pf (3 * k + 2) = 8
  · rw [if_pos q, decide_eq_true q]
    rfl
  · obtain ⟨f, hf, ef⟩ : ∃ f, f < 2 ∧ Pf (3 * k + 2) = nI f := by
      rcases e4 with z | z
      · exact absurd z q
      · exact z
    rw [if_neg q, decide_eq_false q, ef, nI_clamp (by omega), h.2.2.2.2.2.2 f (by omega), decide_eq_true hf, decide_eq_true (nm_nI (by omega))]
    cases tbit t f <;> rfl
/-- the law's check of a plan -/
def LV (m n : Nat) (Pf Gf : Nat → Int32) (t : Nat) (a : Nat → Nat) : Prop := vaL m n (lfit Pf Gf) (lcap Gf) a n = true ∧ faP Pf t a n = true
theorem fam_eq (h : CL d n m t Pf Gf) {j k : Nat} (hj : j < n) (hk : k < n) : d.1 37 j 3 = d.1 37 k 3 ↔ Pf (3 * j + 2) = Pf (3 * k + 2) := by
  obtain ⟨_, _, e3, e4⟩ := h.2.2.2.1 j hj
  obtain ⟨_, _, f3, f4⟩ := h.2.2.2.1 k hk
  rw [e3, f3]
  by_cases q1 : Pf (3 * j + 2) = 8
  · by_cases q2 : Pf (3 * k + 2) = 8
    · rw [if_pos q1, if_pos q2, q1, q2]
      exact ⟨fun _ => rfl, fun _ => rfl⟩
    · rw [if_pos q1, if_neg q2]
      obtain ⟨f, hf, ef⟩ : ∃ f, f < 2 ∧ Pf (3 * k + 2) = nI f := f4.elim (fun z => absurd z q2) id
      rw [ef, q1]
      exact ⟨fun z => absurd z.symm (nm_nI (by omega)), fun z => absurd z.symm (nI_8 hf)⟩
  · by_cases q2 : Pf (3 * k + 2) = 8
    · rw [if_neg q1, if_pos q2]
      obtain ⟨f, hf, ef⟩ : ∃ f, f < 2 ∧ Pf (3 * j + 2) = nI f := e4.elim (fun z => absurd z q1) id
      rw [ef, q2]
      exact ⟨fun z => absurd z (nm_nI (by omega)), fun z => absurd z (nI_8 hf)⟩
    · rw [if_neg q1, if_neg q2]
theorem fok_iff (h : CL d n m t Pf Gf) {a : Nat → Nat} {p q : Nat} (hp : p < n) (hq : q < n) : fok Pf t a p q = true ↔ (tk (d.1 37) (d.1 5 0) p = true → d.1 37 q 3 = d.1 37 p 3 → a p = a q) := by
  rw [cl_tk h hp, fam_eq h hq hp]
  unfold fok
  by_cases q1 : Pf (3 * p + 2) = 8
  · rw [decide_eq_true q1]
    simp
  · rw [decide_eq_false q1]
    by_cases q2 : Pf (3 * q + 2) = Pf (3 * p + 2)
    · rw [decide_eq_true q2]
      cases hb : tbit t (Pf (3 * p + 2)).toNatClampNeg
      · simp
      · simp [q2]
    · rw [decide_eq_false q2]
      simp [q2]
theorem cd_n (h : CL d n m t Pf Gf) (c : Nat → Nat) (r : Nat → Nat → Bool) : kn (fun k => pp (d.1 37) k && r k (c k)) 20 = kn (fun k => r k (c k)) n := by
  refine kn_cut (by have := h.1; omega) (fun k hk => ?_) (fun k g1 g2 => ?_)
  · rw [cl_p h (by have := h.1; omega), decide_eq_true hk]
    rfl
  · rw [cl_p h g2, decide_eq_false (by omega)]
    rfl
theorem lv_vp (h : CL d n m t Pf Gf) {a : Nat → Nat} (ha : LV m n Pf Gf t a) : VP (d.1 37) (d.1 5 0) (su8 (d.1 37) (d.1 39)) (cpt (d.1 39)) (cd m a) := by
  obtain ⟨h1, h2⟩ := ha
  obtain ⟨g1, g2⟩ := vaL_ok.mp h1
  have hn := h.1
  have hm := h.2.1
  have hpn : ∀ k, k < 20 → pp (d.1 37) k = true → k < n := fun k hk hp => by
    rw [cl_p h hk] at hp
    exact of_decide_eq_true hp
  refine ⟨fun k hk hp => ?_, fun g hg => ?_, fun j k hj hk hpj hpk he => ?_⟩
  · have hk := hpn k hk hp
    by_cases q : a k < m
    · refine .inr ⟨a k, by omega, if_pos q, ?_⟩
      rw [cl_su h hk (by omega), decide_eq_true q, g1 k hk q]
      rfl
    · exact .inl (if_neg q)
  · rw [cd_n h (cd m a) (fun _ z => decide (z = g + 1)), cl_cap h hg]
    have e : kn (fun k => decide (cd m a k = g + 1)) n = kn (fun k => decide (a k < m ∧ a k = g)) n := kn_congr (fun k _ => by
      unfold cd
      by_cases q : a k < m
      · rw [if_pos q]
        simp [q]
      · rw [if_neg q]
        simp [q])
    rw [e]
    by_cases q : g < m
    · rw [if_pos q]
      have e2 : kn (fun k => decide (a k < m ∧ a k = g)) n = kn (fun k => decide (a k = g)) n := kn_congr (fun k _ => by
        by_cases z : a k = g
        · simp [z, q]
        · simp [z])
      rw [e2]
      rcases fst_or (fun p => decide (a p = g)) n with ⟨p, hp, z1, _⟩ | z
      · exact g2 g q ⟨p, hp, of_decide_eq_true z1⟩
      · rw [kn_none z]
        exact Nat.zero_le _
    · rw [if_neg q, kn_none (fun k _ => by
        rw [decide_eq_false]
        omega)]
      exact Nat.le_refl _
  · have hj' := hpn j hj hpj
    have hk' := hpn k hk hpk
    unfold cd
    rcases uo_same hpj hpk he with z | ⟨z1, z2⟩
    · rw [z]
    · have hf := faP_iff n |>.mp h2
      have ea : a j = a k := by
        rcases Nat.lt_trichotomy j k with q | q | q
        · have tk2 : tk (d.1 37) (d.1 5 0) k = true := by
            unfold tk at z1 ⊢
            rw [← z2]
            exact z1
          exact ((fok_iff h hk' hj').mp (hf k j hk' q) tk2 z2).symm
        · rw [q]
        · exact (fok_iff h hj' hk').mp (hf j k hj' q) z1 z2.symm
      rw [ea]
theorem vp_lv (h : CL d n m t Pf Gf) {c : Nat → Nat} (hc : VP (d.1 37) (d.1 5 0) (su8 (d.1 37) (d.1 39)) (cpt (d.1 39)) c) : LV m n Pf Gf t (dc m c) ∧ ∀ p, p < n → dc m c p < m + 1 ∧ cd m (dc m c) p = c p := by
  obtain ⟨v1, v2, v3⟩ := hc
  have hn := h.1
  have hm := h.2.1
  have hpp : ∀ k, k < n → pp (d.1 37) k = true := fun k hk => by
    rw [cl_p h (by omega)]
    exact decide_eq_true hk
  have hv : ∀ p, p < n → c p = 0 ∨ ∃ g, g < m ∧ c p = g + 1 ∧ lfit Pf Gf p g = true := fun p hp => by
    rcases v1 p (by omega) (hpp p hp) with z | ⟨g, g1, g2, g3⟩
    · exact .inl z
    · rw [cl_su h hp g1, Bool.and_eq_true, decide_eq_true_eq] at g3
      exact .inr ⟨g, g3.1, g2, g3.2⟩
  have hdc : ∀ p, p < n → dc m c p < m + 1 ∧ cd m (dc m c) p = c p ∧ ∀ g, g < m → (dc m c p = g ↔ c p = g + 1) := fun p hp => by
    unfold cd dc
    rcases hv p hp with z | ⟨g, g1, g2, _⟩
    · rw [if_pos z, if_neg (Nat.lt_irrefl m), z]
      exact ⟨Nat.lt_succ_self m, rfl, fun g hg => by omega⟩
    · rw [if_neg (by omega), if_pos (by omega)]
      exact ⟨by omega, by omega, fun g' hg => by omega⟩
  refine ⟨⟨vaL_ok.mpr ⟨fun p hp hl => ?_, fun g hg _ => ?_⟩, (faP_iff n).mpr (fun p q hp hq => (fok_iff h hp (by omega)).mpr (fun z1 z2 => ?_))⟩, fun p hp => ⟨(hdc p hp).1, (hdc p hp).2.1⟩⟩
  · rcases hv p hp with z | ⟨g, g1, g2, g3⟩
    · have : dc m c p = m := if_pos z
      omega
    · rw [((hdc p hp).2.2 g g1).mpr g2]
      exact g3
  · have := v2 g (by omega)
    rw [cd_n h c (fun _ z => decide (z = g + 1)), cl_cap h (by omega), if_pos hg] at this
    rw [show kn (fun p => decide (dc m c p = g)) n = kn (fun p => decide (c p = g + 1)) n from kn_congr (fun p hp => by
      have := (hdc p hp).2.2 g hg
      by_cases z : dc m c p = g
      · rw [decide_eq_true z, decide_eq_true (this.mp z)]
      · rw [decide_eq_false z, decide_eq_false (fun y => z (this.mpr y))])]
    exact this
  · have e := v3 p q (by omega) (by omega) (hpp p hp) (hpp q (by omega)) (uo_fam (hpp p hp) (hpp q (by omega)) z1 z2.symm)
    unfold dc
    rw [e]
theorem sc_cd (h : CL d n m t Pf Gf) (a : Nat → Nat) : mny (d.1 37) (cd m a) = mnL m n a n ∧ oul (d.1 37) (lv8d (d.1 37) (d.1 39)) (cd m a) = ouL m n (llv Pf Gf) a n := by
  unfold mny oul
  rw [cd_n h (cd m a) (fun _ z => decide (z ≠ 0)), cd_n h (cd m a) (fun k z => decide (z ≠ 0) && lv8d (d.1 37) (d.1 39) k (z - 1)), mnL_kn, ouL_kn]
  refine ⟨kn_congr (fun k _ => ?_), kn_congr (fun k hk => ?_)⟩
  · unfold cd
    by_cases q : a k < m
    · rw [if_pos q]
      simp [q]
    · rw [if_neg q]
      simp [q]
  · unfold cd
    by_cases q : a k < m
    · rw [if_pos q, Nat.add_sub_cancel, cl_lv h hk q]
      simp [q]
    · rw [if_neg q]
      simp [q]
/-- the class's best plan, for the numbers of a memory -/
def bpc (d : sk_D) : Nat → Nat := cpl (d.1 37) (d.1 5 0) (su8 (d.1 37) (d.1 39)) (lv8d (d.1 37) (d.1 39)) (cpt (d.1 39))
def bpn (d : sk_D) : Nat := plc (d.1 37) (d.1 5 0) (su8 (d.1 37) (d.1 39)) (lv8d (d.1 37) (d.1 39)) (cpt (d.1 39))
theorem same_plan (h : CL d n m t Pf Gf) : ∃ i, i < (m + 1) ^ n ∧ bst (pvl m n Pf Gf t) (psc m n Pf Gf) ((m + 1) ^ n) = some i ∧ (∀ p, p < n → dg m n i p = dc m (bpc d) p) ∧ mnL m n (dg m n i) n = bpn d := by
  have hn := h.1
  obtain ⟨hok, hcnt⟩ := cpl_ok (P := d.1 37) (T := d.1 5 0) (su := su8 (d.1 37) (d.1 39)) (lv := lv8d (d.1 37) (d.1 39)) (cap := cpt (d.1 39))
  obtain ⟨hlv, hdc⟩ := vp_lv h hok
  have hlt : ∀ p, p < n → dc m (bpc d) p < m + 1 := fun p hp => (hdc p hp).1
  have hA := en2_lt hlt
  have hdA : ∀ p, p < n → dg m n (en2 (m + 1) (dc m (bpc d)) n) p = dc m (bpc d) p := fun p hp => en2_dg hlt hp
  have eqv : ∀ (a c : Nat → Nat), (∀ p, p < n → a p = c p) → LV m n Pf Gf t a → LV m n Pf Gf t c := by
    intro a c he hv
    obtain ⟨g1, g2⟩ := vaL_ok.mp hv.1
    refine ⟨vaL_ok.mpr ⟨fun p hp hl => ?_, fun g hg hx => ?_⟩, (faP_iff n).mpr (fun p q hp hq => ?_)⟩
    · rw [← he p hp] at hl ⊢
      exact g1 p hp hl
    · obtain ⟨p, hp, hx⟩ := hx
      have := g2 g hg ⟨p, hp, (he p hp).trans hx⟩
      rw [kn_congr (q := fun p => decide (c p = g)) (fun p hp => by rw [he p hp])] at this
      exact this
    · have := (faP_iff n).mp hv.2 p q hp hq
      unfold fok at this ⊢
      rw [← he p hp, ← he q (by omega)]
      exact this
  have hvA : pvl m n Pf Gf t (en2 (m + 1) (dc m (bpc d)) n) = true := by
    obtain ⟨q1, q2⟩ := eqv _ (dg m n (en2 (m + 1) (dc m (bpc d)) n)) (fun p hp => (hdA p hp).symm) hlv
    unfold pvl
    rw [q1, q2]
    rfl
  have score : ∀ (i : Nat) (c : Nat → Nat), (∀ p, p < n → cd m (dg m n i) p = c p) → psc m n Pf Gf i = vsc (d.1 37) (lv8d (d.1 37) (d.1 39)) c := by
    intro i c he
    obtain ⟨s1, s2⟩ := sc_cd h (dg m n i)
    unfold psc vsc kw
    rw [← s1, ← s2]
    have e1 : mny (d.1 37) (cd m (dg m n i)) = mny (d.1 37) c := by
      unfold mny
      rw [cd_n h (cd m (dg m n i)) (fun _ z => decide (z ≠ 0)), cd_n h c (fun _ z => decide (z ≠ 0))]
      exact kn_congr (fun k hk => by rw [he k hk])
    have e2 : oul (d.1 37) (lv8d (d.1 37) (d.1 39)) (cd m (dg m n i)) = oul (d.1 37) (lv8d (d.1 37) (d.1 39)) c := by
      unfold oul
      rw [cd_n h (cd m (dg m n i)) (fun k z => decide (z ≠ 0) && lv8d (d.1 37) (d.1 39) k (z - 1)), cd_n h c (fun k z => decide (z ≠ 0) && lv8d (d.1 37) (d.1 39) k (z - 1))]
      exact kn_congr (fun k hk => by rw [he k hk])
    rw [e1, e2]
  have hcA : ∀ p, p < n → cd m (dg m n (en2 (m + 1) (dc m (bpc d)) n)) p = bpc d p := fun p hp => by
    have := (hdc p hp).2
    unfold cd at this ⊢
    rw [hdA p hp]
    exact this
  have hsA := score _ _ hcA
  rcases bst_or (pvl m n Pf Gf t) (psc m n Pf Gf) ((m + 1) ^ n) with ⟨_, z⟩ | ⟨i, i1, i2, i3, i4, i5⟩
  · rw [z _ hA] at hvA
    cases hvA
  · have hvi : LV m n Pf Gf t (dg m n i) := by
      unfold pvl at i3
      rw [Bool.and_eq_true] at i3
      exact i3
    obtain ⟨b1, b2⟩ := cpl_best (lv := lv8d (d.1 37) (d.1 39)) (lv_vp h hvi)
    have hsi := score i _ (fun p _ => rfl)
    have h4 := i4 _ hA hvA
    have b1 : vsc (d.1 37) (lv8d (d.1 37) (d.1 39)) (cd m (dg m n i)) ≤ vsc (d.1 37) (lv8d (d.1 37) (d.1 39)) (bpc d) := b1
    have heq : vsc (d.1 37) (lv8d (d.1 37) (d.1 39)) (cd m (dg m n i)) = vsc (d.1 37) (lv8d (d.1 37) (d.1 39)) (bpc d) := by omega
    have hnlt : ¬ en2 (m + 1) (dc m (bpc d)) n < i := fun q => by
      have := i5 _ q hvA
      omega
    have b2 := b2 heq
    have key : ∀ p, p < n → dg m n i p = dc m (bpc d) p := by
      intro p hp
      rcases fst_or (fun p => !decide (dg m n i p = dc m (bpc d) p)) n with ⟨p0, hp0, z1, z2⟩ | z
      · exfalso
        have z1 : ¬ dg m n i p0 = dc m (bpc d) p0 := by simpa using z1
        have z2 : ∀ q, q < p0 → dg m n i q = dc m (bpc d) q := fun q hq => by simpa using z2 q hq
        have hd0 := dg_lt m n i p0
        have hcd : ∀ q, q < p0 → cd m (dg m n i) q = bpc d q := fun q hq => by
          have := (hdc q (by omega)).2
          unfold cd at this ⊢
          rw [z2 q hq]
          exact this
        have hpp : pp (d.1 37) p0 = true := by
          rw [cl_p h (by omega)]
          exact decide_eq_true hp0
        have hc0 := (hdc p0 hp0).2
        have hl0 := hlt p0 hp0
        have e1 : cd m (dg m n i) p0 = if dg m n i p0 < m then dg m n i p0 + 1 else 0 := rfl
        have e2 : dc m (bpc d) p0 = if bpc d p0 = 0 then m else bpc d p0 - 1 := rfl
        have hc0 : cd m (dc m (bpc d)) p0 = bpc d p0 := hc0
        have e3 : cd m (dc m (bpc d)) p0 = if dc m (bpc d) p0 < m then dc m (bpc d) p0 + 1 else 0 := rfl
        rcases b2 p0 (by omega) hpp (fun q hq _ => hcd q hq) with y | y
        · have y : cd m (dg m n i) p0 = bpc d p0 := y
          rw [e1] at y
          rw [e3] at hc0
          split at y <;> split at hc0 <;> omega
        · have y : og (bpc d p0) < og (cd m (dg m n i) p0) := y
          have hlt0 : dc m (bpc d) p0 < dg m n i p0 := by
            have hm := h.2.1
            unfold og at y
            rw [e1] at y
            rw [e2]
            split at y
            · rename_i w
              split at y
              · split at y
                · omega
                · omega
              · split at y
                · omega
                · omega
            · rename_i w
              rw [if_neg w]
              rw [e3] at hc0
              split at y
              · split at y
                · omega
                · split at hc0 <;> omega
              · split at y
                · split at hc0 <;> omega
                · split at hc0 <;> omega
          have := en2_cmp (B := m + 1) (fun q hq => (z2 q hq).symm) hlt0 hlt hp0
          rw [en2_id i1] at this
          exact hnlt this
      · simpa using z p hp
    refine ⟨i, i1, i2, key, ?_⟩
    rw [← (sc_cd h (dg m n i)).1]
    refine Eq.trans ?_ hcnt
    unfold mny
    rw [cd_n h (cd m (dg m n i)) (fun _ z => decide (z ≠ 0)), cd_n h _ (fun _ z => decide (z ≠ 0))]
    refine kn_congr (fun k hk => ?_)
    have := (hdc k hk).2
    have this2 : cd m (dg m n i) k = bpc d k := by
      have h3 : cd m (dc m (bpc d)) k = bpc d k := this
      unfold cd at h3 ⊢
      rw [key k hk]
      exact h3
    rw [this2]
    rfl
end CL
