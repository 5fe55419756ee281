/-! THE CLASS, as the law uses it: groups, families, plans *** by hand -/
def DP (n : Nat) (Pf : Nat → Int32) : Prop := ∀ k, k < n → (∃ l, l < 8 ∧ Pf (3 * k) = nI l) ∧ ∃ g, 1 ≤ g ∧ g < 64 ∧ Pf (3 * k + 1) = nI g
def DG (m : Nat) (Gf : Nat → Int32) : Prop := ∀ g, g < m → (∃ l, l < 8 ∧ Gf (3 * g) = nI l) ∧ (∃ a, a < 6 ∧ Gf (3 * g + 1) = nI a) ∧ ∃ c, 1 ≤ c ∧ c ≤ 6 ∧ Gf (3 * g + 2) = nI c
theorem cl_g01 {d : sk_D} {n m t : Nat} {Pf Gf : Nat → Int32} (h : CL d n m t Pf Gf) : ∀ g, g < 4 → F01 (d.1 39 g 0) := fun g hg => by
  rw [h.2.2.2.2.1 g hg]
  exact b01_F _
/-- what stands of a group's number that is free -/
theorem fgn {d : sk_D} {n m t : Nat} {Pf Gf : Nat → Int32} (h : CL d n m t Pf Gf) (hm : m < 4) : q_X8_freeGroupNumber d = some (nI m) := by
  refine it_for0 (F := fun rec2 a => q_X8_freeGroupNumber_2 rec2 d a) (fun i => nI i) m (fun i hi rec => ?_) (fun rec => ?_) (by omega)
  · show q_X8_freeGroupNumber_2 rec d (nI i) = rec (nI (i + 1))
    unfold q_X8_freeGroupNumber_2
    rw [if_neg (show ¬ (4 : Int32) ≤ nI i from le_nI (n := 4) rfl (by omega) (by omega)), if_pos (bi_nI (by omega) (by omega)), nI_clamp (by omega), h.2.2.2.2.1 i (by omega), decide_eq_true hi, if_neg (by decide), nI_1]
  · show q_X8_freeGroupNumber_2 rec d (nI m) = some (nI m)
    unfold q_X8_freeGroupNumber_2
    rw [if_neg (show ¬ (4 : Int32) ≤ nI m from le_nI (n := 4) rfl hm (by omega)), if_pos (bi_nI (by omega) (by omega)), nI_clamp (by omega), h.2.2.2.2.1 m (by omega), decide_eq_false (Nat.lt_irrefl m), if_pos (by decide)]
theorem gkind {l a c : Nat} (hl : l < 8) (ha : a < 6) (hc1 : 1 ≤ c) (hc : c ≤ 6) (d : sk_D) : q_X8_isGroupKind d (nI l) (nI a) (nI c) = some 1 := by
  have w1 := (wi_in l (a := nI l) (lo := 0) (hi := 7) 0 7 rfl rfl rfl (by omega) (by omega) (by omega)).1 d
  have w2 := (wi_in a (a := nI a) (lo := 0) (hi := 5) 0 5 rfl rfl rfl (by omega) (by omega) (by omega)).1 d
  have w3 := (wi_in c (a := nI c) (lo := 1) (hi := 6) 1 6 rfl rfl rfl (by omega) (by omega) (by omega)).1 d
  unfold q_X8_isGroupKind q_X8_isGroupKind_0
  rw [w1, Option.bind_some, if_neg ne10, w2, Option.bind_some, if_neg ne10, w3, Option.bind_some, if_neg ne10]
theorem og8_z {d : sk_D} {g : Nat} {a b c : Int32} : (og8 d g a b c).1 39 g 4 = -9 ∧ (og8 d g a b c).1 39 g 5 = 0 ∧ (og8 d g a b c).1 39 g 6 = 0 ∧ (og8 d g a b c).1 39 g 9 = d.1 39 g 9 ∧ (og8 d g a b c).1 39 g 10 = d.1 39 g 10 := by
  refine ⟨?_, ?_, ?_, ?_, ?_⟩ <;> simp [og8, sk_wi, sk_up]
/-- one more group -/
theorem zz_og {d : sk_D} {n m t : Nat} {Pf Gf : Nat → Int32} (h : ZZ d n m t Pf Gf) (hm : m < 4) : ZZ (og8 d m (Gf (3 * m)) (Gf (3 * m + 1)) (Gf (3 * m + 2))) n (m + 1) t Pf Gf := by
  obtain ⟨⟨c1, c2, c3, c4, c5, c6, c7⟩, p4, z1, z2, z3, z4, z5⟩ := h
  obtain ⟨o0, o1, o2, o3⟩ := og8_g (d := d) (g := m) (a := Gf (3 * m)) (b := Gf (3 * m + 1)) (c := Gf (3 * m + 2))
  obtain ⟨o4, o5, o6, o9, o10⟩ := og8_z (d := d) (g := m) (a := Gf (3 * m)) (b := Gf (3 * m + 1)) (c := Gf (3 * m + 2))
  have o := fun s k f hs => og8_o (d := d) (g := m) (a := Gf (3 * m)) (b := Gf (3 * m + 1)) (c := Gf (3 * m + 2)) s k f hs
  have oo := fun g' f hg => og8_G (d := d) (g := m) (a := Gf (3 * m)) (b := Gf (3 * m + 1)) (c := Gf (3 * m + 2)) g' f hg
  refine ⟨⟨c1, by omega, fun k hk => ?_, fun k hk => ?_, fun g hg => ?_, fun g hg => ?_, fun f hf => ?_⟩, fun k hk => ?_, fun g hg => ?_, fun g hg => ?_, fun i hi => ?_, ?_, fun l hl => ?_⟩
  · rw [o 37 k 0 (by omega)]
    exact c3 k hk
  · rw [o 37 k 1 (by omega), o 37 k 2 (by omega), o 37 k 3 (by omega)]
    exact c4 k hk
  · by_cases q : g = m
    · rw [q, o0, decide_eq_true (Nat.lt_succ_self m)]
      rfl
    · rw [oo g 0 q, c5 g hg]
      congr 1
      exact decide_eq_decide.mpr (by omega)
  · by_cases q : g = m
    · rw [q]
      exact ⟨o1, o2, o3⟩
    · rw [oo g 1 q, oo g 2 q, oo g 3 q]
      exact c6 g (by omega)
  · rw [o 5 0 f (by omega)]
    exact c7 f hf
  · rw [o 37 k 4 (by omega)]
    refine ⟨(p4 k hk).1, fun j hj => ?_⟩
    rw [o 38 k j (by omega)]
    exact (p4 k hk).2 j hj
  · by_cases q : g = m
    · rw [q]
      exact ⟨o4, o5, o6⟩
    · rw [oo g 4 q, oo g 5 q, oo g 6 q]
      exact z1 g (by omega)
  · by_cases q : g = m
    · rw [q, o9, o10]
      exact z2 m hm
    · rw [oo g 9 q, oo g 10 q]
      exact z2 g hg
  · rw [o 42 i 0 (by omega)]
    exact z3 i hi
  · rw [o 0 0 9 (by omega)]
    exact z4
  · rw [o 43 l 3 (by omega), o 43 l 4 (by omega)]
    exact z5 l hl
theorem za_open {d : sk_D} {n m t : Nat} {Pf Gf : Nat → Int32} (h : ZZ d n m t Pf Gf) (hm : m < 4) (hG : DG (m + 1) Gf) : ∃ d', q_X8_openGroup d (Gf (3 * m)) (Gf (3 * m + 1)) (Gf (3 * m + 2)) = some (nI m, d') ∧ ZZ d' n (m + 1) t Pf Gf := by
  obtain ⟨⟨l, hl, e1⟩, ⟨a, ha, e2⟩, ⟨c, hc1, hc, e3⟩⟩ := hG m (by omega)
  refine ⟨og8 d m (Gf (3 * m)) (Gf (3 * m + 1)) (Gf (3 * m + 2)), ?_, zz_og h hm⟩
  have w := (wi_in m (a := nI m) (lo := 0) (hi := 3) 0 3 rfl rfl rfl (by omega) (by omega) (by omega)).1 d
  have b : ∀ x y z, q_X0_begin d m x y z = some (og8 d m x y z) := fun _ _ _ => rfl
  unfold q_X8_openGroup q_X8_openGroup_0
  rw [e1, e2, e3, gkind hl ha hc1 hc, Option.bind_some, if_neg ne10, fgn h.1 hm, Option.bind_some, w, Option.bind_some, if_neg ne10, if_pos (bi_nI (by omega) (by omega)), nI_clamp (by omega), b]
  rfl
/-- numbers that the plan does not look at -/
theorem ZZ.mv {d d' : sk_D} {n m t t' : Nat} {Pf Gf : Nat → Int32} (h : ZZ d n m t Pf Gf) (ho : ∀ s k f, ¬ (6 ≤ s ∧ s ≤ 18) → s ≠ 5 → ¬ (s = 39 ∧ m ≤ k) → d'.1 s k f = d.1 s k f) (h5 : ∀ f, f < 8 → d'.1 5 0 f = b01 (decide (f < 2) && tbit t' f)) (h39 : ∀ g, g < 4 → m ≤ g → d'.1 39 g 0 = 0 ∧ d'.1 39 g 9 = 0 ∧ d'.1 39 g 10 = 0) : ZZ d' n m t' Pf Gf := by
  obtain ⟨⟨c1, c2, c3, c4, c5, c6, c7⟩, p4, z1, z2, z3, z4, z5⟩ := h
  refine ⟨⟨c1, c2, fun k hk => ?_, fun k hk => ?_, fun g hg => ?_, fun g hg => ?_, h5⟩, fun k hk => ?_, fun g hg => ?_, fun g hg => ?_, fun i hi => ?_, ?_, fun l hl => ?_⟩
  · rw [ho 37 k 0 (by omega) (by omega) (by omega)]
    exact c3 k hk
  · rw [ho 37 k 1 (by omega) (by omega) (by omega), ho 37 k 2 (by omega) (by omega) (by omega), ho 37 k 3 (by omega) (by omega) (by omega)]
    exact c4 k hk
  · by_cases q : g < m
    · rw [ho 39 g 0 (by omega) (by omega) (by omega)]
      exact c5 g hg
    · rw [(h39 g hg (by omega)).1, decide_eq_false q]
      rfl
  · rw [ho 39 g 1 (by omega) (by omega) (by omega), ho 39 g 2 (by omega) (by omega) (by omega), ho 39 g 3 (by omega) (by omega) (by omega)]
    exact c6 g hg
  · rw [ho 37 k 4 (by omega) (by omega) (by omega)]
    refine ⟨(p4 k hk).1, fun j hj => ?_⟩
    rw [ho 38 k j (by omega) (by omega) (by omega)]
    exact (p4 k hk).2 j hj
  · rw [ho 39 g 4 (by omega) (by omega) (by omega), ho 39 g 5 (by omega) (by omega) (by omega), ho 39 g 6 (by omega) (by omega) (by omega)]
    exact z1 g hg
  · by_cases q : g < m
    · rw [ho 39 g 9 (by omega) (by omega) (by omega), ho 39 g 10 (by omega) (by omega) (by omega)]
      exact z2 g hg
    · exact (h39 g hg (by omega)).2
  · rw [ho 42 i 0 (by omega) (by omega) (by omega)]
    exact z3 i hi
  · rw [ho 0 0 9 (by omega) (by omega) (by omega)]
    exact z4
  · rw [ho 43 l 3 (by omega) (by omega) (by omega), ho 43 l 4 (by omega) (by omega) (by omega)]
    exact z5 l hl
theorem ZZ.c {d : sk_D} {n m t : Nat} {Pf Gf : Nat → Int32} (h : ZZ d n m t Pf Gf) : ∀ g, g < 4 → m ≤ g → d.1 39 g 0 = 0 ∧ d.1 39 g 9 = 0 ∧ d.1 39 g 10 = 0 := fun g hg hm => by
  refine ⟨?_, h.2.2.2.1 g hg⟩
  rw [h.1.2.2.2.2.1 g hg, decide_eq_false (by omega)]
  rfl
theorem ZZ.fd {d d' : sk_D} {n m t : Nat} {Pf Gf : Nat → Int32} (h : ZZ d n m t Pf Gf) (hF : FD d d') : ZZ d' n m t Pf Gf := by
  refine h.mv (fun s k f h1 _ _ => hF s k f h1) (fun f hf => ?_) (fun g hg hm => ?_)
  · rw [hF 5 0 f (by omega)]
    exact h.1.2.2.2.2.2.2 f hf
  · rw [hF 39 g 0 (by omega), hF 39 g 9 (by omega), hF 39 g 10 (by omega)]
    exact h.c g hg hm
theorem za_tog {d : sk_D} {n m f t t' : Nat} {Pf Gf : Nat → Int32} (h : ZZ d n m t Pf Gf) (hf : f < 2) (ht : ∀ f', f' < 2 → tbit t' f' = if f' = f then tbit t' f else tbit t f') : ∃ d', q_X8_setTogether d (nI f) (b01 (tbit t' f)) = some (0, d') ∧ ZZ d' n m t' Pf Gf := by
  have hz : ZZ (sk_wi d 5 0 f (b01 (tbit t' f))) n m t' Pf Gf := by
    refine h.mv (fun s k f' _ h5 _ => wi_o (by omega)) (fun f' hf' => ?_) (fun g hg hm => ?_)
    · by_cases q : f' = f
      · rw [q, wi_e, decide_eq_true hf]
        rfl
      · rw [wi_o (by omega), h.1.2.2.2.2.2.2 f' hf']
        by_cases q2 : f' < 2
        · rw [ht f' q2, if_neg q]
        · rw [decide_eq_false q2]
          rfl
    · rw [wi_o (by omega), wi_o (by omega), wi_o (by omega)]
      exact h.c g hg hm
  refine ⟨_, ?_, hz⟩
  have hn : vp_nar .boolean (b01 (tbit t' f)) = b01 (tbit t' f) := by
    cases tbit t' f <;> decide
  unfold q_X8_setTogether q_X8_setTogether_0
  rw [isFa (show f < 8 by omega) d, Option.bind_some, if_neg ne10, if_pos (bi_nI (by omega) (by omega)), nI_clamp (by omega), hn]
  unfold q_X8_setTogether_18
  rw [sib0 (cl_01 hz.1) hz.no (.inr ⟨f, by omega, rfl⟩)]
  rfl
/-- the planner finds the best plan of such a class -/
theorem fbz {d : sk_D} {n m t : Nat} {Pf Gf : Nat → Int32} (h : ZZ d n m t Pf Gf) (hP : DP n Pf) (hG : DG m Gf) : ∃ d', (FD d d' ∧ (∀ k, k < 20 → d'.1 7 0 k = if pp (d.1 37) k = true then nI (uo (d.1 37) (d.1 5 0) k) else -9) ∧ ∀ v, v < un (d.1 37) (d.1 5 0) 20 → d'.1 11 0 v = nv (plg (d.1 37) (d.1 5 0) (su8 (d.1 37) (d.1 39)) (lv8d (d.1 37) (d.1 39)) (cpt (d.1 39)) v)) ∧ q_X3_findBest d = some (nI (bpn d), d') := by
  refine fb8 (ee_P (cl_01 h.1)) (fun k hk h1 => ?_) (ee_G (cl_g01 h.1)) (fun g hg => ⟨fun _ => h.2.2.2.1 g hg, fun h1 => ?_⟩)
  · have hn := cl_n h.1 hk h1
    obtain ⟨c1, c2, c3, c4⟩ := h.1.2.2.2.1 k hn
    obtain ⟨⟨l, hl, e1⟩, ⟨g, _, hg, e2⟩⟩ := hP k hn
    refine ⟨⟨l, hl, c1.trans e1⟩, ⟨g, hg, c2.trans e2⟩, ?_, .inl (h.2.1 k hn).1, fun j hj => .inl ((h.2.1 k hn).2 j hj)⟩
    rw [c3]
    rcases c4 with z | ⟨f, hf, z⟩
    · rw [if_pos (show Pf (3 * k + 2) = 8 from z)]
      exact .inl rfl
    · rw [z, if_neg (nI_8 hf)]
      exact .inr ⟨f, by omega, rfl⟩
  · have hgm : g < m := by
      rw [h.1.2.2.2.2.1 g hg] at h1
      exact of_decide_eq_true (b01_1.mp h1)
    obtain ⟨c1, c2, c3⟩ := h.1.2.2.2.2.2.1 g hgm
    obtain ⟨⟨l, hl, e1⟩, ⟨a, ha, e2⟩, ⟨c, hc1, hc, e3⟩⟩ := hG g hgm
    obtain ⟨z4, z5, z6⟩ := h.2.2.1 g hgm
    exact ⟨⟨l, hl, c1.trans e1⟩, ⟨a, ha, c2.trans e2⟩, ⟨c, hc1, hc, c3.trans e3⟩, .inl z4, ⟨0, by omega, z5⟩, 0, by omega, z6, fun j hj => absurd hj (Nat.not_lt_zero j)⟩
theorem bpn_fd {d d' : sk_D} (h37 : ∀ k f, d'.1 37 k f = d.1 37 k f) (h5 : ∀ f, d'.1 5 0 f = d.1 5 0 f) (h39 : ∀ k f, d'.1 39 k f = d.1 39 k f) : bpn d' = bpn d ∧ bpc d' = bpc d := by
  have a : d'.1 37 = d.1 37 := by
    funext k f
    exact h37 k f
  have b : d'.1 5 0 = d.1 5 0 := by
    funext f
    exact h5 f
  have c : d'.1 39 = d.1 39 := by
    funext k f
    exact h39 k f
  unfold bpn bpc
  rw [a, b, c]
  exact ⟨rfl, rfl⟩
theorem x_extra {d : sk_D} {n m t : Nat} {Pf Gf : Nat → Int32} (h : ZZ d n m t Pf Gf) (hm : m < 4) (hP : DP n Pf) (hG : DG (m + 1) Gf) : ∃ d' d2, q_X8_extraPlaced d (Gf (3 * m)) (Gf (3 * m + 1)) (Gf (3 * m + 2)) = some (nI (bpn d2) - nI (bpn d), d') ∧ ZZ d' n m t Pf Gf ∧ CL d2 n (m + 1) t Pf Gf := by
  obtain ⟨⟨l, hl, e1⟩, ⟨a, ha, e2⟩, ⟨c, hc1, hc, e3⟩⟩ := hG m (by omega)
  have hG0 : DG m Gf := fun g hg => hG g (by omega)
  obtain ⟨d1, ⟨F1, _, _⟩, q1⟩ := fbz h hP hG0
  have h1 := h.fd F1
  have h2 := zz_og h1 hm
  obtain ⟨d3, ⟨F3, _, _⟩, q3⟩ := fbz h2 hP hG
  have h3 := h2.fd F3
  refine ⟨cl8 d3 m, og8 d1 m (Gf (3 * m)) (Gf (3 * m + 1)) (Gf (3 * m + 2)), ?_, ?_, h2.1⟩
  · have w := (wi_in m (a := nI m) (lo := 0) (hi := 3) 0 3 rfl rfl rfl (by omega) (by omega) (by omega)).1 d
    have b1 : ∀ x y z, q_X0_begin d1 m x y z = some (og8 d1 m x y z) := fun _ _ _ => rfl
    have b2 : q_X0_end d3 m = some (cl8 d3 m) := rfl
    have bm : sk_bi (nI m) 4 = true := bi_nI (by omega) (by omega)
    unfold q_X8_extraPlaced q_X8_extraPlaced_0
    rw [show q_X8_isGroupKind d (Gf (3 * m)) (Gf (3 * m + 1)) (Gf (3 * m + 2)) = some 1 by rw [e1, e2, e3]; exact gkind hl ha hc1 hc d, Option.bind_some, if_neg ne10, fgn h.1 hm, Option.bind_some, w, Option.bind_some, if_neg ne10, q1, Option.bind_some, if_pos bm, nI_clamp (by omega), b1, Option.bind_some, q3, Option.bind_some, if_pos bm, b2]
    rfl
  · refine h.mv (fun s k f g1 g2 g3 => ?_) (fun f hf => ?_) (fun g hg hmg => ?_)
    · rw [cl8_o s k f (by omega), F3 s k f g1]
      by_cases q : s = 39
      · subst q
        rw [og8_G k f (by omega)]
        exact F1 39 k f g1
      · rw [og8_o s k f q]
        exact F1 s k f g1
    · rw [cl8_o 5 0 f (by omega), F3 5 0 f (by omega), og8_o 5 0 f (by omega), F1 5 0 f (by omega)]
      exact h.1.2.2.2.2.2.2 f hf
    · by_cases q : g = m
      · rw [q]
        obtain ⟨c0, _, c9, c10⟩ := cl8_g (d := d3) (g := m)
        exact ⟨c0, c9, c10⟩
      · have e : ∀ f, (cl8 d3 m).1 39 g f = d.1 39 g f := fun f => by
          rw [cl8_o 39 g f (by omega), F3 39 g f (by omega), og8_G g f q]
          exact F1 39 g f (by omega)
        rw [e, e, e]
        exact h.c g hg hmg
def tclr (t f : Nat) : Nat := if tbit t f = true then t - 2 ^ f else t
theorem tclr_ok : ∀ t, t < 4 → ∀ f, f < 2 → tclr t f < 4 ∧ nI t &&& (((1 : Int32) <<< (nI f &&& 31)) ^^^ (-1 : Int32)) = nI (tclr t f) ∧ (∀ f', f' < 2 → tbit (tclr t f) f' = (tbit t f' && !decide (f' = f))) ∧ (tbit t f = false → tclr t f = t) := by decide +kernel
theorem x_split {d : sk_D} {n m t f : Nat} {Pf Gf : Nat → Int32} (h : ZZ d n m t Pf Gf) (ht : t < 4) (hf : f < 2) (hP : DP n Pf) (hG : DG m Gf) : ∃ d' d2, q_X8_splitGain d (nI f) = some (nI (bpn d2) - nI (bpn d), d') ∧ ZZ d' n m t Pf Gf ∧ CL d2 n m (tclr t f) Pf Gf := by
  obtain ⟨k1, k2, k3, k4⟩ := tclr_ok t ht f hf
  have bf : sk_bi (nI f) 8 = true := bi_nI (by omega) (by omega)
  have h5 := h.1.2.2.2.2.2.2 f (by omega)
  rw [decide_eq_true hf, Bool.true_and] at h5
  cases hb : tbit t f
  · rw [hb] at h5
    refine ⟨d, d, ?_, h, ?_⟩
    · unfold q_X8_splitGain q_X8_splitGain_0
      rw [isFa (show f < 8 by omega) d, Option.bind_some, if_neg ne10, if_pos bf, nI_clamp (by omega), h5, if_pos (by decide), pk_sub (Nat.le_refl _), Nat.sub_self]
      rfl
    · rw [k4 hb]
      exact h.1
  · rw [hb] at h5
    obtain ⟨d1, ⟨F1, _, _⟩, q1⟩ := fbz h hP hG
    have h1 := h.fd F1
    have h2 : ZZ (sk_wi d1 5 0 f 0) n m (tclr t f) Pf Gf := by
      refine h1.mv (fun s k f' _ h5 _ => wi_o (by omega)) (fun f' hf' => ?_) (fun g hg hm => ?_)
      · by_cases q : f' = f
        · rw [q, wi_e, k3 f hf, decide_eq_true rfl, hb, decide_eq_true hf]
          rfl
        · rw [wi_o (by omega), h1.1.2.2.2.2.2.2 f' hf']
          by_cases q2 : f' < 2
          · rw [k3 f' q2, decide_eq_false q, Bool.not_false, Bool.and_true]
          · rw [decide_eq_false q2]
            rfl
      · rw [wi_o (by omega), wi_o (by omega), wi_o (by omega)]
        exact h1.c g hg hm
    obtain ⟨d3, ⟨F3, _, _⟩, q3⟩ := fbz h2 hP hG
    have h3 := h2.fd F3
    have n0 : vp_nar .boolean (0 : Int32) = 0 := by decide
    have n1 : vp_nar .boolean (1 : Int32) = 1 := by decide
    refine ⟨sk_wi d3 5 0 f 1, sk_wi d1 5 0 f 0, ?_, ?_, h2.1⟩
    · unfold q_X8_splitGain q_X8_splitGain_0
      rw [isFa (show f < 8 by omega) d, Option.bind_some, if_neg ne10, if_pos bf, nI_clamp (by omega), h5, if_neg (by decide), q1, Option.bind_some, if_pos bf, n0]
      unfold q_X8_splitGain_63
      rw [q3, Option.bind_some, if_pos bf, n1, nI_clamp (by omega)]
    · refine h3.mv (fun s k f' _ h5 _ => wi_o (by omega)) (fun f' hf' => ?_) (fun g hg hm => ?_)
      · by_cases q : f' = f
        · rw [q, wi_e, hb, decide_eq_true hf]
          rfl
        · rw [wi_o (by omega), h3.1.2.2.2.2.2.2 f' hf']
          by_cases q2 : f' < 2
          · rw [k3 f' q2, decide_eq_false q, Bool.not_false, Bool.and_true]
          · rw [decide_eq_false q2]
            rfl
      · rw [wi_o (by omega), wi_o (by omega), wi_o (by omega)]
        exact h3.c g hg hm
