/-! STAFFINGS: the law's best is the class's *** by hand -/
theorem VC.cg {d : sk_D} {v w : Nat → Nat} {n : Nat} (h : VC d v n) (e : ∀ g, g < n → v g = w g) : VC d w n := fun g hg => by
  obtain ⟨h1, h2⟩ := h g hg
  rw [← e g hg]
  exact ⟨fun ha => ⟨(h1 ha).1, (h1 ha).2.1, fun h' hh hb => by rw [← e h' (by omega)]; exact (h1 ha).2.2 h' hh hb⟩, h2⟩
theorem VL.cg {m k : Nat} {tk : Nat → Nat → Bool} {Sz a b : Nat → Nat} (h : VL m k tk Sz a) (e : ∀ g, g < m → a g = b g) : VL m k tk Sz b := fun g hg => by
  obtain ⟨h1, h2⟩ := h g hg
  rw [← e g hg]
  exact ⟨h1, fun hl => ⟨(h2 hl).1, fun h' h3 h4 => by rw [← e h' h4]; exact (h2 hl).2 h' h3 h4⟩⟩
def tv (m k : Nat) (a : Nat → Nat) (g : Nat) : Nat := if g < m ∧ a g < k then a g else 0
def ta (k : Nat) (Sz v : Nat → Nat) (g : Nat) : Nat := if 0 < Sz g then v g else k
theorem dgt_dg (P h : Nat) : dgt 4 P h = dg 7 4 P h := rfl
section SS
variable {d : sk_D} {m k : Nat} {Sz : Nat → Nat} {Gf Tf : Nat → Int32}
/-- what the two have to share *** -/
def SH (d : sk_D) (m k : Nat) (Sz : Nat → Nat) (Gf Tf : Nat → Int32) : Prop := m ≤ 4 ∧ k ≤ 4 ∧ (∀ g, g < 4 → acb d g = decide (0 < Sz g)) ∧ (∀ g, m ≤ g → Sz g = 0) ∧ (∀ i, i < 8 → ib d i = decide (i < k)) ∧ (∀ i g, i < k → g < m → tcb d i g = stk Tf Gf i g) ∧ (∀ i, i < k → wg d i = swg Tf i ∧ swg Tf i ≤ 4)
theorem SH.g (h : SH d m k Sz Gf Tf) {a : Nat → Nat} (hv : VL m k (stk Tf Gf) Sz a) (hl : ∀ g, g < m → a g < k + 1) {g : Nat} (hg : g < 4) (ha : acb d g = true) : g < m ∧ a g < k ∧ tv m k a g = a g := by
  obtain ⟨hm, hk, hA, hZ, hI, hT, hW⟩ := h
  rw [hA g hg, decide_eq_true_eq] at ha
  have hgm : g < m := by
    by_cases q : g < m
    · exact q
    · have := hZ g (by omega)
      omega
  have h1 := (hv g hgm).1
  have h2 : a g < k := by
    have : a g ≠ k := fun q => by have := h1.mp q; omega
    have := hl g hgm
    omega
  exact ⟨hgm, h2, if_pos ⟨hgm, h2⟩⟩
theorem SH.l (h : SH d m k Sz Gf Tf) {a : Nat → Nat} (hv : VL m k (stk Tf Gf) Sz a) (hl : ∀ g, g < m → a g < k + 1) : VC d (tv m k a) 4 := by
  intro g hg
  constructor
  · intro ha
    obtain ⟨g1, g2, g3⟩ := h.g hv hl hg ha
    obtain ⟨hm, hk, hA, hZ, hI, hT, hW⟩ := id h
    rw [g3]
    refine ⟨?_, ?_, fun h' hh hb => ?_⟩
    · rw [hI _ (by omega)]
      exact decide_eq_true g2
    · rw [hT _ _ g2 g1]
      exact ((hv g g1).2 g2).1
    · obtain ⟨f1, f2, f3⟩ := h.g hv hl (g := h') (by omega) hb
      rw [f3]
      exact fun q => ((hv h' f1).2 f2).2 g hh g1 q.symm
  · intro ha
    obtain ⟨hm, hk, hA, hZ, hI, hT, hW⟩ := h
    rw [hA g hg, decide_eq_false_iff_not] at ha
    refine if_neg (fun q => ?_)
    have := (hv g q.1).1.mpr (by omega)
    omega
theorem SH.c (h : SH d m k Sz Gf Tf) {v : Nat → Nat} (hv : VC d v 4) (hv8 : ∀ g, g < 4 → v g < 8) : VL m k (stk Tf Gf) Sz (ta k Sz v) ∧ (∀ g, g < m → ta k Sz v g < k + 1) ∧ ∀ g, g < 4 → tv m k (ta k Sz v) g = v g := by
  obtain ⟨hm, hk, hA, hZ, hI, hT, hW⟩ := h
  have act : ∀ g, g < 4 → 0 < Sz g → acb d g = true ∧ v g < k ∧ ta k Sz v g = v g := fun g hg hs => by
    have ha : acb d g = true := by
      rw [hA g hg]
      exact decide_eq_true hs
    have := ((hv g hg).1 ha).1
    rw [hI _ (hv8 g hg), decide_eq_true_eq] at this
    exact ⟨ha, this, if_pos hs⟩
  refine ⟨fun g hg => ⟨?_, fun hl => ?_⟩, fun g hg => ?_, fun g hg => ?_⟩
  · by_cases hs : 0 < Sz g
    · obtain ⟨_, h2, h3⟩ := act g (by omega) hs
      rw [h3]
      omega
    · have : ta k Sz v g = k := if_neg hs
      rw [this]
      omega
  · have hs : 0 < Sz g := by
      by_cases q : 0 < Sz g
      · exact q
      · have : ta k Sz v g = k := if_neg q
        omega
    obtain ⟨h1, h2, h3⟩ := act g (by omega) hs
    rw [h3]
    refine ⟨?_, fun h' g1 g2 => ?_⟩
    · rw [← hT _ _ h2 hg]
      exact ((hv g (by omega)).1 h1).2.1
    · by_cases hs' : 0 < Sz h'
      · obtain ⟨f1, f2, f3⟩ := act h' (by omega) hs'
        rw [f3]
        exact fun q => ((hv h' (by omega)).1 f1).2.2 g g1 h1 q.symm
      · have : ta k Sz v h' = k := if_neg hs'
        omega
  · by_cases hs : 0 < Sz g
    · obtain ⟨_, h2, h3⟩ := act g (by omega) hs
      rw [h3]
      omega
    · have : ta k Sz v g = k := if_neg hs
      omega
  · by_cases hs : 0 < Sz g
    · obtain ⟨_, h2, h3⟩ := act g hg hs
      have hgm : g < m := by
        by_cases q : g < m
        · exact q
        · have := hZ g (by omega)
          omega
      unfold tv
      rw [h3, if_pos ⟨hgm, h2⟩]
    · have h3 : ta k Sz v g = k := if_neg hs
      have ha : acb d g = false := by
        rw [hA g hg]
        exact decide_eq_false hs
      unfold tv
      rw [h3, if_neg (fun q => by omega), (hv g hg).2 ha]
theorem SH.s (h : SH d m k Sz Gf Tf) {a : Nat → Nat} (hv : VL m k (stk Tf Gf) Sz a) (hl : ∀ g, g < m → a g < k + 1) : cgc d (tv m k a) 4 = csL m k (swg Tf) a m := by
  have hm := h.1
  rw [cgc_sm, csL_e, sm_cut (m := m) hm (fun g g1 g2 => ?_)]
  · refine sm_congr (fun g hg => ?_)
    cases ha : acb d g
    · have hs : Sz g = 0 := by
        rw [h.2.2.1 g (by omega), decide_eq_false_iff_not] at ha
        omega
      have := (hv g hg).1.mpr hs
      rw [if_neg (show ¬ false = true by decide), if_neg (show ¬ a g < k by omega)]
    · obtain ⟨g1, g2, g3⟩ := h.g hv hl (by omega) ha
      rw [if_pos rfl, if_pos g2, g3, (h.2.2.2.2.2.2 _ g2).1]
  · refine if_neg (fun ha => ?_)
    have := (h.g hv hl g2 ha).1
    omega
theorem cgc_cg {v w : Nat → Nat} {n : Nat} (e : ∀ g, g < n → v g = w g) : cgc d v n = cgc d w n := by
  rw [cgc_sm, cgc_sm]
  refine sm_congr (fun g hg => ?_)
  rw [e g hg]
theorem csL_cg {W a b : Nat → Nat} (e : ∀ g, g < m → a g = b g) : csL m k W a m = csL m k W b m := by
  rw [csL_e, csL_e]
  refine sm_congr (fun g hg => ?_)
  rw [e g hg]
theorem dgt8 (P g : Nat) : dgt 4 P g < 8 := Nat.mod_lt _ (by omega)
/-- the two searches end alike -/
theorem same_staff (h : SH d m k Sz Gf Tf) : (bst (svl m k Sz Gf Tf) (ssc m k Tf) ((k + 1) ^ m) = none ∧ fo (mst d) 4096 none = none) ∨ ∃ i B, bst (svl m k Sz Gf Tf) (ssc m k Tf) ((k + 1) ^ m) = some i ∧ i < (k + 1) ^ m ∧ svl m k Sz Gf Tf i = true ∧ B < 4096 ∧ VC d (dgt 4 B) 4 ∧ fo (mst d) 4096 none = some (sct m k Tf i, B) ∧ ∀ g, g < 4 → dgt 4 B g = tv m k (dg k m i) g := by
  have hm := h.1
  have hk := h.2.1
  have h16 := fun j => sct_le (m := m) (Tf := Tf) (fun i hi => (h.2.2.2.2.2.2 i hi).2) hm j
  -- a way of the class, as the law numbers it
  have toL : ∀ P, clv d P = true → en2 (k + 1) (ta k Sz (dgt 4 P)) m < (k + 1) ^ m ∧ svl m k Sz Gf Tf (en2 (k + 1) (ta k Sz (dgt 4 P)) m) = true ∧ sct m k Tf (en2 (k + 1) (ta k Sz (dgt 4 P)) m) = clc d P ∧ (∀ g, g < m → dg k m (en2 (k + 1) (ta k Sz (dgt 4 P)) m) g = ta k Sz (dgt 4 P) g) ∧ ∀ g, g < 4 → tv m k (ta k Sz (dgt 4 P)) g = dgt 4 P g := by
    intro P hP
    have hv := (vgc_iff 4).mp hP
    obtain ⟨c1, c2, c3⟩ := h.c hv (fun g _ => dgt8 P g)
    have hd : ∀ g, g < m → dg k m (en2 (k + 1) (ta k Sz (dgt 4 P)) m) g = ta k Sz (dgt 4 P) g := fun g hg => en2_dg c2 hg
    refine ⟨en2_lt c2, vsL_ok.mpr (c1.cg (fun g hg => (hd g hg).symm)), ?_, hd, c3⟩
    unfold sct clc
    rw [csL_cg hd, ← h.s c1 c2]
    exact cgc_cg c3
  have toC : ∀ i, svl m k Sz Gf Tf i = true → en2 (7 + 1) (tv m k (dg k m i)) 4 < 4096 ∧ clv d (en2 (7 + 1) (tv m k (dg k m i)) 4) = true ∧ clc d (en2 (7 + 1) (tv m k (dg k m i)) 4) = sct m k Tf i ∧ ∀ g, g < 4 → dgt 4 (en2 (7 + 1) (tv m k (dg k m i)) 4) g = tv m k (dg k m i) g := by
    intro i hi
    have hv := vsL_ok.mp hi
    have hl : ∀ g, g < m → dg k m i g < k + 1 := fun g _ => dg_lt k m i g
    have hc := h.l hv hl
    have h8 : ∀ g, g < 4 → tv m k (dg k m i) g < 7 + 1 := fun g _ => by
      unfold tv
      split <;> omega
    have hd : ∀ g, g < 4 → dgt 4 (en2 (7 + 1) (tv m k (dg k m i)) 4) g = tv m k (dg k m i) g := fun g hg => by
      rw [dgt_dg]
      exact en2_dg h8 hg
    refine ⟨en2_lt h8, (vgc_iff 4).mpr (hc.cg (fun g hg => (hd g hg).symm)), ?_, hd⟩
    unfold clc sct
    rw [cgc_cg hd, h.s hv hl]
  have hcc : ∀ P, clv d P = true → clc d P ≤ 16 := fun P hP => by
    rw [← (toL P hP).2.2.1]
    exact h16 _
  have hF := mst_bst hcc 4096
  rcases bst_or (clv d) (fun P => 16 - clc d P) 4096 with ⟨b1, b2⟩ | ⟨B, b1, b2, b3, b4, b5⟩
  · rcases bst_or (svl m k Sz Gf Tf) (ssc m k Tf) ((k + 1) ^ m) with ⟨l1, _⟩ | ⟨i, _, _, l3, _⟩
    · left
      rw [hF, b1]
      exact ⟨l1, rfl⟩
    · obtain ⟨c1, c2, _⟩ := toC i l3
      rw [b2 _ c1] at c2
      cases c2
  · obtain ⟨a1, a2, a3, a4, a5⟩ := toL B b3
    rcases bst_or (svl m k Sz Gf Tf) (ssc m k Tf) ((k + 1) ^ m) with ⟨_, l2⟩ | ⟨i, l1, l2, l3, l4, l5⟩
    · rw [l2 _ a1] at a2
      cases a2
    · right
      obtain ⟨c1, c2, c3, c4⟩ := toC i l3
      have o1 : 16 - clc d (en2 (7 + 1) (tv m k (dg k m i)) 4) ≤ 16 - clc d B := b4 _ c1 c2
      have o2 : 16 - sct m k Tf (en2 (k + 1) (ta k Sz (dgt 4 B)) m) ≤ 16 - sct m k Tf i := l4 _ a1 a2
      have hi16 := h16 i
      have hB16 := hcc B b3
      have eqc : clc d B = sct m k Tf i := by omega
      have n1 : ¬ en2 (7 + 1) (tv m k (dg k m i)) 4 < B := fun q => by
        have : 16 - clc d (en2 (7 + 1) (tv m k (dg k m i)) 4) < 16 - clc d B := b5 _ q c2
        omega
      have n2 : ¬ en2 (k + 1) (ta k Sz (dgt 4 B)) m < i := fun q => by
        have : 16 - sct m k Tf (en2 (k + 1) (ta k Sz (dgt 4 B)) m) < 16 - sct m k Tf i := l5 _ q a2
        omega
      have hvi := vsL_ok.mp l3
      have hvB := (vgc_iff 4).mp b3
      have key : ∀ g, g < m → dg k m i g = ta k Sz (dgt 4 B) g := by
        rcases fst_or (fun g => !decide (dg k m i g = ta k Sz (dgt 4 B) g)) m with ⟨g0, hg0, z1, z2⟩ | z
        · exfalso
          have z1 : ¬ dg k m i g0 = ta k Sz (dgt 4 B) g0 := by simpa using z1
          have z2 : ∀ q, q < g0 → dg k m i q = ta k Sz (dgt 4 B) q := fun q hq => by simpa using z2 q hq
          obtain ⟨e1, e2, e3⟩ := h.c hvB (fun g _ => dgt8 B g)
          by_cases hlt : ta k Sz (dgt 4 B) g0 < dg k m i g0
          · have := en2_cmp (B := k + 1) (fun q hq => (z2 q hq).symm) hlt e2 hg0
            rw [en2_id l1] at this
            exact n2 this
          · have hlt2 : dg k m i g0 < ta k Sz (dgt 4 B) g0 := by omega
            have hb := e2 g0 hg0
            have hak : dg k m i g0 < k := by omega
            have hs : Sz g0 ≠ 0 := fun q => by
              have := (hvi g0 hg0).1.mpr q
              omega
            have hbv : ta k Sz (dgt 4 B) g0 = dgt 4 B g0 := if_pos (by omega)
            have hav : tv m k (dg k m i) g0 = dg k m i g0 := if_pos ⟨hg0, hak⟩
            have := en2_cmp (B := 7 + 1) (a := tv m k (dg k m i)) (c := dgt 4 B) (p0 := g0) (fun q hq => by
              rw [← e3 q (by omega)]
              unfold tv
              rw [z2 q hq]) (by rw [hav, ← hbv]; exact hlt2) (n := 4) (fun g _ => by
              unfold tv
              split <;> omega) (by omega)
            have eB : en2 (7 + 1) (dgt 4 B) 4 = B := en2_id (m := 7) (n := 4) b1
            rw [eB] at this
            exact n1 this
        · intro g hg
          simpa using z g hg
      refine ⟨i, B, l2, l1, l3, b1, hvB, ?_, fun g hg => ?_⟩
      · rw [hF, b2, ← eqc]
        rfl
      · rw [← a5 g hg]
        unfold tv
        by_cases hgm : g < m
        · rw [key g hgm]
        · rw [if_neg (fun q => hgm q.1), if_neg (fun q => hgm q.1)]
end SS
