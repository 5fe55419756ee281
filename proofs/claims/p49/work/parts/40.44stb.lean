/-! STAFFINGS, in both *** by hand -/
def vl (d : sk_D) (g P h : Nat) : Int32 := if acb d h = true then nI (dgt g P h) else -9
def Rp (d0 d : sk_D) (s : Option (Nat × Nat)) (P g : Nat) : Prop := d.1 19 0 3 = nI (stc s) ∧ (∀ b B, s = some (b, B) → ∀ h, h < 4 → d.1 21 0 h = vl d0 4 B h) ∧ (∀ h, h < g → d.1 22 0 h = vl d0 g P h) ∧ ∀ s k f, s ≠ 19 → s ≠ 21 → s ≠ 22 → d.1 s k f = d0.1 s k f
theorem tcb_same {d d' : sk_D} (h39 : ∀ k f, d'.1 39 k f = d.1 39 k f) (h42 : ∀ k f, d'.1 42 k f = d.1 42 k f) (i g : Nat) : tcb d' i g = tcb d i g := by
  unfold tcb
  rw [h39, h39, h42, h42, h42]
theorem shr_e (t : Int32) (i : Nat) : (btb t i = true) = (((t >>> (nI i &&& 31)) &&& (1 : Int32)) = 0) := by
  unfold btb
  rw [decide_eq_true_eq]
theorem dgt_s0 {g P h : Nat} (hh : h < g) : dgt (g + 1) (P * 8) h = dgt g P h := dgt_s (i := 0) (by omega) hh
set_option maxHeartbeats 4000000 in
theorem tr8 {d0 : sk_D} (hw : ∀ h, h < 4 → d0.1 20 0 h = bI (acb d0 h)) (h01 : ∀ i, i < 8 → d0.1 42 i 0 = 0 ∨ d0.1 42 i 0 = 1) (hwg : ∀ i, i < 8 → ib d0 i = true → d0.1 42 i 4 = nI (wg d0 i) ∧ wg d0 i ≤ 999999) :
    ∀ (r : Nat), r ≤ 4 → ∀ (fu : Nat) (d : sk_D) (t : Int32) (c P : Nat) (s : Option (Nat × Nat)), Rp d0 d s P (4 - r) → c ≤ (4 - r) * 999999 → stc s ≤ 3999997 → ∃ d', q_X7_tryFrom (fu + r + 1) d (nI (4 - r)) t (nI c) = some d' ∧ Rp d0 d' (tf d0 r t c P s) P (4 - r)
  | 0, _, fu, d, t, c, P, s, hp, hc, hs => by
    obtain ⟨p1, p2, p3, p4⟩ := hp
    show ∃ d', q_X7_tryFrom_0 (q_X7_tryFrom fu) d (nI 4) t (nI c) = some d' ∧ Rp d0 d' (if c < stc s then some (c, P) else s) P 4
    have l4 : ¬ nI 4 < (4 : Int32) := by decide
    by_cases h : c < stc s
    · have h1 : nI c < nI (stc s) := nI_lt h (by omega)
      rw [if_pos h]
      refine ⟨_, by simp only [q_X7_tryFrom_0, q_X7_tryFrom_30, p1, h1, l4, ↓reduceIte]; rfl, ?_, ?_, ?_, ?_⟩
      · rw [wf_o (by omega), wi_e]
        rfl
      · intro b B e h4 hh4
        cases e
        rw [wf_e, pk_cpy_in (by omega) (by omega), wi_o (by omega), Nat.zero_add, Nat.sub_zero]
        exact p3 h4 hh4
      · intro h4 hh4
        rw [wf_o (by omega), wi_o (by omega)]
        exact p3 h4 hh4
      · intro s' k f n1 n2 n3
        rw [wf_o (by omega), wi_o (by omega)]
        exact p4 s' k f n1 n2 n3
    · have h1 : ¬ nI c < nI (stc s) := nI_nlt (by omega) (by omega)
      rw [if_neg h]
      exact ⟨d, by simp only [q_X7_tryFrom_0, p1, h1, ↓reduceIte], p1, p2, p3, p4⟩
  | r + 1, hr, fu, d, t, c, P, s, hp, hc, hs => by
    obtain ⟨g, hg⟩ : ∃ g, 4 - (r + 1) = g := ⟨_, rfl⟩
    have hg1 : 4 - r = g + 1 := by omega
    have hg3 : 3 - r = g := by omega
    have hg4 : g < 4 := by omega
    rw [hg] at hp hc ⊢
    show ∃ d', q_X7_tryFrom_0 (q_X7_tryFrom (fu + (r + 1))) d (nI g) t (nI c) = some d' ∧ Rp d0 d' (if acb d0 (3 - r) = true then fo (fun s i => if okb d0 (3 - r) t i = true then tf d0 r (tup t i) (c + wg d0 i) (P * 8 + i) s else s) 8 s else tf d0 r t c (P * 8) s) P g
    rw [hg3]
    obtain ⟨p1, p2, p3, p4⟩ := hp
    by_cases h : c < stc s
    · have h1 : nI c < nI (stc s) := nI_lt h (by omega)
      have l4 : nI g < (4 : Int32) := nI_lt (b := 4) hg4 (by omega)
      have eg := nI_clamp (n := g) (by omega)
      have bg : sk_bi (nI g) 4 = true := bi_nI (by omega) (by omega)
      -- the trial's place emptied
      have q1 : (sk_wi d 22 0 g (-9)).1 19 0 3 = nI (stc s) := (wi_o (by omega)).trans p1
      have q2 : ∀ b B, s = some (b, B) → ∀ h, h < 4 → (sk_wi d 22 0 g (-9)).1 21 0 h = vl d0 4 B h := fun b B e h hh => (wi_o (by omega)).trans (p2 b B e h hh)
      have q3 : ∀ h, h < g → (sk_wi d 22 0 g (-9)).1 22 0 h = vl d0 g P h := fun h hh => (wi_o (by omega)).trans (p3 h hh)
      have q4 : ∀ s k f, s ≠ 19 → s ≠ 21 → s ≠ 22 → (sk_wi d 22 0 g (-9)).1 s k f = d0.1 s k f := fun s k f n1 n2 n3 => (wi_o (by omega)).trans (p4 s k f n1 n2 n3)
      generalize hD : sk_wi d 22 0 g (-9) = D at q1 q2 q3 q4
      have w20 : D.1 20 0 g = bI (acb d0 g) := (q4 20 0 g (by omega) (by omega) (by omega)).trans (hw g hg4)
      cases ha : acb d0 g with
      | false =>
        have hp2 : Rp d0 D s (P * 8) (4 - r) := by
          rw [hg1]
          refine ⟨q1, q2, fun h hh => ?_, q4⟩
          by_cases eh : h = g
          · subst eh
            rw [← hD, wi_e]
            unfold vl
            rw [if_neg (by rw [ha]; exact Bool.false_ne_true)]
          · rw [q3 h (by omega)]
            unfold vl
            rw [dgt_s0 (by omega)]
        have hgr : g ≤ 4 - r := by clear hp2; omega
        have hcb : c ≤ (4 - r) * 999999 := Nat.le_trans hc (Nat.mul_le_mul_right 999999 hgr)
        obtain ⟨d', r1, r2⟩ := tr8 hw h01 hwg r (by omega) fu D t c (P * 8) s hp2 hcb hs
        rw [hg1] at r1 r2
        refine ⟨d', ?_, ?_⟩
        · simp only [q_X7_tryFrom_0, q_X7_tryFrom_47, p1, h1, l4, bg, eg, hD, w20, ha, bI_f, s1_nI, ↓reduceIte]
          rw [show fu + (r + 1) = fu + r + 1 by omega, r1]
          rfl
        · simp only [Bool.false_eq_true, ↓reduceIte]
          obtain ⟨u1, u2, u3, u4⟩ := r2
          refine ⟨u1, u2, fun h hh => ?_, u4⟩
          rw [u3 h (by omega)]
          unfold vl
          rw [dgt_s0 (by omega)]
      | true =>
        have hloop : ∃ d', l_X7_tryFrom_68 (q_X7_tryFrom (fu + (r + 1))) sk_fu (D, nI g, t, nI c, (0 : Int32)) = some d' ∧ Rp d0 d' (fo (fun s i => if okb d0 g t i = true then tf d0 r (tup t i) (c + wg d0 i) (P * 8 + i) s else s) 8 s) P g := by
          refine it_inv0 (F := fun rec68 a => q_X7_tryFrom_68 rec68 (q_X7_tryFrom (fu + (r + 1))) a.1 a.2.1 a.2.2.1 a.2.2.2.1 a.2.2.2.2)
            (fun j a => ∃ D', a = (D', nI g, t, nI c, nI j) ∧ Rp d0 D' (fo (fun s i => if okb d0 g t i = true then tf d0 r (tup t i) (c + wg d0 i) (P * 8 + i) s else s) j s) P g)
            (fun d' => Rp d0 d' (fo (fun s i => if okb d0 g t i = true then tf d0 r (tup t i) (c + wg d0 i) (P * 8 + i) s else s) 8 s) P g) 8 ?_ ?_ (by omega) _ ⟨D, rfl, q1, q2, q3, q4⟩
          · rintro j a hj ⟨D', rfl, hD'⟩
            obtain ⟨S, hS⟩ : ∃ S, fo (fun s i => if okb d0 g t i = true then tf d0 r (tup t i) (c + wg d0 i) (P * 8 + i) s else s) j s = S := ⟨_, rfl⟩
            have hfs : fo (fun s i => if okb d0 g t i = true then tf d0 r (tup t i) (c + wg d0 i) (P * 8 + i) s else s) (j + 1) s = (if okb d0 g t j = true then tf d0 r (tup t j) (c + wg d0 j) (P * 8 + j) S else S) := by
              rw [← hS]
              rfl
            have hSle : stc S ≤ 3999997 := by
              rw [← hS]
              refine fo_ind (fun s' => stc s' ≤ 3999997) hs (fun i s' _ h => ?_)
              show stc (if okb d0 g t i = true then tf d0 r (tup t i) (c + wg d0 i) (P * 8 + i) s' else s') ≤ 3999997
              split
              · exact Nat.le_trans (tf_le d0 r _ _ _ s') h
              · exact h
            rw [hS] at hD'
            rw [hfs]
            obtain ⟨u1, u2, u3, u4⟩ := hD'
            have ej := nI_clamp (n := j) (by omega)
            have bj : sk_bi (nI j) 8 = true := bi_nI (by omega) (by omega)
            have lj : ¬ (8 : Int32) ≤ nI j := le_nI (n := 8) rfl hj (by omega)
            have o42 (k f : Nat) : D'.1 42 k f = d0.1 42 k f := u4 42 k f (by omega) (by omega) (by omega)
            have o39 (k f : Nat) : D'.1 39 k f = d0.1 39 k f := u4 39 k f (by omega) (by omega) (by omega)
            have ht := tc8 D' j g
            rw [tcb_same o39 o42] at ht
            have stay : okb d0 g t j = false → (∀ rec : (sk_D × Int32 × Int32 × Int32 × Int32) → Option sk_D, q_X7_tryFrom_68 rec (q_X7_tryFrom (fu + (r + 1))) D' (nI g) t (nI c) (nI j) = rec (D', nI g, t, nI c, nI (j + 1))) → ∃ b, (∃ D', b = (D', nI g, t, nI c, nI (j + 1)) ∧ Rp d0 D' (if okb d0 g t j = true then tf d0 r (tup t j) (c + wg d0 j) (P * 8 + j) S else S) P g) ∧ ∀ rec, q_X7_tryFrom_68 rec (q_X7_tryFrom (fu + (r + 1))) D' (nI g) t (nI c) (nI j) = rec b := by
              intro ho hrec
              refine ⟨_, ⟨D', rfl, ?_⟩, hrec⟩
              rw [ho]
              exact ⟨u1, u2, u3, u4⟩
            cases hib : ib d0 j with
            | false =>
              have h0 : D'.1 42 j 0 = 0 := by
                rw [o42]
                rcases h01 j hj with q | q
                · exact q
                · unfold ib at hib
                  rw [q] at hib
                  cases hib
              refine stay (by unfold okb; rw [hib]; rfl) (fun rec => ?_)
              simp only [q_X7_tryFrom_68, q_X7_tryFrom_99, q_X7_tryFrom_100, q_X7_tryFrom_157, lj, bj, ej, h0, s1_nI, ↓reduceIte]
            | true =>
              have h1 : D'.1 42 j 0 = 1 := by
                rw [o42]
                exact of_decide_eq_true hib
              cases hbt : btb t j with
              | false =>
                have hb : ¬ ((t >>> (nI j &&& 31)) &&& (1 : Int32)) = 0 := by
                  rw [← shr_e, hbt]
                  exact Bool.false_ne_true
                refine stay (by unfold okb; rw [hib, hbt]; rfl) (fun rec => ?_)
                simp only [q_X7_tryFrom_68, q_X7_tryFrom_99, q_X7_tryFrom_100, q_X7_tryFrom_157, lj, bj, ej, h1, i10, hb, s1_nI, ↓reduceIte]
              | true =>
                have hb : ((t >>> (nI j &&& 31)) &&& (1 : Int32)) = 0 := by
                  rw [← shr_e, hbt]
                cases htc : tcb d0 j g with
                | false =>
                  rw [htc] at ht
                  refine stay (by unfold okb; rw [hib, hbt, htc]; rfl) (fun rec => ?_)
                  simp only [q_X7_tryFrom_68, q_X7_tryFrom_100, q_X7_tryFrom_157, lj, bj, ej, bg, eg, h1, i10, hb, ht, bI_f, Option.bind_some, s1_nI, ↓reduceIte]
                | true =>
                  rw [htc] at ht
                  have hok : okb d0 g t j = true := by unfold okb; rw [hib, hbt, htc]; rfl
                  rw [if_pos hok]
                  obtain ⟨ew, hwl⟩ := hwg j hj hib
                  have hp2 : Rp d0 (sk_wi D' 22 0 g (nI j)) S (P * 8 + j) (4 - r) := by
                    rw [hg1]
                    refine ⟨(wi_o (by omega)).trans u1, fun b B e h hh => (wi_o (by omega)).trans (u2 b B e h hh), fun h hh => ?_, fun s k f n1 n2 n3 => (wi_o (by omega)).trans (u4 s k f n1 n2 n3)⟩
                    by_cases eh : h = g
                    · subst eh
                      rw [wi_e]
                      unfold vl
                      rw [if_pos ha, dgt_l hj]
                    · rw [wi_o (by omega), u3 h (by omega)]
                      unfold vl
                      rw [dgt_s hj (by omega)]
                  have hcb : c + wg d0 j ≤ (4 - r) * 999999 := by
                    rw [hg1]
                    omega
                  obtain ⟨d', r1, r2⟩ := tr8 hw h01 hwg r (by omega) fu (sk_wi D' 22 0 g (nI j)) (tup t j) (c + wg d0 j) (P * 8 + j) S hp2 hcb hSle
                  rw [hg1] at r1 r2
                  refine ⟨(d', nI g, t, nI c, nI (j + 1)), ⟨d', rfl, ?_⟩, fun rec => ?_⟩
                  · obtain ⟨v1, v2, v3, v4⟩ := r2
                    refine ⟨v1, v2, fun h hh => ?_, v4⟩
                    rw [v3 h (by omega)]
                    unfold vl
                    rw [dgt_s hj (by omega)]
                  · have o4 : (sk_wi D' 22 0 g (nI j)).1 42 j 4 = nI (wg d0 j) := by rw [wi_o (by omega), o42, ew]
                    have r1' : q_X7_tryFrom (fu + (r + 1)) (sk_wi D' 22 0 g (nI j)) (nI (g + 1)) (t ||| ((1 : Int32) <<< (nI j &&& 31))) (nI (c + wg d0 j)) = some d' := r1
                    show q_X7_tryFrom_68 rec (q_X7_tryFrom (fu + (r + 1))) D' (nI g) t (nI c) (nI j) = _
                    simp only [q_X7_tryFrom_68, q_X7_tryFrom_100, q_X7_tryFrom_146, q_X7_tryFrom_157, lj, bj, ej, bg, eg, h1, i10, hb, ht, bI_t, o4, s1_nI, nI_add, r1', Option.bind_some, ↓reduceIte]
          · rintro a ⟨D', rfl, hD'⟩
            refine ⟨D', hD', fun rec => ?_⟩
            show q_X7_tryFrom_68 rec (q_X7_tryFrom (fu + (r + 1))) D' (nI g) t (nI c) (nI 8) = some D'
            have l : (8 : Int32) ≤ nI 8 := ge_nI (n := 8) rfl (by omega) (by omega)
            simp only [q_X7_tryFrom_68, l, ↓reduceIte]
        obtain ⟨d', r1, r2⟩ := hloop
        refine ⟨d', ?_, ?_⟩
        · simp only [q_X7_tryFrom_0, q_X7_tryFrom_47, p1, h1, l4, bg, eg, hD, w20, ha, bI_t, i10, ↓reduceIte]
          exact r1
        · simp only [↓reduceIte]
          exact r2
    · have h1 : ¬ nI c < nI (stc s) := nI_nlt (by omega) (by omega)
      have hpr := tf_prune d0 (r + 1) t c P s (by omega)
      have hpr2 : (if acb d0 g = true then fo (fun s i => if okb d0 g t i = true then tf d0 r (tup t i) (c + wg d0 i) (P * 8 + i) s else s) 8 s else tf d0 r t c (P * 8) s) = s := by
        rw [← hg3]
        exact hpr
      rw [hpr2]
      exact ⟨d, by simp only [q_X7_tryFrom_0, p1, h1, ↓reduceIte], p1, p2, p3, p4⟩
