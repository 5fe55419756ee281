/-! THE SIMULATION: the class's steps *** by hand -/
def jns (P : Nat → Nat → Nat → Nat) (M : Nat) : Nat → ST → ST
  | 0, s => s
  | g + 1, s => jn P M g (jns P M g s)
def ons (P : Nat → Nat → Nat → Nat) (M l : Nat) : Nat → ST → ST
  | 0, s => s
  | k + 1, s => on1 P M l (ons P M l k s)
theorem ons_add (P : Nat → Nat → Nat → Nat) (M l a : Nat) (s : ST) : ∀ b, ons P M l (a + b) s = ons P M l b (ons P M l a s)
  | 0 => rfl
  | b + 1 => by
    show on1 P M l (ons P M l (a + b) s) = on1 P M l (ons P M l b (ons P M l a s))
    rw [ons_add P M l a s b]
theorem ons_n {P : Nat → Nat → Nat → Nat} {M l : Nat} {s : ST} (h : s.2 l = []) : ∀ b, ons P M l b s = s
  | 0 => rfl
  | b + 1 => by
    show on1 P M l (ons P M l b s) = s
    rw [ons_n h b, on1_n h]
/-- the class's numbers: what stays, what moves *** -/
def CSt (P : Nat → Nat → Nat → Nat) (d : sk_D) : Prop := (∀ g, g < 4 → d.1 24 0 g = nI (P 0 g 0) ∧ (P 0 g 0 ≠ 0 → d.1 39 g 6 = nI (P 1 g 0) ∧ ∀ j, j < P 1 g 0 → d.1 40 g j = nI (P 2 g j) ∧ d.1 41 g j = nI (P 3 g j))) ∧ d.1 0 0 9 = nI (P 7 0 0) ∧ ∀ l, l < P 7 0 0 → d.1 43 l 0 = nI (P 4 l 0) ∧ d.1 43 l 1 = nI (P 5 l 0) ∧ d.1 43 l 2 = nI (P 6 l 0)
def CR (P : Nat → Nat → Nat → Nat) (s : ST) (d : sk_D) : Prop := (∀ g, g < 4 → d.1 31 0 g = nI (s.1 0 g) ∧ d.1 30 0 g = nI (s.1 1 g) ∧ (P 0 g 0 ≠ 0 → d.1 25 0 g = nI (s.1 2 g)) ∧ d.1 27 0 g = nI (s.1 3 g) ∧ d.1 26 0 g = nI (s.1 4 g)) ∧ ∀ l, l < 3 → d.1 34 0 l = nI (s.2 l).length ∧ (∀ k, k < (s.2 l).length → d.1 33 l k = nI (gt (s.2 l) k)) ∧ d.1 29 0 l = nI (s.1 5 l) ∧ d.1 28 0 l = nI (s.1 6 l)
section SC
variable {P : Nat → Nat → Nat → Nat} {b : Nat → Nat} {c M : Nat} {s : ST} {d d' : sk_D}
theorem CSt.fr (h : CSt P d) (ho : ∀ s k f, ¬ (25 ≤ s ∧ s ≤ 34) → d'.1 s k f = d.1 s k f) : CSt P d' := by
  unfold CSt at h ⊢
  simp only [ho 24 _ _ (by omega), ho 39 _ _ (by omega), ho 40 _ _ (by omega), ho 41 _ _ (by omega), ho 0 _ _ (by omega), ho 43 _ _ (by omega)]
  exact h
theorem bj_s (M j : Nat) : (fun g => if g < j + 1 then M + 1 else M) = up1 (fun g => if g < j then M + 1 else M) j (M + 1) := by
  funext g
  unfold up1
  by_cases e : g = j
  · rw [if_pos e, if_pos (by omega)]
  · rw [if_neg e]
    show _ = if g < j then M + 1 else M
    by_cases q : g < j
    · rw [if_pos q, if_pos (by omega)]
    · rw [if_neg q, if_neg (by omega)]
theorem IR_jns (h : IR P (fun _ => M) c s) (hP : PV P) (hM : M < 180) : ∀ j, j ≤ 4 → IR P (fun g => if g < j then M + 1 else M) c (jns P M j s)
  | 0, _ => by
    have e : (fun g => if g < 0 then M + 1 else M) = (fun _ => M) := by
      funext g
      exact if_neg (Nat.not_lt_zero g)
    rw [e]
    exact h
  | j + 1, hj => by
    rw [bj_s]
    exact IR_jn (IR_jns h hP hM j (by omega)) hP hM (by omega) (if_neg (Nat.lt_irrefl j))
theorem IR_b4 (h : IR P (fun g => if g < 4 then M + 1 else M) c s) : IR P (fun _ => M + 1) c s := by
  refine ⟨fun g hg => ?_, h.2⟩
  have e : (fun g => if g < 4 then M + 1 else M) g = M + 1 := if_pos hg
  have := h.1 g hg
  rw [e] at this
  exact this
theorem IR_ons (h : IR P (fun _ => M + 1) c s) (hP : PV P) (hM : M < 180) {l : Nat} (hl : l < P 7 0 0) : ∀ k, IR P (fun _ => M + 1) c (ons P M l k s)
  | 0 => h
  | k + 1 => IR_on1 (IR_ons h hP hM hl k) hP hM hl
/-- a group joins *** -/
theorem cjn (hS : CSt P d) (hC : CR P s d) (hI : IR P b c s) (hP : PV P) (hM : M < 180) {g : Nat} (hg : g < 4) (hb : b g = M) : ∃ d', (CSt P d' ∧ CR P (jn P M g s) d' ∧ FS8 d d') ∧ ∀ rec, q_X6_joinQueues_2 rec d (nI M) (nI g) = rec (d', nI M, nI (g + 1)) := by
  obtain ⟨a1, a2, a3, a4⟩ := hI.1 g hg
  obtain ⟨c1, c2, c3, _, _⟩ := hC.1 g hg
  obtain ⟨s1, s2⟩ := hS.1 g hg
  have bg : sk_bi (nI g) 4 = true := bi_nI (by omega) (by omega)
  have eg := nI_clamp (n := g) (by omega)
  have lg : ¬ (4 : Int32) ≤ nI g := le_nI (n := 4) rfl hg (by omega)
  have e119 : ∀ (rec : sk_D × Int32 × Int32 → Option sk_D) D, q_X6_joinQueues_119 rec D (nI M) (nI g) = rec (D, nI M, nI (g + 1)) := fun rec D => by
    unfold q_X6_joinQueues_119
    rw [nI_1]
  by_cases hp : P 0 g 0 = 0
  · refine ⟨d, ⟨hS, ?_, FS8.rf d⟩, fun rec => ?_⟩
    · unfold jn
      rw [if_neg (fun q => q.1 hp)]
      exact hC
    · unfold q_X6_joinQueues_2
      rw [if_neg lg, if_pos bg, eg, s1, hp, if_pos (show nI 0 ≤ (0 : Int32) by decide), e119]
  · obtain ⟨a5, a6, a7, a8⟩ := a4 hp
    have c3 := c3 hp
    obtain ⟨s3, s4⟩ := s2 hp
    obtain ⟨_, p1, p2, p3⟩ := hP.2.2.2.1 g hg hp
    have hple : P 0 g 0 ≤ 19 := by
      have hs := hP.2.2.2.2
      have e : ∀ f : Nat → Nat, sm f 4 = 0 + f 0 + f 1 + f 2 + f 3 := fun _ => rfl
      rw [e] at hs
      rcases (show g = 0 ∨ g = 1 ∨ g = 2 ∨ g = 3 by omega) with rfl | rfl | rfl | rfl <;> omega
    have np : ¬ nI (P 0 g 0) ≤ (0 : Int32) := by
      rw [show (0 : Int32) = nI 0 from rfl]
      exact nI_ge (by omega) (by omega)
    by_cases hA : s.1 2 g = M
    · obtain ⟨s5, s6⟩ := s4 _ a5
      obtain ⟨p4, _, _⟩ := p3 _ a5
      have hn := hP.1
      have hjn : jn P M g s = sq (su s 0 g (P 0 g 0)) (P 2 g (s.1 1 g)) (s.2 (P 2 g (s.1 1 g)) ++ [g]) := if_pos ⟨hp, hA⟩
      rw [hjn]
      generalize hl : P 2 g (s.1 1 g) = l at p4 s5
      have hl3 : l < 3 := by omega
      have w0 : s.1 0 g = 0 := by
        by_cases z : s.1 0 g = 0
        · exact z
        · have := a7 z
          omega
      have nin : g ∉ s.2 l := fun z => ((hI.2.1 l hl3).1 g z).2 w0
      have hlen : (s.2 l).length ≤ 3 := by
        have := nd_len (nd_app _ _ (hI.2.1 l hl3).2.1 nin) (fun x hx => by
          rcases List.mem_append.mp hx with z | z
          · exact ((hI.2.1 l hl3).1 x z).1
          · rw [List.mem_singleton.mp z]
            exact hg)
        rw [List.length_append] at this
        have e1 : [g].length = 1 := rfl
        omega
      obtain ⟨q1, q2, q3, q4⟩ := hC.2 l hl3
      refine ⟨sk_wi (sk_wi (sk_wi d 33 l (s.2 l).length (nI g)) 34 0 l (nI ((s.2 l).length + 1))) 31 0 g (nI (P 0 g 0)), ⟨hS.fr (fun s k f hs => ?_), ⟨fun x hx => ?_, fun l' hl' => ?_⟩, fun s k f hs => ?_⟩, fun rec => ?_⟩
      · rw [wi_o (by omega), wi_o (by omega), wi_o (by omega)]
      · obtain ⟨y1, y2, y3, y4, y5⟩ := hC.1 x hx
        by_cases e : x = g
        · subst e
          rw [wi_e, show (sq (su s 0 x (P 0 x 0)) l (s.2 l ++ [x])).1 0 x = P 0 x 0 from su_e]
          refine ⟨rfl, ?_, fun z => ?_, ?_, ?_⟩
          · rw [wi_o (by omega), wi_o (by omega), wi_o (by omega), y2]
            exact congrArg nI (su_o (s := s) (v := P 0 x 0) (f := 0) (k := x) (f' := 1) (k' := x) (by omega)).symm
          · rw [wi_o (by omega), wi_o (by omega), wi_o (by omega), y3 z]
            exact congrArg nI (su_o (s := s) (v := P 0 x 0) (f := 0) (k := x) (f' := 2) (k' := x) (by omega)).symm
          · rw [wi_o (by omega), wi_o (by omega), wi_o (by omega), y4]
            exact congrArg nI (su_o (s := s) (v := P 0 x 0) (f := 0) (k := x) (f' := 3) (k' := x) (by omega)).symm
          · rw [wi_o (by omega), wi_o (by omega), wi_o (by omega), y5]
            exact congrArg nI (su_o (s := s) (v := P 0 x 0) (f := 0) (k := x) (f' := 4) (k' := x) (by omega)).symm
        · have eo : ∀ f, (sq (su s 0 g (P 0 g 0)) l (s.2 l ++ [g])).1 f x = s.1 f x := fun f => su_o (fun z => e z.2)
          have wo : ∀ f, f ≠ 33 → f ≠ 34 → (sk_wi (sk_wi (sk_wi d 33 l (s.2 l).length (nI g)) 34 0 l (nI ((s.2 l).length + 1))) 31 0 g (nI (P 0 g 0))).1 f 0 x = d.1 f 0 x := fun f h1 h2 => by
            rw [wi_o (by omega), wi_o (by omega), wi_o (by omega)]
          rw [eo, eo, eo, eo, eo, wo 31 (by omega) (by omega), wo 30 (by omega) (by omega), wo 25 (by omega) (by omega), wo 27 (by omega) (by omega), wo 26 (by omega) (by omega)]
          exact ⟨y1, y2, y3, y4, y5⟩
      · obtain ⟨y1, y2, y3, y4⟩ := hC.2 l' hl'
        have e5 : (sq (su s 0 g (P 0 g 0)) l (s.2 l ++ [g])).1 5 l' = s.1 5 l' := su_o (s := s) (v := P 0 g 0) (f := 0) (k := g) (f' := 5) (k' := l') (by omega)
        have e6 : (sq (su s 0 g (P 0 g 0)) l (s.2 l ++ [g])).1 6 l' = s.1 6 l' := su_o (s := s) (v := P 0 g 0) (f := 0) (k := g) (f' := 6) (k' := l') (by omega)
        rw [e5, e6, wi_o (s' := 29) (by omega), wi_o (s' := 29) (by omega), wi_o (s' := 29) (by omega), wi_o (s' := 28) (by omega), wi_o (s' := 28) (by omega), wi_o (s' := 28) (by omega), wi_o (s' := 34) (by omega)]
        by_cases e : l' = l
        · subst e
          rw [wi_e, sq_e, List.length_append, show [g].length = 1 from rfl]
          refine ⟨rfl, fun k hk => ?_, y3, y4⟩
          rw [wi_o (by omega), wi_o (by omega)]
          by_cases ek : k = (s.2 l').length
          · rw [ek, wi_e]
            have := gt_app2 (s.2 l') [g] 0
            rw [Nat.add_zero] at this
            rw [this]
            rfl
          · rw [wi_o (by omega), gt_app1 _ _ _ (by omega)]
            exact y2 k (by omega)
        · rw [sq_o e, wi_o (by omega), wi_o (by omega)]
          refine ⟨y1, fun k hk => ?_, y3, y4⟩
          rw [wi_o (by omega), wi_o (by omega), wi_o (by omega)]
          exact y2 k hk
      · rw [wi_o (by omega), wi_o (by omega), wi_o (by omega)]
      · have wT := (wi_in (s.1 1 g) (a := nI (s.1 1 g)) (lo := 0) (hi := 3) 0 3 rfl rfl rfl (by omega) (by omega) (by omega)).1 d
        have wl := (wi_in l (a := nI l) (lo := 0) (hi := 2) 0 2 rfl rfl rfl (by omega) (by omega) (by omega)).1 d
        have wL := (wi_in (s.2 l).length (a := nI (s.2 l).length) (lo := 0) (hi := 3) 0 3 rfl rfl rfl (by omega) (by omega) (by omega)).1 d
        have bT : sk_bi (nI (s.1 1 g)) 4 = true := bi_nI (by omega) (by omega)
        have eT := nI_clamp (n := s.1 1 g) (by omega)
        have bl : sk_bi (nI l) 3 = true := bi_nI (by omega) (by omega)
        have el := nI_clamp (n := l) (by omega)
        have bL : sk_bi (nI (s.2 l).length) 4 = true := bi_nI (by omega) (by omega)
        have eL := nI_clamp (n := (s.2 l).length) (by omega)
        have o34 : (sk_wi d 33 l (s.2 l).length (nI g)).1 34 0 l = nI (s.2 l).length := (wi_o (by omega)).trans q1
        have o24 : (sk_wi (sk_wi d 33 l (s.2 l).length (nI g)) 34 0 l (nI ((s.2 l).length + 1))).1 24 0 g = nI (P 0 g 0) := (wi_o (by omega)).trans ((wi_o (by omega)).trans s1)
        have eM : nI (s.1 2 g) = nI M := by rw [hA]
        simp only [q_X6_joinQueues_2, q_X6_joinQueues_103, q_X6_joinQueues_117, e119, lg, bg, eg, s1, np, c3, eM, c2, wT, i10, bT, eT, s5, wl, bl, el, q1, wL, bL, eL, o34, s1_nI, o24, Option.bind_some, ↓reduceIte]
    · refine ⟨d, ⟨hS, ?_, FS8.rf d⟩, fun rec => ?_⟩
      · unfold jn
        rw [if_neg (fun q => hA q.2)]
        exact hC
      · unfold q_X6_joinQueues_2
        rw [if_neg lg, if_pos bg, eg, s1, if_neg np, if_pos bg, c3, if_neg (fun z => hA ((nI_eq (by omega) (by omega)).mp z)), e119]
theorem cjoin (hS : CSt P d) (hC : CR P s d) (hI : IR P (fun _ => M) c s) (hP : PV P) (hM : M < 180) : ∃ d', q_X6_joinQueues d (nI M) = some d' ∧ CSt P d' ∧ CR P (jns P M 4 s) d' ∧ FS8 d d' := by
  have main := it_inv0 (F := fun rec a => q_X6_joinQueues_2 rec a.1 a.2.1 a.2.2)
    (fun j a => ∃ D, a = (D, nI M, nI j) ∧ CSt P D ∧ CR P (jns P M j s) D ∧ FS8 d D)
    (fun D => CSt P D ∧ CR P (jns P M 4 s) D ∧ FS8 d D) 4 (fun j a hj hp => ?_) (fun a hp => ?_) (by omega) (d, nI M, 0) ⟨d, rfl, hS, hC, FS8.rf d⟩
  · obtain ⟨d', e, h⟩ := main
    exact ⟨d', e, h⟩
  · obtain ⟨D, rfl, h1, h2, h3⟩ := hp
    obtain ⟨D', ⟨q1, q2, q3⟩, q4⟩ := cjn h1 h2 (IR_jns hI hP hM j (by omega)) hP hM hj (if_neg (Nat.lt_irrefl j))
    exact ⟨_, ⟨D', rfl, q1, q2, h3.tr q3⟩, q4⟩
  · obtain ⟨D, rfl, h1, h2, h3⟩ := hp
    refine ⟨D, ⟨h1, h2, h3⟩, fun rec => ?_⟩
    show q_X6_joinQueues_2 rec D (nI M) (nI 4) = some D
    unfold q_X6_joinQueues_2
    rw [if_pos (show (4 : Int32) ≤ nI 4 from ge_nI (n := 4) rfl (by omega) (by omega))]
end SC
