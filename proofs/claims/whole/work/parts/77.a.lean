/-! THE PLANNER: the reference's plan by the class's numbers *** by hand -/
theorem cpt_z {G : Nat → Nat → Int32} {g : Nat} (h : G g 0 = 0) : cpt G g = 0 := if_pos h
theorem cpt_o {G : Nat → Nat → Int32} {g c : Nat} (h : ¬ G g 0 = 0) (h3 : G g 3 = nI c) (hc : c < 2 ^ 31) : cpt G g = c := by
  unfold cpt
  rw [if_neg h, h3, nI_clamp hc]
def GE (G : Nat → Nat → Int32) (e : sk_D) : Prop := ∀ g, g < 4 → e.1 82 0 g = nI (cpt G g) ∧ cpt G g ≤ 6 ∧ (¬ G g 0 = 0 → sp_n (G g 1) 8 ∧ e.1 80 0 g = G g 1 ∧ e.1 81 0 g = G g 2)
theorem rp9 {d e : sk_D} (hP : rP d e) (hV : vP d) {T : Nat → Int32} {sp : Int32} (hT : ∀ f, f < 8 → ((e.1 52 0 f = 1 ∧ ¬ nI f = sp) ↔ ¬ T f = 0)) {G : Nat → Nat → Int32} (hG : GE G e) :
    ∃ e', q_X9_plan e sp = some (nI (plc (d.1 37) T (su8 (d.1 37) G) (lv8d (d.1 37) G) (cpt G)), e') ∧ FP e e' ∧ (∀ k, k < 20 → pp (d.1 37) k = true → e'.1 77 0 k = nI (uo (d.1 37) T k)) ∧ ∀ v, v < un (d.1 37) T 20 → e'.1 83 0 v = nv (plg (d.1 37) T (su8 (d.1 37) G) (lv8d (d.1 37) G) (cpt G) v) := by
  obtain ⟨e', h1, hF, h77, h83⟩ := pl9 hP hV (sp := sp) hT (su := fun k g => suf e k (e.1 80 0 g) (e.1 81 0 g)) (lv := fun k g => decide (¬ e.1 46 0 k = e.1 80 0 g)) (fun _ _ _ _ => rfl) (fun _ _ _ _ => rfl) (p := cpt G) (fun g hg => ⟨(hG g hg).1, (hG g hg).2.1⟩)
  obtain ⟨c1, c2⟩ := plc_cg (P := d.1 37) (T := T) (su := fun k g => suf e k (e.1 80 0 g) (e.1 81 0 g)) (su' := su8 (d.1 37) G) (lv := fun k g => decide (¬ e.1 46 0 k = e.1 80 0 g)) (lv' := lv8d (d.1 37) G) (p := cpt G) (p' := cpt G) (fun g hg => by
    by_cases h0 : G g 0 = 0
    · exact .inl ⟨cpt_z h0, cpt_z h0⟩
    · refine .inr ⟨rfl, fun k hk hp => ?_⟩
      have hp1 : d.1 37 k 0 = 1 := of_decide_eq_true hp
      obtain ⟨⟨b, hb, eb⟩, e80, e81⟩ := (hG g hg).2.2 h0
      obtain ⟨a, ha, ea⟩ := (hV k hk hp1).1
      obtain ⟨p1, p2, _⟩ := (hP k hk).2.2 hp1
      refine ⟨?_, ?_⟩
      · have f1 := fit9 e hk ha hb (p1.trans ea) (G g 2)
        have f2 := isf9 e hk (nI b) (G g 2)
        rw [f1] at f2
        have f3 := Option.some.inj f2
        show suf e k (e.1 80 0 g) (e.1 81 0 g) = su8 (d.1 37) G k g
        unfold su8
        rw [e80, e81, eb, ea, ← p2, decide_eq_true h0, Bool.true_and]
        generalize ftb (nI a) (e.1 47 0 k) (nI b) (G g 2) = y at f3 ⊢
        generalize suf e k (nI b) (G g 2) = z at f3 ⊢
        cases y <;> cases z
        · rfl
        · exact absurd f3 (by decide)
        · exact absurd f3 (by decide)
        · rfl
      · show decide (¬ e.1 46 0 k = e.1 80 0 g) = lv8d (d.1 37) G k g
        unfold lv8d
        rw [e80, p1]
        by_cases q : d.1 37 k 1 = G g 1
        · rw [decide_eq_false (not_not_intro q), decide_eq_false (not_not_intro q.symm)]
        · rw [decide_eq_true q, decide_eq_true (show ¬ G g 1 = d.1 37 k 1 from fun z => q z.symm)])
  refine ⟨e', ?_, hF, h77, fun v hv => ?_⟩
  · rw [h1, c1]
  · rw [h83 v hv, c2 v hv]
def FRg (e e' : sk_D) : Prop := ∀ s k f, ¬ (80 ≤ s ∧ s ≤ 82) → e'.1 s k f = e.1 s k f
theorem gp9 {d e : sk_D} (hG : rG d e) (hW : vG d) : ∃ e1, q_X9_planGroups e = some e1 ∧ FRg e e1 ∧ GE (d.1 39) e1 := by
  obtain ⟨e1, ⟨hF, hv⟩, h1⟩ := pg9 e
  refine ⟨e1, h1, hF, fun g hg => ?_⟩
  obtain ⟨a1, a2, a3⟩ := hv g hg
  obtain ⟨r1, r2, _, _, r5⟩ := hG g hg
  rcases r1 with r1 | r1
  · rw [a3, r2, r1, if_neg (by decide), cpt_z r1]
    exact ⟨rfl, Nat.zero_le _, fun z => absurd rfl z⟩
  · have n0 : ¬ d.1 39 g 0 = 0 := by rw [r1]; decide
    obtain ⟨p1, p2, p3, _⟩ := r5 r1
    obtain ⟨s1, _, ⟨c, c1, c2, c3⟩, _⟩ := (hW g hg).2 r1
    rw [a3, r2, if_pos r1, p3, cpt_o n0 c3 (by omega), a1, a2, p1, p2]
    exact ⟨c3, c2, fun _ => ⟨s1, rfl, rfl⟩⟩
/-- what a plan leaves -/
theorem FD.sd {d d' : sk_D} (h : FD d d') : sd8 d d' := ⟨fun s hs => by
  funext k f
  exact h s k f (by omega), h 35 0 1 (by omega)⟩
theorem FD.f8 {d d' : sk_D} (h : FD d d') : sk_F8 d d' := fun s hs => by
  funext k f
  exact h s k f (by omega)
def FQ (e e' : sk_D) : Prop := ∀ s k f, s < 76 → ¬ (s = 44 ∧ f = 37) → e'.1 s k f = e.1 s k f
theorem FP.q {e e' : sk_D} (h : FP e e') : FQ e e' := fun s k f h1 h2 => h s k f (by omega) (by omega) h2
theorem FRg.q {e e' : sk_D} (h : FRg e e') : FQ e e' := fun s k f h1 _ => h s k f (by omega)
theorem FQ.tr {a b c : sk_D} (h : FQ a b) (g : FQ b c) : FQ a c := fun s k f h1 h2 => (g s k f h1 h2).trans (h s k f h1 h2)
theorem FQ.se {e e' : sk_D} (h : FQ e e') : se9 e e' := ⟨fun s h1 h2 => by
  funext k f
  exact h s k f (by omega) (by omega), fun f hf => h 44 0 f (by omega) (by omega)⟩
theorem FQ.f9 {e e' : sk_D} (h : FQ e e') : sk_F9 e e' := fun s hs => by
  funext k f
  exact h s k f (by omega) (by omega)
theorem rP.q {d e e' : sk_D} (hP : rP d e) (h : FQ e e') : rP d e' := fun k hk => by
  obtain ⟨q1, q2, q3⟩ := hP k hk
  have a (s f : Nat) (hs : 45 ≤ s ∧ s < 76) : e'.1 s 0 f = e.1 s 0 f := h s 0 f (by omega) (by omega)
  refine ⟨q1, (a 45 k (by omega)).trans q2, fun hp => ?_⟩
  obtain ⟨p1, p2, p3, p4, p5, p6⟩ := q3 hp
  exact ⟨(a 46 k (by omega)).trans p1, (a 47 k (by omega)).trans p2, (a 48 k (by omega)).trans p3, (a 49 k (by omega)).trans p4, (a 51 k (by omega)).trans p5, fun j hj => (a 50 _ (by omega)).trans (p6 j hj)⟩
/-- the families that count -/
theorem hTn {d e : sk_D} (hF : rF d e) : ∀ f, f < 8 → ((e.1 52 0 f = 1 ∧ ¬ nI f = (-9 : Int32)) ↔ ¬ d.1 5 0 f = 0) := fun f hf => by
  obtain ⟨h1, h2⟩ := hF f hf
  rw [h2]
  rcases h1 with h1 | h1 <;> rw [h1]
  · exact ⟨fun z => absurd z.1 (by decide), fun z => absurd rfl z⟩
  · exact ⟨fun _ => by decide, fun _ => ⟨rfl, nI_n9 (by omega)⟩⟩
theorem hTs {d e : sk_D} (hF : rF d e) {a : Nat} (ha : a < 8) : ∀ f, f < 8 → ((e.1 52 0 f = 1 ∧ ¬ nI f = nI a) ↔ ¬ (if f = a then (0 : Int32) else d.1 5 0 f) = 0) := fun f hf => by
  obtain ⟨h1, h2⟩ := hF f hf
  rw [h2]
  by_cases e1 : f = a
  · rw [if_pos e1, e1]
    exact ⟨fun z => absurd rfl z.2, fun z => absurd rfl z⟩
  · rw [if_neg e1]
    have n1 : ¬ nI f = nI a := fun z => e1 ((nI_eq (by omega) (by omega)).mp z)
    rcases h1 with h1 | h1 <;> rw [h1]
    · exact ⟨fun z => absurd z.1 (by decide), fun z => absurd rfl z⟩
    · exact ⟨fun _ => by decide, fun _ => ⟨rfl, n1⟩⟩
