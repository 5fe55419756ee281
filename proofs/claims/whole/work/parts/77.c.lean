/-! THE PLANNER: extraPlaced *** by hand -/
theorem rF.q {d e e' : sk_D} (hF : rF d e) (h : FQ e e') : rF d e' := fun f hf => by
  obtain ⟨h1, h2⟩ := hF f hf
  exact ⟨h1, (h 52 0 f (by omega) (by omega)).trans h2⟩
theorem og8_G {d : sk_D} {g : Nat} {a b c : Int32} (g' f : Nat) (h : g' ≠ g) : (og8 d g a b c).1 39 g' f = d.1 39 g' f := by
  unfold og8
  rw [wi_o (by omega), wi_o (by omega), wi_o (by omega), wi_o (by omega), wi_o (by omega), wi_o (by omega), wi_o (by omega)]
theorem og8_o {d : sk_D} {g : Nat} {a b c : Int32} (s k f : Nat) (h : s ≠ 39) : (og8 d g a b c).1 s k f = d.1 s k f := by
  unfold og8
  rw [wi_o (by omega), wi_o (by omega), wi_o (by omega), wi_o (by omega), wi_o (by omega), wi_o (by omega), wi_o (by omega)]
theorem og8_g {d : sk_D} {g : Nat} {a b c : Int32} : (og8 d g a b c).1 39 g 0 = 1 ∧ (og8 d g a b c).1 39 g 1 = a ∧ (og8 d g a b c).1 39 g 2 = b ∧ (og8 d g a b c).1 39 g 3 = c := by
  refine ⟨by simp [og8, sk_wi, sk_up], by simp [og8, sk_wi, sk_up], by simp [og8, sk_wi, sk_up], by simp [og8, sk_wi, sk_up]⟩
def cl8 (d : sk_D) (g : Nat) : sk_D := sk_wi (sk_wi (sk_wi (sk_wi d 39 g 0 (0 : Int32)) 39 g 4 (-9 : Int32)) 39 g 9 (0 : Int32)) 39 g 10 (0 : Int32)
theorem cl8_o {d : sk_D} {g : Nat} (s k f : Nat) (h : ¬ (s = 39 ∧ k = g)) : (cl8 d g).1 s k f = d.1 s k f := by
  unfold cl8
  rw [wi_o (by omega), wi_o (by omega), wi_o (by omega), wi_o (by omega)]
theorem cl8_g {d : sk_D} {g : Nat} : (cl8 d g).1 39 g 0 = 0 ∧ (cl8 d g).1 39 g 4 = -9 ∧ (cl8 d g).1 39 g 9 = 0 ∧ (cl8 d g).1 39 g 10 = 0 := by
  refine ⟨by simp [cl8, sk_wi, sk_up], by simp [cl8, sk_wi, sk_up], by simp [cl8, sk_wi, sk_up], by simp [cl8, sk_wi, sk_up]⟩
/-- a group that was not open, begun and ended again -/
theorem R2_cl {d e d' : sk_D} (hR : sk_R2 d e) {g : Nat} (hg : g < 4) (h0 : d.1 39 g 0 = 0) (hd : ∀ s k f, ¬ (6 ≤ s ∧ s ≤ 18) → ¬ (s = 39 ∧ k = g) → d'.1 s k f = d.1 s k f) : sk_R2 (cl8 d' g) e := by
  have hc : ∀ s k f, ¬ (6 ≤ s ∧ s ≤ 18) → ¬ (s = 39 ∧ k = g) → (cl8 d' g).1 s k f = d.1 s k f := fun s k f h1 h2 => (cl8_o s k f h2).trans (hd s k f h1 h2)
  have hs : sd8 d (sk_wf (cl8 d' g) 39 g (d.1 39 g)) := ⟨fun s hs => by
    funext k f
    by_cases q : s = 39 ∧ k = g
    · obtain ⟨rfl, rfl⟩ := q
      exact wf_e
    · rw [wf_o q]
      exact hc s k f (by omega) q, by
    rw [wf_o (by omega)]
    exact hc 35 0 1 (by omega) (by omega)⟩
  have hR1 := R2_d hR hs
  obtain ⟨c0, c4, c9, c10⟩ := cl8_g (d := d') (g := g)
  obtain ⟨r1, r2, r3, r4, _⟩ := hR.2.2.1.1 g hg
  obtain ⟨v9, v10⟩ := (hR.2.2.1.2.1 g hg).1 h0
  have n01 : ¬ (0 : Int32) = 1 := by decide
  refine R2_gr hR1 g (fun s k f _ n => (wf_o (by omega)).symm) (fun _ _ _ _ _ => rfl) (fun _ => ⟨.inl c0, ?_, ?_, ?_, fun h => ?_⟩) (fun _ => ⟨fun _ => ⟨c9, c10⟩, fun h => ?_⟩) (.inl c4) (fun k hk hp h4 => ?_)
  · rw [c0, r2, h0]
  · rw [c9, r3, v9]
  · rw [c10, r4, v10]
  · rw [c0] at h
    exact absurd h n01
  · rw [c0] at h
    exact absurd h n01
  · exfalso
    have a37 : ∀ f, (sk_wf (cl8 d' g) 39 g (d.1 39 g)).1 37 k f = d.1 37 k f := fun f => (wf_o (by omega)).trans (hc 37 k f (by omega) (by omega))
    rw [a37] at hp h4
    rcases (hR.1.2 k hk hp).2.2.2.1 with h9 | ⟨g', hg', e1, e2⟩
    · rw [h4] at h9
      exact nI_n9 (by omega) h9
    · rw [h4] at e1
      have : g = g' := (nI_eq (by omega) (by omega)).mp e1
      subst this
      rw [h0] at e2
      exact n01 e2
theorem px_extraPlaced (a b c : Int32) (d e : sk_D) (hR : sk_R2 d e) : ∃ (r : Int32) (d' e' : sk_D), q_X8_extraPlaced d a b c = some (r, d') ∧ q_X9_extraPlaced e a b c = some (r, e') ∧ sk_R2 d' e' ∧ sk_F8 d d' ∧ sk_F9 e e' := by
  rcases gk_cases a b c with ⟨h8, h9⟩ | ⟨l, k, p, hl, hk, hp1, hp, rfl, rfl, rfl, h8, h9⟩
  · exact ⟨-1, d, e, by simp only [q_X8_extraPlaced, q_X8_extraPlaced_0, h8, Option.bind_some, ↓reduceIte], by simp only [q_X9_extraPlaced, q_X9_extraPlaced_0, h9, Option.bind_some, ↓reduceIte], hR, sk_F8.rf d, sk_F9.rf e⟩
  obtain ⟨d1, ⟨hD, _, _⟩, hb⟩ := fb8 hR.1.1 hR.1.2 hR.2.2.1.1 hR.2.2.1.2.1
  obtain ⟨e1, hp1', hF1, hG1⟩ := gp9 hR.2.2.1.1 hR.2.2.1.2.1
  have hR1 : sk_R2 d e1 := R2_e hR hF1.q.se
  obtain ⟨e2, hp2, hF2, _, _⟩ := rp9 hR1.1.1 hR1.1.2 (hTn hR1.2.1) hG1
  have hR2 : sk_R2 d e2 := R2_e hR1 hF2.q.se
  have hR3 : sk_R2 d1 e2 := R2_d hR2 hD.sd
  rcases free_g hR2.2.2.1.1 with ⟨g, hg, hob, f8, f9, fm⟩ | ⟨f8, fm⟩
  · have w := (wi_in g (a := nI g) (lo := 0) (hi := 3) 0 3 rfl rfl rfl (by omega) (by omega) (by omega)).1 d
    have eg := nI_clamp (n := g) (by omega)
    have bg : sk_bi (nI g) 4 = true := bi_nI (by omega) (by omega)
    have h0 : d.1 39 g 0 = 0 := (hR.2.2.1.1.o0 hg hob).1
    have hR4 := og_R hR3 hg hl hk hp1 hp
    obtain ⟨d3, ⟨hD3, _, _⟩, hb3⟩ := fb8 hR4.1.1 hR4.1.2 hR4.2.2.1.1 hR4.2.2.1.2.1
    have x1 : q_X0_begin d1 g (nI l) (nI k) (nI p) = some (og8 d1 g (nI l) (nI k) (nI p)) := rfl
    have x2 : q_X0_end d3 g = some (cl8 d3 g) := rfl
    have a37 : (og8 d1 g (nI l) (nI k) (nI p)).1 37 = d.1 37 := by
      funext k' f
      exact (og8_o 37 k' f (by omega)).trans (hD 37 k' f (by omega))
    have a5 : (og8 d1 g (nI l) (nI k) (nI p)).1 5 0 = d.1 5 0 := by
      funext f
      exact (og8_o 5 0 f (by omega)).trans (hD 5 0 f (by omega))
    rw [a37, a5] at hb3
    obtain ⟨o0, o1, o2, o3⟩ := og8_g (d := d1) (g := g) (a := nI l) (b := nI k) (c := nI p)
    have hQ : FQ e2 (sk_wi (sk_wi (sk_wi e2 80 0 g (nI l)) 81 0 g (nI k)) 82 0 g (nI p)) := fun s k f h1 _ => by
      rw [wi_o (by omega), wi_o (by omega), wi_o (by omega)]
    have hG3 : GE ((og8 d1 g (nI l) (nI k) (nI p)).1 39) (sk_wi (sk_wi (sk_wi e2 80 0 g (nI l)) 81 0 g (nI k)) 82 0 g (nI p)) := fun g' hg' => by
      by_cases q : g' = g
      · subst q
        have n0 : ¬ (og8 d1 g' (nI l) (nI k) (nI p)).1 39 g' 0 = 0 := by rw [o0]; decide
        rw [cpt_o n0 o3 (by omega), o1, o2]
        refine ⟨wi_e, hp, fun _ => ⟨⟨l, hl, rfl⟩, ?_, ?_⟩⟩
        · rw [wi_o (by omega), wi_o (by omega), wi_e]
        · rw [wi_o (by omega), wi_e]
      · have hg39 : ∀ f, (og8 d1 g (nI l) (nI k) (nI p)).1 39 g' f = d.1 39 g' f := fun f => (og8_G g' f q).trans (hD 39 g' f (by omega))
        have hcpt : cpt ((og8 d1 g (nI l) (nI k) (nI p)).1 39) g' = cpt (d.1 39) g' := by
          unfold cpt
          rw [hg39, hg39]
        obtain ⟨b1, b2, b3⟩ := hG1 g' hg'
        rw [hcpt, hg39, hg39, hg39]
        refine ⟨?_, b2, fun n0 => ?_⟩
        · rw [wi_o (by omega), wi_o (by omega), wi_o (by omega), hF2 82 0 g' (by omega) (by omega) (by omega)]
          exact b1
        · rw [wi_o (by omega), wi_o (by omega), wi_o (by omega), wi_o (by omega), wi_o (by omega), wi_o (by omega), hF2 80 0 g' (by omega) (by omega) (by omega), hF2 81 0 g' (by omega) (by omega) (by omega)]
          exact b3 n0
    obtain ⟨e4, hp4, hF4, _, _⟩ := rp9 (hR2.1.1.q hQ) hR2.1.2 (hTn (hR2.2.1.q hQ)) hG3
    have hQ4 : FQ e e4 := (hF1.q.tr hF2.q).tr (hQ.tr hF4.q)
    refine ⟨nI (plc (d.1 37) (d.1 5 0) (su8 (d.1 37) ((og8 d1 g (nI l) (nI k) (nI p)).1 39)) (lv8d (d.1 37) ((og8 d1 g (nI l) (nI k) (nI p)).1 39)) (cpt ((og8 d1 g (nI l) (nI k) (nI p)).1 39))) - nI (plc (d.1 37) (d.1 5 0) (su8 (d.1 37) (d.1 39)) (lv8d (d.1 37) (d.1 39)) (cpt (d.1 39))), cl8 d3 g, e4, ?_, ?_, R2_cl (R2_e hR hQ4.se) hg h0 (fun s k' f h1 h2 => ?_), ?_, hQ4.f9⟩
    · unfold q_X8_extraPlaced q_X8_extraPlaced_0
      rw [h8, Option.bind_some, if_neg ne10, f8, Option.bind_some, w, Option.bind_some, if_neg ne10, hb, Option.bind_some, if_pos bg, eg, x1, Option.bind_some, hb3, Option.bind_some, if_pos bg, x2, Option.bind_some]
    · unfold q_X9_extraPlaced q_X9_extraPlaced_0
      rw [h9, Option.bind_some, if_neg ne10, c9_groupMany hR.2.2.1.1, Option.bind_some, if_neg fm, hp1', Option.bind_some, hp2, Option.bind_some, f9, Option.bind_some, if_pos bg, if_pos bg, if_pos bg, eg]
      unfold q_X9_extraPlaced_67
      rw [hp4, Option.bind_some]
    · rw [hD3 s k' f h1]
      by_cases q : s = 39
      · subst q
        exact (og8_G k' f (by omega)).trans (hD 39 k' f h1)
      · exact (og8_o s k' f q).trans (hD s k' f h1)
    · intro s hs
      funext k' f
      exact (cl8_o s k' f (by omega)).trans ((hD3 s k' f (by omega)).trans ((og8_o s k' f (by omega)).trans (hD s k' f (by omega))))
  · exact ⟨-3, d, e, by simp only [q_X8_extraPlaced, q_X8_extraPlaced_0, h8, f8, wi_m9 0 3 0 3 rfl rfl (by omega), i10, Option.bind_some, ↓reduceIte], by simp only [q_X9_extraPlaced, q_X9_extraPlaced_0, h9, c9_groupMany hR.2.2.1.1, fm, i10, Option.bind_some, ↓reduceIte], hR, sk_F8.rf d, sk_F9.rf e⟩
