/-! THE PLANNER: the class's units, the unit of a pupil *** by hand -/
def sff (P : Nat → Nat → Int32) (f j : Nat) : Bool := pp P j && decide (P j 3 = nI f)
def TW (P : Nat → Nat → Int32) (T : Nat → Int32) (m : Nat) (d' : sk_D) : Prop := ∀ f, f < 8 → ¬ T f = 0 → d'.1 12 0 f = if ix (sff P f) m < m then nI (un P T (ix (sff P f) m)) else -9
def FG (d d' : sk_D) : Prop := ∀ s k f, s ≠ 7 → s ≠ 8 → s ≠ 10 → s ≠ 12 → ¬ (s = 6 ∧ f = 0) → d'.1 s k f = d.1 s k f
def GI (P : Nat → Nat → Int32) (T : Nat → Int32) (su lv : Nat → Nat → Bool) (n N m : Nat) (d d' : sk_D) : Prop := FG d d' ∧ d'.1 6 0 0 = nI N ∧ (∀ k, k < n → d'.1 7 0 k = if pp P k = true then nI (uo P T k) else -9) ∧ TW P T m d' ∧ ∀ u, u < N → d'.1 8 0 u = nI (hdn P T n u) ∧ ∀ g, g < 4 → d'.1 10 u g = vl8 P T su lv n u g
theorem GI.new {P : Nat → Nat → Int32} {T : Nat → Int32} {su lv : Nat → Nat → Bool} {n m : Nat} {d d' : sk_D} (hI : GI P T su lv n (un P T n) m d d') : GI P T su lv n (un P T n + 1) m d (nu8 d' (un P T n)) := by
  obtain ⟨hF, h6, h7, hW, h8⟩ := hI
  refine ⟨fun s k f a1 a2 a3 a4 a5 => (nu8_o (by omega) (by omega) (by omega)).trans (hF s k f a1 a2 a3 a4 a5), wi_e, fun k hk => (nu8_o (by omega) (by omega) (by omega)).trans (h7 k hk), fun f hf ht => (nu8_o (by omega) (by omega) (by omega)).trans (hW f hf ht), fun u hu => ?_⟩
  by_cases q : u = un P T n
  · subst q
    refine ⟨?_, fun g hg => ?_⟩
    · unfold nu8
      rw [wi_o (by omega), fi_o (by omega), wi_e, hdn_n (Nat.le_refl _)]
      rfl
    · unfold nu8
      rw [wi_o (by omega), fi_e hg, vl8_n (Nat.le_refl _)]
  · obtain ⟨b1, b2⟩ := h8 u (by omega)
    exact ⟨(nu8_o (by omega) (by omega) (by omega)).trans b1, fun g hg => (nu8_o (by omega) (by omega) (by omega)).trans (b2 g hg)⟩
theorem sff_up {P : Nat → Nat → Int32} {T : Nat → Int32} {n : Nat} {d' : sk_D} (hW : TW P T n d') (h : ∀ f, f < 8 → ¬ T f = 0 → sff P f n = true → ix (sff P f) n < n) : TW P T (n + 1) d' := fun f hf ht => by
  rw [hW f hf ht, ix_s]
  by_cases q : ix (sff P f) n < n
  · rw [if_pos q, if_pos q, if_pos (by omega)]
  · have hn : ¬ sff P f n = true := fun z => q (h f hf ht z)
    rw [if_neg q, if_neg q, if_neg hn, if_neg (Nat.lt_irrefl _)]
theorem uf8 {d d' : sk_D} {T : Nat → Int32} {su lv : Nat → Nat → Bool} {n : Nat} (hn : n < 20) (hT : ∀ f, f < 8 → d.1 5 0 f = T f) (hI : GI (d.1 37) T su lv n (un (d.1 37) T n) n d d') (hp : pp (d.1 37) n = true) (h3 : d.1 37 n 3 = -9 ∨ ∃ f, f < 8 ∧ d.1 37 n 3 = nI f) :
    ∃ d2, GI (d.1 37) T su lv n (un (d.1 37) T (n + 1)) (n + 1) d d2 ∧ q_X3_unitFor d' (d.1 37 n 3) = some (nI (uo (d.1 37) T n), d2) := by
  have hun := un_le (d.1 37) T n
  have h6 := hI.2.1
  have hnew := hI.new
  have e13 : q_X3_unitFor_13 d' = some (nI (un (d.1 37) T n), nu8 d' (un (d.1 37) T n)) := by
    unfold q_X3_unitFor_13
    rw [nu8_q (by omega) h6]
    rfl
  have single : tk (d.1 37) T n = false → nw (d.1 37) T n = true ∧ un (d.1 37) T (n + 1) = un (d.1 37) T n + 1 ∧ uo (d.1 37) T n = un (d.1 37) T n := fun ht => by
    have hl : ldr (d.1 37) T n = n := if_neg (by rw [ht]; decide)
    have hN : nw (d.1 37) T n = true := by
      unfold nw
      rw [hp, hl, decide_eq_true rfl]
      rfl
    refine ⟨hN, ?_, ?_⟩
    · show kn (nw (d.1 37) T) (n + 1) = _
      rw [kn_sc, if_pos hN]
      rfl
    · unfold uo
      rw [hl]
  rcases h3 with h9 | ⟨f, hf, h9⟩
  · have ht : tk (d.1 37) T n = false := by
      unfold tk
      rw [decide_eq_false (not_not_intro h9), Bool.false_and]
    obtain ⟨_, q2, q3⟩ := single ht
    refine ⟨nu8 d' (un (d.1 37) T n), ?_, ?_⟩
    · rw [q2]
      refine ⟨hnew.1, hnew.2.1, hnew.2.2.1, sff_up hnew.2.2.2.1 (fun f hf _ hs => ?_), hnew.2.2.2.2⟩
      unfold sff at hs
      rw [Bool.and_eq_true, decide_eq_true_eq, h9] at hs
      exact absurd hs.2.symm (nI_n9 (by omega))
    · have hfa : q_X8_isFamily d' (-9) = some 0 := by
        unfold q_X8_isFamily q_X8_isFamily_0
        rw [wi_m9 0 7 0 7 rfl rfl (by omega) d', Option.bind_some, if_pos nb0]
      unfold q_X3_unitFor q_X3_unitFor_0
      rw [h9, hfa, Option.bind_some, if_pos rfl, e13, q3]
  · have bf : sk_bi (nI f) 8 = true := bi_nI (by omega) (by omega)
    have ef := nI_clamp (n := f) (by omega)
    have o5 : d'.1 5 0 f = T f := (hI.1 5 0 f (by omega) (by omega) (by omega) (by omega) (by omega)).trans (hT f hf)
    have htd : tk (d.1 37) T n = decide (¬ T f = 0) := by
      unfold tk
      rw [h9, ef, decide_eq_true (nI_n9 (by omega)), Bool.true_and]
    have hu : q_X3_unitFor d' (d.1 37 n 3) = if T f = 0 then q_X3_unitFor_13 d' else if d'.1 12 0 f = -9 then (q_X3_newUnit d').bind fun x4 => q_X3_unitFor_39 (sk_wi x4.2 12 0 f x4.1) (nI f) else q_X3_unitFor_39 d' (nI f) := by
      unfold q_X3_unitFor q_X3_unitFor_0
      rw [h9, isFa hf d', Option.bind_some, if_neg ne10, if_pos bf, ef, o5, if_pos bf]
      simp only [bf, ↓reduceIte]
    rw [hu]
    by_cases h0 : T f = 0
    · have ht : tk (d.1 37) T n = false := htd.trans (decide_eq_false (not_not_intro h0))
      obtain ⟨_, q2, q3⟩ := single ht
      refine ⟨nu8 d' (un (d.1 37) T n), ?_, ?_⟩
      · rw [q2]
        refine ⟨hnew.1, hnew.2.1, hnew.2.2.1, sff_up hnew.2.2.2.1 (fun f' hf' h0' hs => ?_), hnew.2.2.2.2⟩
        unfold sff at hs
        rw [Bool.and_eq_true, decide_eq_true_eq, h9, nI_eq (by omega) (by omega)] at hs
        rw [← hs.2] at h0'
        exact absurd h0 h0'
      · rw [if_pos h0, e13, q3]
    · have ht : tk (d.1 37) T n = true := htd.trans (decide_eq_true h0)
      have hl : ldr (d.1 37) T n = ix (sf (d.1 37) n) n := if_pos ht
      have hsf : sf (d.1 37) n = sff (d.1 37) f := by
        funext j
        unfold sf sff
        rw [h9]
      rw [hsf] at hl
      have o12 := hI.2.2.2.1 f hf h0
      rw [if_neg h0]
      by_cases q : ix (sff (d.1 37) f) n < n
      · have hN : nw (d.1 37) T n = false := by
          unfold nw
          rw [hl, decide_eq_false (by omega), Bool.and_false]
        have q2 : un (d.1 37) T (n + 1) = un (d.1 37) T n := by
          show kn (nw (d.1 37) T) (n + 1) = _
          rw [kn_sc, hN, if_neg (by decide)]
          rfl
        have q3 : uo (d.1 37) T n = un (d.1 37) T (ix (sff (d.1 37) f) n) := by
          unfold uo
          rw [hl]
        have q4 := un_le (d.1 37) T (ix (sff (d.1 37) f) n)
        rw [if_pos q] at o12
        refine ⟨d', ?_, ?_⟩
        · rw [q2]
          refine ⟨hI.1, hI.2.1, hI.2.2.1, sff_up hI.2.2.2.1 (fun f' hf' _ hs => ?_), hI.2.2.2.2⟩
          unfold sff at hs
          rw [Bool.and_eq_true, decide_eq_true_eq, h9, nI_eq (by omega) (by omega)] at hs
          rw [← hs.2]
          exact q
        · rw [o12, if_neg (nI_n9 (by omega))]
          unfold q_X3_unitFor_39
          rw [if_pos bf, ef, o12, q3]
      · have hln : ldr (d.1 37) T n = n := by
          rcases ix_or (sff (d.1 37) f) n with ⟨z, _⟩ | ⟨z, _⟩
          · exact absurd z q
          · exact hl.trans z
        have hN : nw (d.1 37) T n = true := by
          unfold nw
          rw [hp, hln, decide_eq_true rfl]
          rfl
        have q2 : un (d.1 37) T (n + 1) = un (d.1 37) T n + 1 := by
          show kn (nw (d.1 37) T) (n + 1) = _
          rw [kn_sc, if_pos hN]
          rfl
        have q3 : uo (d.1 37) T n = un (d.1 37) T n := by
          unfold uo
          rw [hln]
        rw [if_neg q] at o12
        refine ⟨sk_wi (nu8 d' (un (d.1 37) T n)) 12 0 f (nI (un (d.1 37) T n)), ?_, ?_⟩
        · rw [q2]
          refine ⟨fun s k f' a1 a2 a3 a4 a5 => (wi_o (by omega)).trans (hnew.1 s k f' a1 a2 a3 a4 a5), (wi_o (by omega)).trans hnew.2.1, fun k hk => (wi_o (by omega)).trans (hnew.2.2.1 k hk), fun f' hf' h0' => ?_, fun u hu => ⟨(wi_o (by omega)).trans (hnew.2.2.2.2 u hu).1, fun g hg => (wi_o (by omega)).trans ((hnew.2.2.2.2 u hu).2 g hg)⟩⟩
          by_cases qf : f' = f
          · subst qf
            have hsn : sff (d.1 37) f' n = true := by
              unfold sff
              rw [hp, decide_eq_true h9]
              rfl
            rw [wi_e, ix_s, if_neg q, if_pos hsn, if_pos (by omega)]
          · have hsn : ¬ sff (d.1 37) f' n = true := fun hs => by
              unfold sff at hs
              rw [Bool.and_eq_true, decide_eq_true_eq, h9, nI_eq (by omega) (by omega)] at hs
              exact qf hs.2.symm
            rw [wi_o (by omega), hnew.2.2.2.1 f' hf' h0', ix_s]
            by_cases qq : ix (sff (d.1 37) f') n < n
            · rw [if_pos qq, if_pos qq, if_pos (by omega)]
            · rw [if_neg qq, if_neg qq, if_neg hsn, if_neg (Nat.lt_irrefl _)]
        · rw [if_pos o12, nu8_q (by omega) h6, Option.bind_some]
          unfold q_X3_unitFor_39
          rw [if_pos bf, ef, wi_e, q3]
