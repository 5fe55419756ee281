/-! load, the call *** by hand -/
def TXf (d d' e e' : sk_D) : Prop := (∀ k f, d'.1 35 k f = d.1 35 k f) ∧ (∀ k f, d'.1 36 k f = d.1 36 k f) ∧ (∀ f, e'.1 44 0 f = e.1 44 0 f) ∧ ∀ f, e'.1 75 0 f = e.1 75 0 f
theorem TXf.rf (d e : sk_D) : TXf d d e e := ⟨fun _ _ => rfl, fun _ _ => rfl, fun _ => rfl, fun _ => rfl⟩
theorem ld_add {d e : sk_D} (hR : sk_R2 d e) (k j : Nat) (c : Int32) (hk : k < 8) (hj1 : 1 ≤ j) (hj : j < 64) (hc : c = -9 ∨ ∃ f, f < 8 ∧ c = nI f) :
    ∃ (r : Int32) (d' e' : sk_D), q_X8_addPupil d (nI k) (nI j) c = some (r, d') ∧ q_X9_addPupil e (nI k) (nI j) c = some (r, e') ∧ sk_R2 d' e' ∧ sk_F8 d d' ∧ sk_F9 e e' ∧ (r = -3 ∨ ∃ q, q < 100 ∧ r = nI q) ∧ TXf d d' e e' := by
  have h8 := (wi_in k (a := nI k) (lo := 0) (hi := 7) 0 7 rfl rfl rfl (by omega) (by omega) (by omega)).1
  have h9 := (wi_in k (a := nI k) (lo := 0) (hi := 7) 0 7 rfl rfl rfl (by omega) (by omega) (by omega)).2
  have g8 := (wi_in j (a := nI j) (lo := 1) (hi := 63) 1 63 rfl rfl rfl (by omega) (by omega) (by omega)).1
  have g9 := (wi_in j (a := nI j) (lo := 1) (hi := 63) 1 63 rfl rfl rfl (by omega) (by omega) (by omega)).2
  have core : ∃ (r : Int32) (d' e' : sk_D), q_X8_addPupil_37 d (nI k) (nI j) c = some (r, d') ∧ q_X9_addPupil_29 e (nI k) (nI j) c = some (r, e') ∧ sk_R2 d' e' ∧ sk_F8 d d' ∧ sk_F9 e e' ∧ (r = -3 ∨ ∃ q, q < 100 ∧ r = nI q) ∧ TXf d d' e e' := by
    rcases c8_free hR.1.1 with ⟨p, hp, p0, p1, pf⟩ | ⟨pa, pf⟩
    · have hR1 := en_R hR p k j (by omega) (by omega) c hc
      obtain ⟨r, d', e', q1, q2, hR2, f8, f9, o8, o9⟩ := px_rule hR1 c hc
      have w := (wi_in p (a := nI p) (lo := 0) (hi := 19) 0 19 rfl rfl rfl (by omega) (by omega) (by omega)).1 d
      have ep := nI_clamp (n := p) (by omega)
      have bp : sk_bi (nI p) 20 = true := bi_nI (by omega) (by omega)
      have e1 : q_X4_enrol d p (nI k) (nI j) c = some (en8 d p (nI k) (nI j) c) := rfl
      have k1 : ¬ kc (pb d) 20 = 20 := by
        rw [kc_kn]
        refine ne_nI (n := 20) rfl ?_ ?_
        · intro h
          have := kn_all h p hp
          rw [p0] at this
          cases this
        · have := kn_le (pb d) 20
          omega
      refine ⟨nI p, d', e', ?_, ?_, hR2, sk_F8.tr ?_ f8, sk_F9.tr ?_ f9, .inr ⟨p, by omega, rfl⟩, fun k' f => ?_, fun k' f => ?_, fun f => ?_, fun f => ?_⟩
      · simp only [q_X8_addPupil_37, pf, w, i10, bp, ep, e1, q1, Option.bind_some, ↓reduceIte]
      · simp only [q_X9_addPupil_29, c9_pupilMany hR.1.1, k1, Option.bind_some, ↓reduceIte]
        refine en9_find hR.1.1 _ _ _ p hp p0 p1 (en9_loop _ _ p hp ?_)
        rw [q2]
        rfl
      · exact ((((((((sk_F8.rf d).wi _ _ _ _ (by omega)).wi _ _ _ _ (by omega)).wi _ _ _ _ (by omega)).wi _ _ _ _ (by omega)).wi _ _ _ _ (by omega)).wi _ _ _ _ (by omega)).fi _ _ _ _ (by omega))
      · exact sk_F9.tr ((((((((sk_F9.rf e).wi _ _ _ _ (by omega)).wi _ _ _ _ (by omega)).wi _ _ _ _ (by omega)).wi _ _ _ _ (by omega)).wi _ _ _ _ (by omega)).wi _ _ _ _ (by omega))) (sc9_F _ _ _)
      · rw [o8 35 k' f (by omega)]
        unfold en8
        rw [fi_o (by omega), wi_o (by omega), wi_o (by omega), wi_o (by omega), wi_o (by omega), wi_o (by omega), wi_o (by omega)]
      · rw [o8 36 k' f (by omega)]
        unfold en8
        rw [fi_o (by omega), wi_o (by omega), wi_o (by omega), wi_o (by omega), wi_o (by omega), wi_o (by omega), wi_o (by omega)]
      · rw [o9 44 0 f (by omega), sc9_o _ _ _ _ _ (by omega)]
        unfold en9
        rw [wi_o (by omega), wi_o (by omega), wi_o (by omega), wi_o (by omega), wi_o (by omega), wi_o (by omega)]
      · rw [o9 75 0 f (by omega), sc9_o _ _ _ _ _ (by omega)]
        unfold en9
        rw [wi_o (by omega), wi_o (by omega), wi_o (by omega), wi_o (by omega), wi_o (by omega), wi_o (by omega)]
    · have k1 : kc (pb d) 20 = 20 := by
        rw [kc_kn, kn_of pa]
        rfl
      exact ⟨-3, d, e, by simp only [q_X8_addPupil_37, pf, wi_m9 0 19 0 19 rfl rfl (by omega), Option.bind_some, ↓reduceIte], by simp only [q_X9_addPupil_29, c9_pupilMany hR.1.1, k1, Option.bind_some, ↓reduceIte], hR, sk_F8.rf d, sk_F9.rf e, .inl rfl, TXf.rf d e⟩
  obtain ⟨r, d', e', q1, q2, hh⟩ := core
  rcases hc with rfl | ⟨f, hf, rfl⟩
  · exact ⟨r, d', e', by simp only [q_X8_addPupil, q_X8_addPupil_0, h8, g8, i10, q1, Option.bind_some, ↓reduceIte], by simp only [q_X9_addPupil, q_X9_addPupil_0, q_X9_isLevel, q_X9_isLevel_0, q_X9_isLanguages, q_X9_isLanguages_0, h9, g9, nb1, i10, q2, Option.bind_some, ↓reduceIte], hh⟩
  · have nf := nm_nI (j := f) (by omega)
    have f9 : q_X9_isFamily e (nI f) = some 1 := by
      simp only [q_X9_isFamily, q_X9_isFamily_0, (wi_in f (a := nI f) (lo := 0) (hi := 7) 0 7 rfl rfl rfl (by omega) (by omega) (by omega)).2, nb1, Option.bind_some, ↓reduceIte]
    exact ⟨r, d', e', by simp only [q_X8_addPupil, q_X8_addPupil_0, h8, g8, isFa hf, nf, i10, q1, Option.bind_some, ↓reduceIte], by simp only [q_X9_addPupil, q_X9_addPupil_0, q_X9_isLevel, q_X9_isLevel_0, q_X9_isLanguages, q_X9_isLanguages_0, h9, g9, f9, nf, nb1, i10, q2, Option.bind_some, ↓reduceIte], hh⟩
theorem ld_open {d e : sk_D} (hR : sk_R2 d e) (l k p : Nat) (hl : l < 8) (hk : k < 6) (hp1 : 1 ≤ p) (hp : p ≤ 6) :
    ∃ (r : Int32) (d' e' : sk_D), q_X8_openGroup d (nI l) (nI k) (nI p) = some (r, d') ∧ q_X9_openGroup e (nI l) (nI k) (nI p) = some (r, e') ∧ sk_R2 d' e' ∧ sk_F8 d d' ∧ sk_F9 e e' ∧ (r = -3 ∨ ∃ q, q < 100 ∧ r = nI q) ∧ TXf d d' e e' := by
  have a1 := wi_in l (a := nI l) (lo := 0) (hi := 7) 0 7 rfl rfl rfl (by omega) (by omega) (by omega)
  have a2 := wi_in k (a := nI k) (lo := 0) (hi := 5) 0 5 rfl rfl rfl (by omega) (by omega) (by omega)
  have a3 := wi_in p (a := nI p) (lo := 1) (hi := 6) 1 6 rfl rfl rfl (by omega) (by omega) (by omega)
  have h8 : q_X8_isGroupKind d (nI l) (nI k) (nI p) = some 1 := by simp only [q_X8_isGroupKind, q_X8_isGroupKind_0, a1.1, a2.1, a3.1, i10, Option.bind_some, ↓reduceIte]
  have h9 : q_X9_areOfGroup e (nI l) (nI k) (nI p) = some 1 := by simp only [q_X9_areOfGroup, q_X9_areOfGroup_0, q_X9_isLevel, q_X9_isLevel_0, a1.2, a2.2, a3.2, nb1, i10, Option.bind_some, ↓reduceIte]
  rcases free_g hR.2.2.1.1 with ⟨g, hg, _, f8, f9, fm⟩ | ⟨f8, fm⟩
  · have w := (wi_in g (a := nI g) (lo := 0) (hi := 3) 0 3 rfl rfl rfl (by omega) (by omega) (by omega)).1 d
    have eg := nI_clamp (n := g) (by omega)
    have bg : sk_bi (nI g) 4 = true := bi_nI (by omega) (by omega)
    have e1 : q_X0_begin d g (nI l) (nI k) (nI p) = some (og8 d g (nI l) (nI k) (nI p)) := rfl
    refine ⟨nI g, og8 d g (nI l) (nI k) (nI p), og9 e g (nI l) (nI k) (nI p), by simp only [q_X8_openGroup, q_X8_openGroup_0, h8, f8, w, i10, bg, eg, e1, Option.bind_some, ↓reduceIte], ?_, og_R hR hg hl hk hp1 hp, ?_, ?_, .inr ⟨g, by omega, rfl⟩, fun k' f => ?_, fun k' f => ?_, fun f => ?_, fun f => ?_⟩
    · simp only [q_X9_openGroup, q_X9_openGroup_0, h9, c9_groupMany hR.2.2.1.1, fm, f9, i10, bg, eg, Option.bind_some, ↓reduceIte]
      rfl
    · exact (((((((sk_F8.rf d).wi _ _ _ _ (by omega)).wi _ _ _ _ (by omega)).wi _ _ _ _ (by omega)).wi _ _ _ _ (by omega)).wi _ _ _ _ (by omega)).wi _ _ _ _ (by omega)).wi _ _ _ _ (by omega)
    · exact (((((((sk_F9.rf e).wi _ _ _ _ (by omega)).wi _ _ _ _ (by omega)).wi _ _ _ _ (by omega)).wi _ _ _ _ (by omega)).wi _ _ _ _ (by omega)).wi _ _ _ _ (by omega)).wi _ _ _ _ (by omega)
    · unfold og8
      rw [wi_o (by omega), wi_o (by omega), wi_o (by omega), wi_o (by omega), wi_o (by omega), wi_o (by omega), wi_o (by omega)]
    · unfold og8
      rw [wi_o (by omega), wi_o (by omega), wi_o (by omega), wi_o (by omega), wi_o (by omega), wi_o (by omega), wi_o (by omega)]
    · unfold og9
      rw [wi_o (by omega), wi_o (by omega), wi_o (by omega), wi_o (by omega), wi_o (by omega), wi_o (by omega), wi_o (by omega)]
    · unfold og9
      rw [wi_o (by omega), wi_o (by omega), wi_o (by omega), wi_o (by omega), wi_o (by omega), wi_o (by omega), wi_o (by omega)]
  · exact ⟨-3, d, e, by simp only [q_X8_openGroup, q_X8_openGroup_0, h8, f8, wi_m9 0 3 0 3 rfl rfl (by omega), i10, Option.bind_some, ↓reduceIte], by simp only [q_X9_openGroup, q_X9_openGroup_0, h9, c9_groupMany hR.2.2.1.1, fm, i10, Option.bind_some, ↓reduceIte], hR, sk_F8.rf d, sk_F9.rf e, .inl rfl, TXf.rf d e⟩
theorem ld_hire {d e : sk_D} (hR : sk_R2 d e) (l lo hp wg : Nat) (hl1 : 1 ≤ l) (hl : l < 64) (hlo : lo ≤ hp) (hhp : hp < 8) (hw1 : 1 ≤ wg) (hw : wg ≤ 999999) :
    ∃ (r : Int32) (d' e' : sk_D), q_X8_hire d (nI l) (nI lo) (nI hp) (nI wg) = some (r, d') ∧ q_X9_hire e (nI l) (nI lo) (nI hp) (nI wg) = some (r, e') ∧ sk_R2 d' e' ∧ sk_F8 d d' ∧ sk_F9 e e' ∧ (r = -3 ∨ ∃ q, q < 100 ∧ r = nI q) ∧ TXf d d' e e' := by
  have a1 := wi_in l (a := nI l) (lo := 1) (hi := 63) 1 63 rfl rfl rfl (by omega) (by omega) (by omega)
  have a2 := wi_in lo (a := nI lo) (lo := 0) (hi := 7) 0 7 rfl rfl rfl (by omega) (by omega) (by omega)
  have a3 := wi_in hp (a := nI hp) (lo := nI lo) (hi := 7) lo 7 rfl rfl rfl (by omega) (by omega) (by omega)
  have a4 := wi_in wg (a := nI wg) (lo := 1) (hi := 999999) 1 999999 rfl rfl rfl (by omega) (by omega) (by omega)
  rcases free_i hR.2.2.2.1.1 with ⟨g, hg, g0, gi, r8, fm⟩ | ⟨r8, fm⟩
  · have wn := (wi_in g (a := nI g) (lo := 0) (hi := 7) 0 7 rfl rfl rfl (by omega) (by omega) (by omega)).1 d
    have eg := nI_clamp (n := g) (by omega)
    have bg : sk_bi (nI g) 8 = true := bi_nI (by omega) (by omega)
    have e1 : q_X1_begin d g (nI l) (nI lo) (nI hp) (nI wg) = some (hi8 d g (nI l) (nI lo) (nI hp) (nI wg)) := rfl
    refine ⟨nI g, hi8 d g (nI l) (nI lo) (nI hp) (nI wg), hi9 e g (nI l) (nI lo) (nI hp) (nI wg), by simp only [q_X8_hire, q_X8_hire_0, a1.1, a4.1, a2.1, a3.1, r8, wn, i10, bg, eg, e1, Option.bind_some, ↓reduceIte], ?_, hi_R hR hg (by omega) (by omega) (by omega) hw1 hw, ?_, ?_, .inr ⟨g, by omega, rfl⟩, fun k' f => ?_, fun k' f => ?_, fun f => ?_, fun f => ?_⟩
    · simp only [q_X9_hire, q_X9_hire_0, q_X9_isLanguages, q_X9_isLanguages_0, q_X9_isLevel, q_X9_isLevel_0, a1.2, a2.2, a3.2, a4.2, nb1, i10, c9_instructorMany hR.2.2.2.1.1, fm, Option.bind_some, ↓reduceIte]
      refine it_for0 (F := fun rec53 a => q_X9_hire_53 rec53 a.1 a.2.1 a.2.2.1 a.2.2.2.1 a.2.2.2.2.1 a.2.2.2.2.2) (fun i => (e, nI l, nI lo, nI hp, nI wg, nI i)) g (fun i hi rec => ?_) (fun rec => ?_) (by omega)
      · show q_X9_hire_53 rec e (nI l) (nI lo) (nI hp) (nI wg) (nI i) = rec (e, nI l, nI lo, nI hp, nI wg, nI (i + 1))
        have ei := nI_clamp (n := i) (by omega)
        have bi : sk_bi (nI i) 8 = true := bi_nI (by omega) (by omega)
        simp only [q_X9_hire_53, bi, ei, (hR.2.2.2.1.1.o1 (by omega) (gi i hi)).2, s1_nI, ↓reduceIte]
      · show q_X9_hire_53 rec e (nI l) (nI lo) (nI hp) (nI wg) (nI g) = _
        simp only [q_X9_hire_53, bg, eg, (hR.2.2.2.1.1.o0 hg g0).2, i01, ↓reduceIte]
        rfl
    · exact ((((((sk_F8.rf d).wi _ _ _ _ (by omega)).wi _ _ _ _ (by omega)).wi _ _ _ _ (by omega)).wi _ _ _ _ (by omega)).wi _ _ _ _ (by omega)).wi _ _ _ _ (by omega)
    · exact ((((((sk_F9.rf e).wi _ _ _ _ (by omega)).wi _ _ _ _ (by omega)).wi _ _ _ _ (by omega)).wi _ _ _ _ (by omega)).wi _ _ _ _ (by omega)).wi _ _ _ _ (by omega)
    · unfold hi8
      rw [wi_o (by omega), wi_o (by omega), wi_o (by omega), wi_o (by omega), wi_o (by omega), wi_o (by omega)]
    · unfold hi8
      rw [wi_o (by omega), wi_o (by omega), wi_o (by omega), wi_o (by omega), wi_o (by omega), wi_o (by omega)]
    · unfold hi9
      rw [wi_o (by omega), wi_o (by omega), wi_o (by omega), wi_o (by omega), wi_o (by omega), wi_o (by omega)]
    · unfold hi9
      rw [wi_o (by omega), wi_o (by omega), wi_o (by omega), wi_o (by omega), wi_o (by omega), wi_o (by omega)]
  · exact ⟨-3, d, e, by simp only [q_X8_hire, q_X8_hire_0, a1.1, a4.1, a2.1, a3.1, r8, wi_m9 0 7 0 7 rfl rfl (by omega), i10, Option.bind_some, ↓reduceIte], by simp only [q_X9_hire, q_X9_hire_0, q_X9_isLanguages, q_X9_isLanguages_0, q_X9_isLevel, q_X9_isLevel_0, a1.2, a2.2, a3.2, a4.2, nb1, i10, c9_instructorMany hR.2.2.2.1.1, fm, Option.bind_some, ↓reduceIte], hR, sk_F8.rf d, sk_F9.rf e, .inl rfl, TXf.rf d e⟩
/-- an entry carried out -/
theorem ld_op {d e : sk_D} {en : Int32 → Option (Int32 × sk_D)} (hR : sk_R2 d e) (h : KD d e en) :
    ∃ (r : Int32) (d' e' : sk_D), q_X8_carryOutEntry d = some (r, d') ∧ en 1 = some (r, e') ∧ sk_R2 d' e' ∧ sk_F8 d d' ∧ sk_F9 e e' ∧ (r = -3 ∨ ∃ q, q < 100 ∧ r = nI q) ∧ TXf d d' e e' := by
  rcases h with ⟨k3, ⟨lv, m, fm, h1, h2, h3, h4, d4, d5, d6, e8, e7, e9⟩, hen⟩ | ⟨k3, ⟨lv, la, cp, h1, h2, h3, h4, d4, d7, d8, e8, e9, e10⟩, hen⟩ | ⟨k3, ⟨m, lo, hi, w, h1, h2, h3, h4, h5, h6, d5, d9, d10, d11, e7, e8, e9, e10⟩, hen⟩
  · obtain ⟨r, d', e', q1, q2, hh⟩ := ld_add hR lv m fm h1 h2 h3 h4
    refine ⟨r, d', e', ?_, ?_, hh⟩
    · simp only [q_X8_carryOutEntry, q_X8_carryOutEntry_0, k3, d4, d5, d6, q1, Option.bind_some, ↓reduceIte]
    · rw [hen, if_neg ne10, e8, e7, e9, q2]
      rfl
  · have n1 : ((103 : Int32) = 112) = False := eq_false (by decide)
    obtain ⟨r, d', e', q1, q2, hh⟩ := ld_open hR lv la cp h1 h2 h3 h4
    refine ⟨r, d', e', ?_, ?_, hh⟩
    · simp only [q_X8_carryOutEntry, q_X8_carryOutEntry_0, k3, n1, d4, d7, d8, q1, Option.bind_some, ↓reduceIte]
    · rw [hen, if_neg ne10, e8, e9, e10, q2]
      rfl
  · have n1 : ((105 : Int32) = 112) = False := eq_false (by decide)
    have n2 : ((105 : Int32) = 103) = False := eq_false (by decide)
    obtain ⟨r, d', e', q1, q2, hh⟩ := ld_hire hR m lo hi w h1 h2 h3 h4 h5 h6
    refine ⟨r, d', e', ?_, ?_, hh⟩
    · simp only [q_X8_carryOutEntry, q_X8_carryOutEntry_0, k3, n1, n2, d5, d9, d10, d11, q1, Option.bind_some, ↓reduceIte]
    · rw [hen, if_neg ne10, e7, e8, e9, e10, q2]
      rfl
theorem KD.z {d e : sk_D} {en : Int32 → Option (Int32 × sk_D)} (h : KD d e en) : en 0 = some (0, e) := by
  rcases h with ⟨_, _, h⟩ | ⟨_, _, h⟩ | ⟨_, _, h⟩ <;> exact (h 0).trans (if_pos rfl)
theorem EF8.tr {a b c : sk_D} (h : EF8 a b) (g : EF8 b c) : EF8 a c := fun s k f hs => (g s k f hs).trans (h s k f hs)
theorem ld1 {n : Nat} {c : Nat → Nat} : ∀ (m a j fl fl' : Nat) (d e : sk_D), n - a ≤ m → j ≤ a → m + 2 < fl → m + 2 < fl' → PT n c a d e →
    ∃ a' d' e', PT n c a' d' e' ∧ EF8 d d' ∧ AF9 e e' ∧ ((sk_it (fun rec7 a => q_X5_findFault_7 rec7 a.1 a.2) fl (d, nI j) = some (-9, d') ∧ sk_it (fun rec7 a => q_X9_load_7 rec7 a.1 a.2) fl' (e, 1) = q_X9_load_39 e' 1) ∨
      (sk_it (fun rec7 a => q_X5_findFault_7 rec7 a.1 a.2) fl (d, nI j) = some (nI a', d') ∧ sk_it (fun rec7 a => q_X9_load_7 rec7 a.1 a.2) fl' (e, 1) = q_X9_load_39 e' 0))
  | m, a, j, 0, _, _, _, _, _, h, _, _ => absurd h (by omega)
  | m, a, j, _ + 1, 0, _, _, _, _, _, h, _ => absurd h (by omega)
  | m, a, j, fl + 1, fl' + 1, d, e, hm, hj, hf, hf', hP => by
    have h1 := hP.1
    have h2 := hP.2.1
    have t1 := hP.2.2.1
    have t2 := hP.2.2.2.1
    have t3 := hP.2.2.2.2.1
    have t4 := hP.2.2.2.2.2.1
    show ∃ a' d' e', PT n c a' d' e' ∧ EF8 d d' ∧ AF9 e e' ∧ ((q_X5_findFault_7 (sk_it (fun rec7 a => q_X5_findFault_7 rec7 a.1 a.2) fl) d (nI j) = some (-9, d') ∧ q_X9_load_7 (sk_it (fun rec7 a => q_X9_load_7 rec7 a.1 a.2) fl') e 1 = q_X9_load_39 e' 1) ∨
      (q_X5_findFault_7 (sk_it (fun rec7 a => q_X5_findFault_7 rec7 a.1 a.2) fl) d (nI j) = some (nI a', d') ∧ q_X9_load_7 (sk_it (fun rec7 a => q_X9_load_7 rec7 a.1 a.2) fl') e 1 = q_X9_load_39 e' 0))
    by_cases ha : a = n
    · have l1 : nI n ≤ nI a := nI_le (by omega) (by omega)
      refine ⟨a, d, e, hP, fun _ _ _ _ => rfl, AF9.rf e, .inl ⟨?_, ?_⟩⟩
      · by_cases c1 : (100 : Int32) ≤ nI j
        · simp only [q_X5_findFault_7, c1, ↓reduceIte]
        · simp only [q_X5_findFault_7, c1, t1, t3, l1, ↓reduceIte]
      · simp only [q_X9_load_7, i10, t2, t4, l1, ↓reduceIte]
    · have l1 : ¬ nI n ≤ nI a := nI_ge (by omega) (by omega)
      have c1 : ¬ (100 : Int32) ≤ nI j := le_nI (n := 100) rfl (by omega) (by omega)
      obtain ⟨a', d', e', haa, hP', g8, g9, hh⟩ := pent hP
      rcases hh with ⟨r8, r9⟩ | ⟨hlt, r8, hk⟩
      · refine ⟨a', d', e', hP', g8, g9, .inr ⟨?_, ?_⟩⟩
        · simp only [q_X5_findFault_7, c1, t1, t3, l1, r8, hP'.2.2.2.2.1, Option.bind_some, ↓reduceIte]
        · have n1 : ((-1 : Int32) = 0) = False := eq_false (by decide)
          obtain ⟨f2, hf2⟩ : ∃ f2, fl' = f2 + 1 := ⟨fl' - 1, by omega⟩
          rw [hf2]
          have : sk_it (fun rec7 a => q_X9_load_7 rec7 a.1 a.2) (f2 + 1) (e', (0 : Int32)) = q_X9_load_39 e' 0 := by
            show q_X9_load_7 (sk_it (fun rec7 a => q_X9_load_7 rec7 a.1 a.2) f2) e' 0 = _
            unfold q_X9_load_7
            rw [if_pos rfl]
          unfold q_X9_load_7
          rw [if_neg ne10, t2, t4, if_neg l1, r9 0, Option.bind_some, if_neg (show ¬ (-1 : Int32) = 0 by decide)]
          exact this
      · obtain ⟨m', hm'⟩ : ∃ m', m = m' + 1 := ⟨m - 1, by have := hP'.2.1; omega⟩
        have hle := hP'.2.1
        obtain ⟨a2, d2, e2, i1, i2, i3, i4⟩ := ld1 m' a' (j + 1) fl fl' d' e' (by omega) (by omega) (by omega) (by omega) hP'
        have s8 : q_X5_findFault_7 (sk_it (fun rec7 a => q_X5_findFault_7 rec7 a.1 a.2) fl) d (nI j) = sk_it (fun rec7 a => q_X5_findFault_7 rec7 a.1 a.2) fl (d', nI (j + 1)) := by
          unfold q_X5_findFault_7
          rw [if_neg c1, t1, t3, if_neg l1, r8, Option.bind_some, if_neg ne10, s1_nI]
        have s9 : q_X9_load_7 (sk_it (fun rec7 a => q_X9_load_7 rec7 a.1 a.2) fl') e 1 = sk_it (fun rec7 a => q_X9_load_7 rec7 a.1 a.2) fl' (e', 1) := by
          unfold q_X9_load_7
          rw [if_neg ne10, t2, t4, if_neg l1, hk.z, Option.bind_some, if_pos rfl]
          rfl
        rw [s8, s9]
        exact ⟨a2, d2, e2, i1, g8.tr i2, g9.tr i3, i4⟩
theorem sd8.of2 {d d' : sk_D} (g8 : EF8 d d') : sd8 d d' := ⟨fun s hs => by
    funext k f
    exact g8 s k f (by omega), g8 35 0 1 (by omega)⟩
theorem R2_rd {d e d' e' : sk_D} (hR : sk_R2 d e) (g8 : EF8 d d') (g9 : AF9 e e') : sk_R2 d' e' := R2_d (R2_e hR ⟨fun s h1 h2 => by
    funext k f
    exact g9 s k f (by omega), fun f hf => g9 44 0 f (by omega)⟩) (sd8.of2 g8)
theorem EF8.F {d d' : sk_D} (g8 : EF8 d d') : sk_F8 d d' := fun s hs => by
  funext k f
  exact g8 s k f (by omega)
theorem AF9.F {e e' : sk_D} (g9 : AF9 e e') : sk_F9 e e' := fun s hs => by
  funext k f
  exact g9 s k f (by omega)
theorem ld2 {n : Nat} {c : Nat → Nat} : ∀ (m a j cnt fl fl' : Nat) (d e : sk_D), n - a ≤ m → j ≤ a → m + 2 < fl → m + 2 < fl' → PT n c a d e → sk_R2 d e →
    ∃ (r : Int32) (d' e' : sk_D), sk_it (fun rec31 a => q_X8_load_31 rec31 a.1 a.2.1 a.2.2) fl (d, nI cnt, nI j) = some (r, d') ∧ sk_it (fun rec60 a => q_X9_load_60 rec60 a.1 a.2.1 a.2.2) fl' (e, nI cnt, 1) = some (r, e') ∧ sk_R2 d' e' ∧ sk_F8 d d' ∧ sk_F9 e e'
  | m, a, j, _, 0, _, _, _, _, _, h, _, _, _ => absurd h (by omega)
  | m, a, j, _, _ + 1, 0, _, _, _, _, _, h, _, _ => absurd h (by omega)
  | m, a, j, cnt, fl + 1, fl' + 1, d, e, hm, hj, hf, hf', hP, hR => by
    have h1 := hP.1
    have h2 := hP.2.1
    have t2 := hP.2.2.2.1
    have t4 := hP.2.2.2.2.2.1
    show ∃ (r : Int32) (d' e' : sk_D), q_X8_load_31 (sk_it (fun rec31 a => q_X8_load_31 rec31 a.1 a.2.1 a.2.2) fl) d (nI cnt) (nI j) = some (r, d') ∧ q_X9_load_60 (sk_it (fun rec60 a => q_X9_load_60 rec60 a.1 a.2.1 a.2.2) fl') e (nI cnt) 1 = some (r, e') ∧ sk_R2 d' e' ∧ sk_F8 d d' ∧ sk_F9 e e'
    obtain ⟨f2, hf2⟩ : ∃ f2, fl' = f2 + 1 := ⟨fl' - 1, by omega⟩
    have stop : ∀ (E : sk_D) (v : Int32), sk_it (fun rec60 a => q_X9_load_60 rec60 a.1 a.2.1 a.2.2) fl' (E, v, (0 : Int32)) = some (v, E) := by
      intro E v
      rw [hf2]
      show q_X9_load_60 (sk_it (fun rec60 a => q_X9_load_60 rec60 a.1 a.2.1 a.2.2) f2) E v 0 = _
      unfold q_X9_load_60
      rw [if_pos rfl]
    by_cases ha : a = n
    · have l1 : nI n ≤ nI a := nI_le (by omega) (by omega)
      have s9 : q_X9_load_60 (sk_it (fun rec60 a => q_X9_load_60 rec60 a.1 a.2.1 a.2.2) fl') e (nI cnt) 1 = some (nI cnt, e) := by
        unfold q_X9_load_60
        rw [if_neg ne10, t2, t4, if_pos l1]
      by_cases c1 : (100 : Int32) ≤ nI j
      · refine ⟨nI cnt, d, e, ?_, s9, hR, sk_F8.rf d, sk_F9.rf e⟩
        unfold q_X8_load_31
        rw [if_pos c1]
      · obtain ⟨a', d', e', haa, hP', g8, g9, hh⟩ := pent hP
        rcases hh with ⟨r8, r9⟩ | ⟨hlt, _⟩
        · refine ⟨nI cnt, d', e, ?_, s9, R2_rd hR g8 (AF9.rf e), g8.F, sk_F9.rf e⟩
          unfold q_X8_load_31
          rw [if_neg c1, r8, Option.bind_some, if_pos rfl]
        · have := hP'.2.1
          omega
    · have l1 : ¬ nI n ≤ nI a := nI_ge (by omega) (by omega)
      have c1 : ¬ (100 : Int32) ≤ nI j := le_nI (n := 100) rfl (by omega) (by omega)
      obtain ⟨a', d', e', haa, hP', g8, g9, hh⟩ := pent hP
      have hR' := R2_rd hR g8 g9
      rcases hh with ⟨r8, r9⟩ | ⟨hlt, r8, hk⟩
      · refine ⟨nI cnt, d', e', ?_, ?_, hR', g8.F, g9.F⟩
        · unfold q_X8_load_31
          rw [if_neg c1, r8, Option.bind_some, if_pos rfl]
        · unfold q_X9_load_60
          rw [if_neg ne10, t2, t4, if_neg l1, r9 1, Option.bind_some, if_pos (show (-1 : Int32) < 0 by decide)]
          unfold q_X9_load_88
          rw [if_pos rfl]
          unfold q_X9_load_99
          rw [Int32.add_zero]
          exact stop e' (nI cnt)
      · obtain ⟨r, d2, e2, o8, o9, hR2, f8, f9, hr, x1, x2, x3, x4⟩ := ld_op hR' hk
        have hle := hP'.2.1
        rcases hr with rfl | ⟨q, hq, rfl⟩
        · refine ⟨nI cnt, d2, e2, ?_, ?_, hR2, g8.F.tr f8, g9.F.tr f9⟩
          · unfold q_X8_load_31
            rw [if_neg c1, r8, Option.bind_some, if_neg ne10, o8, Option.bind_some, if_pos rfl]
          · unfold q_X9_load_60
            rw [if_neg ne10, t2, t4, if_neg l1, o9, Option.bind_some, if_pos (show (-3 : Int32) < 0 by decide)]
            unfold q_X9_load_88
            rw [if_pos rfl]
            unfold q_X9_load_99
            rw [Int32.add_zero]
            exact stop e2 (nI cnt)
        · obtain ⟨m', hm'⟩ : ∃ m', m = m' + 1 := ⟨m - 1, by omega⟩
          have hP2 : PT n c a' d2 e2 := hP'.mk8 (fun f => x2 0 f) (x1 0 1) x4 (x3 36) hle ((x1 0 2).trans hP'.2.2.2.2.1) ((x3 56).trans hP'.2.2.2.2.2.1)
          obtain ⟨r, d3, e3, i1, i2, i3, i4, i5⟩ := ld2 m' a' (j + 1) (cnt + 1) fl fl' d2 e2 (by omega) (by omega) (by omega) (by omega) hP2 hR2
          have n3 : ¬ nI q = (-3 : Int32) := by
            intro h
            have h1 := congrArg Int32.toInt h
            rw [nI_toInt (by omega)] at h1
            have h2 : (-3 : Int32).toInt = -3 := by decide
            omega
          have np : ¬ nI q < (0 : Int32) := nI_pos (by omega)
          refine ⟨r, d3, e3, ?_, ?_, i3, (g8.F.tr f8).tr i4, (g9.F.tr f9).tr i5⟩
          · unfold q_X8_load_31
            rw [if_neg c1, r8, Option.bind_some, if_neg ne10, o8, Option.bind_some, if_neg n3, s1_nI, s1_nI]
            exact i1
          · unfold q_X9_load_60
            rw [if_neg ne10, t2, t4, if_neg l1, o9, Option.bind_some, if_neg np]
            unfold q_X9_load_88
            rw [if_neg ne10]
            unfold q_X9_load_99
            rw [s1_nI]
            exact i2
theorem px_load (d e : sk_D) (hR : sk_R2 d e) : ∃ (r : Int32) (d' e' : sk_D), q_X8_load d = some (r, d') ∧ q_X9_load e = some (r, e') ∧ sk_R2 d' e' ∧ sk_F8 d d' ∧ sk_F9 e e' := by
  obtain ⟨n, hn, t1, t2, t3⟩ := hR.2.2.2.2.2.2
  have hP : PT n (fun j => (d.1 36 0 j).toNatClampNeg) 0 (sk_wi d 35 0 2 0) (sk_wi e 44 0 56 0) := by
    refine ⟨hn, Nat.zero_le _, (wi_o (by omega)).trans t1, (wi_o (by omega)).trans t2, wi_e, wi_e, fun j hj => ?_⟩
    obtain ⟨h1, c, hc1, hc2, ec⟩ := t3 j hj
    rw [wi_o (by omega), wi_o (by omega), h1]
    dsimp only
    rw [ec, nI_clamp (by omega)]
    exact ⟨rfl, rfl, hc1, hc2⟩
  have W8 : EF8 d (sk_wi d 35 0 2 0) := fun s k f hs => wi_o (by omega)
  have W9 : AF9 e (sk_wi e 44 0 56 0) := fun s k f hs => wi_o (by omega)
  obtain ⟨a, d1, e1, hP1, g8, g9, hh⟩ := ld1 n 0 0 sk_fu sk_fu _ _ (by omega) (Nat.le_refl _) (show n + 2 < 5000 by omega) (show n + 2 < 5000 by omega) hP
  have hR1 : sk_R2 d1 e1 := R2_rd hR (W8.tr g8) (W9.tr g9)
  have F1 := (W8.tr g8).F
  have G1 := (W9.tr g9).F
  rcases hh with ⟨r8, r9⟩ | ⟨r8, r9⟩
  · have hP2 : PT n (fun j => (d.1 36 0 j).toNatClampNeg) 0 (sk_wi d1 35 0 2 0) (sk_wi e1 44 0 56 0) := hP1.mk8 (fun f => wi_o (by omega)) (wi_o (by omega)) (fun f => wi_o (by omega)) (wi_o (by omega)) (Nat.zero_le _) wi_e wi_e
    have X8 : EF8 d1 (sk_wi d1 35 0 2 0) := fun s k f hs => wi_o (by omega)
    have X9 : AF9 e1 (sk_wi e1 44 0 56 0) := fun s k f hs => wi_o (by omega)
    obtain ⟨r, d2, e2, i1, i2, i3, i4, i5⟩ := ld2 n 0 0 0 sk_fu sk_fu _ _ (by omega) (Nat.le_refl _) (show n + 2 < 5000 by omega) (show n + 2 < 5000 by omega) hP2 (R2_rd hR1 X8 X9)
    refine ⟨r, d2, e2, ?_, ?_, i3, (F1.tr X8.F).tr i4, (G1.tr X9.F).tr i5⟩
    · have hff : q_X5_findFault d = some (-9, d1) := r8
      unfold q_X8_load q_X8_load_0
      rw [hff, Option.bind_some, if_pos rfl]
      exact i1
    · have hl : q_X9_load e = q_X9_load_39 e1 1 := r9
      rw [hl]
      unfold q_X9_load_39
      rw [if_neg ne10]
      exact i2
  · have na := nm_nI (j := a) (by have h1 := hP1.1; have h2 := hP1.2.1; omega)
    refine ⟨-10 - nI a, d1, e1, ?_, ?_, hR1, F1, G1⟩
    · have hff : q_X5_findFault d = some (nI a, d1) := r8
      unfold q_X8_load q_X8_load_0
      rw [hff, Option.bind_some, if_neg na]
    · have hl : q_X9_load e = q_X9_load_39 e1 0 := r9
      rw [hl]
      unfold q_X9_load_39
      rw [if_pos rfl, hP1.2.2.2.2.2.1]
