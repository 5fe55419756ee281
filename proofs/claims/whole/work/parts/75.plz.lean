/-! THE PLANNER: the reference's units, found *** by hand -/
theorem f108 {d e e' : sk_D} (hP : rP d e) {T : Nat → Int32} {su lv : Nat → Nat → Bool} (hs : ∀ k g, k < 20 → g < 4 → suf e k (e.1 80 0 g) (e.1 81 0 g) = su k g) (hl : ∀ k g, k < 20 → g < 4 → decide (¬ e.1 46 0 k = e.1 80 0 g) = lv k g) {n : Nat} (hn : n < 20) (hI : FI (d.1 37) T su lv n (un (d.1 37) T n) e e') (hp : pp (d.1 37) n = true) (v1 : Int32) :
    ∃ e2, FI (d.1 37) T su lv (n + 1) (un (d.1 37) T (n + 1)) e e2 ∧ ∀ r7, q_X9_findUnits_108 r7 e' v1 (nI n) (nI (uo (d.1 37) T n)) = r7 (e2, v1, nI (n + 1)) := by
  have hun := un_le (d.1 37) T n
  have bn : sk_bi (nI n) 20 = true := bi_nI (by omega) (by omega)
  have en := nI_clamp (n := n) (by omega)
  have h45 : e'.1 45 0 n = 1 := by
    rw [hI.1 45 0 n (by omega) (by omega) (by omega) (by omega), (hP n hn).2.1]
    exact of_decide_eq_true hp
  have hlt : uo (d.1 37) T n < un (d.1 37) T (n + 1) := uo_lt hp (by omega)
  by_cases hN : nw (d.1 37) T n = true
  · have h1 : un (d.1 37) T (n + 1) = un (d.1 37) T n + 1 := by
      show kn (nw (d.1 37) T) (n + 1) = _
      rw [kn_sc, if_pos hN]
      rfl
    have e2 : uo (d.1 37) T n = un (d.1 37) T n := by
      unfold nw at hN
      rw [Bool.and_eq_true, decide_eq_true_eq] at hN
      unfold uo
      rw [hN.2]
    have bu : sk_bi (nI (un (d.1 37) T n)) 20 = true := bi_nI (by omega) (by omega)
    have eu := nI_clamp (n := un (d.1 37) T n) (by omega)
    obtain ⟨hF, h37, h77, h76⟩ := hI
    obtain ⟨e3, ⟨hF3, hv⟩, hr⟩ := f140 (e := sk_wi e' 76 0 (un (d.1 37) T n) 0) (U := un (d.1 37) T n) (by omega) ((wi_o (by omega)).trans h37) v1 (nI n) (nI (uo (d.1 37) T n))
    have W : ∀ s k f, ¬ (s = 78 ∧ k = 0 ∧ 4 * un (d.1 37) T n ≤ f ∧ f < 4 * un (d.1 37) T n + 4) → ¬ (s = 76 ∧ k = 0 ∧ f = un (d.1 37) T n) → ¬ (s = 44 ∧ k = 0 ∧ f = 37) → (sk_wi e3 44 0 37 (nI (un (d.1 37) T n + 1))).1 s k f = e'.1 s k f := fun s k f a1 a2 a3 => by
      rw [wi_o a3, hF3 s k f a1, wi_o a2]
    have hI2 : FI (d.1 37) T su lv n (un (d.1 37) T (n + 1)) e (sk_wi e3 44 0 37 (nI (un (d.1 37) T n + 1))) := by
      refine ⟨fun s k f a1 a2 a3 a4 => (W s k f (by omega) (by omega) (by omega)).trans (hF s k f a1 a2 a3 a4), ?_, fun k hk hpk => (W 77 0 k (by omega) (by omega) (by omega)).trans (h77 k hk hpk), fun u hu => ?_⟩
      · rw [wi_e, h1]
      · by_cases q : u = un (d.1 37) T n
        · subst q
          refine ⟨?_, fun g hg => ?_⟩
          · rw [wi_o (by omega), hF3 76 0 _ (by omega), wi_e, hdn_n (Nat.le_refl _)]
            rfl
          · rw [wi_o (by omega), hv g hg, vl9_n (Nat.le_refl _)]
        · obtain ⟨b1, b2⟩ := h76 u (by omega)
          exact ⟨(W 76 0 u (by omega) (by omega) (by omega)).trans b1, fun g hg => (W 78 0 _ (by omega) (by omega) (by omega)).trans (b2 g hg)⟩
    obtain ⟨e4, hI4, hr4⟩ := f177 hs hl hn hp hI2 v1
    refine ⟨e4, hI4, fun r7 => ?_⟩
    unfold q_X9_findUnits_108
    rw [if_pos bn, en, if_pos h45, h37, if_pos (congrArg nI e2), if_pos bu, eu, hr r7, hr4 r7]
  · have h1 : un (d.1 37) T (n + 1) = un (d.1 37) T n := by
      show kn (nw (d.1 37) T) (n + 1) = _
      rw [kn_sc, if_neg hN]
      rfl
    rw [h1] at hlt
    have hI2 : FI (d.1 37) T su lv n (un (d.1 37) T (n + 1)) e e' := by
      rw [h1]
      exact hI
    obtain ⟨e4, hI4, hr4⟩ := f177 hs hl hn hp hI2 v1
    refine ⟨e4, hI4, fun r7 => ?_⟩
    unfold q_X9_findUnits_108
    rw [if_pos bn, en, if_pos h45, hI.2.1, if_neg (fun z => absurd ((nI_eq (by omega) (by omega)).mp z) (by omega)), hr4 r7]
theorem fun9 {d e : sk_D} (hP : rP d e) (hV : vP d) {T : Nat → Int32} {sp : Int32} (hT : ∀ f, f < 8 → ((e.1 52 0 f = 1 ∧ ¬ nI f = sp) ↔ ¬ T f = 0)) {su lv : Nat → Nat → Bool} (hs : ∀ k g, k < 20 → g < 4 → suf e k (e.1 80 0 g) (e.1 81 0 g) = su k g) (hl : ∀ k g, k < 20 → g < 4 → decide (¬ e.1 46 0 k = e.1 80 0 g) = lv k g) :
    ∃ e', FI (d.1 37) T su lv 20 (un (d.1 37) T 20) e e' ∧ q_X9_findUnits e sp = some e' := by
  have main := it_cn (ι := Unit) (F := fun _ rec7 a => q_X9_findUnits_7 rec7 a.1 a.2.1 a.2.2) (fun _ e' => some e') (fun n a => ∃ e', a = (e', sp, nI n) ∧ FI (d.1 37) T su lv n (un (d.1 37) T n) e e') (fun e' => FI (d.1 37) T su lv 20 (un (d.1 37) T 20) e e') 20 (fun n a hn hp => ?_) (fun a hp => ?_) (by omega) (sk_wi e 44 0 37 0, sp, 0) ⟨_, rfl, fun s k f h1 h2 h3 h4 => wi_o (by omega), wi_e, fun k hk => absurd hk (Nat.not_lt_zero k), fun u hu => absurd hu (Nat.not_lt_zero u)⟩
  · obtain ⟨e', h1, h2⟩ := main
    exact ⟨e', h1, h2 ()⟩
  · obtain ⟨e', rfl, hI⟩ := hp
    have l1 : ¬ (20 : Int32) ≤ nI n := le_nI (n := 20) rfl hn (by omega)
    have bn : sk_bi (nI n) 20 = true := bi_nI (by omega) (by omega)
    have en := nI_clamp (n := n) (by omega)
    obtain ⟨p0, p1, p2⟩ := hP n hn
    have o45 : e'.1 45 0 n = d.1 37 n 0 := (hI.1 45 0 n (by omega) (by omega) (by omega) (by omega)).trans p1
    by_cases hpr : d.1 37 n 0 = 1
    · have hp : pp (d.1 37) n = true := decide_eq_true hpr
      have o48 : e'.1 48 0 n = d.1 37 n 3 := (hI.1 48 0 n (by omega) (by omega) (by omega) (by omega)).trans (p2 hpr).2.2.1
      obtain ⟨e2, hI2, hr⟩ := f108 hP hs hl hn hI hp sp
      refine ⟨(e2, sp, nI (n + 1)), ⟨e2, rfl, hI2⟩, fun _ rec => ?_⟩
      rw [← hr rec, ← f67 hP hn hI hp sp rec]
      show q_X9_findUnits_7 rec e' sp (nI n) = _
      have fin : ∀ b : Bool, tk (d.1 37) T n = b → q_X9_findUnits_56 rec e' sp (nI n) (d.1 37 n 3) (bI b) = l_X9_findUnits_67 rec sk_fu (e', sp, nI n, d.1 37 n 3, bI (tk (d.1 37) T n), nI (un (d.1 37) T n), 0) := fun b hb => by
        unfold q_X9_findUnits_56
        rw [hI.2.1, hb]
      unfold q_X9_findUnits_7
      rw [if_neg l1, if_pos bn, if_pos bn, en, o45, if_pos hpr, o48]
      rcases (hV n hn hpr).2.2.1 with h9 | ⟨f, hf, h9⟩
      · have ht : tk (d.1 37) T n = false := by
          unfold tk
          rw [decide_eq_false (not_not_intro h9), Bool.false_and]
        rw [if_pos h9]
        exact fin false ht
      · have n9 : ¬ d.1 37 n 3 = -9 := by
          rw [h9]
          exact nI_n9 (by omega)
        have ef := nI_clamp (n := f) (by omega)
        have bf : sk_bi (nI f) 8 = true := bi_nI (by omega) (by omega)
        have htd : tk (d.1 37) T n = decide (¬ T f = 0) := by
          unfold tk
          rw [decide_eq_true n9, h9, ef, Bool.true_and]
        have o52 : e'.1 52 0 f = e.1 52 0 f := hI.1 52 0 f (by omega) (by omega) (by omega) (by omega)
        rw [if_neg n9]
        by_cases q1 : d.1 37 n 3 = sp
        · rw [if_pos q1]
          refine fin false ?_
          rw [htd]
          exact decide_eq_false (fun z => ((hT f hf).mpr z).2 (h9.symm.trans q1))
        · rw [if_neg q1]
          have q1' : ¬ nI f = sp := fun z => q1 (h9.trans z)
          rw [h9, if_pos bf, ef, o52]
          by_cases q2 : e.1 52 0 f = 1
          · rw [if_pos q2, ← h9]
            refine fin true ?_
            rw [htd]
            exact decide_eq_true ((hT f hf).mp ⟨q2, q1'⟩)
          · rw [if_neg q2, ← h9]
            refine fin false ?_
            rw [htd]
            exact decide_eq_false (fun z => q2 ((hT f hf).mpr z).1)
    · have hp : nw (d.1 37) T n = false := by
        unfold nw pp
        rw [decide_eq_false hpr, Bool.false_and]
      have hi : ∀ u, inu (d.1 37) T u n = false := fun u => by
        unfold inu pp
        rw [decide_eq_false hpr, Bool.false_and]
      have h1 : un (d.1 37) T (n + 1) = un (d.1 37) T n := by
        show kn (nw (d.1 37) T) (n + 1) = _
        rw [kn_sc, hp, if_neg (by decide)]
        rfl
      refine ⟨(e', sp, nI (n + 1)), ⟨e', rfl, ?_⟩, fun _ rec => ?_⟩
      · rw [h1]
        refine ⟨hI.1, hI.2.1, fun k hk hpk => ?_, fun u hu => ⟨?_, fun g hg => ?_⟩⟩
        · by_cases q : k = n
          · subst q
            exact absurd (of_decide_eq_true hpk) hpr
          · exact hI.2.2.1 k (by omega) hpk
        · rw [hdn_o (hi u)]
          exact (hI.2.2.2 u hu).1
        · rw [vl9_o (hi u)]
          exact (hI.2.2.2 u hu).2 g hg
      · show q_X9_findUnits_7 rec e' sp (nI n) = _
        have e108 : ∀ w, q_X9_findUnits_108 rec e' sp (nI n) w = rec (e', sp, nI (n + 1)) := fun w => by
          unfold q_X9_findUnits_108
          rw [if_pos bn, en, o45, if_neg hpr]
          unfold q_X9_findUnits_225
          rw [nI_1]
        unfold q_X9_findUnits_7
        rw [if_neg l1, if_pos bn, if_pos bn, en, o45, if_neg hpr]
        show q_X9_findUnits_67 rec _ e' sp (nI n) (e'.1 48 0 n) 0 (e'.1 44 0 37) 0 = _
        unfold q_X9_findUnits_67
        rw [if_pos rfl]
        split
        · exact e108 _
        · exact e108 _
  · obtain ⟨e', rfl, hI⟩ := hp
    refine ⟨e', hI, fun _ rec => ?_⟩
    show q_X9_findUnits_7 rec e' sp (nI 20) = _
    unfold q_X9_findUnits_7
    rw [if_pos (show (20 : Int32) ≤ nI 20 by decide)]
