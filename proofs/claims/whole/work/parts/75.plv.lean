/-! THE PLANNER: the reference's units, one pupil into a unit *** by hand -/
theorem wi01 (d : sk_D) (v lo hi : Int32) : q_X9_within d v lo hi = some 0 ∨ q_X9_within d v lo hi = some 1 := by
  unfold q_X9_within q_X9_within_0
  repeat' split
  all_goals first | exact .inl rfl | exact .inr rfl
def suf (e : sk_D) (k : Nat) (a b : Int32) : Bool := decide (q_X9_isFitting e (nI k) a b = some 1)
theorem isf9 (e : sk_D) {k : Nat} (hk : k < 20) (a b : Int32) : q_X9_isFitting e (nI k) a b = some (bI (suf e k a b)) := by
  have h : q_X9_isFitting e (nI k) a b = some 0 ∨ q_X9_isFitting e (nI k) a b = some 1 := by
    have bk : sk_bi (nI k) 20 = true := bi_nI (by omega) (by omega)
    unfold q_X9_isFitting q_X9_isFitting_0
    rw [if_pos bk]
    rcases wi01 e ((e.1 46 0 (nI k).toNatClampNeg) - a) (-1 : Int32) (1 : Int32) with q | q
    · rw [q, Option.bind_some, if_pos rfl]
      exact .inl rfl
    · rw [q, Option.bind_some, if_neg ne10, if_pos bk]
      split
      · exact .inr rfl
      · exact .inl rfl
  unfold suf
  rcases h with h | h
  · rw [h]
    rfl
  · rw [h]
    rfl
theorem suf_mv {e e' : sk_D} (h1 : ∀ f, e'.1 46 0 f = e.1 46 0 f) (h2 : ∀ f, e'.1 47 0 f = e.1 47 0 f) (k : Nat) (a b : Int32) : suf e' k a b = suf e k a b := by
  have : q_X9_isFitting e' (nI k) a b = q_X9_isFitting e (nI k) a b := by
    unfold q_X9_isFitting q_X9_isFitting_0 q_X9_within q_X9_within_0
    rw [h1, h2]
  unfold suf
  rw [this]
def vl9 (P : Nat → Nat → Int32) (T : Nat → Int32) (su lv : Nat → Nat → Bool) (n u g : Nat) : Int32 := if mfn P T su n u g = 0 then nI (ocn P T lv n u g) else -9
theorem nI_n9 {a : Nat} (ha : a < 2 ^ 31) : ¬ nI a = (-9 : Int32) := by
  intro z
  have := congrArg Int32.toInt z
  rw [nI_toInt ha] at this
  have h2 : (-9 : Int32).toInt = -9 := by decide
  omega
theorem vl9_s {P : Nat → Nat → Int32} {T : Nat → Int32} {su lv : Nat → Nat → Bool} {n u g : Nat} (hn : n < 20) (hi : inu P T u n = true) : vl9 P T su lv (n + 1) u g = if su n g = true then (if vl9 P T su lv n u g = -9 then -9 else vl9 P T su lv n u g + bI (lv n g)) else -9 := by
  have hm : mfn P T su (n + 1) u g = if su n g = true then mfn P T su n u g else mfn P T su n u g + 1 := by
    show kn (fun k => inu P T u k && !su k g) (n + 1) = _
    rw [kn_sc, hi]
    cases su n g <;> rfl
  have ho : ocn P T lv (n + 1) u g = ocn P T lv n u g + (if lv n g = true then 1 else 0) := by
    show kn (fun k => inu P T u k && lv k g) (n + 1) = _
    rw [kn_sc, hi]
    cases lv n g <;> rfl
  have h20 : ocn P T lv n u g ≤ n := kn_le _ n
  unfold vl9
  rw [hm, ho]
  by_cases hs : su n g = true
  · rw [if_pos hs, if_pos hs]
    by_cases h0 : mfn P T su n u g = 0
    · rw [if_pos h0, if_pos h0, if_neg (nI_n9 (by omega))]
      cases lv n g
      · exact (Int32.add_zero _).symm
      · exact (nI_1 _).symm
    · rw [if_neg h0, if_neg h0, if_pos rfl]
  · rw [if_neg hs, if_neg hs, if_neg (by omega)]
theorem vl9_o {P : Nat → Nat → Int32} {T : Nat → Int32} {su lv : Nat → Nat → Bool} {n u g : Nat} (hi : inu P T u n = false) : vl9 P T su lv (n + 1) u g = vl9 P T su lv n u g := by
  have hm : mfn P T su (n + 1) u g = mfn P T su n u g := by
    show kn (fun k => inu P T u k && !su k g) (n + 1) = _
    rw [kn_sc, hi]
    rfl
  have ho : ocn P T lv (n + 1) u g = ocn P T lv n u g := by
    show kn (fun k => inu P T u k && lv k g) (n + 1) = _
    rw [kn_sc, hi]
    rfl
  unfold vl9
  rw [hm, ho]
theorem vl9_n {P : Nat → Nat → Int32} {T : Nat → Int32} {su lv : Nat → Nat → Bool} {n u g : Nat} (hu : un P T n ≤ u) : vl9 P T su lv n u g = 0 := by
  have h := inu_new (P := P) (T := T) (n := n) hu
  have hm : mfn P T su n u g = 0 := kn_none (fun k hk => by rw [h k hk]; rfl)
  have ho : ocn P T lv n u g = 0 := kn_none (fun k hk => by rw [h k hk]; rfl)
  unfold vl9
  rw [hm, ho]
  rfl
theorem ad9 (e : sk_D) {n g i : Nat} (hn : n < 20) (hg : g < 4) (hi : i < 80) : q_X9_addOut e (nI i) (nI n) (nI g) = some (sk_wi e 78 0 i (if suf e n (e.1 80 0 g) (e.1 81 0 g) = true then (if e.1 78 0 i = -9 then -9 else e.1 78 0 i + bI (decide (¬ e.1 46 0 n = e.1 80 0 g))) else -9)) := by
  have bn : sk_bi (nI n) 20 = true := bi_nI (by omega) (by omega)
  have bg : sk_bi (nI g) 4 = true := bi_nI (by omega) (by omega)
  have bi : sk_bi (nI i) 80 = true := bi_nI (by omega) (by omega)
  have en := nI_clamp (n := n) (by omega)
  have eg := nI_clamp (n := g) (by omega)
  have ei := nI_clamp (n := i) (by omega)
  unfold q_X9_addOut q_X9_addOut_0
  rw [if_pos bg, if_pos bg, eg, isf9 e hn, Option.bind_some, iff_w, ei, en]
  by_cases hs : suf e n (e.1 80 0 g) (e.1 81 0 g) = true
  · rw [if_pos hs, if_pos hs, if_pos bi]
    by_cases h9 : e.1 78 0 i = -9
    · rw [if_pos h9, if_pos h9, ← h9, wi_same]
    · rw [if_neg h9, if_neg h9, if_pos bi, if_pos bn, if_pos bg]
      unfold q_X9_addOut_69
      by_cases hl : e.1 46 0 n = e.1 80 0 g
      · rw [if_pos hl, if_pos bi, ei, decide_eq_false (not_not_intro hl)]
        rfl
      · rw [if_neg hl, if_pos bi, ei, decide_eq_true hl]
        rfl
  · rw [if_neg hs, if_neg hs, if_pos bi]
