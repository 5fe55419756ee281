/-! THE PLANNER: the reference's units, the search of the family *** by hand -/
theorem isO {d e e' : sk_D} (hP : rP d e) (h45 : ∀ f, e'.1 45 0 f = e.1 45 0 f) (h48 : ∀ f, e'.1 48 0 f = e.1 48 0 f) {i : Nat} (hi : i < 20) (f : Int32) : q_X9_isOf e' (nI i) f = some (bI (pp (d.1 37) i && decide (d.1 37 i 3 = f))) := by
  have bi : sk_bi (nI i) 20 = true := bi_nI (by omega) (by omega)
  have ei := nI_clamp (n := i) (by omega)
  obtain ⟨h0, h1, h2⟩ := hP i hi
  unfold q_X9_isOf q_X9_isOf_0 pp
  rw [if_pos bi, ei, h45, h48, h1]
  by_cases q : d.1 37 i 0 = 1
  · rw [if_pos q, if_pos bi, (h2 q).2.2.1, decide_eq_true q, Bool.true_and]
    by_cases q2 : d.1 37 i 3 = f
    · rw [if_pos q2, decide_eq_true q2]
      rfl
    · rw [if_neg q2, decide_eq_false q2]
      rfl
  · rw [if_neg q, decide_eq_false q, Bool.false_and]
    rfl
theorem f67 {d e e' : sk_D} (hP : rP d e) {T : Nat → Int32} {su lv : Nat → Nat → Bool} {n : Nat} (hn : n < 20) (hI : FI (d.1 37) T su lv n (un (d.1 37) T n) e e') (hp : pp (d.1 37) n = true) (v1 : Int32) (r7 : (sk_D × Int32 × Int32) → Option sk_D) :
    l_X9_findUnits_67 r7 sk_fu (e', v1, nI n, d.1 37 n 3, bI (tk (d.1 37) T n), nI (un (d.1 37) T n), 0) = q_X9_findUnits_108 r7 e' v1 (nI n) (nI (uo (d.1 37) T n)) := by
  obtain ⟨hF, h37, h77, h76⟩ := hI
  by_cases ht : tk (d.1 37) T n = true
  · rw [ht]
    have hd : ldr (d.1 37) T n = ix (sf (d.1 37) n) n := if_pos ht
    refine it_for0 (F := fun rec67 a => q_X9_findUnits_67 r7 rec67 a.1 a.2.1 a.2.2.1 a.2.2.2.1 a.2.2.2.2.1 a.2.2.2.2.2.1 a.2.2.2.2.2.2) (fun i => (e', v1, nI n, d.1 37 n 3, bI true, (if ix (sf (d.1 37) n) i < i then nI (uo (d.1 37) T n) else nI (un (d.1 37) T n)), nI i)) n (fun i hi rec => ?_) (fun rec => ?_) (by omega)
    · show q_X9_findUnits_67 r7 rec e' v1 (nI n) (d.1 37 n 3) (bI true) (if ix (sf (d.1 37) n) i < i then nI (uo (d.1 37) T n) else nI (un (d.1 37) T n)) (nI i) = rec (e', v1, nI n, d.1 37 n 3, bI true, (if ix (sf (d.1 37) n) (i + 1) < i + 1 then nI (uo (d.1 37) T n) else nI (un (d.1 37) T n)), nI (i + 1))
      have l1 : ¬ nI n ≤ nI i := nI_ge hi (by omega)
      have bi : sk_bi (nI i) 20 = true := bi_nI (by omega) (by omega)
      have ei := nI_clamp (n := i) (by omega)
      unfold q_X9_findUnits_67
      rw [if_neg l1, if_neg (show ¬ bI true = 0 by decide), isO hP (fun f => hF 45 0 f (by omega) (by omega) (by omega) (by omega)) (fun f => hF 48 0 f (by omega) (by omega) (by omega) (by omega)) (by omega), Option.bind_some, iff_w]
      unfold q_X9_findUnits_100
      rw [nI_1, ei]
      by_cases hs : sf (d.1 37) n i = true
      · have hs2 : (pp (d.1 37) i && decide (d.1 37 i 3 = d.1 37 n 3)) = true := hs
        have hpi : pp (d.1 37) i = true := by
          rw [Bool.and_eq_true] at hs2
          exact hs2.1
        have hx : ix (sf (d.1 37) n) (i + 1) < i + 1 := by
          rw [ix_s, if_pos hs]
          split <;> omega
        rw [if_pos hs2, if_pos bi, if_pos hx, h77 i hi hpi, (uo_eq ht hi hs).1]
      · have hs2 : ¬ (pp (d.1 37) i && decide (d.1 37 i 3 = d.1 37 n 3)) = true := hs
        rw [if_neg hs2, ix_s, if_neg hs]
        by_cases q : ix (sf (d.1 37) n) i < i
        · rw [if_pos q, if_pos q, if_pos (by omega)]
        · rw [if_neg q, if_neg q, if_neg (Nat.lt_irrefl _)]
    · show q_X9_findUnits_67 r7 rec e' v1 (nI n) (d.1 37 n 3) (bI true) (if ix (sf (d.1 37) n) n < n then nI (uo (d.1 37) T n) else nI (un (d.1 37) T n)) (nI n) = _
      unfold q_X9_findUnits_67
      rw [if_pos (nI_le (Nat.le_refl _) (by omega))]
      by_cases q : ix (sf (d.1 37) n) n < n
      · rw [if_pos q]
      · have e1 : ldr (d.1 37) T n = n := by
          have := ldr_le (d.1 37) T n
          omega
        have e2 : uo (d.1 37) T n = un (d.1 37) T n := by
          unfold uo
          rw [e1]
        rw [if_neg q, e2]
  · have e1 : ldr (d.1 37) T n = n := if_neg ht
    have e2 : uo (d.1 37) T n = un (d.1 37) T n := by
      unfold uo
      rw [e1]
    rw [(Bool.not_eq_true _).mp ht, e2]
    show q_X9_findUnits_67 r7 _ e' v1 (nI n) (d.1 37 n 3) (bI false) (nI (un (d.1 37) T n)) 0 = _
    unfold q_X9_findUnits_67
    rw [if_pos (show bI false = 0 by decide)]
    split <;> rfl
