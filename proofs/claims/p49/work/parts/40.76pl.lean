/-! THE PLANNER: the class's table, one unit in one state *** by hand -/
theorem cs8 {d : sk_D} {U : Nat} {h : Nat → Nat} {x : Nat → Nat → Bool} {o : Nat → Nat → Nat} (hU : UC d U h x o) {s c : Nat → Nat} (hN6 : d.1 6 0 1 = nI (stg s 4)) (hs : ∀ g, g < 4 → s g ≤ 6 ∧ d.1 14 0 g = nI (stg s g)) (hc : ∀ g, g < 4 → c g ≤ s g ∧ d.1 15 0 g = nI (c g)) {m u : Nat} (hu : m + 1 + u = U) {n : Nat} {G : Nat → Nat} (hO : OPT (fun g => x u g && decide (h u ≤ s g)) 4 n G) (hG : ∀ k, k < n → d.1 16 0 k = nI (G k)) (hT : ∀ g, g < 4 → okc h x u c g = true → d.1 17 0 (en s (rd c g (h u)) 4) = nI (kw 32 (bs h x o m (u + 1) (rd c g (h u))))) (h0 : d.1 17 0 (en s c 4) = nI (kw 32 (bs h x o m (u + 1) c)))
    (r32 : (sk_D × Int32 × Int32 × Int32) → Option sk_D) : l_X3_chooseFor_50 r32 sk_fu (d, nI u, nI n, nI (en s c 4), d.1 17 0 (en s c 4), 0, 0) = q_X3_chooseFor_190 r32 (sk_wl (sk_wi d 17 0 (en s c 4) (nI (kw 32 (bs h x o (m + 1) u c)))) 18 0 (en s c 4) (d.2 18 0 (en s c 4) ||| wch (fds h x o m u c 4).2 u)) (nI u) (nI n) (nI (en s c 4)) := by
  have hU20 := hU.1
  have hn := hO.1
  have bu : sk_bi (nI u) 20 = true := bi_nI (by omega) (by omega)
  have eu := nI_clamp (n := u) (by omega)
  obtain ⟨a1, a2, a3, a4⟩ := hU.2.2.1 u (by omega)
  have hlt := en_lt (s := s) (c := c) (n := 4) (fun j hj => (hc j hj).1)
  have h7 : stg s 4 ≤ 7 ^ 4 := (stg_b (fun g hg => (hs g hg).1) 4 (Nat.le_refl _)).2
  have h74 : 7 ^ 4 = 2401 := by decide
  have bst : sk_bi (nI (en s c 4)) 2401 = true := bi_nI (by omega) (by omega)
  have est := nI_clamp (n := en s c 4) (by omega)
  have e0 : (0 : Int64) = (nI 0).toInt64 := by decide
  have hz := hO.2.2 (okc h x u c) (cds h x o m u c) (bs h x o m (u + 1) c) (fun g hg ho => by
    obtain ⟨hx, hle⟩ := okc.le ho
    show (x u g && decide (h u ≤ s g)) = true
    rw [hx, decide_eq_true (Nat.le_trans hle (hc g hg).1)]
    rfl)
  have hzn : zf (okc h x u c) (cds h x o m u c) (bs h x o m (u + 1) c) G n = fds h x o m u c 4 := hz
  rw [h0, e0]
  refine it_for0 (F := fun rec50 a => q_X3_chooseFor_50 r32 rec50 a.1 a.2.1 a.2.2.1 a.2.2.2.1 a.2.2.2.2.1 a.2.2.2.2.2.1 a.2.2.2.2.2.2) (fun i => (d, nI u, nI n, nI (en s c 4), nI (kw 32 (zf (okc h x u c) (cds h x o m u c) (bs h x o m (u + 1) c) G i).1), (nI (zf (okc h x u c) (cds h x o m u c) (bs h x o m (u + 1) c) G i).2).toInt64, nI i)) n (fun j hj rec => ?_) (fun rec => ?_) (by omega)
  · show q_X3_chooseFor_50 r32 rec d (nI u) (nI n) (nI (en s c 4)) (nI (kw 32 (zf (okc h x u c) (cds h x o m u c) (bs h x o m (u + 1) c) G j).1)) (nI (zf (okc h x u c) (cds h x o m u c) (bs h x o m (u + 1) c) G j).2).toInt64 (nI j) = rec (d, nI u, nI n, nI (en s c 4), nI (kw 32 (zf (okc h x u c) (cds h x o m u c) (bs h x o m (u + 1) c) G (j + 1)).1), (nI (zf (okc h x u c) (cds h x o m u c) (bs h x o m (u + 1) c) G (j + 1)).2).toInt64, nI (j + 1))
    obtain ⟨hg, hok⟩ := hO.2.1 j hj
    rw [Bool.and_eq_true] at hok
    have hx : x u (G j) = true := hok.1
    rw [zf_s]
    generalize hzz : zf (okc h x u c) (cds h x o m u c) (bs h x o m (u + 1) c) G j = z
    have hzb : kw 32 z.1 ≤ 32 * 20 := by
      have hP : ∀ i, vb (zf (okc h x u c) (cds h x o m u c) (bs h x o m (u + 1) c) G i).1 := by
        intro i
        have hv : vb (bs h x o m (u + 1) c) := by
          have h1 := bs_bd (x := x) hU.2.2.2.1 m (u + 1) c
          have h2 := hU.2.2.2.2 m (u + 1) (by omega)
          exact ⟨h1.1, by omega⟩
        induction i with
        | zero => exact hv
        | succ i ih =>
          rw [zf_s]
          split
          · have h1 := cds_bd (x := x) hU.2.2.2.1 m u c (G i)
            have h2 := hU.2.2.2.2 (m + 1) u (by omega)
            have h3 : vb (cds h x o m u c (G i)) := ⟨h1.1, by omega⟩
            exact h3
          · exact ih
      rw [← hzz]
      exact kw_b (hP j)
    have bj : sk_bi (nI j) 4 = true := bi_nI (by omega) (by omega)
    have ej := nI_clamp (n := j) (by omega)
    have bg : sk_bi (nI (G j)) 4 = true := bi_nI (by omega) (by omega)
    have eg := nI_clamp (n := G j) (by omega)
    have hck := (hc (G j) hg)
    have hsk := hs (G j) hg
    have e151 : ∀ (v4 : Int32) (w5 : Int64), q_X3_chooseFor_160 r32 rec d (nI u) (nI n) (nI (en s c 4)) v4 w5 (nI j) = rec (d, nI u, nI n, nI (en s c 4), v4, w5, nI (j + 1)) := fun v4 w5 => by
      unfold q_X3_chooseFor_160
      rw [nI_1]
    unfold q_X3_chooseFor_50
    rw [if_neg (nI_ge hj (by omega)), if_pos bj, if_pos bu, ej, hG j hj, if_pos bg, if_pos bg, if_pos bu, eg, eu, hck.2, a1]
    by_cases hle : h u ≤ c (G j)
    · have ho : okc h x u c (G j) = true := by
        unfold okc
        rw [hx, decide_eq_true hle]
        rfl
      have hen := en_rd (s := s) hle hg
      have hr : nI (en s c 4) - nI (h u) * d.1 14 0 (G j) = nI (en s (rd c (G j) (h u)) 4) := by
        rw [hsk.2, pk_mul, pk_sub (by omega)]
        exact congrArg nI (by omega)
      have br : sk_bi (nI (en s (rd c (G j) (h u)) 4)) 2401 = true := bi_nI (by omega) (by omega)
      have er := nI_clamp (n := en s (rd c (G j) (h u)) 4) (by omega)
      have hB := bs_bd (x := x) hU.2.2.2.1 m (u + 1) (rd c (G j) (h u))
      have hB2 := hU.2.2.2.2 m (u + 1) (by omega)
      have hou := hU.2.2.2.1 u (G j)
      have hv : nI (kw 32 (bs h x o m (u + 1) (rd c (G j) (h u)))) + nI (h u) * (32 : Int32) - nI (o u (G j)) = nI (kw 32 (cds h x o m u c (G j))) := by
        rw [show (32 : Int32) = nI 32 from rfl, pk_mul, nI_add, pk_sub (by omega)]
        refine congrArg nI ?_
        unfold cds kw
        dsimp only
        omega
      have hcb : kw 32 (cds h x o m u c (G j)) ≤ 32 * 20 := by
        have h1 := cds_bd (x := x) hU.2.2.2.1 m u c (G j)
        have h2 := hU.2.2.2.2 (m + 1) u (by omega)
        exact kw_b ⟨h1.1, by omega⟩
      rw [if_neg (nI_nlt hle (by omega)), hr, if_neg (nI_pos (by omega)), hN6, if_neg (nI_ge (show en s (rd c (G j) (h u)) 4 < stg s 4 by omega) (by omega)), if_pos br, if_pos bu, if_pos bu, if_pos bg, er, hT (G j) hg ho, a4 (G j) hg, if_pos hx, hv, e151, e151, nI_1]
      by_cases q : kw 32 z.1 ≤ kw 32 (cds h x o m u c (G j))
      · rw [if_neg (nI_nlt q (by omega)), if_pos ⟨ho, q⟩]
      · rw [if_pos (nI_lt (by omega) (by omega)), if_neg (fun y => q y.2)]
    · have ho : ¬ okc h x u c (G j) = true := fun y => hle (okc.le y).2
      rw [if_pos (nI_lt (by omega) (by omega)), e151, if_neg (fun y => ho y.1)]
  · show q_X3_chooseFor_50 r32 rec d (nI u) (nI n) (nI (en s c 4)) (nI (kw 32 (zf (okc h x u c) (cds h x o m u c) (bs h x o m (u + 1) c) G n).1)) (nI (zf (okc h x u c) (cds h x o m u c) (bs h x o m (u + 1) c) G n).2).toInt64 (nI n) = _
    unfold q_X3_chooseFor_50
    rw [if_pos (nI_le (Nat.le_refl n) (by omega)), if_pos bst, est, hzn]
    unfold q_X3_chooseFor_180
    rw [if_pos bst, if_pos bst, est]
    rfl
