/-! MULTIANEWARRAY: what the constructors were promised *** by hand *** -/
theorem mn_i (so sr : Nat) (L : List sc_T) : ∀ l : List Nat, sc_i (l.map (fun i => (so, 0, i, Sum.inr (some (sr, i)))) ++ L) = sc_i L
  | [] => rfl
  | _ :: l => mn_i so sr L l
theorem mn_ro (so sr : Nat) (L : List sc_T) {s k : Nat} (h : ¬ (s = so ∧ k = 0)) : ∀ l : List Nat, sc_r (l.map (fun i => (so, 0, i, Sum.inr (some (sr, i)))) ++ L) s k = sc_r L s k
  | [] => rfl
  | i :: l => by
    funext f
    show sk_up (sc_r (l.map (fun i => (so, 0, i, Sum.inr (some (sr, i)))) ++ L)) so 0 i (some (sr, i)) s k f = _
    unfold sk_up
    rw [if_neg (fun q => h ⟨q.1, q.2.1⟩), mn_ro so sr L h l]
theorem mn_rs (so sr : Nat) (L : List sc_T) {j : Nat} : ∀ l : List Nat, j ∈ l → sc_r (l.map (fun i => (so, 0, i, Sum.inr (some (sr, i)))) ++ L) so 0 j = some (sr, j)
  | [], h => by cases h
  | i :: l, h => by
    show sk_up (sc_r (l.map (fun i => (so, 0, i, Sum.inr (some (sr, i)))) ++ L)) so 0 i (some (sr, i)) so 0 j = _
    unfold sk_up
    by_cases e : j = i
    · rw [if_pos ⟨rfl, rfl, e⟩, e]
    · rw [if_neg (fun q => e q.2.2)]
      rcases List.mem_cons.mp h with q | q
      · exact absurd q e
      · exact mn_rs so sr L l q
theorem mn_ce {kc : Nat → ClassId} {bb : sk_BB} {t t' so sr N : Nat} {L : List sc_T} {a : Nat × Nat} (h : ¬ (a.1 = so ∧ a.2 = 0)) : sk_ce kc bb (sk_mW t' (sc_mw so sr N L)) a = sk_ce kc bb (sk_mW t L) a := by
  have e1 : sc_i (sc_mw so sr N L) = sc_i L := mn_i so sr L (List.range N)
  have e2 : sc_r (sc_mw so sr N L) a.1 a.2 = sc_r L a.1 a.2 := mn_ro so sr L h (List.range N)
  unfold sk_ce
  cases sk_shp a.1 with
  | inl ci =>
    refine congrArg (fun l => Sum.inr (ci, l)) (List.map_congr_left fun j _ => ?_)
    show (if sk_fr ci j = true then va_rf (sk_ro bb (sc_r (sc_mw so sr N L) a.1 a.2 j)) else Value.int (sc_i (sc_mw so sr N L) a.1 a.2 j)) = (if sk_fr ci j = true then va_rf (sk_ro bb (sc_r L a.1 a.2 j)) else Value.int (sc_i L a.1 a.2 j))
    rw [e1, e2]
  | inr q =>
    obtain ⟨kd, n⟩ := q
    show Sum.inl (kc kd, n, if kd = 1 then Sum.inr (Sum.inl (fun _ => (0 : Int64))) else if 4 ≤ kd then Sum.inr (Sum.inr (Sum.inr (Sum.inr (fun j => sk_ro bb (sc_r (sc_mw so sr N L) a.1 a.2 j))))) else Sum.inl (sc_i (sc_mw so sr N L) a.1 a.2)) = Sum.inl (kc kd, n, if kd = 1 then Sum.inr (Sum.inl (fun _ => (0 : Int64))) else if 4 ≤ kd then Sum.inr (Sum.inr (Sum.inr (Sum.inr (fun j => sk_ro bb (sc_r L a.1 a.2 j))))) else Sum.inl (sc_i L a.1 a.2))
    rw [e1, e2]
theorem mn_cg {cA : ClassId} {N : Nat} {f g : Nat → Value} (h : ∀ j, j < N → f j = g j) : arrV cA N f = arrV cA N g := by
  unfold arrV
  congr 2
  funext j
  exact h j.1 j.2
theorem mn_or {i : Nat} (hi : i < sk_N0) : sk_ord (sk_ref i).1 (sk_ref i).2 = i := by
  have h1 := List.all_eq_true.mp sk_refT i (List.mem_range.mpr hi)
  simp only [Bool.and_eq_true, beq_iff_eq, decide_eq_true_eq] at h1
  exact h1.1
theorem sc_mnT : sc_MN := by
  intro l R μ Ex Z cn sn pc ls st idx t N so sr L n hd hw ho ha ht hr hrr hne hs hsr hno hnr hN hn h100 hc hsl kk
  intro p e s0 m args below meth c H locs bb D kc la hH hE hR hS hB hL
  have hts := hH.2.2.2.2.2.1
  have htN : t < sk_N0 := by omega
  have hz : H.size = bb.1 + t := hR.sz htN
  have hov : (Cond.arrayOver (.array .int)).before args s0 = true := hH.2.2.2.2.2.2.2.2 _ (List.mem_filter.mpr ⟨ho, rfl⟩)
  refine mn_W (rest := st.map (sk_cv bb)) hH.1 hH.2.1 hH.2.2.2.2.1 (hts _ hw) hov (hts _ ha) rfl hd rfl hn hN (by decide) (by decide) h100 hc hsl hS.1 (fun H' cA comp g1 g2 z1 o1 k1 k2 => ?_)
  have ec1 : cA = kc 4 := sk_kcK hR.1 (kd := 4) (by omega) g1
  have ec2 : comp = kc 0 := sk_kcK hR.1 (kd := 0) (by omega) g2
  subst ec1; subst ec2
  have hR' : sk_RH bb D kc (sk_mW (t + 1 + N) (sc_mw so sr N L)) s0 H' := by
    refine sk_RH_add (1 + N) hR htN (show t + 1 + N = t + (1 + N) by omega) ht (by omega) o1 (fun i hi => ?_) (fun i hi => ?_)
    · have hi : i < t := hi
      refine mn_ce (fun q => ?_)
      have h1 := mn_or (i := i) (by omega)
      have h2 := mn_or htN
      rw [q.1, q.2] at h1
      rw [hr] at h2
      have h2 : sk_ord so 0 = t := h2
      omega
    · by_cases e0 : i = 0
      · subst e0
        show va_at D vwCl (bb.1 + (t + 0), sk_ce kc bb (sk_mW (t + 1 + N) (sc_mw so sr N L)) (sk_ref (t + 0))) H'
        rw [Nat.add_zero, hr, ← hz]
        have ec : sk_ce kc bb (sk_mW (t + 1 + N) (sc_mw so sr N L)) (so, 0) = .inl (kc 4, N, .inr (.inr (.inr (.inr (fun j => sk_ro bb (sc_r (sc_mw so sr N L) so 0 j)))))) := by
          unfold sk_ce
          rw [show sk_shp (so, 0).1 = .inr (4, N) from hs]
          rfl
        rw [ec]
        show H'[H.size]? = some (vp_cell (kc 4) (N, .inr (.inr (.inr (.inr (fun j => sk_ro bb (sc_r (sc_mw so sr N L) so 0 j)))))))
        rw [k1, vp_cell_q]
        refine congrArg some (mn_cg (fun j hj => ?_))
        have hj2 : sc_r (sc_mw so sr N L) so 0 j = some (sr, j) := mn_rs so sr L (List.range N) (List.mem_range.mpr hj)
        have ea : sk_ad bb (sr, j) = bb.1 + (t + 1 + j) := sk_ad_of (by omega) (hrr j hj)
        unfold mn_V
        rw [if_pos hj, hj2]
        show Value.ref (H.size + 1 + j) = Value.ref (sk_ad bb (sr, j))
        rw [ea, hz, show bb.1 + t + 1 + j = bb.1 + (t + 1 + j) by omega]
      · obtain ⟨j, rfl⟩ : ∃ j, i = 1 + j := ⟨i - 1, by omega⟩
        have hj : j < N := by omega
        show va_at D vwCl (bb.1 + (t + (1 + j)), sk_ce kc bb (sk_mW (t + 1 + N) (sc_mw so sr N L)) (sk_ref (t + (1 + j)))) H'
        rw [show t + (1 + j) = t + 1 + j by omega, hrr j hj, show bb.1 + (t + 1 + j) = H.size + 1 + j by omega]
        have ec : sk_ce kc bb (sk_mW (t + 1 + N) (sc_mw so sr N L)) (sr, j) = .inl (kc 0, 4, .inl (sc_i (sc_mw so sr N L) sr j)) := by
          unfold sk_ce
          rw [show sk_shp (sr, j).1 = .inr (0, 4) from hsr]
          rfl
        rw [ec]
        show H'[H.size + 1 + j]? = some (vp_cell (kc 0) (4, .inl (sc_i (sc_mw so sr N L) sr j)))
        have e1 : sc_i (sc_mw so sr N L) = sc_i L := mn_i so sr L (List.range N)
        rw [k2 j hj, vp_cell_i, e1, sc_i0 (hnr j hj)]
  have := kk p e s0 m args below meth c H' locs bb D kc la hH hE hR' (sk_S_add hS (by omega) o1) hB hL
  have ea : sk_cv bb (.inr (.inr (some (so, 0)))) = .ref H.size := by
    show Value.ref (sk_ad bb (so, 0)) = _
    rw [sk_ad_of htN hr, hz]
  rw [List.map_cons, ea] at this
  exact this
