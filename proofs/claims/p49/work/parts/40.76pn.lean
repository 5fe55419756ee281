/-! THE PLANNER: the class's table, a unit ahead *** by hand -/
theorem wl_e {d : sk_D} {s k f : Nat} {v : Int64} : (sk_wl d s k f v).2 s k f = v := if_pos ⟨rfl, rfl, rfl⟩
theorem wl_o {d : sk_D} {s k f s' k' f' : Nat} {v : Int64} (h : ¬ (s' = s ∧ k' = k ∧ f' = f)) : (sk_wl d s k f v).2 s' k' f' = d.2 s' k' f' := if_neg h
theorem ww_o {d : sk_D} {s k f s' k' f' s2 k2 f2 : Nat} {v : Int32} {w : Int64} (h : ¬ (s' = s ∧ k' = k ∧ f' = f)) : (sk_wl (sk_wi d s k f v) s2 k2 f2 w).1 s' k' f' = d.1 s' k' f' := if_neg h
def RW (h : Nat → Nat) (x : Nat → Nat → Bool) (o : Nat → Nat → Nat) (U u : Nat) (c : Nat → Nat) (v : Int32) (w : Int64) : Prop := v = nI (kw 32 (bs h x o (U - u) u c)) ∧ (∀ v', u ≤ v' → v' < U → fld w v' = nI (fds h x o (U - v' - 1) v' c 4).2) ∧ ∀ v', v' < u → fld w v' = 0
theorem fds_5 (h : Nat → Nat) (x : Nat → Nat → Bool) (o : Nat → Nat → Nat) (m u : Nat) (c : Nat → Nat) : (fds h x o m u c 4).2 < 5 := by
  rcases fd_ch (ok := okc h x u c) (cd := cds h x o m u c) (b := bs h x o m (u + 1) c) 4 (Nat.le_refl _) with h0 | ⟨g, hg, h1, _⟩
  · have h0 : (fds h x o m u c 4).2 = 0 := h0
    omega
  · have h1 : (fds h x o m u c 4).2 = g + 1 := h1
    omega
theorem RW.up {h : Nat → Nat} {x : Nat → Nat → Bool} {o : Nat → Nat → Nat} {U m u : Nat} {c : Nat → Nat} {v : Int32} {w : Int64} (hR : RW h x o U (u + 1) c v w) (hu : m + 1 + u = U) (hU : U ≤ 20) : RW h x o U u c (nI (kw 32 (bs h x o (m + 1) u c))) (w ||| wch (fds h x o m u c 4).2 u) := by
  obtain ⟨h1, h2, h3⟩ := hR
  have hk := fds_5 h x o m u c
  refine ⟨?_, fun v' a b => ?_, fun v' a => ?_⟩
  · rw [show U - u = m + 1 by omega]
  · rw [fld_or, fld_wT _ hk u (by omega) v' (by omega)]
    by_cases e : u = v'
    · subst e
      rw [h3 u (by omega), if_pos rfl, Int32.zero_or, show U - u - 1 = m by omega]
    · rw [if_neg e, Int32.or_zero]
      exact h2 v' (by omega) b
  · rw [fld_or, fld_wT _ hk u (by omega) v' (by omega), h3 v' (by omega), if_neg (by omega), Int32.or_zero]
theorem RW.cg {h : Nat → Nat} {x : Nat → Nat → Bool} {o : Nat → Nat → Nat} {U u : Nat} {c c' : Nat → Nat} {v : Int32} {w : Int64} (hh : ∀ v, v < U → 1 ≤ h v) (he : ∀ g, g < 4 → c g = c' g) (hR : RW h x o U u c v w) : RW h x o U u c' v w := by
  obtain ⟨h1, h2, h3⟩ := hR
  refine ⟨?_, fun v' a b => ?_, h3⟩
  · rw [h1, bs_red (x' := x) (o' := o) (U - u) u c c' (fun v h1 h2 => hh v (by omega)) (fun j hj => .inr ⟨fun _ => ⟨rfl, rfl⟩, .inl (he j hj)⟩)]
  · rw [h2 v' a b, fds_red (x' := x) (o' := o) (m := U - v' - 1) (u := v') (c := c) (c' := c') (fun v h1 h2 => hh v (by omega)) (fun j hj => .inr ⟨fun _ => ⟨rfl, rfl⟩, .inl (he j hj)⟩)]
def TB (h : Nat → Nat) (x : Nat → Nat → Bool) (o : Nat → Nat → Nat) (U : Nat) (s : Nat → Nat) (d : sk_D) (u : Nat) : Prop := ∀ c, (∀ g, g < 4 → c g ≤ s g) → RW h x o U u c (d.1 17 0 (en s c 4)) (d.2 18 0 (en s c 4))
def FC (d d' : sk_D) : Prop := ∀ s k f, s ≠ 15 → s ≠ 16 → s ≠ 17 → d'.1 s k f = d.1 s k f
theorem FC.rf (d : sk_D) : FC d d := fun _ _ _ _ _ _ => rfl
theorem FC.tr {a b c : sk_D} (h : FC a b) (g : FC b c) : FC a c := fun s k f h1 h2 h3 => (g s k f h1 h2 h3).trans (h s k f h1 h2 h3)
theorem UC.fc {d d' : sk_D} {U : Nat} {h : Nat → Nat} {x : Nat → Nat → Bool} {o : Nat → Nat → Nat} (hU : UC d U h x o) (hF : FC d d') : UC d' U h x o := hU.mv (hF 6 0 0 (by omega) (by omega) (by omega)) (fun f => hF 8 0 f (by omega) (by omega) (by omega)) (fun k f => hF 10 k f (by omega) (by omega) (by omega))
theorem wch_0 : ∀ u, u < 20 → wch 0 u = 0 := by decide +kernel
theorem cf8 {d : sk_D} {U : Nat} {h : Nat → Nat} {x : Nat → Nat → Bool} {o : Nat → Nat → Nat} (hU : UC d U h x o) {s : Nat → Nat} (hs : ∀ g, g < 4 → d.1 13 0 g = nI (s g) ∧ d.1 14 0 g = nI (stg s g) ∧ s g ≤ 6) (hN : d.1 6 0 1 = nI (stg s 4)) {m u : Nat} (hu : m + 1 + u = U) (hT : TB h x o U s d (u + 1)) :
    ∃ d', (FC d d' ∧ TB h x o U s d' u) ∧ q_X3_chooseFor d (nI u) = some d' := by
  have hU20 := hU.1
  obtain ⟨r, ⟨d1, n, G, rfl, hF1, h12, hO, hG⟩, hlo⟩ := lo8 hU (s := s) (fun g hg => ⟨(hs g hg).1, (hs g hg).2.2⟩) (u := u) (by omega)
  have hn4 := hO.1
  unfold q_X3_chooseFor q_X3_chooseFor_0
  rw [hlo, Option.bind_some]
  by_cases hn : n = 0
  · subst hn
    refine ⟨d1, ⟨fun s k f _ h2 _ => hF1 s k f h2, fun c hc => ?_⟩, ?_⟩
    · have hz := hO.2.2 (okc h x u c) (cds h x o m u c) (bs h x o m (u + 1) c) (fun g hg ho => by
        obtain ⟨hx, hle⟩ := okc.le ho
        show (x u g && decide (h u ≤ s g)) = true
        rw [hx, decide_eq_true (Nat.le_trans hle (hc g hg))]
        rfl)
      have hzn : (bs h x o m (u + 1) c, 0) = fds h x o m u c 4 := hz
      have hR := hT c hc
      have h2 := hR.up hu hU20
      have h1 := hR.1
      rw [show U - (u + 1) = m by omega] at h1
      rw [bs_s, ← hzn] at h2
      dsimp only at h2
      rw [wch_0 u (by omega), Int64.or_zero, ← h1] at h2
      rw [hF1 17 0 _ (by omega), h12]
      exact h2
    · show (if nI 0 = 0 then some d1 else _) = some d1
      rw [if_pos nI_0]
  · show ∃ d', _ ∧ (if nI n = 0 then some d1 else q_X3_chooseFor_26 (sk_wf d1 15 0 (va_cpy (d1.1 13 0) (d1.1 15 0) 0 0 4)) (nI u) (nI n)) = some d'
    rw [if_neg (nI_ne0 (by omega) (by omega))]
    have hlt : ∀ c, (∀ g, g < 4 → c g ≤ s g) → en s c 4 < stg s 4 := fun c hc => en_lt hc
    have h7 : stg s 4 ≤ 7 ^ 4 := (stg_b (fun g hg => (hs g hg).2.2) 4 (Nat.le_refl _)).2
    have h74 : 7 ^ 4 = 2401 := by decide
    have hfull := en_full s 4
    have hh : ∀ v, v < U → 1 ≤ h v := fun v hv => (hU.2.2.1 v hv).2.1
    have hF0 : FC d (sk_wf d1 15 0 (va_cpy (d1.1 13 0) (d1.1 15 0) 0 0 4)) := fun s k f h1 h2 _ => (wf_o (by omega)).trans (hF1 s k f h2)
    have h15 : ∀ g, g < 4 → (sk_wf d1 15 0 (va_cpy (d1.1 13 0) (d1.1 15 0) 0 0 4)).1 15 0 g = nI (s g) := fun g hg => by
      rw [wf_e, sb_cpy0 hg, hF1 13 0 g (by omega), (hs g hg).1]
    have main := it_cn (ι := Unit) (F := fun _ rec32 a => q_X3_chooseFor_32 rec32 a.1 a.2.1 a.2.2.1 a.2.2.2) (fun _ d' => some d') (fun j a => ∃ d', a = (d', nI u, nI n, nI (stg s 4 - j) - 1) ∧ FC d d' ∧ (∀ k, k < n → d'.1 16 0 k = nI (G k)) ∧ (j < stg s 4 → ∃ c, (∀ g, g < 4 → c g ≤ s g ∧ d'.1 15 0 g = nI (c g)) ∧ en s c 4 + j + 1 = stg s 4) ∧ ∀ c, (∀ g, g < 4 → c g ≤ s g) → RW h x o U (if stg s 4 ≤ en s c 4 + j then u else u + 1) c (d'.1 17 0 (en s c 4)) (d'.2 18 0 (en s c 4))) (fun d' => FC d d' ∧ TB h x o U s d' u) (stg s 4) (fun j a hj hp => ?_) (fun a hp => ?_) (by omega) (sk_wf d1 15 0 (va_cpy (d1.1 13 0) (d1.1 15 0) 0 0 4), nI u, nI n, nI (stg s 4) - 1) ⟨_, rfl, hF0, fun k hk => (wf_o (by omega)).trans (hG k hk), fun _ => ⟨s, fun g hg => ⟨Nat.le_refl _, h15 g hg⟩, hfull⟩, fun c hc => ?_⟩
    · obtain ⟨d', h1, h2⟩ := main
      refine ⟨d', h1, ?_⟩
      unfold q_X3_chooseFor_26
      rw [hF0 6 0 1 (by omega) (by omega) (by omega), hN]
      exact h2 ()
    · obtain ⟨d', rfl, hF, h16, hc, hW⟩ := hp
      obtain ⟨c0, hc0, hst⟩ := hc hj
      have hU' := hU.fc hF
      have bst : sk_bi (nI (en s c0 4)) 2401 = true := bi_nI (by omega) (by omega)
      have est := nI_clamp (n := en s c0 4) (by omega)
      have hW0 := hW c0 (fun g hg => (hc0 g hg).1)
      rw [if_neg (show ¬ stg s 4 ≤ en s c0 4 + j by omega)] at hW0
      have hW01 := hW0.1
      rw [show U - (u + 1) = m by omega] at hW01
      have st := cs8 hU' (s := s) (c := c0) ((hF 6 0 1 (by omega) (by omega) (by omega)).trans hN) (fun g hg => ⟨(hs g hg).2.2, (hF 14 0 g (by omega) (by omega) (by omega)).trans (hs g hg).2.1⟩) hc0 hu hO h16 (fun g hg ho => by
        have hrd : ∀ g', g' < 4 → rd c0 g (h u) g' ≤ s g' := fun g' hg' => by
          have := (hc0 g' hg').1
          unfold rd
          split <;> omega
        have hen := en_rd (s := s) (okc.le ho).2 hg
        have hp : 1 ≤ h u * stg s g := Nat.mul_pos (hh u (by omega)) (stg_p s g)
        have hWr := (hW _ hrd).1
        rw [if_neg (show ¬ stg s 4 ≤ en s (rd c0 g (h u)) 4 + j by omega), show U - (u + 1) = m by omega] at hWr
        exact hWr) hW01
      have hX := hW0.up hu hU20
      obtain ⟨d3, ⟨hF3, h32, hc3⟩, hcd⟩ := cd8 (d := sk_wl (sk_wi d' 17 0 (en s c0 4) (nI (kw 32 (bs h x o (m + 1) u c0)))) 18 0 (en s c0 4) (d'.2 18 0 (en s c0 4) ||| wch (fds h x o m u c0 4).2 u)) (s := s) (c := c0) (fun g hg => ⟨(ww_o (by omega)).trans ((hF 13 0 g (by omega) (by omega) (by omega)).trans (hs g hg).1), (hs g hg).2.2⟩) (fun g hg => ⟨(hc0 g hg).1, (ww_o (by omega)).trans (hc0 g hg).2⟩)
      have a17 : ∀ f, d3.1 17 0 f = (sk_wi d' 17 0 (en s c0 4) (nI (kw 32 (bs h x o (m + 1) u c0)))).1 17 0 f := fun f => hF3 17 0 f (by omega)
      have a18 : ∀ f, d3.2 18 0 f = (sk_wl (sk_wi d' 17 0 (en s c0 4) (nI (kw 32 (bs h x o (m + 1) u c0)))) 18 0 (en s c0 4) (d'.2 18 0 (en s c0 4) ||| wch (fds h x o m u c0 4).2 u)).2 18 0 f := fun f => by rw [h32]
      refine ⟨_, ⟨d3, rfl, fun s k f h1 h2 h3 => (hF3 s k f h1).trans ((ww_o (by omega)).trans (hF s k f h1 h2 h3)), fun k hk => (hF3 16 0 k (by omega)).trans ((ww_o (by omega)).trans (h16 k hk)), fun hj1 => ?_, fun c hcs => ?_⟩, fun _ rec => ?_⟩
      · obtain ⟨c', h1, h2⟩ := hc3 (by omega)
        exact ⟨c', h1, by omega⟩
      · by_cases e : en s c 4 = en s c0 4
        · rw [if_pos (show stg s 4 ≤ en s c 4 + (j + 1) by omega), a17, a18, e, wi_e, wl_e]
          exact hX.cg hh (fun g hg => (en_inj hcs (fun g hg => (hc0 g hg).1) e g hg).symm)
        · rw [a17, a18, wi_o (by omega), wl_o (by omega)]
          have := hW c hcs
          by_cases q : stg s 4 ≤ en s c 4 + j
          · rw [if_pos q] at this
            rw [if_pos (by omega)]
            exact this
          · rw [if_neg q] at this
            rw [if_neg (by omega)]
            exact this
      · show q_X3_chooseFor_32 rec d' (nI u) (nI n) (nI (stg s 4 - j) - 1) = _
        rw [show stg s 4 - j = en s c0 4 + 1 by omega, nI_pred]
        unfold q_X3_chooseFor_32
        rw [if_neg (nI_pos (by omega)), if_pos bst, est, st rec]
        unfold q_X3_chooseFor_190
        rw [hcd, Option.bind_some, show stg s 4 - (j + 1) = en s c0 4 by omega, Int32.sub_eq_add_neg]
    · obtain ⟨d', rfl, hF, h16, hc, hW⟩ := hp
      refine ⟨d', ⟨hF, fun c hcs => ?_⟩, fun _ rec => ?_⟩
      · have := hW c hcs
        rw [if_pos (Nat.le_add_left _ _)] at this
        exact this
      · show q_X3_chooseFor_32 rec d' (nI u) (nI n) (nI (stg s 4 - stg s 4) - 1) = _
        rw [Nat.sub_self]
        unfold q_X3_chooseFor_32
        rw [if_pos (show nI 0 - 1 < (0 : Int32) by decide)]
    · rw [if_neg (show ¬ stg s 4 ≤ en s c 4 + 0 by have := hlt c hc; omega)]
      have := hT c hc
      have a17 : (sk_wf d1 15 0 (va_cpy (d1.1 13 0) (d1.1 15 0) 0 0 4)).1 17 0 (en s c 4) = d.1 17 0 (en s c 4) := (wf_o (by omega)).trans (hF1 17 0 _ (by omega))
      have a18 : (sk_wf d1 15 0 (va_cpy (d1.1 13 0) (d1.1 15 0) 0 0 4)).2 18 0 (en s c 4) = d.2 18 0 (en s c 4) := by
        show d1.2 18 0 _ = _
        rw [h12]
      rw [a17, a18]
      exact this
