/-! THE LAW, pure: one plan's digits *** by hand -/
theorem bI_ite (b : Bool) {α : Type} (y z : α) : (if bI b = 0 then y else z) = if b = true then z else y := by
  cases b
  · rfl
  · rfl
section LP
variable {X x : sk_X} {pu gr b n m : Nat} {Pf Gf : Nat → Int32}
set_option maxHeartbeats 4000000 in
theorem bp93 (hD : DL X pu gr b n m Pf Gf) (hI : IX X b x) (hz : ∀ g, g < m → x.2.2 (X.1 + 1) g = 0) {j : Nat} (hj : j < 20000) (x0 : Nat) (v2 v6 v9 v10 v11 : Int32) : ∃ x', (IX X b x' ∧ (∀ p, p < n → x'.2.2 X.1 p = nI (dg m n j p)) ∧ x'.2.2 b = x.2.2 b) ∧ ∀ r47, l_L_bestPlan_93 r47 x0 sk_fu (x, nI n, nI m, v2, pu, gr, b, v6, X.1, X.1 + 1, v9, v10, v11, nI j, 0, 0, 1, nI n - 1) = l_L_bestPlan_230 r47 x0 sk_fu (x', nI n, nI m, v2, pu, gr, b, v6, X.1, X.1 + 1, v9, v10, v11, nI (mnL m n (dg m n j) n), nI (ouL m n (llv Pf Gf) (dg m n j) n), bI (vaL m n (lfit Pf Gf) (lcap Gf) (dg m n j) n), 0) := by
  have hD' := hD
  obtain ⟨hP, hG, hb, _, hpb, hgb, hn, hm, hl, hl2, hcp, _⟩ := hD'
  generalize ha : dg m n j = a
  have main := it_cn (F := fun r47 rec93 a => q_L_bestPlan_93 r47 rec93 x0 a.1 a.2.1 a.2.2.1 a.2.2.2.1 a.2.2.2.2.1 a.2.2.2.2.2.1 a.2.2.2.2.2.2.1 a.2.2.2.2.2.2.2.1 a.2.2.2.2.2.2.2.2.1 a.2.2.2.2.2.2.2.2.2.1 a.2.2.2.2.2.2.2.2.2.2.1 a.2.2.2.2.2.2.2.2.2.2.2.1 a.2.2.2.2.2.2.2.2.2.2.2.2.1 a.2.2.2.2.2.2.2.2.2.2.2.2.2.1 a.2.2.2.2.2.2.2.2.2.2.2.2.2.2.1 a.2.2.2.2.2.2.2.2.2.2.2.2.2.2.2.1 a.2.2.2.2.2.2.2.2.2.2.2.2.2.2.2.2.1 a.2.2.2.2.2.2.2.2.2.2.2.2.2.2.2.2.2)
    (fun r47 x' => l_L_bestPlan_230 r47 x0 sk_fu (x', nI n, nI m, v2, pu, gr, b, v6, X.1, X.1 + 1, v9, v10, v11, nI (mnL m n a n), nI (ouL m n (llv Pf Gf) a n), bI (vaL m n (lfit Pf Gf) (lcap Gf) a n), 0))
    (fun t s => ∃ x', s = (x', nI n, nI m, v2, pu, gr, b, v6, X.1, X.1 + 1, v9, v10, v11, nI (j / (m + 1) ^ t), nI (mnL m n a t), nI (ouL m n (llv Pf Gf) a t), bI (vaL m n (lfit Pf Gf) (lcap Gf) a t), nI (n - t) - 1) ∧ IX X b x' ∧ (∀ p, n - t ≤ p → p < n → x'.2.2 X.1 p = nI (a p)) ∧ (∀ g, g < m → x'.2.2 (X.1 + 1) g = nI (szL n a g t)) ∧ x'.2.2 b = x.2.2 b)
    (fun x' => IX X b x' ∧ (∀ p, p < n → x'.2.2 X.1 p = nI (a p)) ∧ x'.2.2 b = x.2.2 b) n (fun t s ht hp => ?_) (fun s hp => ?_) (by omega) (x, nI n, nI m, v2, pu, gr, b, v6, X.1, X.1 + 1, v9, v10, v11, nI j, 0, 0, 1, nI n - 1) ⟨x, by rw [Nat.pow_zero, Nat.div_one]; rfl, hI, fun p h1 h2 => absurd h1 (by omega), hz, rfl⟩
  · exact main
  · obtain ⟨x', rfl, h1, h2, h3, h4⟩ := hp
    obtain ⟨p, hp⟩ : ∃ p, n - t = p + 1 := ⟨n - t - 1, by omega⟩
    have hpn : p < n := by omega
    have hp2 : n - 1 - t = p := by omega
    have hp3 : n - (t + 1) = p := by omega
    have hap : a p = j / (m + 1) ^ t % (m + 1) := by
      rw [← ha]
      unfold dg
      rw [show n - 1 - p = t by omega]
    have hlt : a p < m + 1 := by rw [hap]; exact Nat.mod_lt _ (Nat.succ_pos m)
    have hjt : j / (m + 1) ^ t < 2 ^ 31 := Nat.lt_of_le_of_lt (Nat.div_le_self _ _) (by omega)
    have hq2 : nI (j / (m + 1) ^ t) / nI (m + 1) = nI (j / (m + 1) ^ (t + 1)) := by
      rw [pk_div hjt (by omega) (by omega), Nat.div_div_eq_div_mul, ← Nat.pow_succ]
    have hq1 : nI (j / (m + 1) ^ t) - nI (j / (m + 1) ^ t) / nI (m + 1) * nI (m + 1) = nI (a p) := by
      rw [pk_rem hjt (by omega) (by omega), hap]
    have hne : ¬ nI (m + 1) = 0 := nI_ne0 (by omega) (by omega)
    have hmn : mnL m n a (t + 1) = mnL m n a t + if a p < m then 1 else 0 := by
      show mnL m n a t + (if a (n - 1 - t) < m then 1 else 0) = _
      rw [hp2]
    have hou : ouL m n (llv Pf Gf) a (t + 1) = ouL m n (llv Pf Gf) a t + if a p < m ∧ llv Pf Gf p (a p) = true then 1 else 0 := by
      show ouL m n (llv Pf Gf) a t + (if a (n - 1 - t) < m ∧ llv Pf Gf (n - 1 - t) (a (n - 1 - t)) = true then 1 else 0) = _
      rw [hp2]
    have hsz : ∀ g, szL n a g (t + 1) = szL n a g t + if a p = g then 1 else 0 := fun g => by
      show szL n a g t + (if a (n - 1 - t) = g then 1 else 0) = _
      rw [hp2]
    have hva : vaL m n (lfit Pf Gf) (lcap Gf) a (t + 1) = (vaL m n (lfit Pf Gf) (lcap Gf) a t && (!decide (a p < m) || (lfit Pf Gf p (a p) && decide (szL n a (a p) (t + 1) ≤ lcap Gf (a p))))) := by
      show (vaL m n (lfit Pf Gf) (lcap Gf) a t && (!decide (a (n - 1 - t) < m) || (lfit Pf Gf (n - 1 - t) (a (n - 1 - t)) && decide (szL n a (a (n - 1 - t)) (t + 1) ≤ lcap Gf (a (n - 1 - t)))))) = _
      rw [hp2]
    have k1 : IX X b (xw x' X.1 p (nI (a p))) := h1.w (.inl (Nat.le_refl _)) p _
    have bo : xb x' X.1 (nI p) = true := h1.own.b (by omega) (by omega)
    have bo1 : xb (xw x' X.1 p (nI (a p))) X.1 (nI p) = true := k1.own.b (by omega) (by omega)
    have eo1 : (xw x' X.1 p (nI (a p))).2.2 X.1 (nI p).toNatClampNeg = nI (a p) := by rw [nI_clamp (by omega)]; exact xw_e
    have em1 : nI p + (-1 : Int32) = nI p - 1 := (Int32.sub_eq_add_neg (nI p) 1).symm
    by_cases hg : a p < m
    · have bz1 : xb (xw x' X.1 p (nI (a p))) (X.1 + 1) (nI (a p)) = true := k1.psz.b (by omega) (by omega)
      have ez1 : (xw x' X.1 p (nI (a p))).2.2 (X.1 + 1) (nI (a p)).toNatClampNeg = nI (szL n a (a p) t) := by
        rw [nI_clamp (by omega), xw_o (fun q => by omega)]
        exact h3 _ hg
      have hs1 : szL n a (a p) (t + 1) = szL n a (a p) t + 1 := by rw [hsz, if_pos rfl]
      have hsl := szL_le n a (a p) (t + 1)
      generalize hx2 : xw (xw x' X.1 p (nI (a p))) (X.1 + 1) (a p) (nI (szL n a (a p) (t + 1))) = x2
      have k2 : IX X b x2 := by rw [← hx2]; exact k1.w (.inl (by omega)) _ _
      have o2 : ∀ p', x2.2.2 X.1 p' = (xw x' X.1 p (nI (a p))).2.2 X.1 p' := fun p' => by rw [← hx2]; exact xw_o (fun q => by omega)
      have bo2 : xb x2 X.1 (nI p) = true := k2.own.b (by omega) (by omega)
      have eo2 : x2.2.2 X.1 (nI p).toNatClampNeg = nI (a p) := by rw [o2]; exact eo1
      have bz2 : xb x2 (X.1 + 1) (nI (a p)) = true := k2.psz.b (by omega) (by omega)
      have ez2 : x2.2.2 (X.1 + 1) (nI (a p)).toNatClampNeg = nI (szL n a (a p) (t + 1)) := by rw [nI_clamp (by omega), ← hx2]; exact xw_e
      have aG2 := k2.ax hG hgb
      have aP1 := k1.ax hP hpb
      have aG1 := k1.ax hG hgb
      refine ⟨_, ⟨x2, rfl, k2, fun p' g1 g2 => ?_, fun g hgm => ?_, ?_⟩, fun r47 rec => ?_⟩
      · rw [o2]
        by_cases e : p' = p
        · rw [e, xw_e]
        · rw [xw_o (fun q => e q.2)]
          exact h2 p' (by omega) g2
      · rw [← hx2]
        by_cases e : g = a p
        · rw [e, xw_e]
        · rw [xw_o (fun q => e q.2), xw_o (fun q => by omega), h3 g hgm, hsz, if_neg (fun q => e q.symm)]
          rfl
      · rw [← h4, ← hx2]
        funext j'
        rw [xw_o (by omega), xw_o (by omega)]
      · show q_L_bestPlan_93 r47 rec x0 x' (nI n) (nI m) v2 pu gr b v6 X.1 (X.1 + 1) v9 v10 v11 (nI (j / (m + 1) ^ t)) (nI (mnL m n a t)) (nI (ouL m n (llv Pf Gf) a t)) (bI (vaL m n (lfit Pf Gf) (lcap Gf) a t)) (nI (n - t) - 1) = _
        rw [hp, nI_pred]
        unfold q_L_bestPlan_93
        rw [if_neg (nI_pos (by omega)), nI_1, if_pos hne, if_pos bo, if_pos hne, hq1, hq2, nI_clamp (show p < 2 ^ 31 by omega)]
        unfold q_L_bestPlan_121
        have e218 : ∀ v14 : Int32, q_L_bestPlan_218 r47 rec x0 x2 (nI n) (nI m) v2 pu gr b v6 X.1 (X.1 + 1) v9 v10 v11 (nI (j / (m + 1) ^ (t + 1))) (nI (mnL m n a t) + 1) v14 (nI p) = rec (x2, nI n, nI m, v2, pu, gr, b, v6, X.1, X.1 + 1, v9, v10, v11, nI (j / (m + 1) ^ (t + 1)), nI (mnL m n a t) + 1, v14, 0, nI p - 1) := fun v14 => by
          unfold q_L_bestPlan_218 q_L_bestPlan_219 q_L_bestPlan_221
          rw [em1]
        have e219 : ∀ v14 : Int32, q_L_bestPlan_219 r47 rec x0 x2 (nI n) (nI m) v2 pu gr b v6 X.1 (X.1 + 1) v9 v10 v11 (nI (j / (m + 1) ^ (t + 1))) (nI (mnL m n a t) + 1) v14 (nI p) 1 = rec (x2, nI n, nI m, v2, pu, gr, b, v6, X.1, X.1 + 1, v9, v10, v11, nI (j / (m + 1) ^ (t + 1)), nI (mnL m n a t) + 1, v14, 1, nI p - 1) := fun v14 => by
          unfold q_L_bestPlan_219 q_L_bestPlan_221
          rw [em1]
        have e181 : ∀ v14 : Int32, q_L_bestPlan_181 r47 rec x0 x2 (nI n) (nI m) v2 pu gr b v6 X.1 (X.1 + 1) v9 v10 v11 (nI (j / (m + 1) ^ (t + 1))) (nI (mnL m n a t) + 1) v14 (nI p) (nI p) X.1 (nI p) = rec (x2, nI n, nI m, v2, pu, gr, b, v6, X.1, X.1 + 1, v9, v10, v11, nI (j / (m + 1) ^ (t + 1)), nI (mnL m n a t) + 1, v14, bI (lfit Pf Gf p (a p) && decide (szL n a (a p) (t + 1) ≤ lcap Gf (a p))), nI p - 1) := fun v14 => by
          unfold q_L_bestPlan_181
          rw [if_pos bo2, eo2, fits_q hD k2 hpn hg, Option.bind_some]
          cases hf : lfit Pf Gf p (a p)
          · rw [bI_f, if_pos rfl, e218]
            rfl
          · rw [bI_t, if_neg (by decide), nI3, pk_mul, show (2 : Int32) = nI 2 from rfl, nI_add, if_pos bz2, if_pos (aG2.b (by omega) (by omega)), aG2.l (by omega) (by omega), ez2, (hcp _ hg).2]
            have hc6 := (hcp _ hg).1
            by_cases hc : szL n a (a p) (t + 1) ≤ lcap Gf (a p)
            · rw [if_neg (nI_nlt hc (by omega)), if_pos bo2, if_pos bo2, e219, decide_eq_true hc]
              rfl
            · rw [if_pos (nI_lt (by omega) (by omega)), if_pos bo2, if_pos bo2, e218, decide_eq_false hc]
              rfl
        have e155 : ∀ s1 : Nat, q_L_bestPlan_155 r47 rec x0 (xw x' X.1 p (nI (a p))) (nI n) (nI m) v2 pu gr b v6 X.1 (X.1 + 1) v9 v10 v11 (nI (j / (m + 1) ^ (t + 1))) (nI (mnL m n a t) + 1) (bI (vaL m n (lfit Pf Gf) (lcap Gf) a t)) (nI p) (nI (ouL m n (llv Pf Gf) a t)) (nI s1) = rec (x2, nI n, nI m, v2, pu, gr, b, v6, X.1, X.1 + 1, v9, v10, v11, nI (j / (m + 1) ^ (t + 1)), nI (mnL m n a t) + 1, nI (ouL m n (llv Pf Gf) a t + s1), bI (vaL m n (lfit Pf Gf) (lcap Gf) a (t + 1)), nI p - 1) := fun s1 => by
          unfold q_L_bestPlan_155
          rw [if_pos bo1, eo1, if_pos bz1, if_pos bz1, ez1, nI_1, ← hs1, nI_clamp (show a p < 2 ^ 31 by omega), hx2, nI_add, hva, decide_eq_true hg]
          cases hv : vaL m n (lfit Pf Gf) (lcap Gf) a t
          · rw [bI_f, if_pos rfl, e218]
            rfl
          · rw [bI_t, if_neg (by decide), e181]
            rfl
        rw [if_pos bo1, eo1, if_neg (nI_ge hg (by omega)), nI3, pk_mul, pk_mul, if_pos (aP1.b (by omega) (by omega)), if_pos bo1, if_pos (aG1.b (by omega) (by omega)), aP1.l (by omega) (by omega), aG1.l (by omega) (by omega), hmn, hou, if_pos hg, hp3]
        by_cases hlv : Pf (3 * p) = Gf (3 * a p)
        · have hq : ¬ (a p < m ∧ llv Pf Gf p (a p) = true) := fun q => by
            have := q.2
            unfold llv at this
            exact of_decide_eq_true this hlv.symm
          rw [if_pos hlv, if_neg hq, show (0 : Int32) = nI 0 from rfl, e155 0, nI_1]
        · have hq : a p < m ∧ llv Pf Gf p (a p) = true := ⟨hg, by
            unfold llv
            exact decide_eq_true (fun q => hlv q.symm)⟩
          rw [if_neg hlv, if_pos hq, show nI (mnL m n a t) + (1 : Int32) = nI (mnL m n a t) + 1 from rfl]
          have := e155 1
          rw [nI_1] at this ⊢
          exact this
    · refine ⟨_, ⟨xw x' X.1 p (nI (a p)), rfl, k1, fun p' g1 g2 => ?_, fun g hgm => ?_, ?_⟩, fun r47 rec => ?_⟩
      · by_cases e : p' = p
        · rw [e, xw_e]
        · rw [xw_o (fun q => e q.2)]
          exact h2 p' (by omega) g2
      · rw [xw_o (fun q => by omega), h3 g hgm, hsz, if_neg (by omega)]
        rfl
      · rw [← h4]
        funext j'
        exact xw_o (by omega)
      · show q_L_bestPlan_93 r47 rec x0 x' (nI n) (nI m) v2 pu gr b v6 X.1 (X.1 + 1) v9 v10 v11 (nI (j / (m + 1) ^ t)) (nI (mnL m n a t)) (nI (ouL m n (llv Pf Gf) a t)) (bI (vaL m n (lfit Pf Gf) (lcap Gf) a t)) (nI (n - t) - 1) = _
        rw [hp, nI_pred]
        unfold q_L_bestPlan_93
        rw [if_neg (nI_pos (by omega)), nI_1, if_pos hne, if_pos bo, if_pos hne, hq1, hq2, nI_clamp (show p < 2 ^ 31 by omega)]
        unfold q_L_bestPlan_121 q_L_bestPlan_221
        rw [if_pos bo1, eo1, if_pos (nI_le (by omega) (by omega)), em1, hmn, hou, hva, if_neg hg, if_neg (fun q => hg q.1), decide_eq_false hg, hp3]
        simp
  · obtain ⟨x', rfl, h1, h2, h3, h4⟩ := hp
    refine ⟨x', ⟨h1, fun p hp => h2 p (by omega) hp, h4⟩, fun r47 rec => ?_⟩
    show q_L_bestPlan_93 r47 rec x0 x' (nI n) (nI m) v2 pu gr b v6 X.1 (X.1 + 1) v9 v10 v11 (nI (j / (m + 1) ^ n)) (nI (mnL m n a n)) (nI (ouL m n (llv Pf Gf) a n)) (bI (vaL m n (lfit Pf Gf) (lcap Gf) a n)) (nI (n - n) - 1) = _
    rw [Nat.sub_self]
    unfold q_L_bestPlan_93
    rw [if_pos (show nI 0 - 1 < (0 : Int32) by decide)]
end LP
