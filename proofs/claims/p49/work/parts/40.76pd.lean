/-! THE PLANNER: the class's units, loops *** by hand -/
def FK (d d' : sk_D) (u : Nat) : Prop := ∀ s k f, ¬ (s = 10 ∧ k = u) → ¬ (s = 8 ∧ k = 0 ∧ f = u) → d'.1 s k f = d.1 s k f
theorem g8a {d : sk_D} {T : Nat → Int32} {n u : Nat} (hn : n < 20) (hu : u < 20) (hi : inu (d.1 37) T u n = true) (h8 : d.1 8 0 u = nI (hdn (d.1 37) T n u)) (h10 : ∀ g, g < 4 → d.1 10 u g = vl8 (d.1 37) T (su8 (d.1 37) (d.1 39)) (lv8d (d.1 37) (d.1 39)) n u g) :
    ∃ d', (FK d d' u ∧ d'.1 8 0 u = nI (hdn (d.1 37) T (n + 1) u) ∧ ∀ g, g < 4 → d'.1 10 u g = vl8 (d.1 37) T (su8 (d.1 37) (d.1 39)) (lv8d (d.1 37) (d.1 39)) (n + 1) u g) ∧ q_X3_addHead d (nI u) n = some d' := by
  have bu : sk_bi (nI u) 20 = true := bi_nI (by omega) (by omega)
  have eu := nI_clamp (n := u) (by omega)
  have main := it_cn (ι := Unit) (F := fun _ rec13 a => q_X3_addHead_21 rec13 a.1 a.2.1 a.2.2.1 a.2.2.2) (fun _ d' => some d') (fun j a => ∃ d', a = (d', nI u, n, nI j) ∧ FK d d' u ∧ d'.1 8 0 u = nI (hdn (d.1 37) T (n + 1) u) ∧ ∀ g, g < 4 → d'.1 10 u g = if g < j then vl8 (d.1 37) T (su8 (d.1 37) (d.1 39)) (lv8d (d.1 37) (d.1 39)) (n + 1) u g else vl8 (d.1 37) T (su8 (d.1 37) (d.1 39)) (lv8d (d.1 37) (d.1 39)) n u g) (fun d' => FK d d' u ∧ d'.1 8 0 u = nI (hdn (d.1 37) T (n + 1) u) ∧ ∀ g, g < 4 → d'.1 10 u g = vl8 (d.1 37) T (su8 (d.1 37) (d.1 39)) (lv8d (d.1 37) (d.1 39)) (n + 1) u g) 4 (fun j a hj hp => ?_) (fun a hp => ?_) (by omega) (sk_wi d 8 0 u (nI (hdn (d.1 37) T (n + 1) u)), nI u, n, 0) ⟨_, rfl, fun s k f h1 h2 => wi_o (by omega), wi_e, fun g hg => by rw [if_neg (Nat.not_lt_zero g), wi_o (by omega)]; exact h10 g hg⟩
  · obtain ⟨d', h1, h2⟩ := main
    refine ⟨d', h1, ?_⟩
    unfold q_X3_addHead q_X3_addHead_0
    rw [isu8 hu, Option.bind_some, if_neg ne10, if_pos bu, if_pos bu, eu, h8, nI_1, ← hdn_s hi]
    exact h2 ()
  · obtain ⟨d', rfl, hF, hh, hv⟩ := hp
    have e37 : d'.1 37 = d.1 37 := by
      funext k f
      exact hF 37 k f (by omega) (by omega)
    have e39 : d'.1 39 = d.1 39 := by
      funext k f
      exact hF 39 k f (by omega) (by omega)
    have hvj := hv j hj
    rw [if_neg (Nat.lt_irrefl j)] at hvj
    refine ⟨_, ⟨sk_wi d' 10 u j (vl8 (d.1 37) T (su8 (d.1 37) (d.1 39)) (lv8d (d.1 37) (d.1 39)) (n + 1) u j), rfl, fun s k f h1 h2 => ?_, ?_, fun g hg => ?_⟩, fun _ rec => ?_⟩
    · rw [wi_o (by omega)]
      exact hF s k f h1 h2
    · rw [wi_o (by omega)]
      exact hh
    · by_cases q : g = j
      · subst q
        rw [wi_e, if_pos (by omega)]
      · rw [wi_o (by omega), hv g hg]
        by_cases q2 : g < j
        · rw [if_pos q2, if_pos (by omega)]
        · rw [if_neg q2, if_neg (by omega)]
    · show q_X3_addHead_21 rec d' (nI u) n (nI j) = _
      rw [ah8 rec d' hu hj, hvj, e37, e39, ← vl8_s hn hi]
  · obtain ⟨d', rfl, hF, hh, hv⟩ := hp
    refine ⟨d', ⟨hF, hh, fun g hg => ?_⟩, fun _ rec => ?_⟩
    · rw [hv g hg, if_pos hg]
    · show q_X3_addHead_21 rec d' (nI u) n (nI 4) = _
      unfold q_X3_addHead_21
      rw [if_pos (show (4 : Int32) ≤ nI 4 by decide)]
def nu8 (d : sk_D) (U : Nat) : sk_D := sk_wi (sk_fi (sk_wi d 8 0 U 0) 10 U 4 0) 6 0 0 (nI (U + 1))
theorem nu8_q {d : sk_D} {U : Nat} (hU : U < 20) (h6 : d.1 6 0 0 = nI U) : q_X3_newUnit d = some (nI U, nu8 d U) := by
  have bu : sk_bi (nI U) 20 = true := bi_nI (by omega) (by omega)
  have eu := nI_clamp (n := U) (by omega)
  have l : ¬ (19 : Int32) < nI U := by
    have := nI_nlt (a := 19) (b := U) (by omega) (by omega)
    exact this
  unfold q_X3_newUnit q_X3_newUnit_0
  rw [h6, if_neg l, if_pos bu, if_pos bu, eu]
  unfold q_X3_newUnit_24
  rw [nI_1]
  rfl
theorem nu8_o {d : sk_D} {U s k f : Nat} (h1 : ¬ (s = 8 ∧ k = 0 ∧ f = U)) (h2 : ¬ (s = 10 ∧ k = U)) (h3 : ¬ (s = 6 ∧ k = 0 ∧ f = 0)) : (nu8 d U).1 s k f = d.1 s k f := by
  unfold nu8
  rw [wi_o h3, fi_o h2, wi_o h1]
