/-! THE PLANNER: the reference's units, all pupils *** by hand -/
def FU (e e' : sk_D) : Prop := ∀ s k f, s ≠ 76 → s ≠ 77 → s ≠ 78 → ¬ (s = 44 ∧ f = 37) → e'.1 s k f = e.1 s k f
theorem FU.tr {a b c : sk_D} (h : FU a b) (g : FU b c) : FU a c := fun s k f h1 h2 h3 h4 => (g s k f h1 h2 h3 h4).trans (h s k f h1 h2 h3 h4)
/-- n pupils seen, N units, the heads of n -/
def FI (P : Nat → Nat → Int32) (T : Nat → Int32) (su lv : Nat → Nat → Bool) (n N : Nat) (e e' : sk_D) : Prop := FU e e' ∧ e'.1 44 0 37 = nI N ∧ (∀ k, k < n → pp P k = true → e'.1 77 0 k = nI (uo P T k)) ∧ ∀ u, u < N → e'.1 76 0 u = nI (hdn P T n u) ∧ ∀ g, g < 4 → e'.1 78 0 (4 * u + g) = vl9 P T su lv n u g
theorem un_le (P : Nat → Nat → Int32) (T : Nat → Int32) (n : Nat) : un P T n ≤ n := kn_le _ n
theorem hdn_s {P : Nat → Nat → Int32} {T : Nat → Int32} {n u : Nat} (hi : inu P T u n = true) : hdn P T (n + 1) u = hdn P T n u + 1 := by
  show kn (inu P T u) (n + 1) = _
  rw [kn_sc, if_pos hi]
  rfl
theorem hdn_o {P : Nat → Nat → Int32} {T : Nat → Int32} {n u : Nat} (hi : inu P T u n = false) : hdn P T (n + 1) u = hdn P T n u := by
  show kn (inu P T u) (n + 1) = _
  rw [kn_sc, hi, if_neg (by decide)]
  rfl
theorem hdn_n {P : Nat → Nat → Int32} {T : Nat → Int32} {n u : Nat} (hu : un P T n ≤ u) : hdn P T n u = 0 := kn_none (inu_new hu)
theorem f177 {e e' : sk_D} {P : Nat → Nat → Int32} {T : Nat → Int32} {su lv : Nat → Nat → Bool} (hs : ∀ k g, k < 20 → g < 4 → suf e k (e.1 80 0 g) (e.1 81 0 g) = su k g) (hl : ∀ k g, k < 20 → g < 4 → decide (¬ e.1 46 0 k = e.1 80 0 g) = lv k g) {n : Nat} (hn : n < 20) (hp : pp P n = true) (hI : FI P T su lv n (un P T (n + 1)) e e') (v1 : Int32) :
    ∃ e2, FI P T su lv (n + 1) (un P T (n + 1)) e e2 ∧ ∀ r7, q_X9_findUnits_177 r7 e' v1 (nI n) (nI (uo P T n)) = r7 (e2, v1, nI (n + 1)) := by
  obtain ⟨hF, h37, h77, h76⟩ := hI
  have hlt : uo P T n < un P T (n + 1) := uo_lt hp (by omega)
  have hun := un_le P T (n + 1)
  have hi : inu P T (uo P T n) n = true := inu_iff.mpr ⟨hp, rfl⟩
  have bn : sk_bi (nI n) 20 = true := bi_nI (by omega) (by omega)
  have en := nI_clamp (n := n) (by omega)
  have bu : sk_bi (nI (uo P T n)) 20 = true := bi_nI (by omega) (by omega)
  have eu := nI_clamp (n := uo P T n) (by omega)
  have W : ∀ s k f, ¬ (s = 77 ∧ k = 0 ∧ f = n) → ¬ (s = 76 ∧ k = 0 ∧ f = uo P T n) → (sk_wi (sk_wi e' 77 0 n (nI (uo P T n))) 76 0 (uo P T n) (nI (hdn P T (n + 1) (uo P T n)))).1 s k f = e'.1 s k f := fun s k f h1 h2 => by
    rw [wi_o h2, wi_o h1]
  have WF : FU e (sk_wi (sk_wi e' 77 0 n (nI (uo P T n))) 76 0 (uo P T n) (nI (hdn P T (n + 1) (uo P T n)))) := fun s k f h1 h2 h3 h4 => (W s k f (by omega) (by omega)).trans (hF s k f h1 h2 h3 h4)
  obtain ⟨e2, ⟨hF2, hv⟩, hr⟩ := f199 (e := sk_wi (sk_wi e' 77 0 n (nI (uo P T n))) 76 0 (uo P T n) (nI (hdn P T (n + 1) (uo P T n)))) P T su lv hn (u := uo P T n) (by omega) hi (fun g hg => by
      rw [WF 80 0 g (by omega) (by omega) (by omega) (by omega), WF 81 0 g (by omega) (by omega) (by omega) (by omega), suf_mv (fun f => WF 46 0 f (by omega) (by omega) (by omega) (by omega)) (fun f => WF 47 0 f (by omega) (by omega) (by omega) (by omega))]
      exact hs n g hn hg) (fun g hg => by
      rw [WF 80 0 g (by omega) (by omega) (by omega) (by omega), WF 46 0 n (by omega) (by omega) (by omega) (by omega)]
      exact hl n g hn hg) (fun g hg => (W 78 0 _ (by omega) (by omega)).trans ((h76 _ hlt).2 g hg)) v1
  refine ⟨e2, ⟨fun s k f h1 h2 h3 h4 => (hF2 s k f (by omega)).trans (WF s k f h1 h2 h3 h4), ?_, fun k hk hpk => ?_, fun u hu => ⟨?_, fun g hg => ?_⟩⟩, fun r7 => ?_⟩
  · rw [hF2 44 0 37 (by omega), W 44 0 37 (by omega) (by omega)]
    exact h37
  · rw [hF2 77 0 k (by omega), wi_o (by omega)]
    by_cases q : k = n
    · subst q
      exact wi_e
    · rw [wi_o (by omega)]
      exact h77 k (by omega) hpk
  · rw [hF2 76 0 u (by omega)]
    by_cases q : u = uo P T n
    · subst q
      exact wi_e
    · have hi2 : inu P T u n = false := by
        cases h : inu P T u n
        · rfl
        · exact absurd (inu_iff.mp h).2.symm q
      rw [W 76 0 u (by omega) (by omega), hdn_o hi2]
      exact (h76 u hu).1
  · by_cases q : u = uo P T n
    · subst q
      exact hv g hg
    · have hi2 : inu P T u n = false := by
        cases h : inu P T u n
        · rfl
        · exact absurd (inu_iff.mp h).2.symm q
      rw [hF2 78 0 _ (by omega), W 78 0 _ (by omega) (by omega), vl9_o hi2]
      exact (h76 u hu).2 g hg
  · unfold q_X9_findUnits_177
    rw [if_pos bn, en]
    unfold q_X9_findUnits_192
    rw [if_pos bu, if_pos bu, eu, wi_o (by omega), (h76 _ hlt).1, nI_1, ← hdn_s hi, hr r7]
    unfold q_X9_findUnits_225
    rw [nI_1]
