/-! THE PLANNER: the class's seats *** by hand -/
def UC (d : sk_D) (U : Nat) (h : Nat → Nat) (x : Nat → Nat → Bool) (o : Nat → Nat → Nat) : Prop := U ≤ 20 ∧ d.1 6 0 0 = nI U ∧ (∀ u, u < U → d.1 8 0 u = nI (h u) ∧ 1 ≤ h u ∧ h u ≤ 20 ∧ ∀ g, g < 4 → d.1 10 u g = if x u g = true then nI (o u g) else -1) ∧ (∀ u g, o u g ≤ h u) ∧ ∀ m u, m + u = U → sh h m u ≤ 20
theorem UC.mv {d d' : sk_D} {U : Nat} {h : Nat → Nat} {x : Nat → Nat → Bool} {o : Nat → Nat → Nat} (hU : UC d U h x o) (h1 : d'.1 6 0 0 = d.1 6 0 0) (h2 : ∀ f, d'.1 8 0 f = d.1 8 0 f) (h3 : ∀ k f, d'.1 10 k f = d.1 10 k f) : UC d' U h x o := by
  obtain ⟨q1, q2, q3, q4⟩ := hU
  refine ⟨q1, h1.trans q2, fun u hu => ?_, q4⟩
  obtain ⟨a1, a2, a3, a4⟩ := q3 u hu
  exact ⟨(h2 u).trans a1, a2, a3, fun g hg => (h3 _ _).trans (a4 g hg)⟩
def wpr (h : Nat → Nat) (x : Nat → Nat → Bool) (g : Nat) : Nat → Nat
  | 0 => 0
  | u + 1 => wpr h x g u + (if x u g = true then h u else 0)
theorem wpr_wt (h : Nat → Nat) (x : Nat → Nat → Bool) (g : Nat) : ∀ m u, wpr h x g u + wt h x g m u = wpr h x g (u + m)
  | 0, _ => rfl
  | m + 1, u => by
    have ih := wpr_wt h x g m (u + 1)
    have e1 : wpr h x g (u + 1) = wpr h x g u + (if x u g = true then h u else 0) := rfl
    have e2 : wt h x g (m + 1) u = (if x u g = true then h u else 0) + wt h x g m (u + 1) := rfl
    rw [show u + (m + 1) = u + 1 + m by omega, ← ih, e1, e2, Nat.add_assoc]
theorem wt_le (h : Nat → Nat) (x : Nat → Nat → Bool) (g : Nat) : ∀ m u, wt h x g m u ≤ sh h m u
  | 0, _ => Nat.le_refl _
  | m + 1, u => by
    have ih := wt_le h x g m (u + 1)
    show (if x u g = true then h u else 0) + wt h x g m (u + 1) ≤ h u + sh h m (u + 1)
    split <;> omega
def cpt (G : Nat → Nat → Int32) (g : Nat) : Nat := if G g 0 = 0 then 0 else (G g 3).toNatClampNeg
def sea (h : Nat → Nat) (x : Nat → Nat → Bool) (U : Nat) (cp : Nat → Nat) (g : Nat) : Nat := min (cp g) (wt h x g U 0)
def stg (s : Nat → Nat) : Nat → Nat
  | 0 => 1
  | g + 1 => stg s g * (s g + 1)
theorem l17 {d : sk_D} {U : Nat} {h : Nat → Nat} {x : Nat → Nat → Bool} {o : Nat → Nat → Nat} (hU : UC d U h x o) {g : Nat} (hg : g < 4) (r7 : (sk_D × Int32) → Option sk_D) : l_X3_limitSeats_17 r7 sk_fu (d, nI g, 0, 0) = q_X3_limitSeats_62 r7 d (nI g) (nI (wt h x g U 0)) := by
  have hU20 := hU.1
  have e0 : wt h x g U 0 = wpr h x g U := by
    have := wpr_wt h x g U 0
    rw [Nat.zero_add U] at this
    exact (Nat.zero_add _).symm.trans this
  refine it_for0 (F := fun rec17 a => q_X3_limitSeats_17 r7 rec17 a.1 a.2.1 a.2.2.1 a.2.2.2) (fun i => (d, nI g, nI (wpr h x g i), nI i)) U (fun i hi rec => ?_) (fun rec => ?_) (by omega)
  · show q_X3_limitSeats_17 r7 rec d (nI g) (nI (wpr h x g i)) (nI i) = rec (d, nI g, nI (wpr h x g (i + 1)), nI (i + 1))
    have l1 : ¬ nI U ≤ nI i := nI_ge hi (by omega)
    have bi : sk_bi (nI i) 20 = true := bi_nI (by omega) (by omega)
    have bg : sk_bi (nI g) 4 = true := bi_nI (by omega) (by omega)
    have ei := nI_clamp (n := i) (by omega)
    have eg := nI_clamp (n := g) (by omega)
    obtain ⟨a1, a2, a3, a4⟩ := hU.2.2.1 i hi
    have ou := hU.2.2.2.1 i g
    have es : wpr h x g (i + 1) = wpr h x g i + (if x i g = true then h i else 0) := rfl
    unfold q_X3_limitSeats_17
    rw [hU.2.1, if_neg l1, if_neg (show ¬ (20 : Int32) ≤ nI i from le_nI (n := 20) rfl (by omega) (by omega)), if_pos bi, if_pos bg, ei, eg, a4 g hg, es]
    unfold q_X3_limitSeats_56
    rw [nI_1]
    by_cases hx : x i g = true
    · rw [if_pos hx, if_neg (nI_n1 (by omega)), if_pos bi, a1, if_pos hx, nI_add]
    · rw [if_neg hx, if_pos rfl, if_neg hx, Nat.add_zero (wpr h x g i)]
  · show q_X3_limitSeats_17 r7 rec d (nI g) (nI (wpr h x g U)) (nI U) = _
    unfold q_X3_limitSeats_17
    rw [hU.2.1, if_pos (nI_le (Nat.le_refl _) (by omega)), e0]
