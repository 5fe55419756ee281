/-! THE PLANNER: the reference's table, one unit in one state *** by hand -/
def dgs (s : Nat) : Nat → Nat := fun g => s / 7 ^ g % 7
theorem dgs_rd {s n g : Nat} (hs : s < 2401) (hg : g < 4) (hn : n ≤ dgs s g) : ∀ j, j < 4 → dgs (s - n * 7 ^ g) j = rd (dgs s) g n j := by
  intro j hj
  unfold rd
  unfold dgs at hn ⊢
  rcases (show g = 0 ∨ g = 1 ∨ g = 2 ∨ g = 3 by omega) with rfl | rfl | rfl | rfl <;> rcases (show j = 0 ∨ j = 1 ∨ j = 2 ∨ j = 3 by omega) with rfl | rfl | rfl | rfl <;> simp only [Nat.reducePow, Nat.reduceEqDiff, ↓reduceIte] at hn ⊢ <;> omega
theorem dgs_le {s n g : Nat} (hg : g < 4) (hn : n ≤ dgs s g) : n * 7 ^ g ≤ s := by
  unfold dgs at hn
  rcases (show g = 0 ∨ g = 1 ∨ g = 2 ∨ g = 3 by omega) with rfl | rfl | rfl | rfl <;> simp only [Nat.reducePow] at hn ⊢ <;> omega
theorem pw_b {g : Nat} (hg : g < 4) : 0 < 7 ^ g ∧ 7 ^ g ≤ 343 := by
  rcases (show g = 0 ∨ g = 1 ∨ g = 2 ∨ g = 3 by omega) with rfl | rfl | rfl | rfl <;> decide
theorem pw9 (e : sk_D) {g : Nat} (hg : g < 4) : q_X9_power e (nI g) = some (nI (7 ^ g)) := by
  unfold q_X9_power q_X9_power_0
  rcases (show g = 0 ∨ g = 1 ∨ g = 2 ∨ g = 3 by omega) with rfl | rfl | rfl | rfl
  · rw [if_pos (by decide)]
    rfl
  · rw [if_neg (by decide), if_pos (by decide)]
    rfl
  · rw [if_neg (by decide), if_neg (by decide), if_pos (by decide)]
    rfl
  · rw [if_neg (by decide), if_neg (by decide), if_neg (by decide)]
    rfl
def UD (e : sk_D) (U : Nat) (h : Nat → Nat) (x : Nat → Nat → Bool) (o : Nat → Nat → Nat) : Prop := U ≤ 20 ∧ e.1 44 0 37 = nI U ∧ (∀ u, u < U → e.1 76 0 u = nI (h u) ∧ 1 ≤ h u ∧ h u ≤ 20 ∧ ∀ g, g < 4 → e.1 78 0 (4 * u + g) = if x u g = true then nI (o u g) else -9) ∧ (∀ u g, o u g ≤ h u) ∧ ∀ m u, m + u = U → sh h m u ≤ 20
theorem UD.mv {e e' : sk_D} {U : Nat} {h : Nat → Nat} {x : Nat → Nat → Bool} {o : Nat → Nat → Nat} (hU : UD e U h x o) (h1 : e'.1 44 0 37 = e.1 44 0 37) (h2 : ∀ f, e'.1 76 0 f = e.1 76 0 f) (h3 : ∀ f, e'.1 78 0 f = e.1 78 0 f) : UD e' U h x o := by
  obtain ⟨q1, q2, q3, q4⟩ := hU
  refine ⟨q1, h1.trans q2, fun u hu => ?_, q4⟩
  obtain ⟨a1, a2, a3, a4⟩ := q3 u hu
  exact ⟨(h2 u).trans a1, a2, a3, fun g hg => (h3 _).trans (a4 g hg)⟩
theorem mg9 {e : sk_D} {U : Nat} {h : Nat → Nat} {x : Nat → Nat → Bool} {o : Nat → Nat → Nat} (hU : UD e U h x o) {u g s : Nat} (hu : u < U) (hg : g < 4) (hs : s < 2401) : q_X9_mayGet e (nI u) (nI g) (nI s) = some (bI (okc h x u (dgs s) g)) := by
  obtain ⟨hU1, hU2, hU3, ho, hsh⟩ := hU
  obtain ⟨a1, a2, a3, a4⟩ := hU3 u hu
  have b1 : sk_bi (nI (4 * u + g)) 80 = true := bi_nI (by omega) (by omega)
  have b2 : sk_bi (nI u) 20 = true := bi_nI (by omega) (by omega)
  have c1 := nI_clamp (n := 4 * u + g) (by omega)
  have c2 := nI_clamp (n := u) (by omega)
  obtain ⟨p0, p1⟩ := pw_b hg
  unfold q_X9_mayGet q_X9_mayGet_0
  rw [x4_nI, if_pos b1, c1, a4 g hg]
  unfold okc
  by_cases hx : x u g = true
  · have n1 : ¬ nI (o u g) = (-9 : Int32) := by
      intro z
      have := congrArg Int32.toInt z
      rw [nI_toInt (by have := ho u g; omega)] at this
      have h2 : (-9 : Int32).toInt = -9 := by decide
      omega
    have n2 : ¬ nI (7 ^ g) = 0 := nI_ne0 p0 (by omega)
    have dv : nI s / nI (7 ^ g) = nI (s / 7 ^ g) := pk_div (by omega) p0 (by omega)
    have hle : s / 7 ^ g ≤ s := Nat.div_le_self _ _
    have rm : nI (s / 7 ^ g) - nI (s / 7 ^ g) / (7 : Int32) * (7 : Int32) = nI (s / 7 ^ g % 7) := pk_rem (d := 7) (by omega) (by omega) (by omega)
    rw [if_pos hx, if_neg n1, pw9 e hg, Option.bind_some, if_pos n2, if_pos b2, dv, rm, c2, a1, hx, Bool.true_and]
    by_cases hc : h u ≤ dgs s g
    · have hc2 : h u ≤ s / 7 ^ g % 7 := hc
      rw [if_neg (nI_nlt hc2 (by omega)), decide_eq_true hc]
      rfl
    · have hc2 : s / 7 ^ g % 7 < h u := by
        have : ¬ h u ≤ s / 7 ^ g % 7 := hc
        omega
      rw [if_pos (nI_lt hc2 (by omega)), decide_eq_false hc]
      rfl
  · rw [if_neg hx, if_pos rfl, (Bool.not_eq_true _).mp hx, Bool.false_and]
    rfl
theorem wo9 {e : sk_D} {U : Nat} {h : Nat → Nat} {x : Nat → Nat → Bool} {o : Nat → Nat → Nat} (hU : UD e U h x o) {m u g s : Nat} (hu : m + 1 + u = U) (hg : g < 4) (hs : s < 2401) (hk : okc h x u (dgs s) g = true)
    (hT : ∀ s, s < 2401 → e.1 79 0 (2401 * (u + 1) + s) = nI (kw 100 (bs h x o m (u + 1) (dgs s)))) : q_X9_worthOf e (nI u) (nI g) (nI s) = some (nI (kw 100 (cds h x o m u (dgs s) g))) := by
  obtain ⟨hU1, hU2, hU3, ho, hsh⟩ := hU
  obtain ⟨a1, a2, a3, a4⟩ := hU3 u (by omega)
  obtain ⟨hx, hc⟩ := okc.le hk
  have hle := dgs_le hg hc
  have b1 : sk_bi (nI (4 * u + g)) 80 = true := bi_nI (by omega) (by omega)
  have b2 : sk_bi (nI u) 20 = true := bi_nI (by omega) (by omega)
  have c1 := nI_clamp (n := 4 * u + g) (by omega)
  have c2 := nI_clamp (n := u) (by omega)
  have e3 : (2401 : Int32) * (nI u + (1 : Int32)) + (nI s - nI (h u) * nI (7 ^ g)) = nI (2401 * (u + 1) + (s - h u * 7 ^ g)) := by
    rw [nI_1, show (2401 : Int32) = nI 2401 from rfl, pk_mul, pk_mul, pk_sub hle, nI_add]
  have b3 : sk_bi (nI (2401 * (u + 1) + (s - h u * 7 ^ g))) 50421 = true := bi_nI (by omega) (by omega)
  have c3 := nI_clamp (n := 2401 * (u + 1) + (s - h u * 7 ^ g)) (by omega)
  have hr : bs h x o m (u + 1) (dgs (s - h u * 7 ^ g)) = bs h x o m (u + 1) (rd (dgs s) g (h u)) := by
    refine bs_red m (u + 1) _ _ (fun v h1 h2 => (hU3 v (by omega)).2.1) (fun j hj => .inr ⟨fun _ => ⟨rfl, rfl⟩, .inl (dgs_rd hs hg hc j hj)⟩)
  have hb := bs_bd (x := x) ho m (u + 1) (rd (dgs s) g (h u))
  have h20 := hsh m (u + 1) (by omega)
  have hou := ho u g
  unfold q_X9_worthOf q_X9_worthOf_0
  rw [if_pos b2, pw9 e hg, Option.bind_some, if_pos b2, x4_nI, if_pos b1, c2, a1, e3, if_pos b3, c1, c3, a4 g hg, if_pos hx, hT _ (by omega), hr, show (100 : Int32) = nI 100 from rfl, pk_mul, pk_sub (by omega), nI_add]
  refine congrArg some (congrArg nI ?_)
  unfold cds kw
  dsimp only
  omega
