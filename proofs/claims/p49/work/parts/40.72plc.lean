/-! THE PLANNER: the reference's table, all of it *** by hand -/
theorem it_cn {ι α β γ : Type} {F : ι → (α → Option β) → α → Option β} (K : ι → γ → Option β) (P : Nat → α → Prop) (Qf : γ → Prop) (N : Nat)
    (hs : ∀ j a, j < N → P j a → ∃ b, P (j + 1) b ∧ ∀ i rec, F i rec a = rec b) (he : ∀ a, P N a → ∃ x, Qf x ∧ ∀ i rec, F i rec a = K i x) (hN : N < 20000) (a : α) (h0 : P 0 a) : ∃ x, Qf x ∧ ∀ i, sk_it (F i) sk_fu a = K i x := by
  refine it_if0 K (fun j a => j ≤ N ∧ P j a) Qf N (fun j a hP => ?_) hN a ⟨Nat.zero_le _, h0⟩
  by_cases hj : j < N
  · obtain ⟨b, h1, h2⟩ := hs j a hj hP.2
    exact .inr ⟨hj, b, ⟨hj, h1⟩, h2⟩
  · have e : j = N := by have := hP.1; omega
    subst e
    exact .inl (he a hP.2)
def O79 (e e' : sk_D) : Prop := ∀ s k f, s ≠ 79 → e'.1 s k f = e.1 s k f
theorem O79.rf (e : sk_D) : O79 e e := fun _ _ _ _ => rfl
theorem O79.tr {a b c : sk_D} (h : O79 a b) (g : O79 b c) : O79 a c := fun s k f hs => (g s k f hs).trans (h s k f hs)
theorem O79.w (e : sk_D) (f : Nat) (v : Int32) : O79 e (sk_wi e 79 0 f v) := fun s k f hs => wi_o (by omega)
theorem UD.o {e e' : sk_D} {U : Nat} {h : Nat → Nat} {x : Nat → Nat → Bool} {o : Nat → Nat → Nat} (hU : UD e U h x o) (hO : O79 e e') : UD e' U h x o := hU.mv (hO 44 0 37 (by omega)) (fun f => hO 76 0 f (by omega)) (fun f => hO 78 0 f (by omega))
def TA (e : sk_D) (U : Nat) (h : Nat → Nat) (x : Nat → Nat → Bool) (o : Nat → Nat → Nat) (u : Nat) : Prop := ∀ v, u ≤ v → v ≤ U → ∀ s, s < 2401 → e.1 79 0 (2401 * v + s) = nI (kw 100 (bs h x o (U - v) v (dgs s)))
theorem UD.bb {e : sk_D} {U : Nat} {h : Nat → Nat} {x : Nat → Nat → Bool} {o : Nat → Nat → Nat} (hU : UD e U h x o) {m u : Nat} (hu : m + u = U) (c : Nat → Nat) : vb (bs h x o m u c) := by
  have h1 := bs_bd (x := x) hU.2.2.2.1 m u c
  have h2 := hU.2.2.2.2 m u hu
  exact ⟨h1.1, by omega⟩
theorem UD.bc {e : sk_D} {U : Nat} {h : Nat → Nat} {x : Nat → Nat → Bool} {o : Nat → Nat → Nat} (hU : UD e U h x o) {m u : Nat} (hu : m + 1 + u = U) (c : Nat → Nat) (g : Nat) : vb (cds h x o m u c g) := by
  have h1 := cds_bd (x := x) hU.2.2.2.1 m u c g
  have h2 := hU.2.2.2.2 (m + 1) u hu
  exact ⟨h1.1, by omega⟩
theorem kw_b {w : Nat} {z : Nat × Nat} (hz : vb z) : kw w z ≤ w * 20 := by
  have := Nat.mul_le_mul_left w hz.2
  unfold kw
  omega
theorem mxg_b {ok : Nat → Bool} {cd : Nat → Nat × Nat} {b : Nat × Nat} (hb : vb b) (hc : ∀ g, vb (cd g)) (n : Nat) : mxg ok cd b n ≤ 2000 := by
  have h1 := kw_b (w := 100) hb
  rcases (mxg_m (ok := ok) (cd := cd) (b := b) n).2.2 with h | ⟨g, _, _, h⟩
  · omega
  · have h2 := kw_b (w := 100) (hc g)
    omega
