/-! THE PLANNER: the reference's table, all of it *** by hand -/
theorem it_cn {ι α β γ : Type} {F : ι → (α → Option β) → α → Option β} (K : ι → γ → Option β) (P : Nat → α → Prop) (Qf : γ → Prop) (N : Nat)
    (hs : ∀ j a, j < N → P j a → ∃ b, P (j + 1) b ∧ ∀ i rec, F i rec a = rec b) (he : ∀ a, P N a → ∃ x, Qf x ∧ ∀ i rec, F i rec a = K i x) (hN : N < 5000) (a : α) (h0 : P 0 a) : ∃ x, Qf x ∧ ∀ i, sk_it (F i) sk_fu a = K i x := by
  refine it_if0 K (fun j a => j ≤ N ∧ P j a) Qf N (fun j a hP => ?_) hN a ⟨Nat.zero_le _, h0⟩
  by_cases hj : j < N
  · obtain ⟨b, h1, h2⟩ := hs j a hj hP.2
    exact .inr ⟨hj, b, ⟨hj, h1⟩, h2⟩
  · have e : j = N := by have := hP.1; omega
    subst e
    exact .inl (he a hP.2)
def O79 (e e' : sk_D) : Prop := ∀ s k f, s ≠ 79 → e'.1 s k f = e.1 s k f
theorem O79.rf (e : sk_D) : O79 e e := fun _ _ _ _ => rfl
theorem O79.tr {a b c : sk_D} (h : O79 a b) (g : O79 b c) : O79 a c := fun s k f hs => (g s k f hs).trans (h s k f hs)
theorem O79.w (e : sk_D) (f : Nat) (v : Int32) : O79 e (sk_wi e 79 0 f v) := fun s k f hs => wi_o (by omega)
theorem UD.o {e e' : sk_D} {U : Nat} {h : Nat → Nat} {x : Nat → Nat → Bool} {o : Nat → Nat → Nat} (hU : UD e U h x o) (hO : O79 e e') : UD e' U h x o := hU.mv (hO 44 0 37 (by omega)) (fun f => hO 76 0 f (by omega)) (fun f => hO 78 0 f (by omega))
def TA (e : sk_D) (U : Nat) (h : Nat → Nat) (x : Nat → Nat → Bool) (o : Nat → Nat → Nat) (u : Nat) : Prop := ∀ v, u ≤ v → v ≤ U → ∀ s, s < 2401 → e.1 79 0 (2401 * v + s) = nI (kw 100 (bs h x o (U - v) v (dgs s)))
theorem UD.bb {e : sk_D} {U : Nat} {h : Nat → Nat} {x : Nat → Nat → Bool} {o : Nat → Nat → Nat} (hU : UD e U h x o) {m u : Nat} (hu : m + u = U) (c : Nat → Nat) : vb (bs h x o m u c) := by
  have h1 := bs_bd (x := x) hU.2.2.2.1 m u c
  have h2 := hU.2.2.2.2 m u hu
  exact ⟨h1.1, by omega⟩
theorem UD.bc {e : sk_D} {U : Nat} {h : Nat → Nat} {x : Nat → Nat → Bool} {o : Nat → Nat → Nat} (hU : UD e U h x o) {m u : Nat} (hu : m + 1 + u = U) (c : Nat → Nat) (g : Nat) : vb (cds h x o m u c g) := by
  have h1 := cds_bd (x := x) hU.2.2.2.1 m u c g
  have h2 := hU.2.2.2.2 (m + 1) u hu
  exact ⟨h1.1, by omega⟩
theorem kw_b {w : Nat} {z : Nat × Nat} (hz : vb z) : kw w z ≤ w * 20 := by
  have := Nat.mul_le_mul_left w hz.2
  unfold kw
  omega
theorem mxg_b {ok : Nat → Bool} {cd : Nat → Nat × Nat} {b : Nat × Nat} (hb : vb b) (hc : ∀ g, vb (cd g)) (n : Nat) : mxg ok cd b n ≤ 2000 := by
  have h1 := kw_b (w := 100) hb
  rcases (mxg_m (ok := ok) (cd := cd) (b := b) n).2.2 with h | ⟨g, _, _, h⟩
  · omega
  · have h2 := kw_b (w := 100) (hc g)
    omega
/-- one state -/
theorem p75 {e : sk_D} {U : Nat} {h : Nat → Nat} {x : Nat → Nat → Bool} {o : Nat → Nat → Nat} (hU : UD e U h x o) {m u s : Nat} (hu : m + 1 + u = U) (hs : s < 2401) (hT : ∀ s, s < 2401 → e.1 79 0 (2401 * (u + 1) + s) = nI (kw 100 (bs h x o m (u + 1) (dgs s))))
    (r43 : (sk_D × Int32) → Option (Int32 × sk_D)) (r49 : (sk_D × Int32 × Int32) → Option (Int32 × sk_D)) : q_X9_plan_49 r43 r49 e (nI u) (nI s) = r49 (sk_wi e 79 0 (2401 * u + s) (nI (kw 100 (bs h x o (m + 1) u (dgs s)))), nI u, nI (s + 1)) := by
  have l1 : ¬ (2401 : Int32) ≤ nI s := le_nI (n := 2401) rfl hs (by omega)
  have hu20 := hU.1
  have e1 : (2401 : Int32) * (nI u + (1 : Int32)) + nI s = nI (2401 * (u + 1) + s) := by
    rw [nI_1, show (2401 : Int32) = nI 2401 from rfl, pk_mul, nI_add]
  have e2 : (2401 : Int32) * nI u + nI s = nI (2401 * u + s) := by
    rw [show (2401 : Int32) = nI 2401 from rfl, pk_mul, nI_add]
  have b1 : sk_bi (nI (2401 * (u + 1) + s)) 50421 = true := bi_nI (by omega) (by omega)
  have b2 : sk_bi (nI (2401 * u + s)) 50421 = true := bi_nI (by omega) (by omega)
  have c1 := nI_clamp (n := 2401 * (u + 1) + s) (by omega)
  have c2 := nI_clamp (n := 2401 * u + s) (by omega)
  have hv := hU.bb (m := m) (u := u + 1) (by omega) (dgs s)
  have hc := fun g => hU.bc hu (dgs s) g
  unfold q_X9_plan_49
  rw [if_neg l1, e1, if_pos b1, c1, hT s hs]
  refine it_for0 (F := fun rec75 a => q_X9_plan_75 r43 r49 rec75 a.1 a.2.1 a.2.2.1 a.2.2.2.1 a.2.2.2.2) (fun i => (e, nI u, nI s, nI (mxg (okc h x u (dgs s)) (cds h x o m u (dgs s)) (bs h x o m (u + 1) (dgs s)) i), nI i)) 4 (fun j hj rec => ?_) (fun rec => ?_) (by omega)
  · show q_X9_plan_75 r43 r49 rec e (nI u) (nI s) (nI (mxg (okc h x u (dgs s)) (cds h x o m u (dgs s)) (bs h x o m (u + 1) (dgs s)) j)) (nI j) = rec (e, nI u, nI s, nI (mxg (okc h x u (dgs s)) (cds h x o m u (dgs s)) (bs h x o m (u + 1) (dgs s)) (j + 1)), nI (j + 1))
    have l4 : ¬ (4 : Int32) ≤ nI j := le_nI (n := 4) rfl hj (by omega)
    have hm := mxg_b (ok := okc h x u (dgs s)) hv hc j
    have hk := kw_b (w := 100) (hc j)
    unfold q_X9_plan_75
    rw [if_neg l4, mg9 hU (by omega) hj hs, Option.bind_some, iff_w, mxg]
    by_cases ho : okc h x u (dgs s) j = true
    · rw [if_pos ho, wo9 hU hu hj hs ho hT, Option.bind_some]
      unfold q_X9_plan_104 q_X9_plan_120
      rw [nI_1]
      by_cases q : mxg (okc h x u (dgs s)) (cds h x o m u (dgs s)) (bs h x o m (u + 1) (dgs s)) j < kw 100 (cds h x o m u (dgs s) j)
      · rw [if_neg (nI_ge q (by omega)), if_pos ⟨ho, q⟩]
      · rw [if_pos (nI_le (by omega) (by omega)), if_neg (fun z => q z.2)]
    · have n1 : (-1 : Int32) ≤ nI (mxg (okc h x u (dgs s)) (cds h x o m u (dgs s)) (bs h x o m (u + 1) (dgs s)) j) := by
        rw [Int32.le_iff_toInt_le, nI_toInt (by omega)]
        have h2 : (-1 : Int32).toInt = -1 := by decide
        omega
      rw [if_neg ho]
      unfold q_X9_plan_104 q_X9_plan_120
      rw [if_pos n1, nI_1, if_neg (fun z => ho z.1)]
  · show q_X9_plan_75 r43 r49 rec e (nI u) (nI s) (nI (mxg (okc h x u (dgs s)) (cds h x o m u (dgs s)) (bs h x o m (u + 1) (dgs s)) 4)) (nI 4) = _
    unfold q_X9_plan_75
    rw [if_pos (show (4 : Int32) ≤ nI 4 by decide), e2, if_pos b2, c2, nI_1, mxg_fd hv (fun g _ => hc g)]
    rfl
