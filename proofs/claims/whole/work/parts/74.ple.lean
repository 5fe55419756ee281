/-! THE PLANNER: the reference's way through the table *** by hand -/
theorem wi_wi (d : sk_D) (s k f : Nat) (a b : Int32) : sk_wi (sk_wi d s k f a) s k f b = sk_wi d s k f b := by
  unfold sk_wi
  refine Prod.ext ?_ rfl
  funext s' k' f'
  show (if _ then _ else if _ then _ else _) = (if _ then _ else _)
  split <;> rfl
def pc (h : Nat → Nat) (x : Nat → Nat → Bool) (o : Nat → Nat → Nat) (U : Nat) (cap : Nat → Nat) : Nat → Nat → Nat
  | 0 => cap
  | u + 1 => if (fds h x o (U - u - 1) u (pc h x o U cap u) 4).2 = 0 then pc h x o U cap u else rd (pc h x o U cap u) ((fds h x o (U - u - 1) u (pc h x o U cap u) 4).2 - 1) (h u)
/-- the group of unit u in the best plan, and 1; 0 for none -/
def gv (h : Nat → Nat) (x : Nat → Nat → Bool) (o : Nat → Nat → Nat) (U : Nat) (cap : Nat → Nat) (u : Nat) : Nat := (fds h x o (U - u - 1) u (pc h x o U cap u) 4).2
def nv (k : Nat) : Int32 := if k = 0 then -9 else nI (k - 1)
theorem pc_s (h : Nat → Nat) (x : Nat → Nat → Bool) (o : Nat → Nat → Nat) (U : Nat) (cap : Nat → Nat) (u : Nat) : pc h x o U cap (u + 1) = if gv h x o U cap u = 0 then pc h x o U cap u else rd (pc h x o U cap u) (gv h x o U cap u - 1) (h u) := rfl
/-- what is placed from u on -/
theorem bs_gv (h : Nat → Nat) (x : Nat → Nat → Bool) (o : Nat → Nat → Nat) (U : Nat) (cap : Nat → Nat) (u : Nat) (hu : u < U) : (bs h x o (U - u) u (pc h x o U cap u)).1 = (if gv h x o U cap u = 0 then 0 else h u) + (bs h x o (U - (u + 1)) (u + 1) (pc h x o U cap (u + 1))).1 := by
  obtain ⟨m, hm⟩ : ∃ m, U - u = m + 1 := ⟨U - u - 1, by omega⟩
  have hm2 : U - (u + 1) = m := by omega
  have hm3 : U - u - 1 = m := by omega
  have eg : gv h x o U cap u = (fds h x o m u (pc h x o U cap u) 4).2 := by
    unfold gv
    rw [hm3]
  rw [pc_s, hm, hm2, bs_s]
  rcases fd_ch (ok := okc h x u (pc h x o U cap u)) (cd := cds h x o m u (pc h x o U cap u)) (b := bs h x o m (u + 1) (pc h x o U cap u)) 4 (Nat.le_refl _) with h0 | ⟨g, hg, h1, h2, h3⟩
  · have e0 : gv h x o U cap u = 0 := eg.trans h0
    rw [if_pos e0, if_pos e0, Nat.zero_add]
    exact congrArg Prod.fst (fd_0 (ok := okc h x u (pc h x o U cap u)) (cd := cds h x o m u (pc h x o U cap u)) (b := bs h x o m (u + 1) (pc h x o U cap u)) 4 (Nat.le_refl _) h0)
  · have e1 : gv h x o U cap u = g + 1 := eg.trans h1
    rw [e1, if_neg (by omega), if_neg (by omega), Nat.add_sub_cancel]
    have h4 : (fds h x o m u (pc h x o U cap u) 4).1 = cds h x o m u (pc h x o U cap u) g := h3
    rw [h4]
    unfold cds
    exact Nat.add_comm _ _
theorem gv_ok {h : Nat → Nat} {x : Nat → Nat → Bool} {o : Nat → Nat → Nat} {U : Nat} {cap : Nat → Nat} {u : Nat} : gv h x o U cap u = 0 ∨ ∃ g, g < 4 ∧ gv h x o U cap u = g + 1 ∧ okc h x u (pc h x o U cap u) g = true := by
  rcases fd_ch (ok := okc h x u (pc h x o U cap u)) (cd := cds h x o (U - u - 1) u (pc h x o U cap u)) (b := bs h x o (U - u - 1) (u + 1) (pc h x o U cap u)) 4 (Nat.le_refl _) with h0 | ⟨g, hg, h1, h2, _⟩
  · exact .inl h0
  · exact .inr ⟨g, hg, h1, h2⟩
/-- the search at one unit -/
theorem p209 {e : sk_D} {U : Nat} {h : Nat → Nat} {x : Nat → Nat → Bool} {o : Nat → Nat → Nat} (hU : UD e U h x o) {m u s : Nat} (hu : m + 1 + u = U) (hs : s < 2401) (hT : TA e U h x o 0) (pl : Nat)
    (r188 : (sk_D × Int32 × Int32 × Int32) → Option (Int32 × sk_D)) : q_X9_plan_188 r188 e (nI s) (nI pl) (nI u) = r188 (sk_wi e 83 0 u (nv (fds h x o m u (dgs s) 4).2), (if (fds h x o m u (dgs s) 4).2 = 0 then nI s else nI (s - h u * 7 ^ ((fds h x o m u (dgs s) 4).2 - 1))), (if (fds h x o m u (dgs s) 4).2 = 0 then nI pl else nI (pl + h u)), nI (u + 1)) := by
  have hU20 := hU.1
  have l1 : ¬ nI U ≤ nI u := nI_ge (by omega) (by omega)
  have b2 : sk_bi (nI u) 20 = true := bi_nI (by omega) (by omega)
  have c2 := nI_clamp (n := u) (by omega)
  have hv := hU.bb (m := m) (u := u + 1) (by omega) (dgs s)
  have hc := fun g => hU.bc hu (dgs s) g
  have hT1 : ∀ s, s < 2401 → e.1 79 0 (2401 * (u + 1) + s) = nI (kw 100 (bs h x o m (u + 1) (dgs s))) := fun s' hs' => by
    have := hT (u + 1) (Nat.zero_le _) (by omega) s' hs'
    rw [show U - (u + 1) = m by omega] at this
    exact this
  have hT0 : e.1 79 0 (2401 * u + s) = nI (kw 100 (fds h x o m u (dgs s) 4).1) := by
    have := hT u (Nat.zero_le _) (by omega) s hs
    rw [show U - u = m + 1 by omega, bs_s] at this
    exact this
  have hM : kw 100 (fds h x o m u (dgs s) 4).1 ≤ 100 * 20 := kw_b (fd_P vb hv (fun g _ _ => hc g) 4)
  have e1 : (2401 : Int32) * nI u + nI s = nI (2401 * u + s) := by
    rw [show (2401 : Int32) = nI 2401 from rfl, pk_mul, nI_add]
  have b1 : sk_bi (nI (2401 * u + s)) 50421 = true := bi_nI (by omega) (by omega)
  have c1 := nI_clamp (n := 2401 * u + s) (by omega)
  have hX : ∀ v, UD (sk_wi e 83 0 u v) U h x o := fun v => hU.mv (wi_o (by omega)) (fun f => wi_o (by omega)) (fun f => wi_o (by omega))
  have hX1 : ∀ v, ∀ s, s < 2401 → (sk_wi e 83 0 u v).1 79 0 (2401 * (u + 1) + s) = nI (kw 100 (bs h x o m (u + 1) (dgs s))) := fun v s' hs' => (wi_o (by omega)).trans (hT1 s' hs')
  have hX0 : ∀ v, (sk_wi e 83 0 u v).1 79 0 (2401 * u + s) = nI (kw 100 (fds h x o m u (dgs s) 4).1) := fun v => (wi_o (by omega)).trans hT0
  have hlast : sr (okc h x u (dgs s)) (cds h x o m u (dgs s)) (kw 100 (fds h x o m u (dgs s) 4).1) 4 = (fds h x o m u (dgs s) 4).2 := by
    rcases sr_fd (ok := okc h x u (dgs s)) hv (fun g _ => hc g) 4 (Nat.le_refl _) with ⟨_, q⟩ | ⟨q, _⟩
    · exact q
    · exact absurd q (Nat.lt_irrefl _)
  unfold q_X9_plan_188
  rw [hU.2.1, if_neg l1, if_pos b2, c2]
  have e3 : (3 : Int32) = nI (4 - 0) - 1 := by decide
  rw [e3]
  refine it_for0 (F := fun rec209 a => q_X9_plan_209 r188 rec209 a.1 a.2.1 a.2.2.1 a.2.2.2.1 a.2.2.2.2) (fun i => (sk_wi e 83 0 u (nv (sr (okc h x u (dgs s)) (cds h x o m u (dgs s)) (kw 100 (fds h x o m u (dgs s) 4).1) i)), nI s, nI pl, nI u, nI (4 - i) - 1)) 4 (fun j hj rec => ?_) (fun rec => ?_) (by omega)
  · show q_X9_plan_209 r188 rec (sk_wi e 83 0 u (nv (sr (okc h x u (dgs s)) (cds h x o m u (dgs s)) (kw 100 (fds h x o m u (dgs s) 4).1) j))) (nI s) (nI pl) (nI u) (nI (4 - j) - 1) = rec (sk_wi e 83 0 u (nv (sr (okc h x u (dgs s)) (cds h x o m u (dgs s)) (kw 100 (fds h x o m u (dgs s) 4).1) (j + 1))), nI s, nI pl, nI u, nI (4 - (j + 1)) - 1)
    rw [show 4 - j = (3 - j) + 1 by omega, nI_pred, show 4 - (j + 1) = 3 - j by omega, sr]
    have hk := kw_b (w := 100) (hc (3 - j))
    have hz : ∀ a : Int32, q_X9_plan_281 r188 rec (sk_wi e 83 0 u (nv (sr (okc h x u (dgs s)) (cds h x o m u (dgs s)) (kw 100 (fds h x o m u (dgs s) 4).1) j))) (nI s) (nI pl) (nI u) (nI (3 - j)) (nI u) a = rec (sk_wi e 83 0 u a, nI s, nI pl, nI u, nI (3 - j) - 1) := by
      intro a
      unfold q_X9_plan_281
      rw [if_pos b2, c2, wi_wi, Int32.sub_eq_add_neg]
    have hno : q_X9_plan_255 r188 rec (sk_wi e 83 0 u (nv (sr (okc h x u (dgs s)) (cds h x o m u (dgs s)) (kw 100 (fds h x o m u (dgs s) 4).1) j))) (nI s) (nI pl) (nI u) (nI (3 - j)) = rec (sk_wi e 83 0 u (nv (sr (okc h x u (dgs s)) (cds h x o m u (dgs s)) (kw 100 (fds h x o m u (dgs s) 4).1) j)), nI s, nI pl, nI u, nI (3 - j) - 1) := by
      unfold q_X9_plan_255 q_X9_plan_256
      rw [if_pos rfl, if_pos b2, hz, c2, wi_e]
    unfold q_X9_plan_209
    rw [if_neg (nI_pos (by omega)), mg9 (hX _) (by omega) (show 3 - j < 4 by omega) hs, Option.bind_some, iff_w]
    by_cases ho : okc h x u (dgs s) (3 - j) = true
    · rw [if_pos ho, wo9 (hX _) hu (show 3 - j < 4 by omega) hs ho (hX1 _), Option.bind_some, e1, if_pos b1, c1, hX0]
      by_cases q : kw 100 (cds h x o m u (dgs s) (3 - j)) = kw 100 (fds h x o m u (dgs s) 4).1
      · rw [if_pos ((nI_eq (by omega) (by omega)).mpr q), if_pos ⟨ho, q⟩]
        unfold q_X9_plan_256
        rw [if_neg ne10, hz]
        have e4 : nv (4 - j) = nI (3 - j) := by
          unfold nv
          rw [if_neg (by omega), show 4 - j - 1 = 3 - j by omega]
        rw [e4]
      · rw [if_neg (fun z => q ((nI_eq (by omega) (by omega)).mp z)), if_neg (fun z => q z.2), hno]
    · rw [if_neg ho, if_neg (fun z => ho z.1), hno]
  · show q_X9_plan_209 r188 rec (sk_wi e 83 0 u (nv (sr (okc h x u (dgs s)) (cds h x o m u (dgs s)) (kw 100 (fds h x o m u (dgs s) 4).1) 4))) (nI s) (nI pl) (nI u) (nI (4 - 4) - 1) = _
    rw [hlast]
    unfold q_X9_plan_209
    rw [if_pos (show nI (4 - 4) - 1 < (0 : Int32) by decide), if_pos b2, c2, wi_e]
    rcases fd_ch (ok := okc h x u (dgs s)) (cd := cds h x o m u (dgs s)) (b := bs h x o m (u + 1) (dgs s)) 4 (Nat.le_refl _) with h0 | ⟨g, hg, h1, h2, _⟩
    · have h0 : (fds h x o m u (dgs s) 4).2 = 0 := h0
      rw [h0]
      unfold q_X9_plan_331
      rw [if_pos (show nv 0 = (-9 : Int32) from rfl), if_pos rfl, if_pos rfl, nI_1]
    · have h1 : (fds h x o m u (dgs s) 4).2 = g + 1 := h1
      obtain ⟨hx, hle⟩ := okc.le h2
      have hle2 := dgs_le hg hle
      have e5 : nv (g + 1) = nI g := by
        unfold nv
        rw [if_neg (by omega), Nat.add_sub_cancel]
      have n9 : ¬ nI g = (-9 : Int32) := by
        intro z
        have := congrArg Int32.toInt z
        rw [nI_toInt (by omega)] at this
        have h2 : (-9 : Int32).toInt = -9 := by decide
        omega
      have a1 : (sk_wi e 83 0 u (nI g)).1 76 0 u = nI (h u) := (wi_o (by omega)).trans (hU.2.2.1 u (by omega)).1
      rw [h1, e5, if_neg n9, if_pos b2, if_pos b2, pw9 _ hg, Option.bind_some, if_pos b2, if_neg (by omega), if_neg (by omega), Nat.add_sub_cancel]
      unfold q_X9_plan_331
      rw [a1, pk_mul, pk_sub hle2, nI_add, nI_1]
