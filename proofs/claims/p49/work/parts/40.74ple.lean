/-! THE PLANNER: the reference's way through the table *** by hand -/
theorem wi_wi (d : sk_D) (s k f : Nat) (a b : Int32) : sk_wi (sk_wi d s k f a) s k f b = sk_wi d s k f b := by
  unfold sk_wi
  refine Prod.ext ?_ rfl
  funext s' k' f'
  show (if _ then _ else if _ then _ else _) = (if _ then _ else _)
  split <;> rfl
def pc (h : Nat → Nat) (x : Nat → Nat → Bool) (o : Nat → Nat → Nat) (U : Nat) (cap : Nat → Nat) : Nat → Nat → Nat
  | 0 => cap
  | u + 1 => if (fds h x o (U - u - 1) u (pc h x o U cap u) 4).2 = 0 then pc h x o U cap u else rd (pc h x o U cap u) ((fds h x o (U - u - 1) u (pc h x o U cap u) 4).2 - 1) (h u)
/-- the group of unit u in the best plan, and 1; 0 for none -/
def gv (h : Nat → Nat) (x : Nat → Nat → Bool) (o : Nat → Nat → Nat) (U : Nat) (cap : Nat → Nat) (u : Nat) : Nat := (fds h x o (U - u - 1) u (pc h x o U cap u) 4).2
def nv (k : Nat) : Int32 := if k = 0 then -9 else nI (k - 1)
theorem pc_s (h : Nat → Nat) (x : Nat → Nat → Bool) (o : Nat → Nat → Nat) (U : Nat) (cap : Nat → Nat) (u : Nat) : pc h x o U cap (u + 1) = if gv h x o U cap u = 0 then pc h x o U cap u else rd (pc h x o U cap u) (gv h x o U cap u - 1) (h u) := rfl
/-- what is placed from u on -/
theorem bs_gv (h : Nat → Nat) (x : Nat → Nat → Bool) (o : Nat → Nat → Nat) (U : Nat) (cap : Nat → Nat) (u : Nat) (hu : u < U) : (bs h x o (U - u) u (pc h x o U cap u)).1 = (if gv h x o U cap u = 0 then 0 else h u) + (bs h x o (U - (u + 1)) (u + 1) (pc h x o U cap (u + 1))).1 := by
  obtain ⟨m, hm⟩ : ∃ m, U - u = m + 1 := ⟨U - u - 1, by omega⟩
  have hm2 : U - (u + 1) = m := by omega
  have hm3 : U - u - 1 = m := by omega
  have eg : gv h x o U cap u = (fds h x o m u (pc h x o U cap u) 4).2 := by
    unfold gv
    rw [hm3]
  rw [pc_s, hm, hm2, bs_s]
  rcases fd_ch (ok := okc h x u (pc h x o U cap u)) (cd := cds h x o m u (pc h x o U cap u)) (b := bs h x o m (u + 1) (pc h x o U cap u)) 4 (Nat.le_refl _) with h0 | ⟨g, hg, h1, h2, h3⟩
  · have e0 : gv h x o U cap u = 0 := eg.trans h0
    rw [if_pos e0, if_pos e0, Nat.zero_add]
    exact congrArg Prod.fst (fd_0 (ok := okc h x u (pc h x o U cap u)) (cd := cds h x o m u (pc h x o U cap u)) (b := bs h x o m (u + 1) (pc h x o U cap u)) 4 (Nat.le_refl _) h0)
  · have e1 : gv h x o U cap u = g + 1 := eg.trans h1
    rw [e1, if_neg (by omega), if_neg (by omega), Nat.add_sub_cancel]
    have h4 : (fds h x o m u (pc h x o U cap u) 4).1 = cds h x o m u (pc h x o U cap u) g := h3
    rw [h4]
    unfold cds
    exact Nat.add_comm _ _
theorem gv_ok {h : Nat → Nat} {x : Nat → Nat → Bool} {o : Nat → Nat → Nat} {U : Nat} {cap : Nat → Nat} {u : Nat} : gv h x o U cap u = 0 ∨ ∃ g, g < 4 ∧ gv h x o U cap u = g + 1 ∧ okc h x u (pc h x o U cap u) g = true := by
  rcases fd_ch (ok := okc h x u (pc h x o U cap u)) (cd := cds h x o (U - u - 1) u (pc h x o U cap u)) (b := bs h x o (U - u - 1) (u + 1) (pc h x o U cap u)) 4 (Nat.le_refl _) with h0 | ⟨g, hg, h1, h2, _⟩
  · exact .inl h0
  · exact .inr ⟨g, hg, h1, h2⟩
