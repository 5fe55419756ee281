/-! THE MEMORY THAT THE CONSTRUCTORS LEAVE *** by hand -/
/-- the memory that the constructors leave -/
def sc_d0 : sk_D := (sc_i sc_F, fun _ _ _ => 0)
/-- a bound on the places written -/
def sc_bd (L : List sc_T) (s k b : Nat) : Bool := L.all (fun w => !(w.1 == s && w.2.1 == k) || Nat.blt w.2.2.1 b)
theorem sc_rb {s k b : Nat} : ∀ {L : List sc_T}, sc_bd L s k b = true → ∀ f, b ≤ f → sc_r L s k f = none
  | [], _, _, _ => rfl
  | (s', k', f', .inl v) :: L, h, f, hf => by
    have h1 : ((!(s' == s && k' == k) || Nat.blt f' b) && sc_bd L s k b) = true := h
    rw [Bool.and_eq_true] at h1
    exact sc_rb (L := L) h1.2 f hf
  | (s', k', f', .inr v) :: L, h, f, hf => by
    have h1 : ((!(s' == s && k' == k) || Nat.blt f' b) && sc_bd L s k b) = true := h
    rw [Bool.and_eq_true] at h1
    show sk_up (sc_r L) s' k' f' v s k f = none
    unfold sk_up
    rw [if_neg, sc_rb (L := L) h1.2 f hf]
    rintro ⟨rfl, rfl, rfl⟩
    have h2 := h1.1
    simp [Nat.blt] at h2
    omega
theorem sk_dr_bd {s n : Nat} (h : (s = 1 ∧ n = 20) ∨ (s = 2 ∧ n = 4) ∨ (s = 3 ∧ n = 8) ∨ (s = 4 ∧ n = 3) ∨ (s = 9 ∧ n = 20) ∨ (s = 32 ∧ n = 3)) (k f : Nat) (hf : n ≤ f) : sk_dr s k f = none := by
  rcases h with ⟨rfl, rfl⟩ | ⟨rfl, rfl⟩ | ⟨rfl, rfl⟩ | ⟨rfl, rfl⟩ | ⟨rfl, rfl⟩ | ⟨rfl, rfl⟩ <;> exact if_neg (by omega)
/-- the references stand where the steady memory has them -/
def sc_ck (i : Nat) : Bool := match sk_shp (sk_ref i).1 with
  | .inl ci => (List.range (sk_fn ci)).all (fun f => !(sk_fr ci f) || decide (sc_r sc_F (sk_ref i).1 (sk_ref i).2 f = sk_dr (sk_ref i).1 (sk_ref i).2 f))
  | .inr kn => Nat.blt kn.1 4 || ((List.range kn.2).all (fun f => decide (sc_r sc_F (sk_ref i).1 (sk_ref i).2 f = sk_dr (sk_ref i).1 (sk_ref i).2 f)) && sc_bd sc_F (sk_ref i).1 (sk_ref i).2 kn.2 && decide (((sk_ref i).1 = 1 ∧ kn.2 = 20) ∨ ((sk_ref i).1 = 2 ∧ kn.2 = 4) ∨ ((sk_ref i).1 = 3 ∧ kn.2 = 8) ∨ ((sk_ref i).1 = 4 ∧ kn.2 = 3) ∨ ((sk_ref i).1 = 9 ∧ kn.2 = 20) ∨ ((sk_ref i).1 = 32 ∧ kn.2 = 3)))
theorem sc_ckT : (List.range sk_N0).all sc_ck = true := by decide +kernel
theorem sc_ce {kc : Nat → ClassId} {bb : sk_BB} (i : Nat) (hi : i < sk_N0) : sk_ce kc bb (sk_mm sc_d0) (sk_ref i) = sk_ce kc bb (sk_mW 121 sc_F) (sk_ref i) := by
  have h := List.all_eq_true.mp sc_ckT i (List.mem_range.mpr hi)
  unfold sc_ck at h
  unfold sk_ce
  generalize hs : sk_shp (sk_ref i).1 = sh at h
  cases sh with
  | inl ci =>
    have h := List.all_eq_true.mp h
    refine congrArg (fun l => Sum.inr (ci, l)) (List.map_congr_left fun j hj => ?_)
    have h2 := h j hj
    simp only [Bool.or_eq_true, Bool.not_eq_true', decide_eq_true_eq] at h2
    unfold sk_fv
    rcases h2 with h2 | h2
    · rw [h2]
      rfl
    · show (if sk_fr ci j = true then va_rf (sk_ro bb (sk_dr (sk_ref i).1 (sk_ref i).2 j)) else _) = (if sk_fr ci j = true then va_rf (sk_ro bb (sc_r sc_F (sk_ref i).1 (sk_ref i).2 j)) else _)
      rw [h2]
      rfl
  | inr kn =>
    obtain ⟨kd, n⟩ := kn
    simp only [Bool.or_eq_true, Bool.and_eq_true, decide_eq_true_eq] at h
    show Sum.inl (kc kd, n, _) = Sum.inl (kc kd, n, _)
    refine congrArg (fun z => Sum.inl (kc kd, n, z)) ?_
    show (if kd = 1 then _ else if 4 ≤ kd then Sum.inr (Sum.inr (Sum.inr (Sum.inr (fun j => sk_ro bb (sk_dr (sk_ref i).1 (sk_ref i).2 j))))) else _) = (if kd = 1 then _ else if 4 ≤ kd then Sum.inr (Sum.inr (Sum.inr (Sum.inr (fun j => sk_ro bb (sc_r sc_F (sk_ref i).1 (sk_ref i).2 j))))) else _)
    rcases h with h | ⟨⟨h1, h2⟩, h3⟩
    · have h4 : ¬ 4 ≤ kd := by
        have h5 : kd + 1 ≤ 4 := Nat.le_of_ble_eq_true h
        omega
      rw [if_neg h4, if_neg h4]
      rfl
    · have e : sk_dr (sk_ref i).1 (sk_ref i).2 = sc_r sc_F (sk_ref i).1 (sk_ref i).2 := by
        funext f
        by_cases hf : f < n
        · have := List.all_eq_true.mp h1 f (List.mem_range.mpr hf)
          exact (of_decide_eq_true this).symm
        · rw [sc_rb h2 f (by show n ≤ f; omega)]
          exact sk_dr_bd h3 _ f (by show n ≤ f; omega)
      rw [e]
      rfl
theorem sc_RH0 {bb : sk_BB} {D : va_G} {kc : Nat → ClassId} {s0 : State} {H : Heap} (hR : sk_RH bb D kc (sk_mW 121 sc_F) s0 H) : sk_RH bb D kc (sk_mm sc_d0) s0 H := by
  refine ⟨hR.1, ⟨hR.2.1.1, fun q => absurd q (Nat.lt_irrefl _)⟩, Nat.le_refl _, ?_⟩
  have e : sk_ws kc bb (sk_mm sc_d0) = sk_ws kc bb (sk_mW 121 sc_F) := by
    unfold sk_ws
    refine congrArg (fun z => z ++ sk_wx kc bb) ?_
    unfold sk_wc
    exact List.map_congr_left (fun i hi => congrArg (Prod.mk (bb.1 + i)) (sc_ce i (List.mem_range.mp hi)))
  rw [e]
  exact hR.2.2.2
