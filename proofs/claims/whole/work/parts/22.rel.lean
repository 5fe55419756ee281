/-! THE RELATION between the class's numbers (in d) and the reference's (in e), with what always holds of them *** by hand -/
def sp_n (x : Int32) (n : Nat) : Prop := ∃ k, k < n ∧ x = nI k
def rP (d e : sk_D) : Prop := ∀ k, k < 20 → (d.1 37 k 0 = 0 ∨ d.1 37 k 0 = 1) ∧ e.1 45 0 k = d.1 37 k 0 ∧ (d.1 37 k 0 = 1 → e.1 46 0 k = d.1 37 k 1 ∧ e.1 47 0 k = d.1 37 k 2 ∧ e.1 48 0 k = d.1 37 k 3 ∧ e.1 49 0 k = d.1 37 k 4 ∧ e.1 51 0 k = d.1 37 k 5 ∧ ∀ j, j < 4 → e.1 50 0 (4 * k + j) = d.1 38 k j)
def vP (d : sk_D) : Prop := ∀ k, k < 20 → d.1 37 k 0 = 1 → sp_n (d.1 37 k 1) 8 ∧ sp_n (d.1 37 k 2) 64 ∧ (d.1 37 k 3 = -9 ∨ sp_n (d.1 37 k 3) 8) ∧ (d.1 37 k 4 = -9 ∨ ∃ g, g < 4 ∧ d.1 37 k 4 = nI g ∧ d.1 39 g 0 = 1) ∧ ∀ j, j < 4 → d.1 38 k j = -9 ∨ sp_n (d.1 38 k j) 11
def rF (d e : sk_D) : Prop := ∀ f, f < 8 → (d.1 5 0 f = 0 ∨ d.1 5 0 f = 1) ∧ e.1 52 0 f = d.1 5 0 f
def rG (d e : sk_D) : Prop := ∀ g, g < 4 → (d.1 39 g 0 = 0 ∨ d.1 39 g 0 = 1) ∧ e.1 53 0 g = d.1 39 g 0 ∧ e.1 71 0 g = d.1 39 g 9 ∧ e.1 72 0 g = d.1 39 g 10 ∧ (d.1 39 g 0 = 1 → e.1 54 0 g = d.1 39 g 1 ∧ e.1 55 0 g = d.1 39 g 2 ∧ e.1 56 0 g = d.1 39 g 3 ∧ e.1 57 0 g = d.1 39 g 4 ∧ e.1 58 0 g = d.1 39 g 5 ∧ e.1 59 0 g = d.1 39 g 6 ∧ ∀ j, j < 4 → nI j < d.1 39 g 6 → e.1 60 0 (4 * g + j) = d.1 40 g j ∧ e.1 61 0 (4 * g + j) = d.1 41 g j)
def vG (d : sk_D) : Prop := ∀ g, g < 4 → (d.1 39 g 0 = 0 → d.1 39 g 9 = 0 ∧ d.1 39 g 10 = 0) ∧ (d.1 39 g 0 = 1 → sp_n (d.1 39 g 1) 8 ∧ sp_n (d.1 39 g 2) 6 ∧ (∃ c, 1 ≤ c ∧ c ≤ 6 ∧ d.1 39 g 3 = nI c) ∧ (d.1 39 g 4 = -9 ∨ ∃ i, i < 8 ∧ d.1 39 g 4 = nI i ∧ d.1 42 i 0 = 1) ∧ sp_n (d.1 39 g 5) 61 ∧ ∃ s, s ≤ 4 ∧ d.1 39 g 6 = nI s ∧ ∀ j, j < s → (∃ l, l < 3 ∧ d.1 40 g j = nI l ∧ nI l < d.1 0 0 9) ∧ ∃ w, 1 ≤ w ∧ w ≤ 20 ∧ d.1 41 g j = nI w)
/-- no instructor has two groups -/
def vD (d : sk_D) : Prop := ∀ g h, g < 4 → h < 4 → g ≠ h → d.1 39 g 0 = 1 → d.1 39 h 0 = 1 → d.1 39 g 4 ≠ -9 → d.1 39 g 4 ≠ d.1 39 h 4
def rI (d e : sk_D) : Prop := ∀ i, i < 8 → (d.1 42 i 0 = 0 ∨ d.1 42 i 0 = 1) ∧ e.1 62 0 i = d.1 42 i 0 ∧ (d.1 42 i 0 = 1 → e.1 63 0 i = d.1 42 i 1 ∧ e.1 64 0 i = d.1 42 i 2 ∧ e.1 65 0 i = d.1 42 i 3 ∧ e.1 66 0 i = d.1 42 i 4 ∧ e.1 67 0 i = d.1 42 i 5)
def vI (d : sk_D) : Prop := ∀ i, i < 8 → d.1 42 i 0 = 1 → sp_n (d.1 42 i 1) 64 ∧ sp_n (d.1 42 i 2) 8 ∧ sp_n (d.1 42 i 3) 8 ∧ (∃ w, 1 ≤ w ∧ w ≤ 999999 ∧ d.1 42 i 4 = nI w) ∧ ¬ d.1 42 i 5 < 0
def rL (d e : sk_D) : Prop := e.1 44 0 27 = d.1 0 0 9 ∧ (∃ n, n ≤ 3 ∧ d.1 0 0 9 = nI n ∧ ∀ l, l < n → e.1 68 0 l = d.1 43 l 0 ∧ e.1 69 0 l = d.1 43 l 1 ∧ e.1 70 0 l = d.1 43 l 2 ∧ (∃ w, 1 ≤ w ∧ w ≤ 8 ∧ d.1 43 l 0 = nI w) ∧ (∃ w, 1 ≤ w ∧ w ≤ 10 ∧ d.1 43 l 1 = nI w) ∧ ∃ w, 1 ≤ w ∧ w ≤ 20 ∧ d.1 43 l 2 = nI w) ∧ ∀ l, l < 3 → e.1 73 0 l = d.1 43 l 3 ∧ e.1 74 0 l = d.1 43 l 4
def rM (d e : sk_D) : Prop := e.1 44 0 1 = d.1 0 0 10 ∧ e.1 44 0 2 = d.1 0 0 11 ∧ e.1 44 0 3 = d.1 0 0 12 ∧ e.1 44 0 0 = d.1 0 0 13 ∧ sp_n (d.1 0 0 11) 11
def rT (d e : sk_D) : Prop := ∃ n, n ≤ 100 ∧ d.1 35 0 1 = nI n ∧ e.1 44 0 36 = nI n ∧ ∀ j, j < n → e.1 75 0 j = d.1 36 0 j ∧ ∃ c, 32 ≤ c ∧ c ≤ 126 ∧ d.1 36 0 j = nI c
def sk_R2 (d e : sk_D) : Prop := (rP d e ∧ vP d) ∧ rF d e ∧ (rG d e ∧ vG d ∧ vD d) ∧ (rI d e ∧ vI d) ∧ rL d e ∧ rM d e ∧ rT d e
def sk_R (d : sk_D) : Prop := sk_R2 d d
/-- the memory that the constructors leave -/
def sc_d0 : sk_D := (sc_i sc_F, fun _ _ _ => 0)
/-- a bound on the places written -/
def sc_bd (L : List sc_T) (s k b : Nat) : Bool := L.all (fun w => !(w.1 == s && w.2.1 == k) || Nat.blt w.2.2.1 b)
theorem sc_rb {s k b : Nat} : ∀ {L : List sc_T}, sc_bd L s k b = true → ∀ f, b ≤ f → sc_r L s k f = none
  | [], _, _, _ => rfl
  | (s', k', f', .inl v) :: L, h, f, hf => by
    have h1 : ((!(s' == s && k' == k) || Nat.blt f' b) && sc_bd L s k b) = true := h
    rw [Bool.and_eq_true] at h1
    exact sc_rb (L := L) h1.2 f hf
  | (s', k', f', .inr v) :: L, h, f, hf => by
    have h1 : ((!(s' == s && k' == k) || Nat.blt f' b) && sc_bd L s k b) = true := h
    rw [Bool.and_eq_true] at h1
    show sk_up (sc_r L) s' k' f' v s k f = none
    unfold sk_up
    rw [if_neg, sc_rb (L := L) h1.2 f hf]
    rintro ⟨rfl, rfl, rfl⟩
    have h2 := h1.1
    simp [Nat.blt] at h2
    omega
theorem sk_dr_bd {s n : Nat} (h : (s = 1 ∧ n = 20) ∨ (s = 2 ∧ n = 4) ∨ (s = 3 ∧ n = 8) ∨ (s = 4 ∧ n = 3) ∨ (s = 9 ∧ n = 20) ∨ (s = 32 ∧ n = 3)) (k f : Nat) (hf : n ≤ f) : sk_dr s k f = none := by
  rcases h with ⟨rfl, rfl⟩ | ⟨rfl, rfl⟩ | ⟨rfl, rfl⟩ | ⟨rfl, rfl⟩ | ⟨rfl, rfl⟩ | ⟨rfl, rfl⟩ <;> exact if_neg (by omega)
/-- the references stand where the steady memory has them -/
def sc_ck (i : Nat) : Bool := match sk_shp (sk_ref i).1 with
  | .inl ci => (List.range (sk_fn ci)).all (fun f => !(sk_fr ci f) || decide (sc_r sc_F (sk_ref i).1 (sk_ref i).2 f = sk_dr (sk_ref i).1 (sk_ref i).2 f))
  | .inr kn => Nat.blt kn.1 4 || ((List.range kn.2).all (fun f => decide (sc_r sc_F (sk_ref i).1 (sk_ref i).2 f = sk_dr (sk_ref i).1 (sk_ref i).2 f)) && sc_bd sc_F (sk_ref i).1 (sk_ref i).2 kn.2 && decide (((sk_ref i).1 = 1 ∧ kn.2 = 20) ∨ ((sk_ref i).1 = 2 ∧ kn.2 = 4) ∨ ((sk_ref i).1 = 3 ∧ kn.2 = 8) ∨ ((sk_ref i).1 = 4 ∧ kn.2 = 3) ∨ ((sk_ref i).1 = 9 ∧ kn.2 = 20) ∨ ((sk_ref i).1 = 32 ∧ kn.2 = 3)))
theorem sc_ckT : (List.range sk_N0).all sc_ck = true := by decide +kernel
theorem sc_ce {kc : Nat → ClassId} {bb : Nat × Nat} (i : Nat) (hi : i < sk_N0) : sk_ce kc bb (sk_mm sc_d0) (sk_ref i) = sk_ce kc bb (sk_mW 171 sc_F) (sk_ref i) := by
  have h := List.all_eq_true.mp sc_ckT i (List.mem_range.mpr hi)
  unfold sc_ck at h
  unfold sk_ce
  generalize hs : sk_shp (sk_ref i).1 = sh at h
  cases sh with
  | inl ci =>
    have h := List.all_eq_true.mp h
    refine congrArg (fun l => Sum.inr (ci, l)) (List.map_congr_left fun j hj => ?_)
    have h2 := h j hj
    simp only [Bool.or_eq_true, Bool.not_eq_true', decide_eq_true_eq] at h2
    unfold sk_fv
    rcases h2 with h2 | h2
    · rw [h2]
      rfl
    · show (if sk_fr ci j = true then va_rf (sk_ro bb (sk_dr (sk_ref i).1 (sk_ref i).2 j)) else _) = (if sk_fr ci j = true then va_rf (sk_ro bb (sc_r sc_F (sk_ref i).1 (sk_ref i).2 j)) else _)
      rw [h2]
      rfl
  | inr kn =>
    obtain ⟨kd, n⟩ := kn
    simp only [Bool.or_eq_true, Bool.and_eq_true, decide_eq_true_eq] at h
    show Sum.inl (kc kd, n, _) = Sum.inl (kc kd, n, _)
    refine congrArg (fun z => Sum.inl (kc kd, n, z)) ?_
    show (if kd = 1 then _ else if 4 ≤ kd then Sum.inr (Sum.inr (Sum.inr (Sum.inr (fun j => sk_ro bb (sk_dr (sk_ref i).1 (sk_ref i).2 j))))) else _) = (if kd = 1 then _ else if 4 ≤ kd then Sum.inr (Sum.inr (Sum.inr (Sum.inr (fun j => sk_ro bb (sc_r sc_F (sk_ref i).1 (sk_ref i).2 j))))) else _)
    rcases h with h | ⟨⟨h1, h2⟩, h3⟩
    · have h4 : ¬ 4 ≤ kd := by
        have h5 : kd + 1 ≤ 4 := Nat.le_of_ble_eq_true h
        omega
      rw [if_neg h4, if_neg h4]
      rfl
    · have e : sk_dr (sk_ref i).1 (sk_ref i).2 = sc_r sc_F (sk_ref i).1 (sk_ref i).2 := by
        funext f
        by_cases hf : f < n
        · have := List.all_eq_true.mp h1 f (List.mem_range.mpr hf)
          exact (of_decide_eq_true this).symm
        · rw [sc_rb h2 f (by show n ≤ f; omega)]
          exact sk_dr_bd h3 _ f (by show n ≤ f; omega)
      rw [e]
      rfl
theorem sc_RH0 {bb : Nat × Nat} {D : va_G} {kc : Nat → ClassId} {s0 : State} {H : Heap} (hR : sk_RH bb D kc (sk_mW 171 sc_F) s0 H) : sk_RH bb D kc (sk_mm sc_d0) s0 H := by
  refine ⟨hR.1, fun q => absurd q (Nat.lt_irrefl _), Nat.le_refl _, ?_⟩
  have e : sk_ws kc bb (sk_mm sc_d0) = sk_ws kc bb (sk_mW 171 sc_F) := by
    unfold sk_ws
    exact List.map_congr_left (fun i hi => congrArg (Prod.mk (bb.1 + i)) (sc_ce i (List.mem_range.mp hi)))
  rw [e]
  exact hR.2.2.2
theorem sk_R_0 : sk_R sc_d0 := by
  have h37 : ∀ k, k < 20 → sc_d0.1 37 k 0 = 0 ∧ sc_d0.1 45 0 k = 0 := by decide +kernel
  have h5 : ∀ f, f < 8 → sc_d0.1 5 0 f = 0 ∧ sc_d0.1 52 0 f = 0 := by decide +kernel
  have h39 : ∀ g, g < 4 → sc_d0.1 39 g 0 = 0 ∧ sc_d0.1 53 0 g = 0 ∧ sc_d0.1 71 0 g = 0 ∧ sc_d0.1 39 g 9 = 0 ∧ sc_d0.1 72 0 g = 0 ∧ sc_d0.1 39 g 10 = 0 := by decide +kernel
  have h42 : ∀ i, i < 8 → sc_d0.1 42 i 0 = 0 ∧ sc_d0.1 62 0 i = 0 := by decide +kernel
  have h43 : ∀ l, l < 3 → sc_d0.1 73 0 l = sc_d0.1 43 l 3 ∧ sc_d0.1 74 0 l = sc_d0.1 43 l 4 := by decide +kernel
  have ne : ¬ (0 : Int32) = 1 := by decide
  refine ⟨⟨fun k hk => ?_, fun k hk h => ?_⟩, fun f hf => ?_, ⟨fun g hg => ?_, fun g hg => ?_, fun g h hg _ _ h1 => ?_⟩, ⟨fun i hi => ?_, fun i hi h => ?_⟩, ⟨by decide +kernel, ⟨0, by omega, by decide +kernel, fun l hl => absurd hl (Nat.not_lt_zero l)⟩, h43⟩, ⟨by decide +kernel, by decide +kernel, by decide +kernel, by decide +kernel, 4, by omega, by decide +kernel⟩, ⟨0, by omega, by decide +kernel, by decide +kernel, fun j hj => absurd hj (Nat.not_lt_zero j)⟩⟩
  · obtain ⟨h1, h2⟩ := h37 k hk
    rw [h1, h2]
    exact ⟨.inl rfl, rfl, fun h => absurd h ne⟩
  · rw [(h37 k hk).1] at h
    exact absurd h ne
  · obtain ⟨h1, h2⟩ := h5 f hf
    rw [h1, h2]
    exact ⟨.inl rfl, rfl⟩
  · obtain ⟨h1, h2, h3, h4, h5, h6⟩ := h39 g hg
    rw [h1, h2, h3, h4, h5, h6]
    exact ⟨.inl rfl, rfl, rfl, rfl, fun h => absurd h ne⟩
  · obtain ⟨h1, h2, h3, h4, h5, h6⟩ := h39 g hg
    rw [h1, h4, h6]
    exact ⟨fun _ => ⟨rfl, rfl⟩, fun h => absurd h ne⟩
  · rw [(h39 g hg).1] at h1
    exact absurd h1 ne
  · obtain ⟨h1, h2⟩ := h42 i hi
    rw [h1, h2]
    exact ⟨.inl rfl, rfl, fun h => absurd h ne⟩
  · rw [(h42 i hi).1] at h
    exact absurd h ne
