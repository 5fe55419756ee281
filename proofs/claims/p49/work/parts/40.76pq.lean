/-! THE PLANNER, pure: seats that nobody could take, groups that are not open *** by hand -/
theorem Rl_sea {h : Nat → Nat} {x : Nat → Nat → Bool} {o : Nat → Nat → Nat} {U : Nat} {cp : Nat → Nat} (g : Nat) : Rl h x x o o U 0 (sea h x U cp) cp g := by
  refine .inr ⟨fun _ => ⟨rfl, rfl⟩, ?_⟩
  unfold sea
  rcases Nat.le_total (cp g) (wt h x g U 0) with q | q
  · exact .inl (Nat.min_eq_left q)
  · rw [Nat.min_eq_right q]
    exact .inr ⟨Nat.le_refl _, q⟩
theorem pc_red {h : Nat → Nat} {x x' : Nat → Nat → Bool} {o o' : Nat → Nat → Nat} {U : Nat} {c c' : Nat → Nat} (hh : ∀ v, v < U → 1 ≤ h v) (hR : ∀ j, j < 4 → Rl h x x' o o' U 0 c c' j) : ∀ u, u ≤ U → ∀ j, j < 4 → Rl h x x' o o' (U - u) u (pc h x o U c u) (pc h x' o' U c' u) j
  | 0, _ => fun j hj => hR j hj
  | u + 1, hu => by
    have ih := pc_red hh hR u (by omega)
    obtain ⟨m, hm⟩ : ∃ m, U - u = m + 1 := ⟨U - u - 1, by omega⟩
    rw [hm] at ih
    have hu1 : 1 ≤ h u := hh u (by omega)
    have ef : fds h x o m u (pc h x o U c u) 4 = fds h x' o' m u (pc h x' o' U c' u) 4 := fds_red (fun v h1 h2 => hh v (by omega)) ih
    have eg : gv h x o U c u = gv h x' o' U c' u := by
      unfold gv
      rw [show U - u - 1 = m by omega, ef]
    intro j hj
    rw [show U - (u + 1) = m by omega, pc_s, pc_s, ← eg]
    rcases gv_ok (h := h) (x := x) (o := o) (U := U) (cap := c) (u := u) with g0 | ⟨g, hg4, g1, g2⟩
    · rw [if_pos g0, if_pos g0]
      exact (ih j hj).dn
    · rw [g1, if_neg (by omega), if_neg (by omega), Nat.add_sub_cancel]
      exact Rl.up ih hu1 g2 j hj
theorem gv_red {h : Nat → Nat} {x x' : Nat → Nat → Bool} {o o' : Nat → Nat → Nat} {U : Nat} {c c' : Nat → Nat} (hh : ∀ v, v < U → 1 ≤ h v) (hR : ∀ j, j < 4 → Rl h x x' o o' U 0 c c' j) {u : Nat} (hu : u < U) : gv h x o U c u = gv h x' o' U c' u := by
  have ih := pc_red hh hR u (by omega)
  obtain ⟨m, hm⟩ : ∃ m, U - u = m + 1 := ⟨U - u - 1, by omega⟩
  rw [hm] at ih
  have ef : fds h x o m u (pc h x o U c u) 4 = fds h x' o' m u (pc h x' o' U c' u) 4 := fds_red (fun v h1 h2 => hh v (by omega)) ih
  unfold gv
  rw [show U - u - 1 = m by omega, ef]
theorem plc_cg {P : Nat → Nat → Int32} {T : Nat → Int32} {su su' lv lv' : Nat → Nat → Bool} {p p' : Nat → Nat} (hc : ∀ g, g < 4 → (p g = 0 ∧ p' g = 0) ∨ (p g = p' g ∧ ∀ k, k < 20 → pp P k = true → su k g = su' k g ∧ lv k g = lv' k g)) : plc P T su lv p = plc P T su' lv' p' ∧ ∀ v, v < un P T 20 → plg P T su lv p v = plg P T su' lv' p' v := by
  have hh : ∀ v, v < un P T 20 → 1 ≤ hdn P T 20 v := fun v hv => hdn_pos hv
  have hR : ∀ j, j < 4 → Rl (hdn P T 20) (pxx P T su) (pxx P T su') (ocn P T lv 20) (ocn P T lv' 20) (un P T 20) 0 p p' j := fun j hj => by
    rcases hc j hj with h | ⟨h1, h2⟩
    · exact .inl h
    · refine .inr ⟨fun v => ⟨?_, ?_⟩, .inl h1⟩
      · have : mfn P T su 20 v j = mfn P T su' 20 v j := kn_congr (fun k hk => by
          cases hi : inu P T v k
          · rfl
          · rw [(h2 k hk (inu_iff.mp hi).1).1])
        unfold pxx
        rw [this]
      · exact kn_congr (fun k hk => by
          cases hi : inu P T v k
          · rfl
          · rw [(h2 k hk (inu_iff.mp hi).1).2])
  exact ⟨congrArg Prod.fst (bs_red _ _ _ _ (fun v _ h2 => hh v (by omega)) hR), fun v hv => gv_red hh hR hv⟩
/-! THE PLANNER: the class's best plan *** by hand -/
def FD (d d' : sk_D) : Prop := ∀ s k f, ¬ (6 ≤ s ∧ s ≤ 18) → d'.1 s k f = d.1 s k f
theorem fb8 {d e : sk_D} (hP : rP d e) (hV : vP d) (hG : rG d e) (hW : vG d) : ∃ d', (FD d d' ∧ (∀ k, k < 20 → d'.1 7 0 k = if pp (d.1 37) k = true then nI (uo (d.1 37) (d.1 5 0) k) else -9) ∧ ∀ v, v < un (d.1 37) (d.1 5 0) 20 → d'.1 11 0 v = nv (plg (d.1 37) (d.1 5 0) (su8 (d.1 37) (d.1 39)) (lv8d (d.1 37) (d.1 39)) (cpt (d.1 39)) v)) ∧ q_X3_findBest d = some (nI (plc (d.1 37) (d.1 5 0) (su8 (d.1 37) (d.1 39)) (lv8d (d.1 37) (d.1 39)) (cpt (d.1 39))), d') := by
  obtain ⟨d1, ⟨hF, h6, h7, _, h8⟩, h1⟩ := ga8 hP hV
  have hU : UC d1 (un (d.1 37) (d.1 5 0) 20) (hdn (d.1 37) (d.1 5 0) 20) (pxx (d.1 37) (d.1 5 0) (su8 (d.1 37) (d.1 39))) (ocn (d.1 37) (d.1 5 0) (lv8d (d.1 37) (d.1 39)) 20) := by
    refine ⟨un_le _ _ _, h6, fun u hu => ⟨(h8 u hu).1, hdn_pos hu, kn_le _ 20, fun g hg => ?_⟩, fun u g => ocn_le _ _ _ _ _ _, fun m u _ => sh_hdn _ _ _ _ _⟩
    rw [(h8 u hu).2 g hg]
    unfold vl8 pxx
    by_cases q : mfn (d.1 37) (d.1 5 0) (su8 (d.1 37) (d.1 39)) 20 u g = 0
    · rw [if_pos q, if_pos (decide_eq_true q)]
    · rw [if_neg q, if_neg (fun z => q (of_decide_eq_true z))]
  have h39 : d1.1 39 = d.1 39 := by
    funext k f
    exact hF 39 k f (by omega) (by omega) (by omega) (by omega) (by omega)
  obtain ⟨d2, ⟨hF2, h61, h13⟩, hcp, h2⟩ := ls8 hG hW h39 hU
  have hU2 := hU.mv (d' := d2) (hF2 6 0 0 (by omega) (by omega) (by omega)) (fun f => hF2 8 0 f (by omega) (by omega) (by omega)) (fun k f => hF2 10 k f (by omega) (by omega) (by omega))
  obtain ⟨d3, ⟨hF3, h11⟩, h3⟩ := fb15 hU2 (s := sea (hdn (d.1 37) (d.1 5 0) 20) (pxx (d.1 37) (d.1 5 0) (su8 (d.1 37) (d.1 39))) (un (d.1 37) (d.1 5 0) 20) (cpt (d.1 39))) (fun g hg => ⟨(h13 g hg).1, (h13 g hg).2, Nat.le_trans (Nat.min_le_left _ _) (hcp g hg)⟩) h61
  have hh : ∀ v, v < un (d.1 37) (d.1 5 0) 20 → 1 ≤ hdn (d.1 37) (d.1 5 0) 20 v := fun v hv => hdn_pos hv
  have hR : ∀ j, j < 4 → Rl (hdn (d.1 37) (d.1 5 0) 20) (pxx (d.1 37) (d.1 5 0) (su8 (d.1 37) (d.1 39))) (pxx (d.1 37) (d.1 5 0) (su8 (d.1 37) (d.1 39))) (ocn (d.1 37) (d.1 5 0) (lv8d (d.1 37) (d.1 39)) 20) (ocn (d.1 37) (d.1 5 0) (lv8d (d.1 37) (d.1 39)) 20) (un (d.1 37) (d.1 5 0) 20) 0 (sea (hdn (d.1 37) (d.1 5 0) 20) (pxx (d.1 37) (d.1 5 0) (su8 (d.1 37) (d.1 39))) (un (d.1 37) (d.1 5 0) 20) (cpt (d.1 39))) (cpt (d.1 39)) j := fun j _ => Rl_sea j
  have eb := bs_red _ _ _ _ (fun v _ h2 => hh v (by omega)) hR
  refine ⟨d3, ⟨fun s k f hs => (hF3 s k f (by omega) (by omega) (by omega) (by omega)).trans ((hF2 s k f (by omega) (by omega) (by omega)).trans (hF s k f (by omega) (by omega) (by omega) (by omega) (by omega))), fun k hk => ?_, fun v hv => ?_⟩, ?_⟩
  · rw [hF3 7 0 k (by omega) (by omega) (by omega) (by omega), hF2 7 0 k (by omega) (by omega) (by omega)]
    exact h7 k hk
  · rw [h11 v hv, gv_red hh hR hv]
    rfl
  · unfold q_X3_findBest q_X3_findBest_0
    rw [h1, Option.bind_some, h2, Option.bind_some, h3, eb]
    rfl
