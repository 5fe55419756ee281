/-! THE PLANNER: the reference's units, one pupil into a unit *** by hand -/
def vl9 (P : Nat → Nat → Int32) (T : Nat → Int32) (su lv : Nat → Nat → Bool) (n u g : Nat) : Int32 := if mfn P T su n u g = 0 then nI (ocn P T lv n u g) else -9
theorem nI_n9 {a : Nat} (ha : a < 2 ^ 31) : ¬ nI a = (-9 : Int32) := by
  intro z
  have := congrArg Int32.toInt z
  rw [nI_toInt ha] at this
  have h2 : (-9 : Int32).toInt = -9 := by decide
  omega
theorem vl9_s {P : Nat → Nat → Int32} {T : Nat → Int32} {su lv : Nat → Nat → Bool} {n u g : Nat} (hn : n < 20) (hi : inu P T u n = true) : vl9 P T su lv (n + 1) u g = if su n g = true then (if vl9 P T su lv n u g = -9 then -9 else vl9 P T su lv n u g + bI (lv n g)) else -9 := by
  have hm : mfn P T su (n + 1) u g = if su n g = true then mfn P T su n u g else mfn P T su n u g + 1 := by
    show kn (fun k => inu P T u k && !su k g) (n + 1) = _
    rw [kn_sc, hi]
    cases su n g <;> rfl
  have ho : ocn P T lv (n + 1) u g = ocn P T lv n u g + (if lv n g = true then 1 else 0) := by
    show kn (fun k => inu P T u k && lv k g) (n + 1) = _
    rw [kn_sc, hi]
    cases lv n g <;> rfl
  have h20 : ocn P T lv n u g ≤ n := kn_le _ n
  unfold vl9
  rw [hm, ho]
  by_cases hs : su n g = true
  · rw [if_pos hs, if_pos hs]
    by_cases h0 : mfn P T su n u g = 0
    · rw [if_pos h0, if_pos h0, if_neg (nI_n9 (by omega))]
      cases lv n g
      · exact (Int32.add_zero _).symm
      · exact (nI_1 _).symm
    · rw [if_neg h0, if_neg h0, if_pos rfl]
  · rw [if_neg hs, if_neg hs, if_neg (by omega)]
theorem vl9_o {P : Nat → Nat → Int32} {T : Nat → Int32} {su lv : Nat → Nat → Bool} {n u g : Nat} (hi : inu P T u n = false) : vl9 P T su lv (n + 1) u g = vl9 P T su lv n u g := by
  have hm : mfn P T su (n + 1) u g = mfn P T su n u g := by
    show kn (fun k => inu P T u k && !su k g) (n + 1) = _
    rw [kn_sc, hi]
    rfl
  have ho : ocn P T lv (n + 1) u g = ocn P T lv n u g := by
    show kn (fun k => inu P T u k && lv k g) (n + 1) = _
    rw [kn_sc, hi]
    rfl
  unfold vl9
  rw [hm, ho]
theorem vl9_n {P : Nat → Nat → Int32} {T : Nat → Int32} {su lv : Nat → Nat → Bool} {n u g : Nat} (hu : un P T n ≤ u) : vl9 P T su lv n u g = 0 := by
  have h := inu_new (P := P) (T := T) (n := n) hu
  have hm : mfn P T su n u g = 0 := kn_none (fun k hk => by rw [h k hk]; rfl)
  have ho : ocn P T lv n u g = 0 := kn_none (fun k hk => by rw [h k hk]; rfl)
  unfold vl9
  rw [hm, ho]
  rfl
