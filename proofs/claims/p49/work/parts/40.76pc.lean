/-! THE PLANNER: the class's units, one pupil into a unit *** by hand -/
def vl8 (P : Nat → Nat → Int32) (T : Nat → Int32) (su lv : Nat → Nat → Bool) (n u g : Nat) : Int32 := if mfn P T su n u g = 0 then nI (ocn P T lv n u g) else -1
theorem nI_n1 {a : Nat} (ha : a < 2 ^ 31) : ¬ nI a = (-1 : Int32) := by
  intro z
  have := congrArg Int32.toInt z
  rw [nI_toInt ha] at this
  have h2 : (-1 : Int32).toInt = -1 := by decide
  omega
theorem mfn_s {P : Nat → Nat → Int32} {T : Nat → Int32} {su : Nat → Nat → Bool} {n u g : Nat} (hi : inu P T u n = true) : mfn P T su (n + 1) u g = if su n g = true then mfn P T su n u g else mfn P T su n u g + 1 := by
  show kn (fun k => inu P T u k && !su k g) (n + 1) = _
  rw [kn_sc, hi]
  cases su n g <;> rfl
theorem ocn_s {P : Nat → Nat → Int32} {T : Nat → Int32} {lv : Nat → Nat → Bool} {n u g : Nat} (hi : inu P T u n = true) : ocn P T lv (n + 1) u g = ocn P T lv n u g + (if lv n g = true then 1 else 0) := by
  show kn (fun k => inu P T u k && lv k g) (n + 1) = _
  rw [kn_sc, hi]
  cases lv n g <;> rfl
theorem vl8_s {P : Nat → Nat → Int32} {T : Nat → Int32} {su lv : Nat → Nat → Bool} {n u g : Nat} (hn : n < 20) (hi : inu P T u n = true) : vl8 P T su lv (n + 1) u g = if su n g = true then (if vl8 P T su lv n u g = -1 then -1 else vl8 P T su lv n u g + bI (lv n g)) else -1 := by
  have h20 : ocn P T lv n u g ≤ n := kn_le _ n
  unfold vl8
  rw [mfn_s hi, ocn_s hi]
  by_cases hs : su n g = true
  · rw [if_pos hs, if_pos hs]
    by_cases h0 : mfn P T su n u g = 0
    · rw [if_pos h0, if_pos h0, if_neg (nI_n1 (by omega))]
      cases lv n g
      · exact (Int32.add_zero _).symm
      · exact (nI_1 _).symm
    · rw [if_neg h0, if_neg h0, if_pos rfl]
  · rw [if_neg hs, if_neg hs, if_neg (by omega)]
theorem vl8_o {P : Nat → Nat → Int32} {T : Nat → Int32} {su lv : Nat → Nat → Bool} {n u g : Nat} (hi : inu P T u n = false) : vl8 P T su lv (n + 1) u g = vl8 P T su lv n u g := by
  have hm : mfn P T su (n + 1) u g = mfn P T su n u g := by
    show kn (fun k => inu P T u k && !su k g) (n + 1) = _
    rw [kn_sc, hi]
    rfl
  have ho : ocn P T lv (n + 1) u g = ocn P T lv n u g := by
    show kn (fun k => inu P T u k && lv k g) (n + 1) = _
    rw [kn_sc, hi]
    rfl
  unfold vl8
  rw [hm, ho]
theorem vl8_n {P : Nat → Nat → Int32} {T : Nat → Int32} {su lv : Nat → Nat → Bool} {n u g : Nat} (hu : un P T n ≤ u) : vl8 P T su lv n u g = 0 := by
  have h := inu_new (P := P) (T := T) (n := n) hu
  have hm : mfn P T su n u g = 0 := kn_none (fun k hk => by rw [h k hk]; rfl)
  have ho : ocn P T lv n u g = 0 := kn_none (fun k hk => by rw [h k hk]; rfl)
  unfold vl8
  rw [hm, ho]
  rfl
/-- open and suitable -/
def su8 (P G : Nat → Nat → Int32) (k g : Nat) : Bool := decide (¬ G g 0 = 0) && ftb (P k 1) (P k 2) (G g 1) (G g 2)
def lv8d (P G : Nat → Nat → Int32) (k g : Nat) : Bool := decide (¬ G g 1 = P k 1)
theorem isu8 {u : Nat} (hu : u < 20) (d : sk_D) : q_X3_isUnit d (nI u) = some 1 := by
  unfold q_X3_isUnit q_X3_isUnit_0
  rw [(wi_in u (a := nI u) (lo := 0) (hi := 19) 0 19 rfl rfl rfl (by omega) (by omega) (by omega)).1 d]
  rfl
theorem ah8 (r13 : (sk_D × Int32 × Nat × Int32) → Option sk_D) (d : sk_D) {u n g : Nat} (hu : u < 20) (hg : g < 4) : q_X3_addHead_21 r13 d (nI u) n (nI g) = r13 (sk_wi d 10 u g (if su8 (d.1 37) (d.1 39) n g = true then (if d.1 10 u g = -1 then -1 else d.1 10 u g + bI (lv8d (d.1 37) (d.1 39) n g)) else -1), nI u, n, nI (g + 1)) := by
  have bu : sk_bi (nI u) 20 = true := bi_nI (by omega) (by omega)
  have bg : sk_bi (nI g) 4 = true := bi_nI (by omega) (by omega)
  have eu := nI_clamp (n := u) (by omega)
  have eg := nI_clamp (n := g) (by omega)
  have l4 : ¬ (4 : Int32) ≤ nI g := le_nI (n := 4) rfl hg (by omega)
  have e40 : q_X3_addHead_48 r13 d (nI u) n (nI g) = r13 (sk_wi d 10 u g (-1), nI u, n, nI (g + 1)) := by
    unfold q_X3_addHead_48 q_X3_addHead_101
    rw [if_pos bu, if_pos bg, eu, eg, nI_1]
  unfold q_X3_addHead_21
  rw [if_neg l4, if_pos bg, eg]
  unfold su8
  by_cases h0 : d.1 39 g 0 = 0
  · rw [if_pos h0, e40, decide_eq_false (not_not_intro h0), Bool.false_and, if_neg (by decide)]
  · rw [if_neg h0, if_pos bg, suits8, Option.bind_some, iff_w, decide_eq_true h0, Bool.true_and]
    by_cases hs : ftb (d.1 37 n 1) (d.1 37 n 2) (d.1 39 g 1) (d.1 39 g 2) = true
    · rw [if_pos hs, if_pos hs, if_pos bu, if_pos bg, eu]
      unfold q_X3_addHead_101
      by_cases h1 : d.1 10 u g = -1
      · rw [if_pos h1, if_pos h1, ← h1, wi_same, nI_1]
      · rw [if_neg h1, if_neg h1, if_pos bg]
        unfold lv8d
        by_cases h2 : d.1 39 g 1 = d.1 37 n 1
        · rw [if_pos h2, decide_eq_false (not_not_intro h2), bI_f, Int32.add_zero, wi_same, nI_1]
        · rw [if_neg h2, if_pos bu, if_pos bg, if_pos bg, decide_eq_true h2, bI_t, nI_1]
    · rw [if_neg hs, if_neg hs, e40]
