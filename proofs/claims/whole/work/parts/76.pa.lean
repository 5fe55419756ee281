/-! THE PLANNER: the reference's plan *** by hand -/
def pxx (P : Nat → Nat → Int32) (T : Nat → Int32) (su : Nat → Nat → Bool) (u g : Nat) : Bool := decide (mfn P T su 20 u g = 0)
/-- how many the best plan places -/
def plc (P : Nat → Nat → Int32) (T : Nat → Int32) (su lv : Nat → Nat → Bool) (p : Nat → Nat) : Nat := (bs (hdn P T 20) (pxx P T su) (ocn P T lv 20) (un P T 20) 0 p).1
/-- the group of a unit in it, and 1 -/
def plg (P : Nat → Nat → Int32) (T : Nat → Int32) (su lv : Nat → Nat → Bool) (p : Nat → Nat) (u : Nat) : Nat := gv (hdn P T 20) (pxx P T su) (ocn P T lv 20) (un P T 20) p u
def FP (e e' : sk_D) : Prop := ∀ s k f, ¬ (76 ≤ s ∧ s ≤ 79) → s ≠ 83 → ¬ (s = 44 ∧ f = 37) → e'.1 s k f = e.1 s k f
theorem pl9 {d e : sk_D} (hP : rP d e) (hV : vP d) {T : Nat → Int32} {sp : Int32} (hT : ∀ f, f < 8 → ((e.1 52 0 f = 1 ∧ ¬ nI f = sp) ↔ ¬ T f = 0)) {su lv : Nat → Nat → Bool} (hs : ∀ k g, k < 20 → g < 4 → suf e k (e.1 80 0 g) (e.1 81 0 g) = su k g) (hl : ∀ k g, k < 20 → g < 4 → decide (¬ e.1 46 0 k = e.1 80 0 g) = lv k g) {p : Nat → Nat} (hp : ∀ g, g < 4 → e.1 82 0 g = nI (p g) ∧ p g ≤ 6) :
    ∃ e', q_X9_plan e sp = some (nI (plc (d.1 37) T su lv p), e') ∧ FP e e' ∧ (∀ k, k < 20 → pp (d.1 37) k = true → e'.1 77 0 k = nI (uo (d.1 37) T k)) ∧ ∀ v, v < un (d.1 37) T 20 → e'.1 83 0 v = nv (plg (d.1 37) T su lv p v) := by
  obtain ⟨e1, ⟨hF, h37, h77, h76⟩, h1⟩ := fun9 hP hV hT hs hl
  have hU : UD e1 (un (d.1 37) T 20) (hdn (d.1 37) T 20) (pxx (d.1 37) T su) (ocn (d.1 37) T lv 20) := by
    refine ⟨un_le _ _ _, h37, fun u hu => ⟨(h76 u hu).1, hdn_pos hu, kn_le _ 20, fun g hg => ?_⟩, fun u g => ocn_le _ _ _ _ _ _, fun m u _ => sh_hdn _ _ _ _ _⟩
    rw [(h76 u hu).2 g hg]
    unfold vl9 pxx
    by_cases q : mfn (d.1 37) T su 20 u g = 0
    · rw [if_pos q, if_pos (decide_eq_true q)]
    · rw [if_neg q, if_neg (fun z => q (of_decide_eq_true z))]
  obtain ⟨e2, h2, hO, h83⟩ := pln9 hU (p := p) (fun g hg => ⟨(hF 82 0 g (by omega) (by omega) (by omega) (by omega)).trans (hp g hg).1, (hp g hg).2⟩)
  refine ⟨e2, ?_, fun s k f a1 a2 a3 => (hO s k f (by omega) a2).trans (hF s k f (by omega) (by omega) (by omega) a3), fun k hk hpk => (hO 77 0 k (by omega) (by omega)).trans (h77 k hk hpk), h83⟩
  unfold q_X9_plan q_X9_plan_0
  rw [h1, Option.bind_some, h2]
  rfl
