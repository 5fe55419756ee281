/-! THE PLANNER: the reference's plan *** by hand -/
def pxx (P : Nat → Nat → Int32) (T : Nat → Int32) (su : Nat → Nat → Bool) (u g : Nat) : Bool := decide (mfn P T su 20 u g = 0)
/-- how many the best plan places -/
def plc (P : Nat → Nat → Int32) (T : Nat → Int32) (su lv : Nat → Nat → Bool) (p : Nat → Nat) : Nat := (bs (hdn P T 20) (pxx P T su) (ocn P T lv 20) (un P T 20) 0 p).1
/-- the group of a unit in it, and 1 -/
def plg (P : Nat → Nat → Int32) (T : Nat → Int32) (su lv : Nat → Nat → Bool) (p : Nat → Nat) (u : Nat) : Nat := gv (hdn P T 20) (pxx P T su) (ocn P T lv 20) (un P T 20) p u
def FP (e e' : sk_D) : Prop := ∀ s k f, ¬ (76 ≤ s ∧ s ≤ 79) → s ≠ 83 → ¬ (s = 44 ∧ f = 37) → e'.1 s k f = e.1 s k f
