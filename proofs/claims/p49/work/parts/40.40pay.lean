/-! dismiss, canTeach, addLift, type, clearText, pay *** by hand -/
theorem chr_dec : ∀ c, c < 127 → vp_nar .char (((nI c).toUInt32 % 65536).toInt32) = nI c := by decide +kernel
/-- an instructor who can teach a group -/
def wib (a lo hi : Int32) : Bool := !decide (a < lo) && !decide (hi < a)
theorem wib8 (d : sk_D) (a lo hi : Int32) : q_X8_within d a lo hi = some (bI (wib a lo hi)) ∧ True := by
  unfold wib
  simp only [q_X8_within, q_X8_within_0]
  by_cases h1 : a < lo
  · rw [if_pos h1, decide_eq_true h1]
    exact ⟨rfl, trivial⟩
  · rw [if_neg h1, decide_eq_false h1]
    by_cases h2 : hi < a
    · rw [if_pos h2, decide_eq_true h2]
      exact ⟨rfl, trivial⟩
    · rw [if_neg h2, decide_eq_false h2]
      exact ⟨rfl, trivial⟩
def tcb (d : sk_D) (i g : Nat) : Bool := decide (((d.1 42 i 1) >>> ((d.1 39 g 2) &&& 31)) &&& (1 : Int32) = 1) && wib (d.1 39 g 1) (d.1 42 i 2) (d.1 42 i 3)
theorem tc8 (d : sk_D) (i g : Nat) : q_X1_teaches d i g = some (bI (tcb d i g)) := by
  unfold tcb
  simp only [q_X1_teaches, q_X1_teaches_0]
  by_cases h1 : ((d.1 42 i 1) >>> ((d.1 39 g 2) &&& 31)) &&& (1 : Int32) = 1
  · rw [if_pos h1, decide_eq_true h1, (wib8 d _ _ _).1, Bool.true_and]
    cases wib (d.1 39 g 1) (d.1 42 i 2) (d.1 42 i 3) <;> rfl
  · rw [if_neg h1, decide_eq_false h1]
    rfl
/-- an instructor's number freed -/
theorem R2_ins {d e d' e' : sk_D} (hR : sk_R2 d e) (hd : ∀ s k f, s < 44 → ¬ (s = 42 ∧ f = 0) → ¬ (s = 39 ∧ f = 4) → d'.1 s k f = d.1 s k f) (he : ∀ s f, 44 ≤ s → ¬ (s = 62) → ¬ (s = 57) → e'.1 s 0 f = e.1 s 0 f)
    (h1 : ∀ i, i < 8 → (d'.1 42 i 0 = 0 ∨ d'.1 42 i 0 = 1) ∧ e'.1 62 0 i = d'.1 42 i 0 ∧ (d'.1 42 i 0 = 1 → d.1 42 i 0 = 1))
    (h2 : ∀ g, g < 4 → d.1 39 g 0 = 1 → e'.1 57 0 g = d'.1 39 g 4 ∧ (d'.1 39 g 4 = -9 ∨ ∃ i, i < 8 ∧ d'.1 39 g 4 = nI i ∧ d'.1 42 i 0 = 1))
    (h3 : ∀ g h, g < 4 → h < 4 → g ≠ h → d.1 39 g 0 = 1 → d.1 39 h 0 = 1 → d'.1 39 g 4 ≠ -9 → d'.1 39 g 4 ≠ d'.1 39 h 4) : sk_R2 d' e' := by
  obtain ⟨⟨hP, wP⟩, hF, ⟨hG, wG, wD⟩, ⟨hI, wI⟩, hL, hM, hT⟩ := hR
  have a (s k f : Nat) (hs : s < 44 ∧ s ≠ 42 ∧ s ≠ 39) : d'.1 s k f = d.1 s k f := hd s k f (by omega) (by omega) (by omega)
  have a42 (k f : Nat) (hf : f ≠ 0) : d'.1 42 k f = d.1 42 k f := hd 42 k f (by omega) (by omega) (by omega)
  have a39 (k f : Nat) (hf : f ≠ 4) : d'.1 39 k f = d.1 39 k f := hd 39 k f (by omega) (by omega) (by omega)
  have b (s f : Nat) (hs : 44 ≤ s ∧ s ≠ 62 ∧ s ≠ 57) : e'.1 s 0 f = e.1 s 0 f := he s f (by omega) (by omega) (by omega)
  refine ⟨⟨?_, ?_⟩, ?_, ⟨fun g hg => ?_, fun g hg => ?_, fun g h hg hh n o1 o2 => ?_⟩, ⟨fun i hi => ?_, fun i hi ho => ?_⟩, ?_, ?_, ?_⟩
  · unfold rP at hP ⊢
    simp only [a 37 _ _ (by omega), a 38 _ _ (by omega), b 45 _ (by omega), b 46 _ (by omega), b 47 _ (by omega), b 48 _ (by omega), b 49 _ (by omega), b 50 _ (by omega), b 51 _ (by omega)]
    exact hP
  · unfold vP at wP ⊢
    simp only [a 37 _ _ (by omega), a 38 _ _ (by omega), a39 _ 0 (by omega)]
    exact wP
  · unfold rF at hF ⊢
    simp only [a 5 _ _ (by omega), b 52 _ (by omega)]
    exact hF
  · obtain ⟨q1, q2, q3, q4, q5⟩ := hG g hg
    simp only [a39 _ 0 (by omega), a39 _ 1 (by omega), a39 _ 2 (by omega), a39 _ 3 (by omega), a39 _ 5 (by omega), a39 _ 6 (by omega), a39 _ 9 (by omega), a39 _ 10 (by omega), a 40 _ _ (by omega), a 41 _ _ (by omega), b 53 _ (by omega), b 54 _ (by omega), b 55 _ (by omega), b 56 _ (by omega), b 58 _ (by omega), b 59 _ (by omega), b 60 _ (by omega), b 61 _ (by omega), b 71 _ (by omega), b 72 _ (by omega)]
    refine ⟨q1, q2, q3, q4, fun ho => ?_⟩
    obtain ⟨p1, p2, p3, p4, p5⟩ := q5 ho
    exact ⟨p1, p2, p3, (h2 g hg ho).1, p5⟩
  · obtain ⟨w1, w2⟩ := wG g hg
    simp only [a39 _ 0 (by omega), a39 _ 1 (by omega), a39 _ 2 (by omega), a39 _ 3 (by omega), a39 _ 5 (by omega), a39 _ 6 (by omega), a39 _ 9 (by omega), a39 _ 10 (by omega), a 40 _ _ (by omega), a 41 _ _ (by omega), a 0 _ _ (by omega)]
    refine ⟨w1, fun ho => ?_⟩
    obtain ⟨p1, p2, p3, p4, p5⟩ := w2 ho
    exact ⟨p1, p2, p3, (h2 g hg ho).2, p5⟩
  · rw [a39 _ 0 (by omega)] at o1 o2
    exact h3 g h hg hh n o1 o2
  · obtain ⟨q1, q2, q3⟩ := h1 i hi
    refine ⟨q1, q2, fun ho => ?_⟩
    rw [a42 _ 1 (by omega), a42 _ 2 (by omega), a42 _ 3 (by omega), a42 _ 4 (by omega), a42 _ 5 (by omega), b 63 _ (by omega), b 64 _ (by omega), b 65 _ (by omega), b 66 _ (by omega), b 67 _ (by omega)]
    exact (hI i hi).2.2 (q3 ho)
  · rw [a42 _ 1 (by omega), a42 _ 2 (by omega), a42 _ 3 (by omega), a42 _ 4 (by omega), a42 _ 5 (by omega)]
    exact wI i hi ((h1 i hi).2.2 ho)
  · unfold rL at hL ⊢
    simp only [a 43 _ _ (by omega), a 0 _ _ (by omega), b 44 _ (by omega), b 68 _ (by omega), b 69 _ (by omega), b 70 _ (by omega), b 73 _ (by omega), b 74 _ (by omega)]
    exact hL
  · unfold rM at hM ⊢
    simp only [a 0 _ _ (by omega), b 44 _ (by omega)]
    exact hM
  · unfold rT at hT ⊢
    simp only [a 35 _ _ (by omega), a 36 _ _ (by omega), b 44 _ (by omega), b 75 _ (by omega)]
    exact hT
