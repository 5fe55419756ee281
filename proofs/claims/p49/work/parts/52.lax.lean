/-! THE LAW, pure: its rows, its cells *** by hand -/
/-- row k has n numbers, f -/
def AX (x : sk_X) (k n : Nat) (f : Nat → Int32) : Prop := k < x.1 ∧ x.2.1 k = n ∧ ∀ j, j < n → x.2.2 k j = f j
theorem AX.b {x : sk_X} {k n : Nat} {f : Nat → Int32} (h : AX x k n f) {j : Nat} (hj : j < n) (hn : n ≤ 2 ^ 31) : xb x k (nI j) = true := by
  unfold xb
  rw [decide_eq_true h.1, h.2.1, bi_nI hj hn]
  rfl
theorem AX.l {x : sk_X} {k n : Nat} {f : Nat → Int32} (h : AX x k n f) {j : Nat} (hj : j < n) (hn : n ≤ 2 ^ 31) : x.2.2 k (nI j).toNatClampNeg = f j := by
  rw [nI_clamp (by omega)]
  exact h.2.2 j hj
theorem AX.w {x : sk_X} {k n : Nat} {f : Nat → Int32} (h : AX x k n f) (j : Nat) (v : Int32) : AX (xw x k j v) k n (fun i => if i = j then v else f i) := by
  refine ⟨h.1, h.2.1, fun i hi => ?_⟩
  show (if k = k ∧ i = j then v else x.2.2 k i) = if i = j then v else f i
  rw [h.2.2 i hi]
  by_cases e : i = j
  · rw [if_pos ⟨rfl, e⟩, if_pos e]
  · rw [if_neg (fun q => e q.2), if_neg e]
theorem AX.o {x : sk_X} {k k' n : Nat} {f : Nat → Int32} (h : AX x k n f) (hk : k ≠ k') (j : Nat) (v : Int32) : AX (xw x k' j v) k n f := by
  refine ⟨h.1, h.2.1, fun i hi => ?_⟩
  show (if k = k' ∧ i = j then v else x.2.2 k i) = f i
  rw [if_neg (fun q => hk q.1)]
  exact h.2.2 i hi
theorem AX.n {x : sk_X} {k n : Nat} {f : Nat → Int32} (h : AX x k n f) (n' : Nat) : AX (xn x n') k n f := by
  have hk : ¬ k = x.1 := Nat.ne_of_lt h.1
  refine ⟨Nat.lt_succ_of_lt h.1, ?_, fun i hi => ?_⟩
  · show (if k = x.1 then n' else x.2.1 k) = n
    rw [if_neg hk]
    exact h.2.1
  · show (if k = x.1 then 0 else x.2.2 k i) = f i
    rw [if_neg hk]
    exact h.2.2 i hi
theorem AX.new (x : sk_X) (n : Nat) : AX (xn x n) x.1 n (fun _ => 0) := by
  refine ⟨Nat.lt_succ_self _, ?_, fun i _ => ?_⟩
  · show (if x.1 = x.1 then n else x.2.1 x.1) = n
    rw [if_pos rfl]
  · show (if x.1 = x.1 then 0 else x.2.2 x.1 i) = 0
    rw [if_pos rfl]
theorem AX.cg {x : sk_X} {k n : Nat} {f g : Nat → Int32} (h : AX x k n f) (e : ∀ j, j < n → f j = g j) : AX x k n g := ⟨h.1, h.2.1, fun j hj => (h.2.2 j hj).trans (e j hj)⟩
theorem AX.fr {x x' : sk_X} {k n : Nat} {f : Nat → Int32} (h : AX x k n f) (h1 : k < x'.1) (h2 : x'.2.1 k = x.2.1 k) (h3 : x'.2.2 k = x.2.2 k) : AX x' k n f := ⟨h1, h2.trans h.2.1, fun j hj => by rw [h3]; exact h.2.2 j hj⟩
/-- a cell of the script, or what stands for it -/
def cv (L : Nat) (xs : Nat → Int32) (k : Nat) : Int32 := if k < L then xs k else (506832829 : Int32) * (nI k + 1) + (739982445 : Int32)
theorem cell_q {L : Nat} (hL : L ≤ 260) (xs : Nat → Int32) {k : Nat} (hk : k < 1000) : q_L_cell L xs (nI k) = some (cv L xs k) := by
  unfold q_L_cell q_L_cell_0 cv
  by_cases h : k < L
  · rw [if_neg (nI_ge h (by omega)), if_pos (bi_nI h (by omega)), if_pos h, nI_clamp (by omega)]
  · rw [if_pos (nI_le (by omega) (by omega)), if_neg h]
def lw (v : Int32) (n : Nat) : Nat := v.toBitVec.toNat % 2 ^ 31 % n
theorem lw_lt (v : Int32) {n : Nat} (hn : 0 < n) : lw v n < n := Nat.mod_lt _ hn
theorem low_q (v : Int32) {n : Nat} (hn : 0 < n) (hn2 : n < 2 ^ 31) : q_L_low v (nI n) = some (nI (lw v n)) := by
  have hp : v.toBitVec.toNat % 2 ^ 31 < 2 ^ 31 := Nat.mod_lt _ (by decide)
  unfold q_L_low q_L_low_0
  rw [if_pos (nI_ne0 hn hn2), pk_and v 31 (by decide), pk_rem hp hn hn2]
  rfl
/-- a counted loop that leaves one thing behind, for all that may follow it -/
theorem it_cn2 {ι α β : Type} {F : ι → (α → Option β) → α → Option β} (P : Nat → α → Prop) (N : Nat) (K : ι → α → Option β)
    (hs : ∀ j a, j < N → P j a → ∃ b, P (j + 1) b ∧ ∀ i rec, F i rec a = rec b) (he : ∀ a, P N a → ∀ i rec, F i rec a = K i a) (hN : N < 20000) (a : α) (h0 : P 0 a) : ∃ b, P N b ∧ ∀ i, sk_it (F i) sk_fu a = K i b :=
  it_cn (F := F) K P (P N) N hs (fun a ha => ⟨a, ha, he a ha⟩) hN a h0
