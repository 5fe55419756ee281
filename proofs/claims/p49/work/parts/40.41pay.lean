/-! ACTIVE GROUPS; pay *** by hand -/
def acb (d : sk_D) (g : Nat) : Bool := ob d g && decide (0 < kn (gb d (nI g)) 20)
theorem kn20 (p : Nat → Bool) : kn p 20 < 2 ^ 31 := by have := kn_le p 20; omega
theorem le0_nI {n : Nat} (h : n < 2 ^ 31) : (nI n ≤ (0 : Int32)) ↔ n = 0 := by
  rw [show (0 : Int32) = nI 0 from rfl, nI_leI h (by omega)]
  omega
theorem ac8 {d e : sk_D} (hR : sk_R2 d e) {g : Nat} (hg : g < 4) : q_X8_isActive d (nI g) = some (bI (acb d g)) := by
  have hh := hR.2.2.1.1
  unfold acb
  cases ho : ob d g with
  | false =>
    have h8 : q_X8_hasGroup d (nI g) = some 0 := by
      rcases hG hh (nI g) with ⟨h, _⟩ | ⟨k, hk, ek, h1, h8, h9⟩
      · exact h
      · rw [nI_eq (by omega) (by omega)] at ek
        subst ek
        rw [(hh.o0 hg ho).1] at h1
        exact absurd h1 (by decide)
    simp only [q_X8_isActive, q_X8_isActive_0, h8, Option.bind_some, Bool.false_and, bI_f, ↓reduceIte]
  | true =>
    have h8 := (hh.o hg (hh.o1 hg ho).1).1
    simp only [q_X8_isActive, q_X8_isActive_0, h8, c8_countIn hR.1.1, i10, Option.bind_some, Bool.true_and, kc_kn, le0_nI (kn20 _), ↓reduceIte]
    by_cases c : kn (gb d (nI g)) 20 = 0
    · rw [if_pos c, decide_eq_false (by omega)]
      rfl
    · rw [if_neg c, decide_eq_true (by omega)]
      rfl
theorem acb_o {d e : sk_D} (hh : rG d e) {g : Nat} (hg : g < 4) (h : acb d g = true) : d.1 39 g 0 = 1 := by
  unfold acb at h
  rw [Bool.and_eq_true] at h
  exact (hh.o1 hg h.1).1
/-- a paid group: its instructor -/
def pdb (d : sk_D) (g : Nat) : Bool := acb d g && decide (¬ d.1 39 g 4 = -9)
theorem pdb_i {d e : sk_D} (hR : sk_R2 d e) {g : Nat} (hg : g < 4) (h : pdb d g = true) : d.1 39 g 0 = 1 ∧ ∃ i, i < 8 ∧ d.1 39 g 4 = nI i ∧ d.1 42 i 0 = 1 := by
  unfold pdb at h
  rw [Bool.and_eq_true, decide_eq_true_eq] at h
  have ho := acb_o hR.2.2.1.1 hg h.1
  refine ⟨ho, ?_⟩
  rcases ((hR.2.2.1.2.1 g hg).2 ho).2.2.2.1 with q | q
  · exact absurd q h.2
  · exact q
theorem pd8 {d e : sk_D} (hR : sk_R2 d e) {g : Nat} (hg : g < 4) : q_X8_isPaid d (nI g) = some (bI (pdb d g)) := by
  have eg := nI_clamp (n := g) (by omega)
  have bg : sk_bi (nI g) 4 = true := bi_nI (by omega) (by omega)
  cases ha : acb d g with
  | false =>
    have : pdb d g = false := by unfold pdb; rw [ha]; rfl
    simp only [q_X8_isPaid, q_X8_isPaid_0, ac8 hR hg, ha, this, bI_f, Option.bind_some, ↓reduceIte]
  | true =>
    have ho := acb_o hR.2.2.1.1 hg ha
    rcases ((hR.2.2.1.2.1 g hg).2 ho).2.2.2.1 with q | ⟨i, hi, ei, oi⟩
    · have : pdb d g = false := by unfold pdb; rw [ha, q]; rfl
      simp only [q_X8_isPaid, q_X8_isPaid_0, ac8 hR hg, ha, this, bI_t, bI_f, i10, bg, eg, q, hR.2.2.2.1.1.n.1, Option.bind_some, ↓reduceIte]
    · have : pdb d g = true := by
        unfold pdb
        rw [ha, ei, decide_eq_true (nm_nI (by omega))]
        rfl
      simp only [q_X8_isPaid, q_X8_isPaid_0, ac8 hR hg, ha, this, bI_t, i10, bg, eg, ei, (hR.2.2.2.1.1.o hi oi).1, Option.bind_some, ↓reduceIte]
/-- whether the earnings would be too great -/
def fub (d : sk_D) (h g : Nat) : Bool := decide ((2147483647 : Int) < (d.1 42 (d.1 39 g 4).toNatClampNeg 5).toInt + (d.1 42 (d.1 39 g 4).toNatClampNeg 4).toInt * h)
theorem room8 {d : sk_D} {i w q h : Nat} (hw : w ≤ 999999) (hh : h ≤ 100) (ew : d.1 42 i 4 = nI w) (hq : q < 2 ^ 31) (eq : d.1 42 i 5 = nI q) : q_X1_hasRoomFor d i (nI h) = some (bI (!decide ((2147483647 : Int) < (d.1 42 i 5).toInt + (d.1 42 i 4).toInt * h))) := by
  have hwh : w * h ≤ 999999 * 100 := Nat.mul_le_mul hw hh
  have e1 : (2147483647 : Int64) = lN 2147483647 := rfl
  have c : (0 < lg_cmp ((d.1 42 i 5).toInt64 + (d.1 42 i 4).toInt64 * (nI h).toInt64) (2147483647 : Int64)) ↔ 2147483647 < q + w * h := by
    rw [lg_cmp_gt, ew, eq, nI_l hq, nI_l (by omega), nI_l (by omega), lN_mul, lN_add, e1, pk_lLT (by omega) (by omega)]
  have c2 : ((2147483647 : Int) < (d.1 42 i 5).toInt + (d.1 42 i 4).toInt * h) ↔ 2147483647 < q + w * h := by
    rw [ew, eq, nI_toInt hq, nI_toInt (by omega)]
    have : (w : Int) * (h : Int) = ((w * h : Nat) : Int) := by rw [Int.natCast_mul]
    rw [this]
    omega
  simp only [q_X1_hasRoomFor, q_X1_hasRoomFor_0]
  by_cases k : 2147483647 < q + w * h
  · rw [if_pos (c.mpr k), decide_eq_true (c2.mpr k)]
    rfl
  · rw [if_neg (fun z => k (c.mp z)), decide_eq_false (fun z => k (c2.mp z))]
    rfl
theorem room9 {d : sk_D} {i w q h : Nat} (hw : w ≤ 999999) (hh : h ≤ 100) (ew : d.1 42 i 4 = nI w) (hq : q < 2 ^ 31) (eq : d.1 42 i 5 = nI q) : (d.1 42 i 5 ≤ (2147483647 : Int32) - nI h * nI w) ↔ ¬ ((2147483647 : Int) < (d.1 42 i 5).toInt + (d.1 42 i 4).toInt * h) := by
  have hwh : w * h ≤ 999999 * 100 := Nat.mul_le_mul hw hh
  have e1 : (2147483647 : Int32) = nI 2147483647 := rfl
  rw [ew, eq, nI_toInt hq, nI_toInt (by omega), pk_mul, e1, pk_sub (by rw [Nat.mul_comm]; omega), nI_leI hq (by omega), Nat.mul_comm h w]
  have : (w : Int) * (h : Int) = ((w * h : Nat) : Int) := by rw [Int.natCast_mul]
  rw [this]
  omega
def fuf (d : sk_D) (h : Nat) : Nat → Bool
  | 0 => false
  | n + 1 => fuf d h n || (pdb d n && fub d h n)
/-- the sum; what is paid, group by group -/
def psm (d : sk_D) (h : Int32) : Nat → Int32
  | 0 => 0
  | n + 1 => if pdb d n = true then psm d h n + d.1 42 (d.1 39 n 4).toNatClampNeg 4 * h else psm d h n
def py8 (d : sk_D) (h : Int32) : Nat → sk_D
  | 0 => d
  | n + 1 => if pdb d n = true then sk_wi (py8 d h n) 42 (d.1 39 n 4).toNatClampNeg 5 ((py8 d h n).1 42 (d.1 39 n 4).toNatClampNeg 5 + d.1 42 (d.1 39 n 4).toNatClampNeg 4 * h) else py8 d h n
def py9 (d e : sk_D) (h : Int32) : Nat → sk_D
  | 0 => e
  | n + 1 => if pdb d n = true then sk_wi (py9 d e h n) 67 0 (d.1 39 n 4).toNatClampNeg ((py9 d e h n).1 67 0 (d.1 39 n 4).toNatClampNeg + h * d.1 42 (d.1 39 n 4).toNatClampNeg 4) else py9 d e h n
theorem py8_o (d : sk_D) (h : Int32) : ∀ (n s k f : Nat), ¬ (s = 42 ∧ f = 5) → (py8 d h n).1 s k f = d.1 s k f
  | 0, _, _, _, _ => rfl
  | n + 1, s, k, f, hh => by
    show (if pdb d n = true then sk_wi (py8 d h n) 42 _ 5 _ else py8 d h n).1 s k f = _
    split
    · rw [wi_o (by omega), py8_o d h n s k f hh]
    · exact py8_o d h n s k f hh
theorem py9_o (d e : sk_D) (h : Int32) : ∀ (n s k f : Nat), ¬ (s = 67) → (py9 d e h n).1 s k f = e.1 s k f
  | 0, _, _, _, _ => rfl
  | n + 1, s, k, f, hh => by
    show (if pdb d n = true then sk_wi (py9 d e h n) 67 0 _ _ else py9 d e h n).1 s k f = _
    split
    · rw [wi_o (by omega), py9_o d e h n s k f hh]
    · exact py9_o d e h n s k f hh
theorem py8_F (d : sk_D) (h : Int32) : ∀ n, sk_F8 d (py8 d h n)
  | 0 => sk_F8.rf d
  | n + 1 => by
    show sk_F8 d (if pdb d n = true then sk_wi (py8 d h n) 42 _ 5 _ else py8 d h n)
    split
    · exact (py8_F d h n).wi _ _ _ _ (by omega)
    · exact py8_F d h n
theorem py9_F (d e : sk_D) (h : Int32) : ∀ n, sk_F9 e (py9 d e h n)
  | 0 => sk_F9.rf e
  | n + 1 => by
    show sk_F9 e (if pdb d n = true then sk_wi (py9 d e h n) 67 0 _ _ else py9 d e h n)
    split
    · exact (py9_F d e h n).wi _ _ _ _ (by omega)
    · exact py9_F d e h n
/-- the earnings of an instructor whose group is still to come haven't changed -/
theorem py8_e {d e : sk_D} (hR : sk_R2 d e) (h : Int32) : ∀ (n i : Nat), n ≤ 4 → (∀ g, g < n → pdb d g = true → d.1 39 g 4 ≠ nI i) → i < 8 → (py8 d h n).1 42 i 5 = d.1 42 i 5
  | 0, _, _, _, _ => rfl
  | n + 1, i, hn, hh, hi => by
    show (if pdb d n = true then sk_wi (py8 d h n) 42 _ 5 _ else py8 d h n).1 42 i 5 = _
    by_cases hp : pdb d n = true
    · obtain ⟨_, j, hj, ej, _⟩ := pdb_i hR (g := n) (by omega) hp
      rw [if_pos hp, wi_o ?_, py8_e hR h n i (by omega) (fun g hg => hh g (by omega)) hi]
      rintro ⟨_, q, _⟩
      rw [ej, nI_clamp (by omega)] at q
      subst q
      exact hh n (by omega) hp ej
    · rw [if_neg hp]
      exact py8_e hR h n i (by omega) (fun g hg => hh g (by omega)) hi
theorem py_R {d e : sk_D} (hR : sk_R2 d e) {h : Nat} (hh1 : 1 ≤ h) (hh : h ≤ 100) (hf : ∀ g, g < 4 → pdb d g = true → fub d h g = false) : ∀ n, n ≤ 4 → sk_R2 (py8 d (nI h) n) (py9 d e (nI h) n)
  | 0, _ => hR
  | n + 1, hn => by
    have ih := py_R hR hh1 hh hf n (by omega)
    show sk_R2 (if pdb d n = true then sk_wi (py8 d (nI h) n) 42 _ 5 _ else py8 d (nI h) n) (if pdb d n = true then sk_wi (py9 d e (nI h) n) 67 0 _ _ else py9 d e (nI h) n)
    by_cases hp : pdb d n = true
    · rw [if_pos hp, if_pos hp]
      obtain ⟨ho, i, hi, ei, oi⟩ := pdb_i hR (g := n) (by omega) hp
      have ec : (d.1 39 n 4).toNatClampNeg = i := by rw [ei, nI_clamp (by omega)]
      rw [ec]
      obtain ⟨_, _, _, ⟨w, hw1, hw, ew⟩, hq⟩ := hR.2.2.2.1.2 i hi oi
      obtain ⟨q, hq31, eq⟩ := nI_of hq
      have same : (py8 d (nI h) n).1 42 i 5 = d.1 42 i 5 := by
        refine py8_e hR (nI h) n i (by omega) (fun g hg hpg q => ?_) hi
        obtain ⟨og, _⟩ := pdb_i hR (g := g) (by omega) hpg
        exact hR.2.2.1.2.2 g n (by omega) (by omega) (by omega) og ho (by rw [q]; exact nm_nI (by omega)) (q.trans ei.symm)
      have hfu := hf n (by omega) hp
      unfold fub at hfu
      rw [ec, decide_eq_false_iff_not, eq, ew, nI_toInt hq31, nI_toInt (by omega)] at hfu
      have hwh : w * h ≤ 999999 * 100 := Nat.mul_le_mul hw hh
      have hfu2 : q + w * h < 2 ^ 31 := by
        have : (w : Int) * (h : Int) = ((w * h : Nat) : Int) := by rw [Int.natCast_mul]
        rw [this] at hfu
        omega
      have o42 : (py8 d (nI h) n).1 42 i 0 = 1 := (py8_o d (nI h) n 42 i 0 (by omega)).trans oi
      have e67 := ((ih.2.2.2.1.1 i hi).2.2 o42).2.2.2.2
      have v8 : (py8 d (nI h) n).1 42 i 5 + d.1 42 i 4 * nI h = nI (q + w * h) := by rw [same, eq, ew, pk_mul, nI_add]
      have v9 : (py9 d e (nI h) n).1 67 0 i + nI h * d.1 42 i 4 = nI (q + w * h) := by rw [e67, same, eq, ew, pk_mul, nI_add, Nat.mul_comm h w]
      rw [v8, v9]
      obtain ⟨⟨hP, wP⟩, hF, ⟨hG, wG, wD⟩, ⟨hI, wI⟩, hL, hM, hT⟩ := ih
      have a (k f : Nat) (hf : f ≠ 5) : (sk_wi (py8 d (nI h) n) 42 i 5 (nI (q + w * h))).1 42 k f = (py8 d (nI h) n).1 42 k f := wi_o (by omega)
      refine ⟨⟨hP, wP⟩, hF, ⟨hG, fun g hg => ?_, wD⟩, ⟨fun j hj => ?_, fun j hj hoj => ?_⟩, hL, hM, hT⟩
      · obtain ⟨w1, w2⟩ := wG g hg
        refine ⟨w1, fun hog => ?_⟩
        obtain ⟨s1, s2, s3, s4, s5⟩ := w2 hog
        refine ⟨s1, s2, s3, ?_, s5⟩
        simp only [a _ 0 (by omega)]
        exact s4
      · obtain ⟨t1, t2, t3⟩ := hI j hj
        rw [a _ 0 (by omega), a _ 1 (by omega), a _ 2 (by omega), a _ 3 (by omega), a _ 4 (by omega), wi_o (s' := 62) (by omega), wi_o (s' := 63) (by omega), wi_o (s' := 64) (by omega), wi_o (s' := 65) (by omega), wi_o (s' := 66) (by omega)]
        refine ⟨t1, t2, fun hoj => ?_⟩
        obtain ⟨u1, u2, u3, u4, u5⟩ := t3 hoj
        refine ⟨u1, u2, u3, u4, ?_⟩
        by_cases ej : j = i
        · subst ej
          rw [wi_e, wi_e]
        · rw [wi_o (by omega), wi_o (by omega)]
          exact u5
      · rw [a _ 0 (by omega)] at hoj
        rw [a _ 1 (by omega), a _ 2 (by omega), a _ 3 (by omega), a _ 4 (by omega)]
        obtain ⟨s1, s2, s3, s4, s5⟩ := wI j hj hoj
        refine ⟨s1, s2, s3, s4, ?_⟩
        by_cases ej : j = i
        · subst ej
          rw [wi_e]
          exact nI_pos hfu2
        · rw [wi_o (by omega)]
          exact s5
    · rw [if_neg hp, if_neg hp]
      exact ih
