/-! addPupil, setTogether, grade *** by hand -/
theorem wi_o {d : sk_D} {s k f s' k' f' : Nat} {v : Int32} (h : ¬ (s' = s ∧ k' = k ∧ f' = f)) : (sk_wi d s k f v).1 s' k' f' = d.1 s' k' f' := if_neg h
theorem wi_e {d : sk_D} {s k f : Nat} {v : Int32} : (sk_wi d s k f v).1 s k f = v := if_pos ⟨rfl, rfl, rfl⟩
theorem wf_o {d : sk_D} {s k s' k' f' : Nat} {g : Nat → Int32} (h : ¬ (s' = s ∧ k' = k)) : (sk_wf d s k g).1 s' k' f' = d.1 s' k' f' := congrFun (if_neg h) f'
theorem wf_e {d : sk_D} {s k f : Nat} {g : Nat → Int32} : (sk_wf d s k g).1 s k f = g f := congrFun (if_pos ⟨rfl, rfl⟩) f
theorem fi_o {d : sk_D} {s k n s' k' f' : Nat} {v : Int32} (h : ¬ (s' = s ∧ k' = k)) : (sk_fi d s k n v).1 s' k' f' = d.1 s' k' f' := wf_o h
theorem fi_e {d : sk_D} {s k n f : Nat} {v : Int32} (h : f < n) : (sk_fi d s k n v).1 s k f = v := wf_e.trans (if_pos h)
theorem wi_same (d : sk_D) (s k f : Nat) : sk_wi d s k f (d.1 s k f) = d := by
  refine Prod.ext ?_ rfl
  funext s' k' f'
  show (if s' = s ∧ k' = k ∧ f' = f then d.1 s k f else d.1 s' k' f') = d.1 s' k' f'
  split
  · rename_i h
    rw [h.1, h.2.1, h.2.2]
  · rfl
theorem sk_F8.fi {a b : sk_D} (h : sk_F8 a b) (s k n : Nat) (v : Int32) (hs : s < 44) : sk_F8 a (sk_fi b s k n v) := h.wf s k _ hs
/-- the scores of pupil k removed, the first n of them -/
def sc9 (e : sk_D) (k : Nat) : Nat → sk_D
  | 0 => e
  | n + 1 => sk_wi (sc9 e k n) 50 0 (4 * k + n) (-9)
theorem sc9_o (e : sk_D) (k : Nat) : ∀ (n s f : Nat), ¬ (s = 50 ∧ 4 * k ≤ f ∧ f < 4 * k + n) → (sc9 e k n).1 s 0 f = e.1 s 0 f
  | 0, _, _, _ => rfl
  | n + 1, s, f, h => by
    show (sk_wi (sc9 e k n) 50 0 (4 * k + n) (-9)).1 s 0 f = _
    rw [wi_o (by omega), sc9_o e k n s f (by omega)]
theorem sc9_e (e : sk_D) (k : Nat) : ∀ (n j : Nat), j < n → (sc9 e k n).1 50 0 (4 * k + j) = -9
  | 0, _, h => absurd h (Nat.not_lt_zero _)
  | n + 1, j, h => by
    show (sk_wi (sc9 e k n) 50 0 (4 * k + n) (-9)).1 50 0 (4 * k + j) = _
    by_cases e1 : j = n
    · subst e1
      exact wi_e
    · rw [wi_o (by omega), sc9_e e k n j (by omega)]
theorem sc9_F (e : sk_D) (k : Nat) : ∀ n, sk_F9 e (sc9 e k n)
  | 0 => sk_F9.rf e
  | n + 1 => (sc9_F e k n).wi _ _ _ _ (by omega)
theorem c8_free {d e : sk_D} (h : rP d e) : (∃ j, j < 20 ∧ pb d j = false ∧ (∀ i, i < j → pb d i = true) ∧ q_X8_freePupilNumber d = some (nI j)) ∨ ((∀ i, i < 20 → pb d i = true) ∧ q_X8_freePupilNumber d = some (-9)) := by
  have step : ∀ j, j < 20 → pb d j = true → ∀ rec : Int32 → Option Int32, q_X8_freePupilNumber_2 rec d (nI j) = rec (nI (j + 1)) := by
    intro j hj hp rec
    have ej := nI_clamp (n := j) (by omega)
    have bj : sk_bi (nI j) 20 = true := bi_nI (by omega) (by omega)
    have lj : ¬ (20 : Int32) ≤ nI j := le_nI (n := 20) rfl hj (by omega)
    simp only [q_X8_freePupilNumber_2, lj, bj, ej, (h.p1 hj hp).1, i10, s1_nI, ↓reduceIte]
  rcases fst_or (fun i => !pb d i) 20 with ⟨j, hj, h2, h3⟩ | hn
  · left
    have h2' : pb d j = false := by rw [← Bool.not_eq_true']; exact h2
    have h3' : ∀ i, i < j → pb d i = true := fun i hi => by rw [← Bool.not_eq_false']; exact h3 i hi
    refine ⟨j, hj, h2', h3', ?_⟩
    refine it_for0 (F := fun rec2 a => q_X8_freePupilNumber_2 rec2 d a) (fun i => nI i) j (fun i hi rec => step i (by omega) (h3' i hi) rec) (fun rec => ?_) (by omega)
    show q_X8_freePupilNumber_2 rec d (nI j) = some (nI j)
    have ej := nI_clamp (n := j) (by omega)
    have bj : sk_bi (nI j) 20 = true := bi_nI (by omega) (by omega)
    have lj : ¬ (20 : Int32) ≤ nI j := le_nI (n := 20) rfl hj (by omega)
    simp only [q_X8_freePupilNumber_2, lj, bj, ej, (h.p0 hj h2').1, ↓reduceIte]
  · right
    have hn' : ∀ i, i < 20 → pb d i = true := fun i hi => by rw [← Bool.not_eq_false']; exact hn i hi
    refine ⟨hn', ?_⟩
    refine it_for0 (F := fun rec2 a => q_X8_freePupilNumber_2 rec2 d a) (fun i => nI i) 20 (fun i hi rec => step i (by omega) (hn' i hi) rec) (fun rec => ?_) (by omega)
    show q_X8_freePupilNumber_2 rec d (nI 20) = some (-9)
    have l : (20 : Int32) ≤ nI 20 := ge_nI (n := 20) rfl (by omega) (by omega)
    simp only [q_X8_freePupilNumber_2, l, ↓reduceIte]
theorem wi_m9 (lo hi : Int32) (L H : Nat) (hl : lo = nI L) (hh : hi = nI H) (hH : L < 2 ^ 31 ∧ H < 2 ^ 31) (d : sk_D) : q_X8_within d (-9) lo hi = some 0 := by
  rcases wi_cases (-9) lo hi L H hl hh hH with ⟨h, _⟩ | ⟨k, _, _, h, _⟩
  · exact h d
  · exact absurd h.symm (nm_nI (by omega))
def en8 (d : sk_D) (j : Nat) (v1 v2 v3 : Int32) : sk_D := sk_fi (sk_wi (sk_wi (sk_wi (sk_wi (sk_wi (sk_wi d 37 j 0 (1 : Int32)) 37 j 1 v1) 37 j 2 v2) 37 j 3 v3) 37 j 4 (-9 : Int32)) 37 j 5 (-9 : Int32)) 38 j 4 (-9)
def en9 (e : sk_D) (j : Nat) (v1 v2 v3 : Int32) : sk_D := sk_wi (sk_wi (sk_wi (sk_wi (sk_wi (sk_wi e 45 0 j (1 : Int32)) 46 0 j v1) 47 0 j v2) 48 0 j v3) 49 0 j (-9 : Int32)) 51 0 j (-9 : Int32)
theorem en_R {d e : sk_D} (hR : sk_R2 d e) (j v1 v2 : Nat) (h1 : v1 < 8) (h2 : v2 < 64) (v3 : Int32) (h3 : v3 = -9 ∨ ∃ f, f < 8 ∧ v3 = nI f) : sk_R2 (en8 d j (nI v1) (nI v2) v3) (sc9 (en9 e j (nI v1) (nI v2) v3) j 4) := by
  have o9 (s f : Nat) (h : ¬ (s = 50)) : (sc9 (en9 e j (nI v1) (nI v2) v3) j 4).1 s 0 f = (en9 e j (nI v1) (nI v2) v3).1 s 0 f := sc9_o _ _ _ _ _ (by omega)
  refine R2_pup hR j (fun s k' f hs n1 n2 => ?_) (fun s f hs n1 n2 => ?_) (fun _ => ?_) (fun _ hp => ?_)
  · unfold en8
    rw [fi_o (by omega), wi_o (by omega), wi_o (by omega), wi_o (by omega), wi_o (by omega), wi_o (by omega), wi_o (by omega)]
  · rw [sc9_o _ _ _ _ _ (by omega)]
    unfold en9
    rw [wi_o (by omega), wi_o (by omega), wi_o (by omega), wi_o (by omega), wi_o (by omega), wi_o (by omega)]
  · refine ⟨.inr (by simp [en8, sk_fi, sk_wf, sk_wi, sk_up]), ?_, fun _ => ⟨?_, ?_, ?_, ?_, ?_, fun i hi => ?_⟩⟩
    · rw [o9 _ _ (by omega)]
      simp [en8, en9, sk_fi, sk_wf, sk_wi, sk_up]
    · rw [o9 _ _ (by omega)]
      simp [en8, en9, sk_fi, sk_wf, sk_wi, sk_up]
    · rw [o9 _ _ (by omega)]
      simp [en8, en9, sk_fi, sk_wf, sk_wi, sk_up]
    · rw [o9 _ _ (by omega)]
      simp [en8, en9, sk_fi, sk_wf, sk_wi, sk_up]
    · rw [o9 _ _ (by omega)]
      simp [en8, en9, sk_fi, sk_wf, sk_wi, sk_up]
    · rw [o9 _ _ (by omega)]
      simp [en8, en9, sk_fi, sk_wf, sk_wi, sk_up]
    · rw [sc9_e _ _ _ _ hi]
      unfold en8
      rw [fi_e hi]
  · have q1 : (en8 d j (nI v1) (nI v2) v3).1 37 j 1 = nI v1 := by simp [en8, sk_fi, sk_wf, sk_wi, sk_up]
    have q2 : (en8 d j (nI v1) (nI v2) v3).1 37 j 2 = nI v2 := by simp [en8, sk_fi, sk_wf, sk_wi, sk_up]
    have q3 : (en8 d j (nI v1) (nI v2) v3).1 37 j 3 = v3 := by simp [en8, sk_fi, sk_wf, sk_wi, sk_up]
    have q4 : (en8 d j (nI v1) (nI v2) v3).1 37 j 4 = -9 := by simp [en8, sk_fi, sk_wf, sk_wi, sk_up]
    rw [q1, q2, q3, q4]
    refine ⟨⟨v1, h1, rfl⟩, ⟨v2, h2, rfl⟩, h3, .inl rfl, fun i hi => .inl ?_⟩
    unfold en8
    rw [fi_e hi]
