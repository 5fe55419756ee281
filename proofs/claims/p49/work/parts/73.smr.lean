/-! THE SIMULATION: the class's minutes *** by hand -/
def mbn (Q : List Nat) (x : Nat) : Nat → Bool
  | 0 => false
  | k + 1 => mbn Q x k || decide (gt Q k = x)
theorem mbn_iff {Q : List Nat} {x : Nat} : ∀ k, (mbn Q x k = true ↔ ∃ i, i < k ∧ gt Q i = x)
  | 0 => ⟨fun h => by (cases h), fun ⟨i, hi, _⟩ => absurd hi (Nat.not_lt_zero i)⟩
  | k + 1 => by
    show (mbn Q x k || decide (gt Q k = x)) = true ↔ _
    rw [Bool.or_eq_true, mbn_iff k, decide_eq_true_eq]
    constructor
    · rintro (⟨i, h1, h2⟩ | h)
      · exact ⟨i, by omega, h2⟩
      · exact ⟨k, by omega, h⟩
    · rintro ⟨i, h1, h2⟩
      by_cases e : i = k
      · subst e
        exact .inr h2
      · exact .inl ⟨i, by omega, h2⟩
theorem gt_ex : ∀ (Q : List Nat) (x : Nat), x ∈ Q ↔ ∃ i, i < Q.length ∧ gt Q i = x
  | [], x => ⟨fun h => by (cases h), fun ⟨i, hi, _⟩ => absurd hi (Nat.not_lt_zero i)⟩
  | g :: r, x => by
    rw [List.mem_cons, gt_ex r x]
    constructor
    · rintro (h | ⟨i, h1, h2⟩)
      · exact ⟨0, Nat.succ_pos _, h.symm⟩
      · exact ⟨i + 1, Nat.succ_lt_succ h1, h2⟩
    · rintro ⟨i, h1, h2⟩
      cases i with
      | zero => exact .inl h2.symm
      | succ i => exact .inr ⟨i, Nat.lt_of_succ_lt_succ h1, h2⟩
theorem nd_gt : ∀ (Q : List Nat), nd Q → ∀ i j, i < j → j < Q.length → gt Q i ≠ gt Q j
  | [], _, i, j, _, h => absurd h (Nat.not_lt_zero j)
  | g :: r, h, i, 0, h1, _ => absurd h1 (Nat.not_lt_zero i)
  | g :: r, h, 0, j + 1, _, h2 => fun q => h.1 (by
    have := gt_mem r j (Nat.lt_of_succ_lt_succ h2)
    have q : g = gt r j := q
    rw [q]
    exact this)
  | g :: r, h, i + 1, j + 1, h1, h2 => nd_gt r h.2 i j (Nat.lt_of_succ_lt_succ h1) (Nat.lt_of_succ_lt_succ h2)
theorem sm_shift (f : Nat → Nat) : ∀ n, sm f (n + 1) = f 0 + sm (fun i => f (i + 1)) n
  | 0 => by
    show 0 + f 0 = f 0 + 0
    omega
  | n + 1 => by
    show sm f (n + 1) + f (n + 1) = f 0 + (sm (fun i => f (i + 1)) n + f (n + 1))
    rw [sm_shift f n]
    omega
theorem fl_sm (W : Nat → Nat) : ∀ (Q : List Nat), (fl W Q).length = sm (fun i => W (gt Q i)) Q.length
  | [] => rfl
  | g :: r => by
    show (List.replicate (W g) g ++ fl W r).length = sm (fun i => W (gt (g :: r) i)) (r.length + 1)
    rw [List.length_append, List.length_replicate, sm_shift, fl_sm W r]
    rfl
def deps (P : Nat → Nat → Nat → Nat) (M : Nat) : Nat → ST → ST
  | 0, s => s
  | l + 1, s => if M % P 5 l 0 = 0 then ons P M l (P 4 l 0) (deps P M l s) else deps P M l s
def wts : Nat → ST → ST
  | 0, s => s
  | l + 1, s => wtt l (wts l s)
def mn (P : Nat → Nat → Nat → Nat) (M : Nat) (s : ST) : ST := wts (P 7 0 0) (deps P M (P 7 0 0) (jns P M 4 s))
def runs (P : Nat → Nat → Nat → Nat) : Nat → ST → ST
  | 0, s => s
  | M + 1, s => mn P M (runs P M s)
section SC
variable {P : Nat → Nat → Nat → Nat} {b : Nat → Nat} {c M : Nat} {s : ST} {d d' : sk_D}
theorem IR.up (h : IR P b c s) {c' : Nat} (hc : c ≤ c') : IR P b c' s := ⟨fun g hg => ⟨(h.1 g hg).1, (h.1 g hg).2.1, Nat.le_trans (h.1 g hg).2.2.1 hc, (h.1 g hg).2.2.2⟩, h.2⟩
theorem IR_deps (h : IR P (fun _ => M + 1) c s) (hP : PV P) (hM : M < 180) : ∀ l, l ≤ P 7 0 0 → IR P (fun _ => M + 1) c (deps P M l s)
  | 0, _ => h
  | l + 1, hl => by
    have ih := IR_deps h hP hM l (by omega)
    show IR P (fun _ => M + 1) c (if M % P 5 l 0 = 0 then ons P M l (P 4 l 0) (deps P M l s) else deps P M l s)
    split
    · exact IR_ons ih hP hM (by omega) _
    · exact ih
theorem IR_wts (h : IR P b c s) (hP : PV P) : ∀ l, l ≤ 3 → IR P b (c + 19 * l) (wts l s)
  | 0, _ => h
  | l + 1, hl => by
    have := IR_wtt (IR_wts h hP l (by omega)) hP (l := l) (by omega)
    exact this.up (by omega)
theorem IR_mn (h : IR P (fun _ => M) c s) (hP : PV P) (hM : M < 180) : IR P (fun _ => M + 1) (c + 57) (mn P M s) := by
  have hn := hP.1
  exact (IR_wts (IR_deps (IR_b4 (IR_jns h hP hM 4 (by omega))) hP hM _ (Nat.le_refl _)) hP _ hn).up (by omega)
theorem IR_runs (h : IR P (fun _ => 0) 0 s) (hP : PV P) : ∀ M, M ≤ 180 → IR P (fun _ => M) (57 * M) (runs P M s)
  | 0, _ => h
  | M + 1, hM => (IR_mn (IR_runs h hP M (by omega)) hP (by omega)).up (by omega)
theorem cdep (hS : CSt P d) (hC : CR P s d) (hI : IR P (fun _ => M + 1) c s) (hP : PV P) (hM : M < 180) {l : Nat} (hl : l < P 7 0 0) : ∃ d', q_X6_depart d (nI l) l (nI M) = some d' ∧ CSt P d' ∧ CR P (ons P M l (P 4 l 0) s) d' ∧ FS8 d d' := by
  have hn := hP.1
  obtain ⟨e1, e2, _⟩ := hP.2.2.1 l hl
  have bl : sk_bi (nI l) 3 = true := bi_nI (by omega) (by omega)
  have el := nI_clamp (n := l) (by omega)
  have main := it_or0 (F := fun rec a => q_X6_depart_9 rec a.1 a.2.1 a.2.2.1 a.2.2.2.1 a.2.2.2.2.1 a.2.2.2.2.2)
    (fun j a => ∃ k D, k ≤ P 4 l 0 ∧ a = (D, nI l, l, nI M, nI (P 4 l 0 - k), nI j) ∧ j ≤ 4 ∧ CSt P D ∧ CR P (ons P M l k s) D ∧ FS8 d D ∧ (k = P 4 l 0 ∨ ((ons P M l k s).2 l).length + j ≤ 4))
    (fun D => CSt P D ∧ CR P (ons P M l (P 4 l 0) s) D ∧ FS8 d D) 4 (fun j a hp => ?_) (by omega) (d, nI l, l, nI M, nI (P 4 l 0), 0) ⟨0, d, Nat.zero_le _, rfl, by omega, hS, hC, FS8.rf d, .inr (hI.len (by omega))⟩
  · obtain ⟨D, h1, h2, h3, h4⟩ := main
    refine ⟨D, ?_, h2, h3, h4⟩
    unfold q_X6_depart q_X6_depart_0
    rw [(hS.2.2 l hl).1]
    exact h1
  · obtain ⟨k, D, hk, rfl, hj, h1, h2, h3, h4⟩ := hp
    have hIk := IR_ons hI hP hM hl k
    have stop : (ons P M l k s).2 l = [] → ons P M l (P 4 l 0) s = ons P M l k s := fun h => by
      rw [show P 4 l 0 = k + (P 4 l 0 - k) by omega, ons_add, ons_n h]
    by_cases hj4 : j = 4
    · left
      refine ⟨D, ⟨h1, ?_, h3⟩, fun rec => ?_⟩
      · rcases h4 with z | z
        · rw [← z]
          exact h2
        · rw [stop (List.eq_nil_of_length_eq_zero (by omega))]
          exact h2
      · show q_X6_depart_9 rec D (nI l) l (nI M) (nI (P 4 l 0 - k)) (nI j) = some D
        unfold q_X6_depart_9
        rw [hj4, if_pos (show (4 : Int32) ≤ nI 4 from ge_nI (n := 4) rfl (by omega) (by omega))]
    · have lj : ¬ (4 : Int32) ≤ nI j := le_nI (n := 4) rfl (by omega) (by omega)
      by_cases hke : k = P 4 l 0
      · left
        refine ⟨D, ⟨h1, by rw [← hke]; exact h2, h3⟩, fun rec => ?_⟩
        show q_X6_depart_9 rec D (nI l) l (nI M) (nI (P 4 l 0 - k)) (nI j) = some D
        unfold q_X6_depart_9
        rw [if_neg lj, show P 4 l 0 - k = 0 by omega, if_pos (show nI 0 ≤ (0 : Int32) by decide)]
      · have nf : ¬ nI (P 4 l 0 - k) ≤ (0 : Int32) := by
          rw [show (0 : Int32) = nI 0 from rfl]
          exact nI_ge (by omega) (by omega)
        cases hq : (ons P M l k s).2 l with
        | nil =>
          left
          refine ⟨D, ⟨h1, by rw [stop hq]; exact h2, h3⟩, fun rec => ?_⟩
          show q_X6_depart_9 rec D (nI l) l (nI M) (nI (P 4 l 0 - k)) (nI j) = some D
          have q1 := (h2.2 l (by omega)).1
          rw [hq] at q1
          unfold q_X6_depart_9
          rw [if_neg lj, if_neg nf, if_pos bl, el, q1, if_pos (show nI ([] : List Nat).length ≤ (0 : Int32) by decide)]
        | cons g r =>
          right
          have hw := ((hIk.2.1 l (by omega)).1 g (by rw [hq]; exact List.mem_cons_self ..)).2
          obtain ⟨D', ⟨z1, z2, z3⟩, z4⟩ := cturn h1 h2 hIk hP hM hl hq (f := P 4 l 0 - k) (by omega) (by omega)
          have hmin := Nat.min_le_right ((ons P M l k s).1 0 g) (P 4 l 0 - k)
          refine ⟨by omega, _, ⟨k + min ((ons P M l k s).1 0 g) (P 4 l 0 - k), D', by omega, rfl, by omega, z1, ?_, h3.tr z3, ?_⟩, fun rec => ?_⟩
          · rw [ons_add]
            exact z2
          · by_cases hB : (ons P M l k s).1 0 g < P 4 l 0 - k
            · right
              rw [ons_add, Nat.min_eq_left (by omega), (ons_w hq (by omega)).2.2.2.2.2.2, if_pos rfl]
              rcases h4 with z | z
              · exact absurd z hke
              · rw [hq] at z
                have : (g :: r).length = r.length + 1 := rfl
                omega
            · left
              rw [Nat.min_eq_right (by omega)]
              omega
          · refine (z4 rec j (by omega)).trans ?_
            rw [Nat.sub_sub]
theorem cwait (hS : CSt P d) (hC : CR P s d) (hI : IR P b c s) (hP : PV P) {l : Nat} (hl : l < 3) : ∃ d', q_X6_waitAMinute d (nI l) = some d' ∧ CSt P d' ∧ CR P (wtt l s) d' ∧ FS8 d d' := by
  have hlen := hI.len hl
  have hfl := hI.fll hP hl
  obtain ⟨m1, m2, m3⟩ := hI.2.1 l hl
  obtain ⟨q1, q2, q3, q4⟩ := hC.2 l hl
  have bl : sk_bi (nI l) 3 = true := bi_nI (by omega) (by omega)
  have el := nI_clamp (n := l) (by omega)
  have main := it_inv0 (F := fun rec a => q_X6_waitAMinute_4 rec a.1 a.2.1 a.2.2.1 a.2.2.2)
    (fun k a => ∃ D, a = (D, nI l, nI (sm (fun i => s.1 0 (gt (s.2 l) i)) k), nI k) ∧ (∀ s k f, s ≠ 26 → D.1 s k f = d.1 s k f) ∧ ∀ x, x < 4 → D.1 26 0 x = nI (s.1 4 x + if mbn (s.2 l) x k = true then s.1 0 x else 0))
    (fun D => CSt P D ∧ CR P (wtt l s) D ∧ FS8 d D) (s.2 l).length (fun k a hk hp => ?_) (fun a hp => ?_) (by omega) (d, nI l, 0, 0) ⟨d, rfl, fun _ _ _ _ => rfl, fun x hx => (hC.1 x hx).2.2.2.2⟩
  · obtain ⟨D, h1, h2⟩ := main
    exact ⟨D, h1, h2⟩
  · obtain ⟨D, rfl, h1, h2⟩ := hp
    have hg := (m1 _ (gt_mem (s.2 l) k hk)).1
    obtain ⟨g, eg⟩ : ∃ g, gt (s.2 l) k = g := ⟨_, rfl⟩
    rw [eg] at hg
    have hnm : mbn (s.2 l) g k = false := by
      rw [← Bool.not_eq_true, mbn_iff]
      rintro ⟨i, hi, e⟩
      exact nd_gt _ m2 i k hi hk (e.trans eg.symm)
    have b33 : D.1 33 l k = nI g := by
      rw [h1 33 l k (by omega), q2 k hk, eg]
    have b34 : D.1 34 0 l = nI (s.2 l).length := (h1 34 0 l (by omega)).trans q1
    have b31 : D.1 31 0 g = nI (s.1 0 g) := (h1 31 0 g (by omega)).trans (hC.1 g hg).1
    have b26 : D.1 26 0 g = nI (s.1 4 g) := by
      rw [h2 g hg, hnm]
      rfl
    have bk : sk_bi (nI k) 4 = true := bi_nI (by omega) (by omega)
    have ek := nI_clamp (n := k) (by omega)
    have bg : sk_bi (nI g) 4 = true := bi_nI (by omega) (by omega)
    have eg4 := nI_clamp (n := g) (by omega)
    have wg8 := (wi_in g (a := nI g) (lo := 0) (hi := 3) 0 3 rfl rfl rfl (by omega) (by omega) (by omega)).1
    have lk : ¬ (4 : Int32) ≤ nI k := le_nI (n := 4) rfl (by omega) (by omega)
    have lk2 : ¬ nI (s.2 l).length ≤ nI k := nI_ge hk (by omega)
    have es : sm (fun i => s.1 0 (gt (s.2 l) i)) (k + 1) = sm (fun i => s.1 0 (gt (s.2 l) i)) k + s.1 0 g := by
      show _ + s.1 0 (gt (s.2 l) k) = _
      rw [eg]
    refine ⟨_, ⟨sk_wi D 26 0 g (nI (s.1 4 g + s.1 0 g)), rfl, fun s k f hs => ?_, fun x hx => ?_⟩, fun rec => ?_⟩
    · rw [wi_o (by omega)]
      exact h1 s k f hs
    · have em : mbn (s.2 l) x (k + 1) = (mbn (s.2 l) x k || decide (gt (s.2 l) k = x)) := rfl
      rw [em, eg]
      by_cases e : x = g
      · rw [e, wi_e, decide_eq_true rfl, Bool.or_true]
        rfl
      · rw [wi_o (by omega), h2 x hx, decide_eq_false (fun z => e z.symm), Bool.or_false]
    · show q_X6_waitAMinute_4 rec D (nI l) (nI (sm (fun i => s.1 0 (gt (s.2 l) i)) k)) (nI k) = _
      simp only [q_X6_waitAMinute_4, q_X6_waitAMinute_66, bl, el, b34, lk2, lk, bk, ek, b33, wg8, i10, bg, eg4, b26, b31, nI_add, nI_1, es, Option.bind_some, ↓reduceIte]
  · obtain ⟨D, rfl, h1, h2⟩ := hp
    have eL : sm (fun i => s.1 0 (gt (s.2 l) i)) (s.2 l).length = (fl (s.1 0) (s.2 l)).length := (fl_sm _ _).symm
    have b28 : D.1 28 0 l = nI (s.1 6 l) := (h1 28 0 l (by omega)).trans q4
    have b34 : D.1 34 0 l = nI (s.2 l).length := (h1 34 0 l (by omega)).trans q1
    have emax : (if nI (s.1 6 l) < nI (fl (s.1 0) (s.2 l)).length then nI (fl (s.1 0) (s.2 l)).length else nI (s.1 6 l)) = nI (max (s.1 6 l) (fl (s.1 0) (s.2 l)).length) := by
      by_cases z : s.1 6 l < (fl (s.1 0) (s.2 l)).length
      · rw [if_pos (nI_lt z (by omega)), Nat.max_eq_right (by omega)]
      · rw [if_neg (nI_nlt (by omega) (by omega)), Nat.max_eq_left (by omega)]
    refine ⟨sk_wi D 28 0 l (nI (max (s.1 6 l) (fl (s.1 0) (s.2 l)).length)), ⟨hS.fr (fun s k f hs => ?_), ⟨fun x hx => ?_, fun l' hl' => ?_⟩, fun s k f hs => ?_⟩, fun rec => ?_⟩
    · rw [wi_o (by omega), h1 s k f (by omega)]
    · obtain ⟨y1, y2, y3, y4, y5⟩ := hC.1 x hx
      have e4 : (wtt l s).1 4 x = s.1 4 x + if mbn (s.2 l) x (s.2 l).length = true then s.1 0 x else 0 := by
        show (if 4 = 4 ∧ x ∈ s.2 l then s.1 4 x + s.1 0 x else if 4 = 6 ∧ x = l then max (s.1 6 l) (fl (s.1 0) (s.2 l)).length else s.1 4 x) = _
        have em := mbn_iff (Q := s.2 l) (x := x) (s.2 l).length
        rw [← gt_ex] at em
        by_cases z : x ∈ s.2 l
        · rw [if_pos ⟨rfl, z⟩, if_pos (em.mpr z)]
        · rw [if_neg (fun y => z y.2), if_neg (fun y => z (em.mp y)), if_neg (by omega)]
          rfl
      have eo : ∀ f, f ≠ 4 → f ≠ 6 → (wtt l s).1 f x = s.1 f x := fun f h1 h2 => by
        show (if f = 4 ∧ x ∈ s.2 l then s.1 4 x + s.1 0 x else if f = 6 ∧ x = l then max (s.1 6 l) (fl (s.1 0) (s.2 l)).length else s.1 f x) = _
        rw [if_neg (fun z => h1 z.1), if_neg (fun z => h2 z.1)]
      rw [e4, eo 0 (by omega) (by omega), eo 1 (by omega) (by omega), eo 2 (by omega) (by omega), eo 3 (by omega) (by omega), wi_o (by omega), wi_o (by omega), wi_o (by omega), wi_o (by omega), wi_o (by omega), h1 31 0 x (by omega), h1 30 0 x (by omega), h1 25 0 x (by omega), h1 27 0 x (by omega)]
      exact ⟨y1, y2, y3, y4, h2 x hx⟩
    · obtain ⟨y1, y2, y3, y4⟩ := hC.2 l' hl'
      have e5 : (wtt l s).1 5 l' = s.1 5 l' := by
        show (if 5 = 4 ∧ l' ∈ s.2 l then s.1 4 l' + s.1 0 l' else if 5 = 6 ∧ l' = l then max (s.1 6 l) (fl (s.1 0) (s.2 l)).length else s.1 5 l') = _
        rw [if_neg (by omega), if_neg (by omega)]
      have e6 : (wtt l s).1 6 l' = if l' = l then max (s.1 6 l) (fl (s.1 0) (s.2 l)).length else s.1 6 l' := by
        show (if 6 = 4 ∧ l' ∈ s.2 l then s.1 4 l' + s.1 0 l' else if 6 = 6 ∧ l' = l then max (s.1 6 l) (fl (s.1 0) (s.2 l)).length else s.1 6 l') = _
        rw [if_neg (by omega)]
        by_cases z : l' = l
        · rw [if_pos ⟨rfl, z⟩, if_pos z]
        · rw [if_neg (fun y => z y.2), if_neg z]
      rw [e5, e6, wi_o (s' := 34) (by omega), wi_o (s' := 29) (by omega), h1 34 0 l' (by omega), h1 29 0 l' (by omega)]
      refine ⟨y1, fun k hk => ?_, y3, ?_⟩
      · rw [wi_o (by omega), h1 33 l' k (by omega)]
        exact y2 k hk
      · by_cases z : l' = l
        · rw [z, wi_e, if_pos rfl]
        · rw [wi_o (by omega), h1 28 0 l' (by omega), if_neg z]
          exact y4
    · rw [wi_o (by omega), h1 s k f (by omega)]
    · show q_X6_waitAMinute_4 rec D (nI l) (nI (sm (fun i => s.1 0 (gt (s.2 l) i)) (s.2 l).length)) (nI (s.2 l).length) = _
      unfold q_X6_waitAMinute_4 q_X6_waitAMinute_72
      rw [if_pos bl, el, b34, if_pos (nI_le (Nat.le_refl _) (by omega)), if_pos bl, if_pos bl, b28, eL, emax]
end SC
