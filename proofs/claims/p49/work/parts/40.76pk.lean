/-! THE PLANNER: the class's options of a unit *** by hand -/
/-- the best of the listed groups -/
def zf (ok : Nat → Bool) (cd : Nat → Nat × Nat) (b : Nat × Nat) (G : Nat → Nat) : Nat → (Nat × Nat) × Nat
  | 0 => (b, 0)
  | k + 1 => if ok (G k) = true ∧ kw 32 (zf ok cd b G k).1 ≤ kw 32 (cd (G k)) then (cd (G k), G k + 1) else zf ok cd b G k
theorem zf_s (ok : Nat → Bool) (cd : Nat → Nat × Nat) (b : Nat × Nat) (G : Nat → Nat) (k : Nat) : zf ok cd b G (k + 1) = if ok (G k) = true ∧ kw 32 (zf ok cd b G k).1 ≤ kw 32 (cd (G k)) then (cd (G k), G k + 1) else zf ok cd b G k := rfl
theorem zf_congr {ok : Nat → Bool} {cd : Nat → Nat × Nat} {b : Nat × Nat} {G G' : Nat → Nat} : ∀ {n : Nat}, (∀ k, k < n → G k = G' k) → zf ok cd b G n = zf ok cd b G' n
  | 0, _ => rfl
  | n + 1, h => by rw [zf_s, zf_s, zf_congr (n := n) (fun k hk => h k (by omega)), h n (by omega)]
def OPT (ok' : Nat → Bool) (i n : Nat) (G : Nat → Nat) : Prop := n ≤ i ∧ (∀ k, k < n → G k < 4 ∧ ok' (G k) = true) ∧ ∀ (ok : Nat → Bool) (cd : Nat → Nat × Nat) (b : Nat × Nat), (∀ g, g < 4 → ok g = true → ok' g = true) → zf ok cd b G n = fd ok cd b i
theorem OPT.z (ok' : Nat → Bool) : OPT ok' 0 0 (fun _ => 0) := ⟨Nat.le_refl _, fun k hk => absurd hk (Nat.not_lt_zero k), fun _ _ _ _ => rfl⟩
theorem OPT.no {ok' : Nat → Bool} {i n : Nat} {G : Nat → Nat} (hO : OPT ok' i n G) (h : ¬ ok' (3 - i) = true) : OPT ok' (i + 1) n G := ⟨by have := hO.1; omega, hO.2.1, fun ok cd b hh => by
  rw [hO.2.2 ok cd b hh, fd_s, if_neg (fun q => h (hh _ (by omega) q.1))]⟩
theorem OPT.yes {ok' : Nat → Bool} {i n : Nat} {G : Nat → Nat} (hO : OPT ok' i n G) (h : ok' (3 - i) = true) (hi : i < 4) : OPT ok' (i + 1) (n + 1) (fun k => if k = n then 3 - i else G k) := by
  refine ⟨by have := hO.1; omega, fun k hk => ?_, fun ok cd b hh => ?_⟩
  · show (if k = n then 3 - i else G k) < 4 ∧ ok' (if k = n then 3 - i else G k) = true
    by_cases e : k = n
    · rw [if_pos e]
      exact ⟨by omega, h⟩
    · rw [if_neg e]
      exact hO.2.1 k (by omega)
  · have e1 : zf ok cd b (fun k => if k = n then 3 - i else G k) n = zf ok cd b G n := zf_congr (fun k hk => if_neg (by omega))
    have e2 : (if n = n then 3 - i else G n) = 3 - i := if_pos rfl
    rw [zf_s, e1, e2, hO.2.2 ok cd b hh, fd_s, show 4 - i = 3 - i + 1 by omega]
theorem lo8 {d : sk_D} {U : Nat} {h : Nat → Nat} {x : Nat → Nat → Bool} {o : Nat → Nat → Nat} (hU : UC d U h x o) {s : Nat → Nat} (hs : ∀ g, g < 4 → d.1 13 0 g = nI (s g) ∧ s g ≤ 6) {u : Nat} (hu : u < U) :
    ∃ r, (∃ d' n G, r = (nI n, d') ∧ (∀ s k f, s ≠ 16 → d'.1 s k f = d.1 s k f) ∧ d'.2 = d.2 ∧ OPT (fun g => x u g && decide (h u ≤ s g)) 4 n G ∧ ∀ k, k < n → d'.1 16 0 k = nI (G k)) ∧ q_X3_listOptions d (nI u) = some r := by
  have hU20 := hU.1
  have main := it_cn (ι := Unit) (F := fun _ rec4 a => q_X3_listOptions_4 rec4 a.1 a.2.1 a.2.2.1 a.2.2.2) (fun _ r => some r) (fun i a => ∃ d' n G, a = (d', nI u, nI n, nI (4 - i) - 1) ∧ (∀ s k f, s ≠ 16 → d'.1 s k f = d.1 s k f) ∧ d'.2 = d.2 ∧ OPT (fun g => x u g && decide (h u ≤ s g)) i n G ∧ ∀ k, k < n → d'.1 16 0 k = nI (G k)) (fun r => ∃ d' n G, r = (nI n, d') ∧ (∀ s k f, s ≠ 16 → d'.1 s k f = d.1 s k f) ∧ d'.2 = d.2 ∧ OPT (fun g => x u g && decide (h u ≤ s g)) 4 n G ∧ ∀ k, k < n → d'.1 16 0 k = nI (G k)) 4 (fun i a hi hp => ?_) (fun a hp => ?_) (by omega) (d, nI u, 0, 3) ⟨d, 0, fun _ => 0, rfl, fun _ _ _ _ => rfl, rfl, OPT.z _, fun k hk => absurd hk (Nat.not_lt_zero k)⟩
  · obtain ⟨r, h1, h2⟩ := main
    exact ⟨r, h1, h2 ()⟩
  · obtain ⟨d', n, G, rfl, hF, h2, hO, hG⟩ := hp
    have bu : sk_bi (nI u) 20 = true := bi_nI (by omega) (by omega)
    have eu := nI_clamp (n := u) (by omega)
    have b3 : sk_bi (nI (3 - i)) 4 = true := bi_nI (by omega) (by omega)
    have e3 := nI_clamp (n := 3 - i) (by omega)
    have hn := hO.1
    have bn : sk_bi (nI n) 4 = true := bi_nI (by omega) (by omega)
    have en := nI_clamp (n := n) (by omega)
    obtain ⟨a1, a2, a3, a4⟩ := hU.2.2.1 u hu
    obtain ⟨c1, c2⟩ := hs (3 - i) (by omega)
    have ou := hU.2.2.2.1 u (3 - i)
    have e45 : ∀ (rec : (sk_D × Int32 × Int32 × Int32) → Option (Int32 × sk_D)) (d2 : sk_D) (m : Int32), q_X3_listOptions_45 rec d2 (nI u) m (nI (3 - i)) = rec (d2, nI u, m, nI (4 - (i + 1)) - 1) := fun rec d2 m => by
      unfold q_X3_listOptions_45
      rw [show 4 - (i + 1) = 3 - i by omega, Int32.sub_eq_add_neg]
    have e0 : ∀ rec : (sk_D × Int32 × Int32 × Int32) → Option (Int32 × sk_D), q_X3_listOptions_4 rec d' (nI u) (nI n) (nI (4 - i) - 1) = if (if x u (3 - i) = true then nI (o u (3 - i)) else -1) = -1 then rec (d', nI u, nI n, nI (4 - (i + 1)) - 1) else if nI (s (3 - i)) < nI (h u) then rec (d', nI u, nI n, nI (4 - (i + 1)) - 1) else rec (sk_wi d' 16 0 n (nI (3 - i)), nI u, nI (n + 1), nI (4 - (i + 1)) - 1) := fun rec => by
      rw [show 4 - i = 3 - i + 1 by omega, nI_pred]
      unfold q_X3_listOptions_4
      rw [if_neg (nI_pos (by omega)), if_pos bu, if_pos b3, eu, e3, hF 10 u (3 - i) (by omega), a4 (3 - i) (by omega), if_pos b3, if_pos bu, hF 13 0 (3 - i) (by omega), c1, hF 8 0 u (by omega), a1, if_pos bn, en, e45, e45, nI_1]
    by_cases hx : x u (3 - i) = true
    · by_cases hh : h u ≤ s (3 - i)
      · have hk : (x u (3 - i) && decide (h u ≤ s (3 - i))) = true := by rw [hx, decide_eq_true hh]; rfl
        refine ⟨_, ⟨sk_wi d' 16 0 n (nI (3 - i)), n + 1, fun k => if k = n then 3 - i else G k, rfl, fun s k f hs => (wi_o (by omega)).trans (hF s k f hs), h2, hO.yes hk hi, fun k hk => ?_⟩, fun _ rec => ?_⟩
        · by_cases q : k = n
          · subst q
            exact wi_e.trans (congrArg nI (if_pos rfl).symm)
          · exact (wi_o (by omega)).trans ((hG k (by omega)).trans (congrArg nI (if_neg q).symm))
        · show q_X3_listOptions_4 rec d' (nI u) (nI n) (nI (4 - i) - 1) = _
          rw [e0, if_pos hx, if_neg (nI_n1 (by omega)), if_neg (nI_nlt hh (by omega))]
      · have hk : ¬ (x u (3 - i) && decide (h u ≤ s (3 - i))) = true := by rw [decide_eq_false hh, Bool.and_false]; decide
        refine ⟨_, ⟨d', n, G, rfl, hF, h2, hO.no hk, hG⟩, fun _ rec => ?_⟩
        show q_X3_listOptions_4 rec d' (nI u) (nI n) (nI (4 - i) - 1) = _
        rw [e0, if_pos hx, if_neg (nI_n1 (by omega)), if_pos (nI_lt (by omega) (by omega))]
    · have hk : ¬ (x u (3 - i) && decide (h u ≤ s (3 - i))) = true := by rw [(Bool.not_eq_true _).mp hx, Bool.false_and]; decide
      refine ⟨_, ⟨d', n, G, rfl, hF, h2, hO.no hk, hG⟩, fun _ rec => ?_⟩
      show q_X3_listOptions_4 rec d' (nI u) (nI n) (nI (4 - i) - 1) = _
      rw [e0, if_neg hx, if_pos rfl]
  · obtain ⟨d', n, G, rfl, hF, h2, hO, hG⟩ := hp
    refine ⟨(nI n, d'), ⟨d', n, G, rfl, hF, h2, hO, hG⟩, fun _ rec => ?_⟩
    show q_X3_listOptions_4 rec d' (nI u) (nI n) (nI (4 - 4) - 1) = _
    unfold q_X3_listOptions_4
    rw [if_pos (show nI (4 - 4) - 1 < (0 : Int32) by decide)]
