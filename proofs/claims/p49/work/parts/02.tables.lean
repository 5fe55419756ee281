/-! the allocation sites: number of the first cell, step, shape, count; by program (wip/whole/gen/sites.py) -/
def sk_base : Nat → Nat := fun s => match s with
  | 0 => 0
  | 1 => 1
  | 2 => 2
  | 3 => 3
  | 4 => 4
  | 5 => 5
  | 6 => 6
  | 7 => 7
  | 8 => 8
  | 9 => 9
  | 10 => 10
  | 11 => 30
  | 12 => 31
  | 13 => 32
  | 14 => 33
  | 15 => 34
  | 16 => 35
  | 17 => 36
  | 18 => 37
  | 19 => 38
  | 20 => 39
  | 21 => 40
  | 22 => 41
  | 23 => 42
  | 24 => 43
  | 25 => 44
  | 26 => 45
  | 27 => 46
  | 28 => 47
  | 29 => 48
  | 30 => 49
  | 31 => 50
  | 32 => 51
  | 33 => 52
  | 34 => 55
  | 35 => 56
  | 36 => 57
  | 37 => 58
  | 38 => 59
  | 39 => 98
  | 40 => 99
  | 41 => 100
  | 42 => 110
  | 43 => 118
  | _ => 0
def sk_step : Nat → Nat := fun s => match s with
  | 10 => 1
  | 33 => 1
  | 37 => 2
  | 38 => 2
  | 39 => 3
  | 40 => 3
  | 41 => 3
  | 42 => 1
  | 43 => 1
  | _ => 0
def sk_cnt : Nat → Nat := fun s => match s with
  | 0 => 1
  | 1 => 1
  | 2 => 1
  | 3 => 1
  | 4 => 1
  | 5 => 1
  | 6 => 1
  | 7 => 1
  | 8 => 1
  | 9 => 1
  | 10 => 20
  | 11 => 1
  | 12 => 1
  | 13 => 1
  | 14 => 1
  | 15 => 1
  | 16 => 1
  | 17 => 1
  | 18 => 1
  | 19 => 1
  | 20 => 1
  | 21 => 1
  | 22 => 1
  | 23 => 1
  | 24 => 1
  | 25 => 1
  | 26 => 1
  | 27 => 1
  | 28 => 1
  | 29 => 1
  | 30 => 1
  | 31 => 1
  | 32 => 1
  | 33 => 3
  | 34 => 1
  | 35 => 1
  | 36 => 1
  | 37 => 20
  | 38 => 20
  | 39 => 4
  | 40 => 4
  | 41 => 4
  | 42 => 8
  | 43 => 3
  | _ => 0
def sk_shp : Nat → Nat ⊕ (Nat × Nat) := fun s => match s with
  | 0 => .inl 8
  | 1 => .inr (5, 20)
  | 2 => .inr (6, 4)
  | 3 => .inr (7, 8)
  | 4 => .inr (8, 3)
  | 5 => .inr (2, 8)
  | 6 => .inl 3
  | 7 => .inr (0, 20)
  | 8 => .inr (0, 20)
  | 9 => .inr (4, 20)
  | 10 => .inr (0, 4)
  | 11 => .inr (0, 20)
  | 12 => .inr (0, 8)
  | 13 => .inr (0, 4)
  | 14 => .inr (0, 4)
  | 15 => .inr (0, 4)
  | 16 => .inr (0, 4)
  | 17 => .inr (0, 2401)
  | 18 => .inr (1, 2401)
  | 19 => .inl 7
  | 20 => .inr (2, 4)
  | 21 => .inr (0, 4)
  | 22 => .inr (0, 4)
  | 23 => .inl 6
  | 24 => .inr (0, 4)
  | 25 => .inr (0, 4)
  | 26 => .inr (0, 4)
  | 27 => .inr (0, 4)
  | 28 => .inr (0, 3)
  | 29 => .inr (0, 3)
  | 30 => .inr (0, 4)
  | 31 => .inr (0, 4)
  | 32 => .inr (4, 3)
  | 33 => .inr (0, 4)
  | 34 => .inr (0, 3)
  | 35 => .inl 5
  | 36 => .inr (3, 100)
  | 37 => .inl 4
  | 38 => .inr (0, 4)
  | 39 => .inl 0
  | 40 => .inr (0, 4)
  | 41 => .inr (0, 4)
  | 42 => .inl 1
  | 43 => .inl 2
  | _ => .inr (9, 0)
def sk_refL : List (Nat × Nat) := [(0, 0), (1, 0), (2, 0), (3, 0), (4, 0), (5, 0), (6, 0), (7, 0), (8, 0), (9, 0), (10, 0), (10, 1), (10, 2), (10, 3), (10, 4), (10, 5), (10, 6), (10, 7), (10, 8), (10, 9), (10, 10), (10, 11), (10, 12), (10, 13), (10, 14), (10, 15), (10, 16), (10, 17), (10, 18), (10, 19), (11, 0), (12, 0), (13, 0), (14, 0), (15, 0), (16, 0), (17, 0), (18, 0), (19, 0), (20, 0), (21, 0), (22, 0), (23, 0), (24, 0), (25, 0), (26, 0), (27, 0), (28, 0), (29, 0), (30, 0), (31, 0), (32, 0), (33, 0), (33, 1), (33, 2), (34, 0), (35, 0), (36, 0), (37, 0), (38, 0), (37, 1), (38, 1), (37, 2), (38, 2), (37, 3), (38, 3), (37, 4), (38, 4), (37, 5), (38, 5), (37, 6), (38, 6), (37, 7), (38, 7), (37, 8), (38, 8), (37, 9), (38, 9), (37, 10), (38, 10), (37, 11), (38, 11), (37, 12), (38, 12), (37, 13), (38, 13), (37, 14), (38, 14), (37, 15), (38, 15), (37, 16), (38, 16), (37, 17), (38, 17), (37, 18), (38, 18), (37, 19), (38, 19), (39, 0), (40, 0), (41, 0), (39, 1), (40, 1), (41, 1), (39, 2), (40, 2), (41, 2), (39, 3), (40, 3), (41, 3), (42, 0), (42, 1), (42, 2), (42, 3), (42, 4), (42, 5), (42, 6), (42, 7), (43, 0), (43, 1), (43, 2)]
abbrev sk_N0 : Nat := 121
def sk_fn : Nat → Nat := fun s => match s with
  | 0 => 11
  | 1 => 6
  | 2 => 5
  | 3 => 13
  | 4 => 7
  | 5 => 12
  | 6 => 10
  | 7 => 4
  | 8 => 14
  | _ => 0
def sk_fr : Nat → Nat → Bool := fun c f => match c with
  | 0 => [7, 8].elem f
  | 1 => false
  | 2 => false
  | 3 => [2, 3, 4, 5, 6, 7, 8, 9, 10, 11, 12].elem f
  | 4 => [6].elem f
  | 5 => [0].elem f
  | 6 => [0, 1, 2, 3, 4, 5, 6, 7, 8, 9].elem f
  | 7 => [0, 1, 2].elem f
  | 8 => [0, 1, 2, 3, 4, 5, 6, 7, 8].elem f
  | _ => false
def sk_ord (s k : Nat) : Nat := sk_base s + k * sk_step s
def sk_ref (i : Nat) : Nat × Nat := sk_refL.getD i (0, 0)
theorem sk_refT : (List.range sk_N0).all (fun i => sk_ord (sk_ref i).1 (sk_ref i).2 == i && decide ((sk_ref i).1 < 9000)) = true := by decide +kernel
theorem sk_liveT : (List.range 44).all (fun s => (List.range (sk_cnt s)).all (fun k => sk_ref (sk_ord s k) == (s, k) && decide (sk_ord s k < sk_N0))) = true := by decide +kernel
theorem sk_ord_ref {i : Nat} (h : i < sk_N0) : sk_ord (sk_ref i).1 (sk_ref i).2 = i := by
  have h1 := List.all_eq_true.mp sk_refT i (List.mem_range.mpr h)
  simp only [Bool.and_eq_true, beq_iff_eq] at h1
  exact h1.1
theorem sk_cnt_lt {s k : Nat} (h : k < sk_cnt s) : s < 44 := by
  rcases Nat.lt_or_ge s 44 with q | q
  · exact q
  · exfalso
    have : sk_cnt s = 0 := by
      unfold sk_cnt
      split <;> first | omega | rfl
    omega
theorem sk_live {s k : Nat} (h : k < sk_cnt s) : sk_ref (sk_ord s k) = (s, k) ∧ sk_ord s k < sk_N0 := by
  have h1 := List.all_eq_true.mp (List.all_eq_true.mp sk_liveT s (List.mem_range.mpr (sk_cnt_lt h))) k (List.mem_range.mpr h)
  simp only [Bool.and_eq_true, beq_iff_eq, decide_eq_true_eq] at h1
  exact h1
