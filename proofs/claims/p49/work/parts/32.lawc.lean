/-! the law's methods, decompiled: staffed lifts -/
def q_L_staffed_416 (rec341 : (sk_D × sk_X × Int32 × Int32 × Nat × Int32 × Int32) → Option (Int32 × sk_D × sk_X)) (L : Nat) (xs : Nat → Int32) (x0 : Nat) (d : sk_D) (x : sk_X) (v2 : Int32) (v6 : Int32) (k7 : Nat) (v10 : Int32) (v11 : Int32) (s0 : Int32) (s1 : Int32) : Option (Int32 × sk_D × sk_X) :=
  if s0 = s1 then (rec341 (d, x, v2, v6, k7, v10, (v11 + (1 : Int32)))) else some ((0 : Int32), d, x)
set_option maxRecDepth 100000 in
set_option maxHeartbeats 4000000 in
theorem t_L_staffed_416 {l : Launch} {rec341 : (sk_D × sk_X × Int32 × Int32 × Nat × Int32 × Int32) → Option (Int32 × sk_D × sk_X)} {L : Nat} {xs : Nat → Int32} {x0 : Nat} {d : sk_D} {x : sk_X} {v2 : Int32} {v6 : Int32} {k7 : Nat} {v10 : Int32} {v11 : Int32} {s0 : Int32} {s1 : Int32} (hrec341 : ∀ (a : (sk_D × sk_X × Int32 × Int32 × Nat × Int32 × Int32)) (res : Int32 × sk_D × sk_X), rec341 a = some res → (x0 ≤ a.2.1.1 ∧ a.2.1.1 ≤ x0 + 3) → sx_G l (sk_rm 14 3 192) m_L_staffed sx_T (sx_Zm m_L_staffed (some (.inl res.1)) res.2.1 res.2.2) a.2.1 L xs (0 + (a.2.1.1 - x0)) (0 + 64 * (a.2.1.1 - x0)) 341 [some (.inr (.inr (some (0, 0)))), none, some (.inl a.2.2.1), none, none, none, some (.inl a.2.2.2.1), some (.inr (.inr (some (9998, a.2.2.2.2.1)))), none, none, some (.inl a.2.2.2.2.2.1), some (.inl a.2.2.2.2.2.2), none, none] [] a.1) {res : Int32 × sk_D × sk_X} (hq : q_L_staffed_416 rec341 L xs x0 d x v2 v6 k7 v10 v11 s0 s1 = some res) (hI : (x0 ≤ x.1 ∧ x.1 ≤ x0 + 3)) :
    sx_G l (sk_rm 14 3 192) m_L_staffed sx_T (sx_Zm m_L_staffed (some (.inl res.1)) res.2.1 res.2.2) x L xs (0 + (x.1 - x0)) (0 + 64 * (x.1 - x0)) 416 [some (.inr (.inr (some (0, 0)))), none, some (.inl v2), none, none, none, some (.inl v6), some (.inr (.inr (some (9998, k7)))), none, none, some (.inl v10), some (.inl v11), none, none] [.inl s1, .inl s0] d := by
  unfold q_L_staffed_416 at hq
  refine sg_ic_eq 421 419 (sk_td o_L_staffed 237 rfl) (by decide) rfl (fun hc => ?_) (fun hc => ?_)
  · rw [if_pos hc] at hq
    refine sg_iinc (v11 + (1 : Int32)) 424 [some (.inr (.inr (some (0, 0)))), none, some (.inl v2), none, none, none, some (.inl v6), some (.inr (.inr (some (9998, k7)))), none, none, some (.inl v10), some (.inl (v11 + (1 : Int32))), none, none] (sk_td o_L_staffed 240 rfl) rfl rfl rfl rfl (Nat.le_of_ble_eq_true rfl) rfl ?_
    refine sg_goto 341 (sk_td o_L_staffed 241 rfl) (by decide) ?_
    exact hrec341 (d, x, v2, v6, k7, v10, (v11 + (1 : Int32))) _ hq hI
  · rw [if_neg hc] at hq
    refine sg_iconst (v := (0 : Int32)) 420 (sk_td o_L_staffed 238 rfl) rfl (by decide) ?_
    obtain rfl := Option.some.inj hq
    exact sx_iret rfl (sk_td o_L_staffed 239 rfl) rfl (show narrow .boolean (.int (0 : Int32)) = .int (0 : Int32) by decide) (sx_l1 hI) (sx_l2 hI)
def q_L_staffed_381 (rec341 : (sk_D × sk_X × Int32 × Int32 × Nat × Int32 × Int32) → Option (Int32 × sk_D × sk_X)) (rec354 : (sk_D × sk_X × Int32 × Int32 × Nat × Int32 × Int32 × Int32 × Int32) → Option (Int32 × sk_D × sk_X)) (L : Nat) (xs : Nat → Int32) (x0 : Nat) (d : sk_D) (x : sk_X) (v2 : Int32) (v6 : Int32) (k7 : Nat) (v10 : Int32) (v11 : Int32) (v13 : Int32) (s0 : Int32) : Option (Int32 × sk_D × sk_X) :=
  (rec354 (d, x, v2, v6, k7, v10, v11, s0, (v13 + (1 : Int32))))
set_option maxRecDepth 100000 in
set_option maxHeartbeats 4000000 in
theorem t_L_staffed_381 {l : Launch} {rec341 : (sk_D × sk_X × Int32 × Int32 × Nat × Int32 × Int32) → Option (Int32 × sk_D × sk_X)} {rec354 : (sk_D × sk_X × Int32 × Int32 × Nat × Int32 × Int32 × Int32 × Int32) → Option (Int32 × sk_D × sk_X)} {L : Nat} {xs : Nat → Int32} {x0 : Nat} {d : sk_D} {x : sk_X} {v2 : Int32} {v6 : Int32} {k7 : Nat} {v10 : Int32} {v11 : Int32} {v13 : Int32} {s0 : Int32} (hrec341 : ∀ (a : (sk_D × sk_X × Int32 × Int32 × Nat × Int32 × Int32)) (res : Int32 × sk_D × sk_X), rec341 a = some res → (x0 ≤ a.2.1.1 ∧ a.2.1.1 ≤ x0 + 3) → sx_G l (sk_rm 14 3 192) m_L_staffed sx_T (sx_Zm m_L_staffed (some (.inl res.1)) res.2.1 res.2.2) a.2.1 L xs (0 + (a.2.1.1 - x0)) (0 + 64 * (a.2.1.1 - x0)) 341 [some (.inr (.inr (some (0, 0)))), none, some (.inl a.2.2.1), none, none, none, some (.inl a.2.2.2.1), some (.inr (.inr (some (9998, a.2.2.2.2.1)))), none, none, some (.inl a.2.2.2.2.2.1), some (.inl a.2.2.2.2.2.2), none, none] [] a.1) (hrec354 : ∀ (a : (sk_D × sk_X × Int32 × Int32 × Nat × Int32 × Int32 × Int32 × Int32)) (res : Int32 × sk_D × sk_X), rec354 a = some res → (x0 ≤ a.2.1.1 ∧ a.2.1.1 ≤ x0 + 3) → sx_G l (sk_rm 14 3 192) m_L_staffed sx_T (sx_Zm m_L_staffed (some (.inl res.1)) res.2.1 res.2.2) a.2.1 L xs (0 + (a.2.1.1 - x0)) (0 + 64 * (a.2.1.1 - x0)) 354 [some (.inr (.inr (some (0, 0)))), none, some (.inl a.2.2.1), none, none, none, some (.inl a.2.2.2.1), some (.inr (.inr (some (9998, a.2.2.2.2.1)))), none, none, some (.inl a.2.2.2.2.2.1), some (.inl a.2.2.2.2.2.2.1), some (.inl a.2.2.2.2.2.2.2.1), some (.inl a.2.2.2.2.2.2.2.2)] [] a.1) {res : Int32 × sk_D × sk_X} (hq : q_L_staffed_381 rec341 rec354 L xs x0 d x v2 v6 k7 v10 v11 v13 s0 = some res) (hI : (x0 ≤ x.1 ∧ x.1 ≤ x0 + 3)) :
    sx_G l (sk_rm 14 3 192) m_L_staffed sx_T (sx_Zm m_L_staffed (some (.inl res.1)) res.2.1 res.2.2) x L xs (0 + (x.1 - x0)) (0 + 64 * (x.1 - x0)) 381 [some (.inr (.inr (some (0, 0)))), none, some (.inl v2), none, none, none, some (.inl v6), some (.inr (.inr (some (9998, k7)))), none, none, some (.inl v10), some (.inl v11), none, some (.inl v13)] [.inl s0] d := by
  unfold q_L_staffed_381 at hq
  refine sg_istore 383 [some (.inr (.inr (some (0, 0)))), none, some (.inl v2), none, none, none, some (.inl v6), some (.inr (.inr (some (9998, k7)))), none, none, some (.inl v10), some (.inl v11), some (.inl s0), some (.inl v13)] (sk_td o_L_staffed 218 rfl) rfl rfl (Nat.le_of_ble_eq_true rfl) rfl ?_
  refine sg_iinc (v13 + (1 : Int32)) 386 [some (.inr (.inr (some (0, 0)))), none, some (.inl v2), none, none, none, some (.inl v6), some (.inr (.inr (some (9998, k7)))), none, none, some (.inl v10), some (.inl v11), some (.inl s0), some (.inl (v13 + (1 : Int32)))] (sk_td o_L_staffed 219 rfl) rfl rfl rfl rfl (Nat.le_of_ble_eq_true rfl) rfl ?_
  refine sg_goto 354 (sk_td o_L_staffed 220 rfl) (by decide) ?_
  exact hrec354 (d, x, v2, v6, k7, v10, v11, s0, (v13 + (1 : Int32))) _ hq hI
def q_L_staffed_376 (rec341 : (sk_D × sk_X × Int32 × Int32 × Nat × Int32 × Int32) → Option (Int32 × sk_D × sk_X)) (rec354 : (sk_D × sk_X × Int32 × Int32 × Nat × Int32 × Int32 × Int32 × Int32) → Option (Int32 × sk_D × sk_X)) (L : Nat) (xs : Nat → Int32) (x0 : Nat) (d : sk_D) (x : sk_X) (v2 : Int32) (v6 : Int32) (k7 : Nat) (v10 : Int32) (v11 : Int32) (v13 : Int32) : Option (Int32 × sk_D × sk_X) :=
  (q_L_staffed_381 rec341 rec354 L xs x0 d x v2 v6 k7 v10 v11 v13 (1 : Int32))
set_option maxRecDepth 100000 in
set_option maxHeartbeats 4000000 in
theorem t_L_staffed_376 {l : Launch} {rec341 : (sk_D × sk_X × Int32 × Int32 × Nat × Int32 × Int32) → Option (Int32 × sk_D × sk_X)} {rec354 : (sk_D × sk_X × Int32 × Int32 × Nat × Int32 × Int32 × Int32 × Int32) → Option (Int32 × sk_D × sk_X)} {L : Nat} {xs : Nat → Int32} {x0 : Nat} {d : sk_D} {x : sk_X} {v2 : Int32} {v6 : Int32} {k7 : Nat} {v10 : Int32} {v11 : Int32} {v13 : Int32} (hrec341 : ∀ (a : (sk_D × sk_X × Int32 × Int32 × Nat × Int32 × Int32)) (res : Int32 × sk_D × sk_X), rec341 a = some res → (x0 ≤ a.2.1.1 ∧ a.2.1.1 ≤ x0 + 3) → sx_G l (sk_rm 14 3 192) m_L_staffed sx_T (sx_Zm m_L_staffed (some (.inl res.1)) res.2.1 res.2.2) a.2.1 L xs (0 + (a.2.1.1 - x0)) (0 + 64 * (a.2.1.1 - x0)) 341 [some (.inr (.inr (some (0, 0)))), none, some (.inl a.2.2.1), none, none, none, some (.inl a.2.2.2.1), some (.inr (.inr (some (9998, a.2.2.2.2.1)))), none, none, some (.inl a.2.2.2.2.2.1), some (.inl a.2.2.2.2.2.2), none, none] [] a.1) (hrec354 : ∀ (a : (sk_D × sk_X × Int32 × Int32 × Nat × Int32 × Int32 × Int32 × Int32)) (res : Int32 × sk_D × sk_X), rec354 a = some res → (x0 ≤ a.2.1.1 ∧ a.2.1.1 ≤ x0 + 3) → sx_G l (sk_rm 14 3 192) m_L_staffed sx_T (sx_Zm m_L_staffed (some (.inl res.1)) res.2.1 res.2.2) a.2.1 L xs (0 + (a.2.1.1 - x0)) (0 + 64 * (a.2.1.1 - x0)) 354 [some (.inr (.inr (some (0, 0)))), none, some (.inl a.2.2.1), none, none, none, some (.inl a.2.2.2.1), some (.inr (.inr (some (9998, a.2.2.2.2.1)))), none, none, some (.inl a.2.2.2.2.2.1), some (.inl a.2.2.2.2.2.2.1), some (.inl a.2.2.2.2.2.2.2.1), some (.inl a.2.2.2.2.2.2.2.2)] [] a.1) {res : Int32 × sk_D × sk_X} (hq : q_L_staffed_376 rec341 rec354 L xs x0 d x v2 v6 k7 v10 v11 v13 = some res) (hI : (x0 ≤ x.1 ∧ x.1 ≤ x0 + 3)) :
    sx_G l (sk_rm 14 3 192) m_L_staffed sx_T (sx_Zm m_L_staffed (some (.inl res.1)) res.2.1 res.2.2) x L xs (0 + (x.1 - x0)) (0 + 64 * (x.1 - x0)) 376 [some (.inr (.inr (some (0, 0)))), none, some (.inl v2), none, none, none, some (.inl v6), some (.inr (.inr (some (9998, k7)))), none, none, some (.inl v10), some (.inl v11), none, some (.inl v13)] [] d := by
  unfold q_L_staffed_376 at hq
  refine sg_iconst (v := (1 : Int32)) 377 (sk_td o_L_staffed 215 rfl) rfl (by decide) ?_
  refine sg_goto 381 (sk_td o_L_staffed 216 rfl) (by decide) ?_
  exact t_L_staffed_381 hrec341 hrec354 hq hI
def q_L_staffed_354 (rec341 : (sk_D × sk_X × Int32 × Int32 × Nat × Int32 × Int32) → Option (Int32 × sk_D × sk_X)) (rec354 : (sk_D × sk_X × Int32 × Int32 × Nat × Int32 × Int32 × Int32 × Int32) → Option (Int32 × sk_D × sk_X)) (L : Nat) (xs : Nat → Int32) (x0 : Nat) (d : sk_D) (x : sk_X) (v2 : Int32) (v6 : Int32) (k7 : Nat) (v10 : Int32) (v11 : Int32) (v12 : Int32) (v13 : Int32) : Option (Int32 × sk_D × sk_X) :=
  if v2 ≤ v13 then (q_X8_earnings d v11).bind fun y1 => if v12 = 0 then (q_L_staffed_416 rec341 L xs x0 d x v2 v6 k7 v10 v11 y1 (0 : Int32)) else if xb x k7 (((4 : Int32) * v11) + (3 : Int32)) = true then (q_L_staffed_416 rec341 L xs x0 d x v2 v6 k7 v10 v11 y1 (v10 * (x.2.2 k7 (((4 : Int32) * v11) + (3 : Int32)).toNatClampNeg))) else none else if v12 = 0 then (q_X8_instructor d v13).bind fun y3 => if y3 = v11 then (q_L_staffed_376 rec341 rec354 L xs x0 d x v2 v6 k7 v10 v11 v13) else (q_L_staffed_381 rec341 rec354 L xs x0 d x v2 v6 k7 v10 v11 v13 (0 : Int32)) else (q_L_staffed_376 rec341 rec354 L xs x0 d x v2 v6 k7 v10 v11 v13)
set_option maxRecDepth 100000 in
set_option maxHeartbeats 4000000 in
theorem t_L_staffed_354 {l : Launch} {rec341 : (sk_D × sk_X × Int32 × Int32 × Nat × Int32 × Int32) → Option (Int32 × sk_D × sk_X)} {rec354 : (sk_D × sk_X × Int32 × Int32 × Nat × Int32 × Int32 × Int32 × Int32) → Option (Int32 × sk_D × sk_X)} {L : Nat} {xs : Nat → Int32} {x0 : Nat} {d : sk_D} {x : sk_X} {v2 : Int32} {v6 : Int32} {k7 : Nat} {v10 : Int32} {v11 : Int32} {v12 : Int32} {v13 : Int32} (hrec341 : ∀ (a : (sk_D × sk_X × Int32 × Int32 × Nat × Int32 × Int32)) (res : Int32 × sk_D × sk_X), rec341 a = some res → (x0 ≤ a.2.1.1 ∧ a.2.1.1 ≤ x0 + 3) → sx_G l (sk_rm 14 3 192) m_L_staffed sx_T (sx_Zm m_L_staffed (some (.inl res.1)) res.2.1 res.2.2) a.2.1 L xs (0 + (a.2.1.1 - x0)) (0 + 64 * (a.2.1.1 - x0)) 341 [some (.inr (.inr (some (0, 0)))), none, some (.inl a.2.2.1), none, none, none, some (.inl a.2.2.2.1), some (.inr (.inr (some (9998, a.2.2.2.2.1)))), none, none, some (.inl a.2.2.2.2.2.1), some (.inl a.2.2.2.2.2.2), none, none] [] a.1) (hrec354 : ∀ (a : (sk_D × sk_X × Int32 × Int32 × Nat × Int32 × Int32 × Int32 × Int32)) (res : Int32 × sk_D × sk_X), rec354 a = some res → (x0 ≤ a.2.1.1 ∧ a.2.1.1 ≤ x0 + 3) → sx_G l (sk_rm 14 3 192) m_L_staffed sx_T (sx_Zm m_L_staffed (some (.inl res.1)) res.2.1 res.2.2) a.2.1 L xs (0 + (a.2.1.1 - x0)) (0 + 64 * (a.2.1.1 - x0)) 354 [some (.inr (.inr (some (0, 0)))), none, some (.inl a.2.2.1), none, none, none, some (.inl a.2.2.2.1), some (.inr (.inr (some (9998, a.2.2.2.2.1)))), none, none, some (.inl a.2.2.2.2.2.1), some (.inl a.2.2.2.2.2.2.1), some (.inl a.2.2.2.2.2.2.2.1), some (.inl a.2.2.2.2.2.2.2.2)] [] a.1) {res : Int32 × sk_D × sk_X} (hq : q_L_staffed_354 rec341 rec354 L xs x0 d x v2 v6 k7 v10 v11 v12 v13 = some res) (hI : (x0 ≤ x.1 ∧ x.1 ≤ x0 + 3)) :
    sx_G l (sk_rm 14 3 192) m_L_staffed sx_T (sx_Zm m_L_staffed (some (.inl res.1)) res.2.1 res.2.2) x L xs (0 + (x.1 - x0)) (0 + 64 * (x.1 - x0)) 354 [some (.inr (.inr (some (0, 0)))), none, some (.inl v2), none, none, none, some (.inl v6), some (.inr (.inr (some (9998, k7)))), none, none, some (.inl v10), some (.inl v11), some (.inl v12), some (.inl v13)] [] d := by
  unfold q_L_staffed_354 at hq
  refine sg_iload 356 (sk_td o_L_staffed 205 rfl) rfl rfl ?_
  refine sg_iload_n 357 (sk_td o_L_staffed 206 rfl) rfl rfl ?_
  refine sg_ic_ge 389 360 (sk_td o_L_staffed 207 rfl) (by decide) rfl (fun hc => ?_) (fun hc => ?_)
  · rw [if_pos hc] at hq
    refine sg_aload_n 390 (sk_td o_L_staffed 221 rfl) rfl rfl ?_
    refine sg_iload 392 (sk_td o_L_staffed 222 rfl) rfl rfl ?_
    obtain ⟨y1, hr_y1, hq⟩ := sk_bnd hq
    refine sm_callL1i 395 (s_X8_earnings hr_y1) (sk_td o_L_staffed 223 rfl) rfl lv_L_96 rfl rfl rfl sz_0 (sx_rk hI (Nat.le_of_ble_eq_true rfl) (Nat.le_of_ble_eq_true rfl) (Nat.le_of_ble_eq_true rfl) (Nat.le_of_ble_eq_true rfl) rfl) (Nat.le_of_ble_eq_true rfl) ?_
    refine sg_iload 397 (sk_td o_L_staffed 224 rfl) rfl rfl ?_
    refine sg_if_eq 415 400 (sk_td o_L_staffed 225 rfl) (by decide) rfl (fun hc => ?_) (fun hc => ?_)
    · rw [if_pos hc] at hq
      refine sg_iconst (v := (0 : Int32)) 416 (sk_td o_L_staffed 236 rfl) rfl (by decide) ?_
      refine sx_wk [true, true, true, true, true, true, true, true, true, true, true, true, false, false] (ls' := [some (.inr (.inr (some (0, 0)))), none, some (.inl v2), none, none, none, some (.inl v6), some (.inr (.inr (some (9998, k7)))), none, none, some (.inl v10), some (.inl v11), none, none]) rfl ?_
      exact t_L_staffed_416 hrec341 hq hI
    · rw [if_neg hc] at hq
      refine sg_iload 402 (sk_td o_L_staffed 226 rfl) rfl rfl ?_
      refine sg_aload 404 (sk_td o_L_staffed 227 rfl) rfl rfl ?_
      refine sg_iconst (v := (4 : Int32)) 405 (sk_td o_L_staffed 228 rfl) rfl (by decide) ?_
      refine sg_iload 407 (sk_td o_L_staffed 229 rfl) rfl rfl ?_
      refine sg_imul 408 (sk_td o_L_staffed 230 rfl) rfl ?_
      refine sg_iconst (v := (3 : Int32)) 409 (sk_td o_L_staffed 231 rfl) rfl (by decide) ?_
      refine sg_iadd 410 (sk_td o_L_staffed 232 rfl) rfl ?_
      obtain ⟨hb2, hq⟩ := sk_ifn hq
      refine sx_ld 411 (sk_td o_L_staffed 233 rfl) rfl hb2 ?_
      refine sg_imul 412 (sk_td o_L_staffed 234 rfl) rfl ?_
      refine sg_goto 416 (sk_td o_L_staffed 235 rfl) (by decide) ?_
      refine sx_wk [true, true, true, true, true, true, true, true, true, true, true, true, false, false] (ls' := [some (.inr (.inr (some (0, 0)))), none, some (.inl v2), none, none, none, some (.inl v6), some (.inr (.inr (some (9998, k7)))), none, none, some (.inl v10), some (.inl v11), none, none]) rfl ?_
      exact t_L_staffed_416 hrec341 hq hI
  · rw [if_neg hc] at hq
    refine sg_iload 362 (sk_td o_L_staffed 208 rfl) rfl rfl ?_
    refine sg_if_ne 376 365 (sk_td o_L_staffed 209 rfl) (by decide) rfl (fun hc => ?_) (fun hc => ?_)
    · rw [if_neg hc] at hq
      refine sx_wk [true, true, true, true, true, true, true, true, true, true, true, true, false, true] (ls' := [some (.inr (.inr (some (0, 0)))), none, some (.inl v2), none, none, none, some (.inl v6), some (.inr (.inr (some (9998, k7)))), none, none, some (.inl v10), some (.inl v11), none, some (.inl v13)]) rfl ?_
      exact t_L_staffed_376 hrec341 hrec354 hq hI
    · rw [if_pos hc] at hq
      refine sg_aload_n 366 (sk_td o_L_staffed 210 rfl) rfl rfl ?_
      refine sg_iload 368 (sk_td o_L_staffed 211 rfl) rfl rfl ?_
      obtain ⟨y3, hr_y3, hq⟩ := sk_bnd hq
      refine sm_callL1i 371 (s_X8_instructor hr_y3) (sk_td o_L_staffed 212 rfl) rfl lv_L_90 rfl rfl rfl sz_0 (sx_rk hI (Nat.le_of_ble_eq_true rfl) (Nat.le_of_ble_eq_true rfl) (Nat.le_of_ble_eq_true rfl) (Nat.le_of_ble_eq_true rfl) rfl) (Nat.le_of_ble_eq_true rfl) ?_
      refine sg_iload 373 (sk_td o_L_staffed 213 rfl) rfl rfl ?_
      refine sg_ic_ne 380 376 (sk_td o_L_staffed 214 rfl) (by decide) rfl (fun hc => ?_) (fun hc => ?_)
      · rw [if_neg hc] at hq
        refine sg_iconst (v := (0 : Int32)) 381 (sk_td o_L_staffed 217 rfl) rfl (by decide) ?_
        refine sx_wk [true, true, true, true, true, true, true, true, true, true, true, true, false, true] (ls' := [some (.inr (.inr (some (0, 0)))), none, some (.inl v2), none, none, none, some (.inl v6), some (.inr (.inr (some (9998, k7)))), none, none, some (.inl v10), some (.inl v11), none, some (.inl v13)]) rfl ?_
        exact t_L_staffed_381 hrec341 hrec354 hq hI
      · rw [if_pos hc] at hq
        refine sx_wk [true, true, true, true, true, true, true, true, true, true, true, true, false, true] (ls' := [some (.inr (.inr (some (0, 0)))), none, some (.inl v2), none, none, none, some (.inl v6), some (.inr (.inr (some (9998, k7)))), none, none, some (.inl v10), some (.inl v11), none, some (.inl v13)]) rfl ?_
        exact t_L_staffed_376 hrec341 hrec354 hq hI
def l_L_staffed_354 (rec341 : (sk_D × sk_X × Int32 × Int32 × Nat × Int32 × Int32) → Option (Int32 × sk_D × sk_X)) (L : Nat) (xs : Nat → Int32) (x0 : Nat) (fl : Nat) (a : (sk_D × sk_X × Int32 × Int32 × Nat × Int32 × Int32 × Int32 × Int32)) : Option (Int32 × sk_D × sk_X) := sk_it (fun rec354 a => q_L_staffed_354 rec341 rec354 L xs x0 a.1 a.2.1 a.2.2.1 a.2.2.2.1 a.2.2.2.2.1 a.2.2.2.2.2.1 a.2.2.2.2.2.2.1 a.2.2.2.2.2.2.2.1 a.2.2.2.2.2.2.2.2) fl a
theorem lt_L_staffed_354 {l : Launch} {L : Nat} {xs : Nat → Int32} {x0 : Nat} {rec341 : (sk_D × sk_X × Int32 × Int32 × Nat × Int32 × Int32) → Option (Int32 × sk_D × sk_X)} (hrec341 : ∀ (a : (sk_D × sk_X × Int32 × Int32 × Nat × Int32 × Int32)) (res : Int32 × sk_D × sk_X), rec341 a = some res → (x0 ≤ a.2.1.1 ∧ a.2.1.1 ≤ x0 + 3) → sx_G l (sk_rm 14 3 192) m_L_staffed sx_T (sx_Zm m_L_staffed (some (.inl res.1)) res.2.1 res.2.2) a.2.1 L xs (0 + (a.2.1.1 - x0)) (0 + 64 * (a.2.1.1 - x0)) 341 [some (.inr (.inr (some (0, 0)))), none, some (.inl a.2.2.1), none, none, none, some (.inl a.2.2.2.1), some (.inr (.inr (some (9998, a.2.2.2.2.1)))), none, none, some (.inl a.2.2.2.2.2.1), some (.inl a.2.2.2.2.2.2), none, none] [] a.1) : ∀ (fl : Nat) (a : (sk_D × sk_X × Int32 × Int32 × Nat × Int32 × Int32 × Int32 × Int32)) (res : Int32 × sk_D × sk_X), l_L_staffed_354 rec341 L xs x0 fl a = some res → (x0 ≤ a.2.1.1 ∧ a.2.1.1 ≤ x0 + 3) → sx_G l (sk_rm 14 3 192) m_L_staffed sx_T (sx_Zm m_L_staffed (some (.inl res.1)) res.2.1 res.2.2) a.2.1 L xs (0 + (a.2.1.1 - x0)) (0 + 64 * (a.2.1.1 - x0)) 354 [some (.inr (.inr (some (0, 0)))), none, some (.inl a.2.2.1), none, none, none, some (.inl a.2.2.2.1), some (.inr (.inr (some (9998, a.2.2.2.2.1)))), none, none, some (.inl a.2.2.2.2.2.1), some (.inl a.2.2.2.2.2.2.1), some (.inl a.2.2.2.2.2.2.2.1), some (.inl a.2.2.2.2.2.2.2.2)] [] a.1 :=
  sk_it_ind (P := fun (a : (sk_D × sk_X × Int32 × Int32 × Nat × Int32 × Int32 × Int32 × Int32)) (res : Int32 × sk_D × sk_X) => (x0 ≤ a.2.1.1 ∧ a.2.1.1 ≤ x0 + 3) → sx_G l (sk_rm 14 3 192) m_L_staffed sx_T (sx_Zm m_L_staffed (some (.inl res.1)) res.2.1 res.2.2) a.2.1 L xs (0 + (a.2.1.1 - x0)) (0 + 64 * (a.2.1.1 - x0)) 354 [some (.inr (.inr (some (0, 0)))), none, some (.inl a.2.2.1), none, none, none, some (.inl a.2.2.2.1), some (.inr (.inr (some (9998, a.2.2.2.2.1)))), none, none, some (.inl a.2.2.2.2.2.1), some (.inl a.2.2.2.2.2.2.1), some (.inl a.2.2.2.2.2.2.2.1), some (.inl a.2.2.2.2.2.2.2.2)] [] a.1) (fun rec354 hrec354 a res hq hI => t_L_staffed_354 hrec341 hrec354 hq hI)
def q_L_staffed_341 (rec341 : (sk_D × sk_X × Int32 × Int32 × Nat × Int32 × Int32) → Option (Int32 × sk_D × sk_X)) (L : Nat) (xs : Nat → Int32) (x0 : Nat) (d : sk_D) (x : sk_X) (v2 : Int32) (v6 : Int32) (k7 : Nat) (v10 : Int32) (v11 : Int32) : Option (Int32 × sk_D × sk_X) :=
  if v6 ≤ v11 then some ((1 : Int32), d, x) else (l_L_staffed_354 rec341 L xs x0 sk_fu (d, x, v2, v6, k7, v10, v11, (0 : Int32), (0 : Int32)))
set_option maxRecDepth 100000 in
set_option maxHeartbeats 4000000 in
theorem t_L_staffed_341 {l : Launch} {rec341 : (sk_D × sk_X × Int32 × Int32 × Nat × Int32 × Int32) → Option (Int32 × sk_D × sk_X)} {L : Nat} {xs : Nat → Int32} {x0 : Nat} {d : sk_D} {x : sk_X} {v2 : Int32} {v6 : Int32} {k7 : Nat} {v10 : Int32} {v11 : Int32} (hrec341 : ∀ (a : (sk_D × sk_X × Int32 × Int32 × Nat × Int32 × Int32)) (res : Int32 × sk_D × sk_X), rec341 a = some res → (x0 ≤ a.2.1.1 ∧ a.2.1.1 ≤ x0 + 3) → sx_G l (sk_rm 14 3 192) m_L_staffed sx_T (sx_Zm m_L_staffed (some (.inl res.1)) res.2.1 res.2.2) a.2.1 L xs (0 + (a.2.1.1 - x0)) (0 + 64 * (a.2.1.1 - x0)) 341 [some (.inr (.inr (some (0, 0)))), none, some (.inl a.2.2.1), none, none, none, some (.inl a.2.2.2.1), some (.inr (.inr (some (9998, a.2.2.2.2.1)))), none, none, some (.inl a.2.2.2.2.2.1), some (.inl a.2.2.2.2.2.2), none, none] [] a.1) {res : Int32 × sk_D × sk_X} (hq : q_L_staffed_341 rec341 L xs x0 d x v2 v6 k7 v10 v11 = some res) (hI : (x0 ≤ x.1 ∧ x.1 ≤ x0 + 3)) :
    sx_G l (sk_rm 14 3 192) m_L_staffed sx_T (sx_Zm m_L_staffed (some (.inl res.1)) res.2.1 res.2.2) x L xs (0 + (x.1 - x0)) (0 + 64 * (x.1 - x0)) 341 [some (.inr (.inr (some (0, 0)))), none, some (.inl v2), none, none, none, some (.inl v6), some (.inr (.inr (some (9998, k7)))), none, none, some (.inl v10), some (.inl v11), none, none] [] d := by
  unfold q_L_staffed_341 at hq
  refine sg_iload 343 (sk_td o_L_staffed 198 rfl) rfl rfl ?_
  refine sg_iload 345 (sk_td o_L_staffed 199 rfl) rfl rfl ?_
  refine sg_ic_ge 427 348 (sk_td o_L_staffed 200 rfl) (by decide) rfl (fun hc => ?_) (fun hc => ?_)
  · rw [if_pos hc] at hq
    refine sg_iconst (v := (1 : Int32)) 428 (sk_td o_L_staffed 242 rfl) rfl (by decide) ?_
    obtain rfl := Option.some.inj hq
    exact sx_iret rfl (sk_td o_L_staffed 243 rfl) rfl (show narrow .boolean (.int (1 : Int32)) = .int (1 : Int32) by decide) (sx_l1 hI) (sx_l2 hI)
  · rw [if_neg hc] at hq
    refine sg_iconst (v := (0 : Int32)) 349 (sk_td o_L_staffed 201 rfl) rfl (by decide) ?_
    refine sg_istore 351 [some (.inr (.inr (some (0, 0)))), none, some (.inl v2), none, none, none, some (.inl v6), some (.inr (.inr (some (9998, k7)))), none, none, some (.inl v10), some (.inl v11), some (.inl (0 : Int32)), none] (sk_td o_L_staffed 202 rfl) rfl rfl (Nat.le_of_ble_eq_true rfl) rfl ?_
    refine sg_iconst (v := (0 : Int32)) 352 (sk_td o_L_staffed 203 rfl) rfl (by decide) ?_
    refine sg_istore 354 [some (.inr (.inr (some (0, 0)))), none, some (.inl v2), none, none, none, some (.inl v6), some (.inr (.inr (some (9998, k7)))), none, none, some (.inl v10), some (.inl v11), some (.inl (0 : Int32)), some (.inl (0 : Int32))] (sk_td o_L_staffed 204 rfl) rfl rfl (Nat.le_of_ble_eq_true rfl) rfl ?_
    exact lt_L_staffed_354 hrec341 sk_fu (d, x, v2, v6, k7, v10, v11, (0 : Int32), (0 : Int32)) _ hq hI
def l_L_staffed_341 (L : Nat) (xs : Nat → Int32) (x0 : Nat) (fl : Nat) (a : (sk_D × sk_X × Int32 × Int32 × Nat × Int32 × Int32)) : Option (Int32 × sk_D × sk_X) := sk_it (fun rec341 a => q_L_staffed_341 rec341 L xs x0 a.1 a.2.1 a.2.2.1 a.2.2.2.1 a.2.2.2.2.1 a.2.2.2.2.2.1 a.2.2.2.2.2.2) fl a
theorem lt_L_staffed_341 {l : Launch} {L : Nat} {xs : Nat → Int32} {x0 : Nat} : ∀ (fl : Nat) (a : (sk_D × sk_X × Int32 × Int32 × Nat × Int32 × Int32)) (res : Int32 × sk_D × sk_X), l_L_staffed_341 L xs x0 fl a = some res → (x0 ≤ a.2.1.1 ∧ a.2.1.1 ≤ x0 + 3) → sx_G l (sk_rm 14 3 192) m_L_staffed sx_T (sx_Zm m_L_staffed (some (.inl res.1)) res.2.1 res.2.2) a.2.1 L xs (0 + (a.2.1.1 - x0)) (0 + 64 * (a.2.1.1 - x0)) 341 [some (.inr (.inr (some (0, 0)))), none, some (.inl a.2.2.1), none, none, none, some (.inl a.2.2.2.1), some (.inr (.inr (some (9998, a.2.2.2.2.1)))), none, none, some (.inl a.2.2.2.2.2.1), some (.inl a.2.2.2.2.2.2), none, none] [] a.1 :=
  sk_it_ind (P := fun (a : (sk_D × sk_X × Int32 × Int32 × Nat × Int32 × Int32)) (res : Int32 × sk_D × sk_X) => (x0 ≤ a.2.1.1 ∧ a.2.1.1 ≤ x0 + 3) → sx_G l (sk_rm 14 3 192) m_L_staffed sx_T (sx_Zm m_L_staffed (some (.inl res.1)) res.2.1 res.2.2) a.2.1 L xs (0 + (a.2.1.1 - x0)) (0 + 64 * (a.2.1.1 - x0)) 341 [some (.inr (.inr (some (0, 0)))), none, some (.inl a.2.2.1), none, none, none, some (.inl a.2.2.2.1), some (.inr (.inr (some (9998, a.2.2.2.2.1)))), none, none, some (.inl a.2.2.2.2.2.1), some (.inl a.2.2.2.2.2.2), none, none] [] a.1) (fun rec341 hrec341 a res hq hI => t_L_staffed_341 hrec341 hq hI)
def q_L_staffed_333 (L : Nat) (xs : Nat → Int32) (x0 : Nat) (d : sk_D) (x : sk_X) (v2 : Int32) (v6 : Int32) (k7 : Nat) (v10 : Int32) (s0 : Int32) (s1 : Int32) : Option (Int32 × sk_D × sk_X) :=
  if s0 = s1 then (l_L_staffed_341 L xs x0 sk_fu (d, x, v2, v6, k7, v10, (0 : Int32))) else some ((0 : Int32), d, x)
set_option maxRecDepth 100000 in
set_option maxHeartbeats 4000000 in
theorem t_L_staffed_333 {l : Launch} {L : Nat} {xs : Nat → Int32} {x0 : Nat} {d : sk_D} {x : sk_X} {v2 : Int32} {v6 : Int32} {k7 : Nat} {v10 : Int32} {s0 : Int32} {s1 : Int32} {res : Int32 × sk_D × sk_X} (hq : q_L_staffed_333 L xs x0 d x v2 v6 k7 v10 s0 s1 = some res) (hI : (x0 ≤ x.1 ∧ x.1 ≤ x0 + 3)) :
    sx_G l (sk_rm 14 3 192) m_L_staffed sx_T (sx_Zm m_L_staffed (some (.inl res.1)) res.2.1 res.2.2) x L xs (0 + (x.1 - x0)) (0 + 64 * (x.1 - x0)) 333 [some (.inr (.inr (some (0, 0)))), none, some (.inl v2), none, none, none, some (.inl v6), some (.inr (.inr (some (9998, k7)))), none, none, some (.inl v10), none, none, none] [.inl s1, .inl s0] d := by
  unfold q_L_staffed_333 at hq
  refine sg_ic_eq 338 336 (sk_td o_L_staffed 193 rfl) (by decide) rfl (fun hc => ?_) (fun hc => ?_)
  · rw [if_pos hc] at hq
    refine sg_iconst (v := (0 : Int32)) 339 (sk_td o_L_staffed 196 rfl) rfl (by decide) ?_
    refine sg_istore 341 [some (.inr (.inr (some (0, 0)))), none, some (.inl v2), none, none, none, some (.inl v6), some (.inr (.inr (some (9998, k7)))), none, none, some (.inl v10), some (.inl (0 : Int32)), none, none] (sk_td o_L_staffed 197 rfl) rfl rfl (Nat.le_of_ble_eq_true rfl) rfl ?_
    exact lt_L_staffed_341 sk_fu (d, x, v2, v6, k7, v10, (0 : Int32)) _ hq hI
  · rw [if_neg hc] at hq
    refine sg_iconst (v := (0 : Int32)) 337 (sk_td o_L_staffed 194 rfl) rfl (by decide) ?_
    obtain rfl := Option.some.inj hq
    exact sx_iret rfl (sk_td o_L_staffed 195 rfl) rfl (show narrow .boolean (.int (0 : Int32)) = .int (0 : Int32) by decide) (sx_l1 hI) (sx_l2 hI)
def q_L_staffed_290 (rec215 : (sk_D × sk_X × Int32 × Nat × Nat × Int32 × Nat × Nat × Int32 × Int32) → Option (Int32 × sk_D × sk_X)) (L : Nat) (xs : Nat → Int32) (x0 : Nat) (d : sk_D) (x : sk_X) (v2 : Int32) (k4 : Nat) (k5 : Nat) (v6 : Int32) (k7 : Nat) (k8 : Nat) (v9 : Int32) (v10 : Int32) (h0 : Nat) (s1 : Int32) (s2 : Int32) (s3 : Int32) : Option (Int32 × sk_D × sk_X) :=
  if xb x h0 s1 = true then (rec215 (d, (xw x h0 s1.toNatClampNeg (s2 + s3)), v2, k4, k5, v6, k7, k8, v9, (v10 + (1 : Int32)))) else none
set_option maxRecDepth 100000 in
set_option maxHeartbeats 4000000 in
theorem t_L_staffed_290 {l : Launch} {rec215 : (sk_D × sk_X × Int32 × Nat × Nat × Int32 × Nat × Nat × Int32 × Int32) → Option (Int32 × sk_D × sk_X)} {L : Nat} {xs : Nat → Int32} {x0 : Nat} {d : sk_D} {x : sk_X} {v2 : Int32} {k4 : Nat} {k5 : Nat} {v6 : Int32} {k7 : Nat} {k8 : Nat} {v9 : Int32} {v10 : Int32} {h0 : Nat} {s1 : Int32} {s2 : Int32} {s3 : Int32} (hrec215 : ∀ (a : (sk_D × sk_X × Int32 × Nat × Nat × Int32 × Nat × Nat × Int32 × Int32)) (res : Int32 × sk_D × sk_X), rec215 a = some res → (x0 ≤ a.2.1.1 ∧ a.2.1.1 ≤ x0 + 3) → sx_G l (sk_rm 14 3 192) m_L_staffed sx_T (sx_Zm m_L_staffed (some (.inl res.1)) res.2.1 res.2.2) a.2.1 L xs (0 + (a.2.1.1 - x0)) (0 + 64 * (a.2.1.1 - x0)) 215 [some (.inr (.inr (some (0, 0)))), some (.inr (.inr (some (9999, 0)))), some (.inl a.2.2.1), none, some (.inr (.inr (some (9998, a.2.2.2.1)))), some (.inr (.inr (some (9998, a.2.2.2.2.1)))), some (.inl a.2.2.2.2.2.1), some (.inr (.inr (some (9998, a.2.2.2.2.2.2.1)))), some (.inr (.inr (some (9998, a.2.2.2.2.2.2.2.1)))), some (.inl a.2.2.2.2.2.2.2.2.1), some (.inl a.2.2.2.2.2.2.2.2.2), none, none, none] [] a.1) {res : Int32 × sk_D × sk_X} (hq : q_L_staffed_290 rec215 L xs x0 d x v2 k4 k5 v6 k7 k8 v9 v10 h0 s1 s2 s3 = some res) (hI : (x0 ≤ x.1 ∧ x.1 ≤ x0 + 3)) :
    sx_G l (sk_rm 14 3 192) m_L_staffed sx_T (sx_Zm m_L_staffed (some (.inl res.1)) res.2.1 res.2.2) x L xs (0 + (x.1 - x0)) (0 + 64 * (x.1 - x0)) 290 [some (.inr (.inr (some (0, 0)))), some (.inr (.inr (some (9999, 0)))), some (.inl v2), none, some (.inr (.inr (some (9998, k4)))), some (.inr (.inr (some (9998, k5)))), some (.inl v6), some (.inr (.inr (some (9998, k7)))), some (.inr (.inr (some (9998, k8)))), some (.inl v9), some (.inl v10), none, none, none] [.inl s3, .inl s2, .inl s1, .inr (.inr (some (9998, h0)))] d := by
  unfold q_L_staffed_290 at hq
  refine sg_iadd 291 (sk_td o_L_staffed 171 rfl) rfl ?_
  obtain ⟨hb1, hq⟩ := sk_ifn hq
  refine sx_st 292 (sk_td o_L_staffed 172 rfl) rfl hb1 ?_
  refine sg_iinc (v10 + (1 : Int32)) 295 [some (.inr (.inr (some (0, 0)))), some (.inr (.inr (some (9999, 0)))), some (.inl v2), none, some (.inr (.inr (some (9998, k4)))), some (.inr (.inr (some (9998, k5)))), some (.inl v6), some (.inr (.inr (some (9998, k7)))), some (.inr (.inr (some (9998, k8)))), some (.inl v9), some (.inl (v10 + (1 : Int32))), none, none, none] (sk_td o_L_staffed 173 rfl) rfl rfl rfl rfl (Nat.le_of_ble_eq_true rfl) rfl ?_
  refine sg_goto 215 (sk_td o_L_staffed 174 rfl) (by decide) ?_
  exact hrec215 (d, (xw x h0 s1.toNatClampNeg (s2 + s3)), v2, k4, k5, v6, k7, k8, v9, (v10 + (1 : Int32))) _ hq hI
def q_L_staffed_285 (rec215 : (sk_D × sk_X × Int32 × Nat × Nat × Int32 × Nat × Nat × Int32 × Int32) → Option (Int32 × sk_D × sk_X)) (L : Nat) (xs : Nat → Int32) (x0 : Nat) (d : sk_D) (x : sk_X) (v2 : Int32) (k4 : Nat) (k5 : Nat) (v6 : Int32) (k7 : Nat) (k8 : Nat) (v9 : Int32) (v10 : Int32) (h0 : Nat) (s1 : Int32) (s2 : Int32) : Option (Int32 × sk_D × sk_X) :=
  (q_L_staffed_290 rec215 L xs x0 d x v2 k4 k5 v6 k7 k8 v9 v10 h0 s1 s2 (0 : Int32))
set_option maxRecDepth 100000 in
set_option maxHeartbeats 4000000 in
theorem t_L_staffed_285 {l : Launch} {rec215 : (sk_D × sk_X × Int32 × Nat × Nat × Int32 × Nat × Nat × Int32 × Int32) → Option (Int32 × sk_D × sk_X)} {L : Nat} {xs : Nat → Int32} {x0 : Nat} {d : sk_D} {x : sk_X} {v2 : Int32} {k4 : Nat} {k5 : Nat} {v6 : Int32} {k7 : Nat} {k8 : Nat} {v9 : Int32} {v10 : Int32} {h0 : Nat} {s1 : Int32} {s2 : Int32} (hrec215 : ∀ (a : (sk_D × sk_X × Int32 × Nat × Nat × Int32 × Nat × Nat × Int32 × Int32)) (res : Int32 × sk_D × sk_X), rec215 a = some res → (x0 ≤ a.2.1.1 ∧ a.2.1.1 ≤ x0 + 3) → sx_G l (sk_rm 14 3 192) m_L_staffed sx_T (sx_Zm m_L_staffed (some (.inl res.1)) res.2.1 res.2.2) a.2.1 L xs (0 + (a.2.1.1 - x0)) (0 + 64 * (a.2.1.1 - x0)) 215 [some (.inr (.inr (some (0, 0)))), some (.inr (.inr (some (9999, 0)))), some (.inl a.2.2.1), none, some (.inr (.inr (some (9998, a.2.2.2.1)))), some (.inr (.inr (some (9998, a.2.2.2.2.1)))), some (.inl a.2.2.2.2.2.1), some (.inr (.inr (some (9998, a.2.2.2.2.2.2.1)))), some (.inr (.inr (some (9998, a.2.2.2.2.2.2.2.1)))), some (.inl a.2.2.2.2.2.2.2.2.1), some (.inl a.2.2.2.2.2.2.2.2.2), none, none, none] [] a.1) {res : Int32 × sk_D × sk_X} (hq : q_L_staffed_285 rec215 L xs x0 d x v2 k4 k5 v6 k7 k8 v9 v10 h0 s1 s2 = some res) (hI : (x0 ≤ x.1 ∧ x.1 ≤ x0 + 3)) :
    sx_G l (sk_rm 14 3 192) m_L_staffed sx_T (sx_Zm m_L_staffed (some (.inl res.1)) res.2.1 res.2.2) x L xs (0 + (x.1 - x0)) (0 + 64 * (x.1 - x0)) 285 [some (.inr (.inr (some (0, 0)))), some (.inr (.inr (some (9999, 0)))), some (.inl v2), none, some (.inr (.inr (some (9998, k4)))), some (.inr (.inr (some (9998, k5)))), some (.inl v6), some (.inr (.inr (some (9998, k7)))), some (.inr (.inr (some (9998, k8)))), some (.inl v9), some (.inl v10), none, none, none] [.inl s2, .inl s1, .inr (.inr (some (9998, h0)))] d := by
  unfold q_L_staffed_285 at hq
  refine sg_iconst (v := (0 : Int32)) 286 (sk_td o_L_staffed 168 rfl) rfl (by decide) ?_
  refine sg_goto 290 (sk_td o_L_staffed 169 rfl) (by decide) ?_
  exact t_L_staffed_290 hrec215 hq hI
def q_L_staffed_246 (rec215 : (sk_D × sk_X × Int32 × Nat × Nat × Int32 × Nat × Nat × Int32 × Int32) → Option (Int32 × sk_D × sk_X)) (L : Nat) (xs : Nat → Int32) (x0 : Nat) (d : sk_D) (x : sk_X) (v2 : Int32) (k4 : Nat) (k5 : Nat) (v6 : Int32) (k7 : Nat) (k8 : Nat) (v9 : Int32) (v10 : Int32) (s0 : Int32) : Option (Int32 × sk_D × sk_X) :=
  (q_X8_instructor d v10).bind fun y1 => if y1 = s0 then if xb x k4 v10 = true then if s0 = (-9 : Int32) then (q_L_staffed_285 rec215 L xs x0 d x v2 k4 k5 v6 k7 k8 v9 v10 k5 v10 (x.2.2 k4 v10.toNatClampNeg)) else if xb x k4 v10 = true then if (x.2.2 k4 v10.toNatClampNeg) = 0 then (q_L_staffed_285 rec215 L xs x0 d x v2 k4 k5 v6 k7 k8 v9 v10 k5 v10 (x.2.2 k4 v10.toNatClampNeg)) else (q_L_staffed_290 rec215 L xs x0 d x v2 k4 k5 v6 k7 k8 v9 v10 k5 v10 (x.2.2 k4 v10.toNatClampNeg) (1 : Int32)) else none else none else some ((0 : Int32), d, x)
set_option maxRecDepth 100000 in
set_option maxHeartbeats 4000000 in
theorem t_L_staffed_246 {l : Launch} {rec215 : (sk_D × sk_X × Int32 × Nat × Nat × Int32 × Nat × Nat × Int32 × Int32) → Option (Int32 × sk_D × sk_X)} {L : Nat} {xs : Nat → Int32} {x0 : Nat} {d : sk_D} {x : sk_X} {v2 : Int32} {k4 : Nat} {k5 : Nat} {v6 : Int32} {k7 : Nat} {k8 : Nat} {v9 : Int32} {v10 : Int32} {s0 : Int32} (hrec215 : ∀ (a : (sk_D × sk_X × Int32 × Nat × Nat × Int32 × Nat × Nat × Int32 × Int32)) (res : Int32 × sk_D × sk_X), rec215 a = some res → (x0 ≤ a.2.1.1 ∧ a.2.1.1 ≤ x0 + 3) → sx_G l (sk_rm 14 3 192) m_L_staffed sx_T (sx_Zm m_L_staffed (some (.inl res.1)) res.2.1 res.2.2) a.2.1 L xs (0 + (a.2.1.1 - x0)) (0 + 64 * (a.2.1.1 - x0)) 215 [some (.inr (.inr (some (0, 0)))), some (.inr (.inr (some (9999, 0)))), some (.inl a.2.2.1), none, some (.inr (.inr (some (9998, a.2.2.2.1)))), some (.inr (.inr (some (9998, a.2.2.2.2.1)))), some (.inl a.2.2.2.2.2.1), some (.inr (.inr (some (9998, a.2.2.2.2.2.2.1)))), some (.inr (.inr (some (9998, a.2.2.2.2.2.2.2.1)))), some (.inl a.2.2.2.2.2.2.2.2.1), some (.inl a.2.2.2.2.2.2.2.2.2), none, none, none] [] a.1) {res : Int32 × sk_D × sk_X} (hq : q_L_staffed_246 rec215 L xs x0 d x v2 k4 k5 v6 k7 k8 v9 v10 s0 = some res) (hI : (x0 ≤ x.1 ∧ x.1 ≤ x0 + 3)) :
    sx_G l (sk_rm 14 3 192) m_L_staffed sx_T (sx_Zm m_L_staffed (some (.inl res.1)) res.2.1 res.2.2) x L xs (0 + (x.1 - x0)) (0 + 64 * (x.1 - x0)) 246 [some (.inr (.inr (some (0, 0)))), some (.inr (.inr (some (9999, 0)))), some (.inl v2), none, some (.inr (.inr (some (9998, k4)))), some (.inr (.inr (some (9998, k5)))), some (.inl v6), some (.inr (.inr (some (9998, k7)))), some (.inr (.inr (some (9998, k8)))), some (.inl v9), some (.inl v10), none, none, none] [.inl s0] d := by
  unfold q_L_staffed_246 at hq
  refine sg_istore 248 [some (.inr (.inr (some (0, 0)))), some (.inr (.inr (some (9999, 0)))), some (.inl v2), none, some (.inr (.inr (some (9998, k4)))), some (.inr (.inr (some (9998, k5)))), some (.inl v6), some (.inr (.inr (some (9998, k7)))), some (.inr (.inr (some (9998, k8)))), some (.inl v9), some (.inl v10), some (.inl s0), none, none] (sk_td o_L_staffed 148 rfl) rfl rfl (Nat.le_of_ble_eq_true rfl) rfl ?_
  refine sg_aload_n 249 (sk_td o_L_staffed 149 rfl) rfl rfl ?_
  refine sg_iload 251 (sk_td o_L_staffed 150 rfl) rfl rfl ?_
  obtain ⟨y1, hr_y1, hq⟩ := sk_bnd hq
  refine sm_callL1i 254 (s_X8_instructor hr_y1) (sk_td o_L_staffed 151 rfl) rfl lv_L_90 rfl rfl rfl sz_0 (sx_rk hI (Nat.le_of_ble_eq_true rfl) (Nat.le_of_ble_eq_true rfl) (Nat.le_of_ble_eq_true rfl) (Nat.le_of_ble_eq_true rfl) rfl) (Nat.le_of_ble_eq_true rfl) ?_
  refine sg_iload 256 (sk_td o_L_staffed 152 rfl) rfl rfl ?_
  refine sg_ic_eq 261 259 (sk_td o_L_staffed 153 rfl) (by decide) rfl (fun hc => ?_) (fun hc => ?_)
  · rw [if_pos hc] at hq
    refine sg_aload 263 (sk_td o_L_staffed 156 rfl) rfl rfl ?_
    refine sg_iload 265 (sk_td o_L_staffed 157 rfl) rfl rfl ?_
    refine sg_aload 267 (sk_td o_L_staffed 158 rfl) rfl rfl ?_
    refine sg_iload 269 (sk_td o_L_staffed 159 rfl) rfl rfl ?_
    obtain ⟨hb2, hq⟩ := sk_ifn hq
    refine sx_ld 270 (sk_td o_L_staffed 160 rfl) rfl hb2 ?_
    refine sg_iload 272 (sk_td o_L_staffed 161 rfl) rfl rfl ?_
    refine sg_bipush (v := (-9 : Int32)) 274 (sk_td o_L_staffed 162 rfl) rfl (by decide) ?_
    refine sg_ic_eq 285 277 (sk_td o_L_staffed 163 rfl) (by decide) rfl (fun hc => ?_) (fun hc => ?_)
    · rw [if_pos hc] at hq
      refine sx_wk [true, true, true, true, true, true, true, true, true, true, true, false, true, true] (ls' := [some (.inr (.inr (some (0, 0)))), some (.inr (.inr (some (9999, 0)))), some (.inl v2), none, some (.inr (.inr (some (9998, k4)))), some (.inr (.inr (some (9998, k5)))), some (.inl v6), some (.inr (.inr (some (9998, k7)))), some (.inr (.inr (some (9998, k8)))), some (.inl v9), some (.inl v10), none, none, none]) rfl ?_
      exact t_L_staffed_285 hrec215 hq hI
    · rw [if_neg hc] at hq
      refine sg_aload 279 (sk_td o_L_staffed 164 rfl) rfl rfl ?_
      refine sg_iload 281 (sk_td o_L_staffed 165 rfl) rfl rfl ?_
      obtain ⟨hb3, hq⟩ := sk_ifn hq
      refine sx_ld 282 (sk_td o_L_staffed 166 rfl) rfl hb3 ?_
      refine sg_if_ne 289 285 (sk_td o_L_staffed 167 rfl) (by decide) rfl (fun hc => ?_) (fun hc => ?_)
      · rw [if_neg hc] at hq
        refine sg_iconst (v := (1 : Int32)) 290 (sk_td o_L_staffed 170 rfl) rfl (by decide) ?_
        refine sx_wk [true, true, true, true, true, true, true, true, true, true, true, false, true, true] (ls' := [some (.inr (.inr (some (0, 0)))), some (.inr (.inr (some (9999, 0)))), some (.inl v2), none, some (.inr (.inr (some (9998, k4)))), some (.inr (.inr (some (9998, k5)))), some (.inl v6), some (.inr (.inr (some (9998, k7)))), some (.inr (.inr (some (9998, k8)))), some (.inl v9), some (.inl v10), none, none, none]) rfl ?_
        exact t_L_staffed_290 hrec215 hq hI
      · rw [if_pos hc] at hq
        refine sx_wk [true, true, true, true, true, true, true, true, true, true, true, false, true, true] (ls' := [some (.inr (.inr (some (0, 0)))), some (.inr (.inr (some (9999, 0)))), some (.inl v2), none, some (.inr (.inr (some (9998, k4)))), some (.inr (.inr (some (9998, k5)))), some (.inl v6), some (.inr (.inr (some (9998, k7)))), some (.inr (.inr (some (9998, k8)))), some (.inl v9), some (.inl v10), none, none, none]) rfl ?_
        exact t_L_staffed_285 hrec215 hq hI
  · rw [if_neg hc] at hq
    refine sg_iconst (v := (0 : Int32)) 260 (sk_td o_L_staffed 154 rfl) rfl (by decide) ?_
    obtain rfl := Option.some.inj hq
    exact sx_iret rfl (sk_td o_L_staffed 155 rfl) rfl (show narrow .boolean (.int (0 : Int32)) = .int (0 : Int32) by decide) (sx_l1 hI) (sx_l2 hI)
def q_L_staffed_236 (rec215 : (sk_D × sk_X × Int32 × Nat × Nat × Int32 × Nat × Nat × Int32 × Int32) → Option (Int32 × sk_D × sk_X)) (L : Nat) (xs : Nat → Int32) (x0 : Nat) (d : sk_D) (x : sk_X) (v2 : Int32) (k4 : Nat) (k5 : Nat) (v6 : Int32) (k7 : Nat) (k8 : Nat) (v9 : Int32) (v10 : Int32) : Option (Int32 × sk_D × sk_X) :=
  (q_L_staffed_246 rec215 L xs x0 d x v2 k4 k5 v6 k7 k8 v9 v10 (-9 : Int32))
set_option maxRecDepth 100000 in
set_option maxHeartbeats 4000000 in
theorem t_L_staffed_236 {l : Launch} {rec215 : (sk_D × sk_X × Int32 × Nat × Nat × Int32 × Nat × Nat × Int32 × Int32) → Option (Int32 × sk_D × sk_X)} {L : Nat} {xs : Nat → Int32} {x0 : Nat} {d : sk_D} {x : sk_X} {v2 : Int32} {k4 : Nat} {k5 : Nat} {v6 : Int32} {k7 : Nat} {k8 : Nat} {v9 : Int32} {v10 : Int32} (hrec215 : ∀ (a : (sk_D × sk_X × Int32 × Nat × Nat × Int32 × Nat × Nat × Int32 × Int32)) (res : Int32 × sk_D × sk_X), rec215 a = some res → (x0 ≤ a.2.1.1 ∧ a.2.1.1 ≤ x0 + 3) → sx_G l (sk_rm 14 3 192) m_L_staffed sx_T (sx_Zm m_L_staffed (some (.inl res.1)) res.2.1 res.2.2) a.2.1 L xs (0 + (a.2.1.1 - x0)) (0 + 64 * (a.2.1.1 - x0)) 215 [some (.inr (.inr (some (0, 0)))), some (.inr (.inr (some (9999, 0)))), some (.inl a.2.2.1), none, some (.inr (.inr (some (9998, a.2.2.2.1)))), some (.inr (.inr (some (9998, a.2.2.2.2.1)))), some (.inl a.2.2.2.2.2.1), some (.inr (.inr (some (9998, a.2.2.2.2.2.2.1)))), some (.inr (.inr (some (9998, a.2.2.2.2.2.2.2.1)))), some (.inl a.2.2.2.2.2.2.2.2.1), some (.inl a.2.2.2.2.2.2.2.2.2), none, none, none] [] a.1) {res : Int32 × sk_D × sk_X} (hq : q_L_staffed_236 rec215 L xs x0 d x v2 k4 k5 v6 k7 k8 v9 v10 = some res) (hI : (x0 ≤ x.1 ∧ x.1 ≤ x0 + 3)) :
    sx_G l (sk_rm 14 3 192) m_L_staffed sx_T (sx_Zm m_L_staffed (some (.inl res.1)) res.2.1 res.2.2) x L xs (0 + (x.1 - x0)) (0 + 64 * (x.1 - x0)) 236 [some (.inr (.inr (some (0, 0)))), some (.inr (.inr (some (9999, 0)))), some (.inl v2), none, some (.inr (.inr (some (9998, k4)))), some (.inr (.inr (some (9998, k5)))), some (.inl v6), some (.inr (.inr (some (9998, k7)))), some (.inr (.inr (some (9998, k8)))), some (.inl v9), some (.inl v10), none, none, none] [] d := by
  unfold q_L_staffed_236 at hq
  refine sg_bipush (v := (-9 : Int32)) 238 (sk_td o_L_staffed 143 rfl) rfl (by decide) ?_
  refine sg_goto 246 (sk_td o_L_staffed 144 rfl) (by decide) ?_
  exact t_L_staffed_246 hrec215 hq hI
def q_L_staffed_215 (rec215 : (sk_D × sk_X × Int32 × Nat × Nat × Int32 × Nat × Nat × Int32 × Int32) → Option (Int32 × sk_D × sk_X)) (L : Nat) (xs : Nat → Int32) (x0 : Nat) (d : sk_D) (x : sk_X) (v2 : Int32) (k4 : Nat) (k5 : Nat) (v6 : Int32) (k7 : Nat) (k8 : Nat) (v9 : Int32) (v10 : Int32) : Option (Int32 × sk_D × sk_X) :=
  if v2 ≤ v10 then (q_L_cell L xs (14 : Int32)).bind fun y1 => (q_L_low y1 (100 : Int32)).bind fun y2 => (q_X8_pay d ((1 : Int32) + y2)).bind fun y3 => if 0 ≤ v9 then (q_L_staffed_333 L xs x0 y3.2 x v2 v6 k7 ((1 : Int32) + y2) y3.1 (((1 : Int32) + y2) * v9)) else (q_L_staffed_333 L xs x0 y3.2 x v2 v6 k7 ((1 : Int32) + y2) y3.1 (0 : Int32)) else if v9 < 0 then (q_L_staffed_236 rec215 L xs x0 d x v2 k4 k5 v6 k7 k8 v9 v10) else if xb x k8 v10 = true then if (x.2.2 k8 v10.toNatClampNeg) = v6 then (q_L_staffed_236 rec215 L xs x0 d x v2 k4 k5 v6 k7 k8 v9 v10) else if xb x k8 v10 = true then (q_L_staffed_246 rec215 L xs x0 d x v2 k4 k5 v6 k7 k8 v9 v10 (x.2.2 k8 v10.toNatClampNeg)) else none else none
set_option maxRecDepth 100000 in
set_option maxHeartbeats 4000000 in
theorem t_L_staffed_215 {l : Launch} {rec215 : (sk_D × sk_X × Int32 × Nat × Nat × Int32 × Nat × Nat × Int32 × Int32) → Option (Int32 × sk_D × sk_X)} {L : Nat} {xs : Nat → Int32} {x0 : Nat} {d : sk_D} {x : sk_X} {v2 : Int32} {k4 : Nat} {k5 : Nat} {v6 : Int32} {k7 : Nat} {k8 : Nat} {v9 : Int32} {v10 : Int32} (hrec215 : ∀ (a : (sk_D × sk_X × Int32 × Nat × Nat × Int32 × Nat × Nat × Int32 × Int32)) (res : Int32 × sk_D × sk_X), rec215 a = some res → (x0 ≤ a.2.1.1 ∧ a.2.1.1 ≤ x0 + 3) → sx_G l (sk_rm 14 3 192) m_L_staffed sx_T (sx_Zm m_L_staffed (some (.inl res.1)) res.2.1 res.2.2) a.2.1 L xs (0 + (a.2.1.1 - x0)) (0 + 64 * (a.2.1.1 - x0)) 215 [some (.inr (.inr (some (0, 0)))), some (.inr (.inr (some (9999, 0)))), some (.inl a.2.2.1), none, some (.inr (.inr (some (9998, a.2.2.2.1)))), some (.inr (.inr (some (9998, a.2.2.2.2.1)))), some (.inl a.2.2.2.2.2.1), some (.inr (.inr (some (9998, a.2.2.2.2.2.2.1)))), some (.inr (.inr (some (9998, a.2.2.2.2.2.2.2.1)))), some (.inl a.2.2.2.2.2.2.2.2.1), some (.inl a.2.2.2.2.2.2.2.2.2), none, none, none] [] a.1) {res : Int32 × sk_D × sk_X} (hq : q_L_staffed_215 rec215 L xs x0 d x v2 k4 k5 v6 k7 k8 v9 v10 = some res) (hI : (x0 ≤ x.1 ∧ x.1 ≤ x0 + 3)) :
    sx_G l (sk_rm 14 3 192) m_L_staffed sx_T (sx_Zm m_L_staffed (some (.inl res.1)) res.2.1 res.2.2) x L xs (0 + (x.1 - x0)) (0 + 64 * (x.1 - x0)) 215 [some (.inr (.inr (some (0, 0)))), some (.inr (.inr (some (9999, 0)))), some (.inl v2), none, some (.inr (.inr (some (9998, k4)))), some (.inr (.inr (some (9998, k5)))), some (.inl v6), some (.inr (.inr (some (9998, k7)))), some (.inr (.inr (some (9998, k8)))), some (.inl v9), some (.inl v10), none, none, none] [] d := by
  unfold q_L_staffed_215 at hq
  refine sg_iload 217 (sk_td o_L_staffed 133 rfl) rfl rfl ?_
  refine sg_iload_n 218 (sk_td o_L_staffed 134 rfl) rfl rfl ?_
  refine sg_ic_ge 298 221 (sk_td o_L_staffed 135 rfl) (by decide) rfl (fun hc => ?_) (fun hc => ?_)
  · rw [if_pos hc] at hq
    refine sg_iconst (v := (1 : Int32)) 299 (sk_td o_L_staffed 175 rfl) rfl (by decide) ?_
    refine sg_aload_n 300 (sk_td o_L_staffed 176 rfl) rfl rfl ?_
    refine sg_bipush (v := (14 : Int32)) 302 (sk_td o_L_staffed 177 rfl) rfl (by decide) ?_
    obtain ⟨y1, hr_y1, hq⟩ := sk_bnd hq
    refine sx_callBi (as := [.inr (.inr (some (9999, 0))), .inl (14 : Int32)]) (st := [.inl (1 : Int32)]) 305 (s_L_cell hr_y1) (sk_td o_L_staffed 178 rfl) rfl ls_L_51 rfl (Nat.le_of_ble_eq_true rfl) hI rfl rfl hI.2 (Nat.le_of_ble_eq_true rfl) (Nat.le_of_ble_eq_true rfl) (Nat.le_of_ble_eq_true rfl) (Nat.le_of_ble_eq_true rfl) (fun hI => ?_)
    refine sg_bipush (v := (100 : Int32)) 307 (sk_td o_L_staffed 179 rfl) rfl (by decide) ?_
    obtain ⟨y2, hr_y2, hq⟩ := sk_bnd hq
    refine sx_callBi (as := [.inl y1, .inl (100 : Int32)]) (st := [.inl (1 : Int32)]) 310 (s_L_low hr_y2) (sk_td o_L_staffed 180 rfl) rfl ls_L_55 rfl (Nat.le_of_ble_eq_true rfl) hI rfl rfl hI.2 (Nat.le_of_ble_eq_true rfl) (Nat.le_of_ble_eq_true rfl) (Nat.le_of_ble_eq_true rfl) (Nat.le_of_ble_eq_true rfl) (fun hI => ?_)
    refine sg_iadd 311 (sk_td o_L_staffed 181 rfl) rfl ?_
    refine sg_istore 313 [some (.inr (.inr (some (0, 0)))), some (.inr (.inr (some (9999, 0)))), some (.inl v2), none, some (.inr (.inr (some (9998, k4)))), some (.inr (.inr (some (9998, k5)))), some (.inl v6), some (.inr (.inr (some (9998, k7)))), some (.inr (.inr (some (9998, k8)))), some (.inl v9), some (.inl ((1 : Int32) + y2)), none, none, none] (sk_td o_L_staffed 182 rfl) rfl rfl (Nat.le_of_ble_eq_true rfl) rfl ?_
    refine sg_aload_n 314 (sk_td o_L_staffed 183 rfl) rfl rfl ?_
    refine sg_iload 316 (sk_td o_L_staffed 184 rfl) rfl rfl ?_
    obtain ⟨y3, hr_y3, hq⟩ := sk_bnd hq
    refine sm_callL1i 319 (s_X8_pay hr_y3) (sk_td o_L_staffed 185 rfl) rfl lv_L_93 rfl rfl rfl sz_0 (sx_rk hI (Nat.le_of_ble_eq_true rfl) (Nat.le_of_ble_eq_true rfl) (Nat.le_of_ble_eq_true rfl) (Nat.le_of_ble_eq_true rfl) rfl) (Nat.le_of_ble_eq_true rfl) ?_
    refine sg_iload 321 (sk_td o_L_staffed 186 rfl) rfl rfl ?_
    refine sg_if_ge 328 324 (sk_td o_L_staffed 187 rfl) (by decide) rfl (fun hc => ?_) (fun hc => ?_)
    · rw [if_pos hc] at hq
      refine sg_iload 330 (sk_td o_L_staffed 190 rfl) rfl rfl ?_
      refine sg_iload 332 (sk_td o_L_staffed 191 rfl) rfl rfl ?_
      refine sg_imul 333 (sk_td o_L_staffed 192 rfl) rfl ?_
      refine sx_wk [true, false, true, true, false, false, true, true, false, false, true, true, true, true] (ls' := [some (.inr (.inr (some (0, 0)))), none, some (.inl v2), none, none, none, some (.inl v6), some (.inr (.inr (some (9998, k7)))), none, none, some (.inl ((1 : Int32) + y2)), none, none, none]) rfl ?_
      exact t_L_staffed_333 hq hI
    · rw [if_neg hc] at hq
      refine sg_iconst (v := (0 : Int32)) 325 (sk_td o_L_staffed 188 rfl) rfl (by decide) ?_
      refine sg_goto 333 (sk_td o_L_staffed 189 rfl) (by decide) ?_
      refine sx_wk [true, false, true, true, false, false, true, true, false, false, true, true, true, true] (ls' := [some (.inr (.inr (some (0, 0)))), none, some (.inl v2), none, none, none, some (.inl v6), some (.inr (.inr (some (9998, k7)))), none, none, some (.inl ((1 : Int32) + y2)), none, none, none]) rfl ?_
      exact t_L_staffed_333 hq hI
  · rw [if_neg hc] at hq
    refine sg_iload 223 (sk_td o_L_staffed 136 rfl) rfl rfl ?_
    refine sg_if_lt 236 226 (sk_td o_L_staffed 137 rfl) (by decide) rfl (fun hc => ?_) (fun hc => ?_)
    · rw [if_pos hc] at hq
      exact t_L_staffed_236 hrec215 hq hI
    · rw [if_neg hc] at hq
      refine sg_aload 228 (sk_td o_L_staffed 138 rfl) rfl rfl ?_
      refine sg_iload 230 (sk_td o_L_staffed 139 rfl) rfl rfl ?_
      obtain ⟨hb4, hq⟩ := sk_ifn hq
      refine sx_ld 231 (sk_td o_L_staffed 140 rfl) rfl hb4 ?_
      refine sg_iload 233 (sk_td o_L_staffed 141 rfl) rfl rfl ?_
      refine sg_ic_ne 241 236 (sk_td o_L_staffed 142 rfl) (by decide) rfl (fun hc => ?_) (fun hc => ?_)
      · rw [if_neg hc] at hq
        refine sg_aload 243 (sk_td o_L_staffed 145 rfl) rfl rfl ?_
        refine sg_iload 245 (sk_td o_L_staffed 146 rfl) rfl rfl ?_
        obtain ⟨hb5, hq⟩ := sk_ifn hq
        refine sx_ld 246 (sk_td o_L_staffed 147 rfl) rfl hb5 ?_
        exact t_L_staffed_246 hrec215 hq hI
      · rw [if_pos hc] at hq
        exact t_L_staffed_236 hrec215 hq hI
def l_L_staffed_215 (L : Nat) (xs : Nat → Int32) (x0 : Nat) (fl : Nat) (a : (sk_D × sk_X × Int32 × Nat × Nat × Int32 × Nat × Nat × Int32 × Int32)) : Option (Int32 × sk_D × sk_X) := sk_it (fun rec215 a => q_L_staffed_215 rec215 L xs x0 a.1 a.2.1 a.2.2.1 a.2.2.2.1 a.2.2.2.2.1 a.2.2.2.2.2.1 a.2.2.2.2.2.2.1 a.2.2.2.2.2.2.2.1 a.2.2.2.2.2.2.2.2.1 a.2.2.2.2.2.2.2.2.2) fl a
theorem lt_L_staffed_215 {l : Launch} {L : Nat} {xs : Nat → Int32} {x0 : Nat} : ∀ (fl : Nat) (a : (sk_D × sk_X × Int32 × Nat × Nat × Int32 × Nat × Nat × Int32 × Int32)) (res : Int32 × sk_D × sk_X), l_L_staffed_215 L xs x0 fl a = some res → (x0 ≤ a.2.1.1 ∧ a.2.1.1 ≤ x0 + 3) → sx_G l (sk_rm 14 3 192) m_L_staffed sx_T (sx_Zm m_L_staffed (some (.inl res.1)) res.2.1 res.2.2) a.2.1 L xs (0 + (a.2.1.1 - x0)) (0 + 64 * (a.2.1.1 - x0)) 215 [some (.inr (.inr (some (0, 0)))), some (.inr (.inr (some (9999, 0)))), some (.inl a.2.2.1), none, some (.inr (.inr (some (9998, a.2.2.2.1)))), some (.inr (.inr (some (9998, a.2.2.2.2.1)))), some (.inl a.2.2.2.2.2.1), some (.inr (.inr (some (9998, a.2.2.2.2.2.2.1)))), some (.inr (.inr (some (9998, a.2.2.2.2.2.2.2.1)))), some (.inl a.2.2.2.2.2.2.2.2.1), some (.inl a.2.2.2.2.2.2.2.2.2), none, none, none] [] a.1 :=
  sk_it_ind (P := fun (a : (sk_D × sk_X × Int32 × Nat × Nat × Int32 × Nat × Nat × Int32 × Int32)) (res : Int32 × sk_D × sk_X) => (x0 ≤ a.2.1.1 ∧ a.2.1.1 ≤ x0 + 3) → sx_G l (sk_rm 14 3 192) m_L_staffed sx_T (sx_Zm m_L_staffed (some (.inl res.1)) res.2.1 res.2.2) a.2.1 L xs (0 + (a.2.1.1 - x0)) (0 + 64 * (a.2.1.1 - x0)) 215 [some (.inr (.inr (some (0, 0)))), some (.inr (.inr (some (9999, 0)))), some (.inl a.2.2.1), none, some (.inr (.inr (some (9998, a.2.2.2.1)))), some (.inr (.inr (some (9998, a.2.2.2.2.1)))), some (.inl a.2.2.2.2.2.1), some (.inr (.inr (some (9998, a.2.2.2.2.2.2.1)))), some (.inr (.inr (some (9998, a.2.2.2.2.2.2.2.1)))), some (.inl a.2.2.2.2.2.2.2.2.1), some (.inl a.2.2.2.2.2.2.2.2.2), none, none, none] [] a.1) (fun rec215 hrec215 a res hq hI => t_L_staffed_215 hrec215 hq hI)
def q_L_staffed_207 (L : Nat) (xs : Nat → Int32) (x0 : Nat) (d : sk_D) (x : sk_X) (v2 : Int32) (k4 : Nat) (k5 : Nat) (v6 : Int32) (k7 : Nat) (k8 : Nat) (v9 : Int32) (s0 : Int32) (s1 : Int32) : Option (Int32 × sk_D × sk_X) :=
  if s0 = s1 then (l_L_staffed_215 L xs x0 sk_fu (d, x, v2, k4, k5, v6, k7, k8, v9, (0 : Int32))) else some ((0 : Int32), d, x)
set_option maxRecDepth 100000 in
set_option maxHeartbeats 4000000 in
theorem t_L_staffed_207 {l : Launch} {L : Nat} {xs : Nat → Int32} {x0 : Nat} {d : sk_D} {x : sk_X} {v2 : Int32} {k4 : Nat} {k5 : Nat} {v6 : Int32} {k7 : Nat} {k8 : Nat} {v9 : Int32} {s0 : Int32} {s1 : Int32} {res : Int32 × sk_D × sk_X} (hq : q_L_staffed_207 L xs x0 d x v2 k4 k5 v6 k7 k8 v9 s0 s1 = some res) (hI : (x0 ≤ x.1 ∧ x.1 ≤ x0 + 3)) :
    sx_G l (sk_rm 14 3 192) m_L_staffed sx_T (sx_Zm m_L_staffed (some (.inl res.1)) res.2.1 res.2.2) x L xs (0 + (x.1 - x0)) (0 + 64 * (x.1 - x0)) 207 [some (.inr (.inr (some (0, 0)))), some (.inr (.inr (some (9999, 0)))), some (.inl v2), none, some (.inr (.inr (some (9998, k4)))), some (.inr (.inr (some (9998, k5)))), some (.inl v6), some (.inr (.inr (some (9998, k7)))), some (.inr (.inr (some (9998, k8)))), some (.inl v9), none, none, none, none] [.inl s1, .inl s0] d := by
  unfold q_L_staffed_207 at hq
  refine sg_ic_eq 212 210 (sk_td o_L_staffed 128 rfl) (by decide) rfl (fun hc => ?_) (fun hc => ?_)
  · rw [if_pos hc] at hq
    refine sg_iconst (v := (0 : Int32)) 213 (sk_td o_L_staffed 131 rfl) rfl (by decide) ?_
    refine sg_istore 215 [some (.inr (.inr (some (0, 0)))), some (.inr (.inr (some (9999, 0)))), some (.inl v2), none, some (.inr (.inr (some (9998, k4)))), some (.inr (.inr (some (9998, k5)))), some (.inl v6), some (.inr (.inr (some (9998, k7)))), some (.inr (.inr (some (9998, k8)))), some (.inl v9), some (.inl (0 : Int32)), none, none, none] (sk_td o_L_staffed 132 rfl) rfl rfl (Nat.le_of_ble_eq_true rfl) rfl ?_
    exact lt_L_staffed_215 sk_fu (d, x, v2, k4, k5, v6, k7, k8, v9, (0 : Int32)) _ hq hI
  · rw [if_neg hc] at hq
    refine sg_iconst (v := (0 : Int32)) 211 (sk_td o_L_staffed 129 rfl) rfl (by decide) ?_
    obtain rfl := Option.some.inj hq
    exact sx_iret rfl (sk_td o_L_staffed 130 rfl) rfl (show narrow .boolean (.int (0 : Int32)) = .int (0 : Int32) by decide) (sx_l1 hI) (sx_l2 hI)
def q_L_staffed_132 (rec27 : (sk_D × sk_X × Int32 × Nat × Nat × Nat × Int32 × Nat × Nat × Int32) → Option (Int32 × sk_D × sk_X)) (L : Nat) (xs : Nat → Int32) (x0 : Nat) (d : sk_D) (x : sk_X) (v2 : Int32) (k3 : Nat) (k4 : Nat) (k5 : Nat) (v6 : Int32) (k7 : Nat) (k8 : Nat) (v9 : Int32) (h1 : Nat) (s2 : Int32) : Option (Int32 × sk_D × sk_X) :=
  if xb x h1 s2 = true then if xb x k7 (((4 : Int32) * v9) + (1 : Int32)) = true then if xb x k7 (((4 : Int32) * v9) + (2 : Int32)) = true then if xb x k7 (((4 : Int32) * v9) + (3 : Int32)) = true then (q_X8_hire d (x.2.2 h1 s2.toNatClampNeg) (x.2.2 k7 (((4 : Int32) * v9) + (1 : Int32)).toNatClampNeg) (x.2.2 k7 (((4 : Int32) * v9) + (2 : Int32)).toNatClampNeg) (x.2.2 k7 (((4 : Int32) * v9) + (3 : Int32)).toNatClampNeg)).bind fun y5 => if y5.1 = v9 then (rec27 (y5.2, x, v2, k3, k4, k5, v6, k7, k8, (v9 + (1 : Int32)))) else some ((0 : Int32), y5.2, x) else none else none else none else none
set_option maxRecDepth 100000 in
set_option maxHeartbeats 4000000 in
theorem t_L_staffed_132 {l : Launch} {rec27 : (sk_D × sk_X × Int32 × Nat × Nat × Nat × Int32 × Nat × Nat × Int32) → Option (Int32 × sk_D × sk_X)} {L : Nat} {xs : Nat → Int32} {x0 : Nat} {d : sk_D} {x : sk_X} {v2 : Int32} {k3 : Nat} {k4 : Nat} {k5 : Nat} {v6 : Int32} {k7 : Nat} {k8 : Nat} {v9 : Int32} {h1 : Nat} {s2 : Int32} (hrec27 : ∀ (a : (sk_D × sk_X × Int32 × Nat × Nat × Nat × Int32 × Nat × Nat × Int32)) (res : Int32 × sk_D × sk_X), rec27 a = some res → (x0 ≤ a.2.1.1 ∧ a.2.1.1 ≤ x0 + 3) → sx_G l (sk_rm 14 3 192) m_L_staffed sx_T (sx_Zm m_L_staffed (some (.inl res.1)) res.2.1 res.2.2) a.2.1 L xs (0 + (a.2.1.1 - x0)) (0 + 64 * (a.2.1.1 - x0)) 27 [some (.inr (.inr (some (0, 0)))), some (.inr (.inr (some (9999, 0)))), some (.inl a.2.2.1), some (.inr (.inr (some (9998, a.2.2.2.1)))), some (.inr (.inr (some (9998, a.2.2.2.2.1)))), some (.inr (.inr (some (9998, a.2.2.2.2.2.1)))), some (.inl a.2.2.2.2.2.2.1), some (.inr (.inr (some (9998, a.2.2.2.2.2.2.2.1)))), some (.inr (.inr (some (9998, a.2.2.2.2.2.2.2.2.1)))), some (.inl a.2.2.2.2.2.2.2.2.2), none, none, none, none] [] a.1) {res : Int32 × sk_D × sk_X} (hq : q_L_staffed_132 rec27 L xs x0 d x v2 k3 k4 k5 v6 k7 k8 v9 h1 s2 = some res) (hI : (x0 ≤ x.1 ∧ x.1 ≤ x0 + 3)) :
    sx_G l (sk_rm 14 3 192) m_L_staffed sx_T (sx_Zm m_L_staffed (some (.inl res.1)) res.2.1 res.2.2) x L xs (0 + (x.1 - x0)) (0 + 64 * (x.1 - x0)) 132 [some (.inr (.inr (some (0, 0)))), some (.inr (.inr (some (9999, 0)))), some (.inl v2), some (.inr (.inr (some (9998, k3)))), some (.inr (.inr (some (9998, k4)))), some (.inr (.inr (some (9998, k5)))), some (.inl v6), some (.inr (.inr (some (9998, k7)))), some (.inr (.inr (some (9998, k8)))), some (.inl v9), none, none, none, none] [.inl s2, .inr (.inr (some (9998, h1))), .inr (.inr (some (0, 0)))] d := by
  unfold q_L_staffed_132 at hq
  obtain ⟨hb1, hq⟩ := sk_ifn hq
  refine sx_ld 133 (sk_td o_L_staffed 84 rfl) rfl hb1 ?_
  refine sg_aload 135 (sk_td o_L_staffed 85 rfl) rfl rfl ?_
  refine sg_iconst (v := (4 : Int32)) 136 (sk_td o_L_staffed 86 rfl) rfl (by decide) ?_
  refine sg_iload 138 (sk_td o_L_staffed 87 rfl) rfl rfl ?_
  refine sg_imul 139 (sk_td o_L_staffed 88 rfl) rfl ?_
  refine sg_iconst (v := (1 : Int32)) 140 (sk_td o_L_staffed 89 rfl) rfl (by decide) ?_
  refine sg_iadd 141 (sk_td o_L_staffed 90 rfl) rfl ?_
  obtain ⟨hb2, hq⟩ := sk_ifn hq
  refine sx_ld 142 (sk_td o_L_staffed 91 rfl) rfl hb2 ?_
  refine sg_aload 144 (sk_td o_L_staffed 92 rfl) rfl rfl ?_
  refine sg_iconst (v := (4 : Int32)) 145 (sk_td o_L_staffed 93 rfl) rfl (by decide) ?_
  refine sg_iload 147 (sk_td o_L_staffed 94 rfl) rfl rfl ?_
  refine sg_imul 148 (sk_td o_L_staffed 95 rfl) rfl ?_
  refine sg_iconst (v := (2 : Int32)) 149 (sk_td o_L_staffed 96 rfl) rfl (by decide) ?_
  refine sg_iadd 150 (sk_td o_L_staffed 97 rfl) rfl ?_
  obtain ⟨hb3, hq⟩ := sk_ifn hq
  refine sx_ld 151 (sk_td o_L_staffed 98 rfl) rfl hb3 ?_
  refine sg_aload 153 (sk_td o_L_staffed 99 rfl) rfl rfl ?_
  refine sg_iconst (v := (4 : Int32)) 154 (sk_td o_L_staffed 100 rfl) rfl (by decide) ?_
  refine sg_iload 156 (sk_td o_L_staffed 101 rfl) rfl rfl ?_
  refine sg_imul 157 (sk_td o_L_staffed 102 rfl) rfl ?_
  refine sg_iconst (v := (3 : Int32)) 158 (sk_td o_L_staffed 103 rfl) rfl (by decide) ?_
  refine sg_iadd 159 (sk_td o_L_staffed 104 rfl) rfl ?_
  obtain ⟨hb4, hq⟩ := sk_ifn hq
  refine sx_ld 160 (sk_td o_L_staffed 105 rfl) rfl hb4 ?_
  obtain ⟨y5, hr_y5, hq⟩ := sk_bnd hq
  refine sm_callL4i 163 (s_X8_hire hr_y5) (sk_td o_L_staffed 106 rfl) rfl lv_L_79 rfl rfl rfl sz_0 (sx_rk hI (Nat.le_of_ble_eq_true rfl) (Nat.le_of_ble_eq_true rfl) (Nat.le_of_ble_eq_true rfl) (Nat.le_of_ble_eq_true rfl) rfl) (Nat.le_of_ble_eq_true rfl) ?_
  refine sg_iload 165 (sk_td o_L_staffed 107 rfl) rfl rfl ?_
  refine sg_ic_eq 170 168 (sk_td o_L_staffed 108 rfl) (by decide) rfl (fun hc => ?_) (fun hc => ?_)
  · rw [if_pos hc] at hq
    refine sg_iinc (v9 + (1 : Int32)) 173 [some (.inr (.inr (some (0, 0)))), some (.inr (.inr (some (9999, 0)))), some (.inl v2), some (.inr (.inr (some (9998, k3)))), some (.inr (.inr (some (9998, k4)))), some (.inr (.inr (some (9998, k5)))), some (.inl v6), some (.inr (.inr (some (9998, k7)))), some (.inr (.inr (some (9998, k8)))), some (.inl (v9 + (1 : Int32))), none, none, none, none] (sk_td o_L_staffed 111 rfl) rfl rfl rfl rfl (Nat.le_of_ble_eq_true rfl) rfl ?_
    refine sg_goto 27 (sk_td o_L_staffed 112 rfl) (by decide) ?_
    exact hrec27 (y5.2, x, v2, k3, k4, k5, v6, k7, k8, (v9 + (1 : Int32))) _ hq hI
  · rw [if_neg hc] at hq
    refine sg_iconst (v := (0 : Int32)) 169 (sk_td o_L_staffed 109 rfl) rfl (by decide) ?_
    obtain rfl := Option.some.inj hq
    exact sx_iret rfl (sk_td o_L_staffed 110 rfl) rfl (show narrow .boolean (.int (0 : Int32)) = .int (0 : Int32) by decide) (sx_l1 hI) (sx_l2 hI)
def q_L_staffed_120 (rec27 : (sk_D × sk_X × Int32 × Nat × Nat × Nat × Int32 × Nat × Nat × Int32) → Option (Int32 × sk_D × sk_X)) (L : Nat) (xs : Nat → Int32) (x0 : Nat) (d : sk_D) (x : sk_X) (v2 : Int32) (k3 : Nat) (k4 : Nat) (k5 : Nat) (v6 : Int32) (k7 : Nat) (k8 : Nat) (v9 : Int32) (h0 : Nat) (s1 : Int32) (s3 : Int32) : Option (Int32 × sk_D × sk_X) :=
  (q_L_low s3 (4 : Int32)).bind fun y1 => if xb x h0 s1 = true then (q_L_staffed_132 rec27 L xs x0 d (xw x h0 s1.toNatClampNeg ((1 : Int32) + y1)) v2 k3 k4 k5 v6 k7 k8 v9 k7 ((4 : Int32) * v9)) else none
set_option maxRecDepth 100000 in
set_option maxHeartbeats 4000000 in
theorem t_L_staffed_120 {l : Launch} {rec27 : (sk_D × sk_X × Int32 × Nat × Nat × Nat × Int32 × Nat × Nat × Int32) → Option (Int32 × sk_D × sk_X)} {L : Nat} {xs : Nat → Int32} {x0 : Nat} {d : sk_D} {x : sk_X} {v2 : Int32} {k3 : Nat} {k4 : Nat} {k5 : Nat} {v6 : Int32} {k7 : Nat} {k8 : Nat} {v9 : Int32} {h0 : Nat} {s1 : Int32} {s3 : Int32} (hrec27 : ∀ (a : (sk_D × sk_X × Int32 × Nat × Nat × Nat × Int32 × Nat × Nat × Int32)) (res : Int32 × sk_D × sk_X), rec27 a = some res → (x0 ≤ a.2.1.1 ∧ a.2.1.1 ≤ x0 + 3) → sx_G l (sk_rm 14 3 192) m_L_staffed sx_T (sx_Zm m_L_staffed (some (.inl res.1)) res.2.1 res.2.2) a.2.1 L xs (0 + (a.2.1.1 - x0)) (0 + 64 * (a.2.1.1 - x0)) 27 [some (.inr (.inr (some (0, 0)))), some (.inr (.inr (some (9999, 0)))), some (.inl a.2.2.1), some (.inr (.inr (some (9998, a.2.2.2.1)))), some (.inr (.inr (some (9998, a.2.2.2.2.1)))), some (.inr (.inr (some (9998, a.2.2.2.2.2.1)))), some (.inl a.2.2.2.2.2.2.1), some (.inr (.inr (some (9998, a.2.2.2.2.2.2.2.1)))), some (.inr (.inr (some (9998, a.2.2.2.2.2.2.2.2.1)))), some (.inl a.2.2.2.2.2.2.2.2.2), none, none, none, none] [] a.1) {res : Int32 × sk_D × sk_X} (hq : q_L_staffed_120 rec27 L xs x0 d x v2 k3 k4 k5 v6 k7 k8 v9 h0 s1 s3 = some res) (hI : (x0 ≤ x.1 ∧ x.1 ≤ x0 + 3)) :
    sx_G l (sk_rm 14 3 192) m_L_staffed sx_T (sx_Zm m_L_staffed (some (.inl res.1)) res.2.1 res.2.2) x L xs (0 + (x.1 - x0)) (0 + 64 * (x.1 - x0)) 120 [some (.inr (.inr (some (0, 0)))), some (.inr (.inr (some (9999, 0)))), some (.inl v2), some (.inr (.inr (some (9998, k3)))), some (.inr (.inr (some (9998, k4)))), some (.inr (.inr (some (9998, k5)))), some (.inl v6), some (.inr (.inr (some (9998, k7)))), some (.inr (.inr (some (9998, k8)))), some (.inl v9), none, none, none, none] [.inl (4 : Int32), .inl s3, .inl (1 : Int32), .inl s1, .inr (.inr (some (9998, h0)))] d := by
  unfold q_L_staffed_120 at hq
  obtain ⟨y1, hr_y1, hq⟩ := sk_bnd hq
  refine sx_callBi (as := [.inl s3, .inl (4 : Int32)]) (st := [.inl (1 : Int32), .inl s1, .inr (.inr (some (9998, h0)))]) 123 (s_L_low hr_y1) (sk_td o_L_staffed 76 rfl) rfl ls_L_55 rfl (Nat.le_of_ble_eq_true rfl) hI rfl rfl hI.2 (Nat.le_of_ble_eq_true rfl) (Nat.le_of_ble_eq_true rfl) (Nat.le_of_ble_eq_true rfl) (Nat.le_of_ble_eq_true rfl) (fun hI => ?_)
  refine sg_iadd 124 (sk_td o_L_staffed 77 rfl) rfl ?_
  obtain ⟨hb2, hq⟩ := sk_ifn hq
  refine sx_st 125 (sk_td o_L_staffed 78 rfl) rfl hb2 ?_
  refine sg_aload_n 126 (sk_td o_L_staffed 79 rfl) rfl rfl ?_
  refine sg_aload 128 (sk_td o_L_staffed 80 rfl) rfl rfl ?_
  refine sg_iconst (v := (4 : Int32)) 129 (sk_td o_L_staffed 81 rfl) rfl (by decide) ?_
  refine sg_iload 131 (sk_td o_L_staffed 82 rfl) rfl rfl ?_
  refine sg_imul 132 (sk_td o_L_staffed 83 rfl) rfl ?_
  exact t_L_staffed_132 hrec27 hq hI
def q_L_staffed_94 (rec27 : (sk_D × sk_X × Int32 × Nat × Nat × Nat × Int32 × Nat × Nat × Int32) → Option (Int32 × sk_D × sk_X)) (L : Nat) (xs : Nat → Int32) (x0 : Nat) (d : sk_D) (x : sk_X) (v2 : Int32) (k3 : Nat) (k4 : Nat) (k5 : Nat) (v6 : Int32) (k7 : Nat) (k8 : Nat) (v9 : Int32) (v10 : Int32) (h0 : Nat) (s1 : Int32) (h2 : Nat) (s3 : Int32) : Option (Int32 × sk_D × sk_X) :=
  if xb x h2 s3 = true then (q_L_low (v10 >>> ((5 : Int32) &&& 31)) (3 : Int32)).bind fun y2 => if xb x h0 s1 = true then (q_L_staffed_120 rec27 L xs x0 d (xw x h0 s1.toNatClampNeg ((x.2.2 h2 s3.toNatClampNeg) + y2)) v2 k3 k4 k5 v6 k7 k8 v9 k7 (((4 : Int32) * v9) + (3 : Int32)) (v10 >>> ((7 : Int32) &&& 31))) else none else none
set_option maxRecDepth 100000 in
set_option maxHeartbeats 4000000 in
theorem t_L_staffed_94 {l : Launch} {rec27 : (sk_D × sk_X × Int32 × Nat × Nat × Nat × Int32 × Nat × Nat × Int32) → Option (Int32 × sk_D × sk_X)} {L : Nat} {xs : Nat → Int32} {x0 : Nat} {d : sk_D} {x : sk_X} {v2 : Int32} {k3 : Nat} {k4 : Nat} {k5 : Nat} {v6 : Int32} {k7 : Nat} {k8 : Nat} {v9 : Int32} {v10 : Int32} {h0 : Nat} {s1 : Int32} {h2 : Nat} {s3 : Int32} (hrec27 : ∀ (a : (sk_D × sk_X × Int32 × Nat × Nat × Nat × Int32 × Nat × Nat × Int32)) (res : Int32 × sk_D × sk_X), rec27 a = some res → (x0 ≤ a.2.1.1 ∧ a.2.1.1 ≤ x0 + 3) → sx_G l (sk_rm 14 3 192) m_L_staffed sx_T (sx_Zm m_L_staffed (some (.inl res.1)) res.2.1 res.2.2) a.2.1 L xs (0 + (a.2.1.1 - x0)) (0 + 64 * (a.2.1.1 - x0)) 27 [some (.inr (.inr (some (0, 0)))), some (.inr (.inr (some (9999, 0)))), some (.inl a.2.2.1), some (.inr (.inr (some (9998, a.2.2.2.1)))), some (.inr (.inr (some (9998, a.2.2.2.2.1)))), some (.inr (.inr (some (9998, a.2.2.2.2.2.1)))), some (.inl a.2.2.2.2.2.2.1), some (.inr (.inr (some (9998, a.2.2.2.2.2.2.2.1)))), some (.inr (.inr (some (9998, a.2.2.2.2.2.2.2.2.1)))), some (.inl a.2.2.2.2.2.2.2.2.2), none, none, none, none] [] a.1) {res : Int32 × sk_D × sk_X} (hq : q_L_staffed_94 rec27 L xs x0 d x v2 k3 k4 k5 v6 k7 k8 v9 v10 h0 s1 h2 s3 = some res) (hI : (x0 ≤ x.1 ∧ x.1 ≤ x0 + 3)) :
    sx_G l (sk_rm 14 3 192) m_L_staffed sx_T (sx_Zm m_L_staffed (some (.inl res.1)) res.2.1 res.2.2) x L xs (0 + (x.1 - x0)) (0 + 64 * (x.1 - x0)) 94 [some (.inr (.inr (some (0, 0)))), some (.inr (.inr (some (9999, 0)))), some (.inl v2), some (.inr (.inr (some (9998, k3)))), some (.inr (.inr (some (9998, k4)))), some (.inr (.inr (some (9998, k5)))), some (.inl v6), some (.inr (.inr (some (9998, k7)))), some (.inr (.inr (some (9998, k8)))), some (.inl v9), some (.inl v10), none, none, none] [.inl s3, .inr (.inr (some (9998, h2))), .inl s1, .inr (.inr (some (9998, h0)))] d := by
  unfold q_L_staffed_94 at hq
  obtain ⟨hb1, hq⟩ := sk_ifn hq
  refine sx_ld 95 (sk_td o_L_staffed 57 rfl) rfl hb1 ?_
  refine sg_iload 97 (sk_td o_L_staffed 58 rfl) rfl rfl ?_
  refine sg_iconst (v := (5 : Int32)) 98 (sk_td o_L_staffed 59 rfl) rfl (by decide) ?_
  refine sg_ishr 99 (sk_td o_L_staffed 60 rfl) rfl ?_
  refine sg_iconst (v := (3 : Int32)) 100 (sk_td o_L_staffed 61 rfl) rfl (by decide) ?_
  obtain ⟨y2, hr_y2, hq⟩ := sk_bnd hq
  refine sx_callBi (as := [.inl (v10 >>> ((5 : Int32) &&& 31)), .inl (3 : Int32)]) (st := [.inl (x.2.2 h2 s3.toNatClampNeg), .inl s1, .inr (.inr (some (9998, h0)))]) 103 (s_L_low hr_y2) (sk_td o_L_staffed 62 rfl) rfl ls_L_55 rfl (Nat.le_of_ble_eq_true rfl) hI rfl rfl hI.2 (Nat.le_of_ble_eq_true rfl) (Nat.le_of_ble_eq_true rfl) (Nat.le_of_ble_eq_true rfl) (Nat.le_of_ble_eq_true rfl) (fun hI => ?_)
  refine sg_iadd 104 (sk_td o_L_staffed 63 rfl) rfl ?_
  obtain ⟨hb3, hq⟩ := sk_ifn hq
  refine sx_st 105 (sk_td o_L_staffed 64 rfl) rfl hb3 ?_
  refine sg_aload 107 (sk_td o_L_staffed 65 rfl) rfl rfl ?_
  refine sg_iconst (v := (4 : Int32)) 108 (sk_td o_L_staffed 66 rfl) rfl (by decide) ?_
  refine sg_iload 110 (sk_td o_L_staffed 67 rfl) rfl rfl ?_
  refine sg_imul 111 (sk_td o_L_staffed 68 rfl) rfl ?_
  refine sg_iconst (v := (3 : Int32)) 112 (sk_td o_L_staffed 69 rfl) rfl (by decide) ?_
  refine sg_iadd 113 (sk_td o_L_staffed 70 rfl) rfl ?_
  refine sg_iconst (v := (1 : Int32)) 114 (sk_td o_L_staffed 71 rfl) rfl (by decide) ?_
  refine sg_iload 116 (sk_td o_L_staffed 72 rfl) rfl rfl ?_
  refine sg_bipush (v := (7 : Int32)) 118 (sk_td o_L_staffed 73 rfl) rfl (by decide) ?_
  refine sg_ishr 119 (sk_td o_L_staffed 74 rfl) rfl ?_
  refine sg_iconst (v := (4 : Int32)) 120 (sk_td o_L_staffed 75 rfl) rfl (by decide) ?_
  refine sx_wk [true, true, true, true, true, true, true, true, true, true, false, true, true, true] (ls' := [some (.inr (.inr (some (0, 0)))), some (.inr (.inr (some (9999, 0)))), some (.inl v2), some (.inr (.inr (some (9998, k3)))), some (.inr (.inr (some (9998, k4)))), some (.inr (.inr (some (9998, k5)))), some (.inl v6), some (.inr (.inr (some (9998, k7)))), some (.inr (.inr (some (9998, k8)))), some (.inl v9), none, none, none, none]) rfl ?_
  exact t_L_staffed_120 hrec27 hq hI
def q_L_staffed_74 (rec27 : (sk_D × sk_X × Int32 × Nat × Nat × Nat × Int32 × Nat × Nat × Int32) → Option (Int32 × sk_D × sk_X)) (L : Nat) (xs : Nat → Int32) (x0 : Nat) (d : sk_D) (x : sk_X) (v2 : Int32) (k3 : Nat) (k4 : Nat) (k5 : Nat) (v6 : Int32) (k7 : Nat) (k8 : Nat) (v9 : Int32) (v10 : Int32) (h0 : Nat) (s1 : Int32) (s2 : Int32) : Option (Int32 × sk_D × sk_X) :=
  (q_L_low s2 (3 : Int32)).bind fun y1 => if xb x h0 s1 = true then (q_L_staffed_94 rec27 L xs x0 d (xw x h0 s1.toNatClampNeg y1) v2 k3 k4 k5 v6 k7 k8 v9 v10 k7 (((4 : Int32) * v9) + (2 : Int32)) k7 (((4 : Int32) * v9) + (1 : Int32))) else none
set_option maxRecDepth 100000 in
set_option maxHeartbeats 4000000 in
theorem t_L_staffed_74 {l : Launch} {rec27 : (sk_D × sk_X × Int32 × Nat × Nat × Nat × Int32 × Nat × Nat × Int32) → Option (Int32 × sk_D × sk_X)} {L : Nat} {xs : Nat → Int32} {x0 : Nat} {d : sk_D} {x : sk_X} {v2 : Int32} {k3 : Nat} {k4 : Nat} {k5 : Nat} {v6 : Int32} {k7 : Nat} {k8 : Nat} {v9 : Int32} {v10 : Int32} {h0 : Nat} {s1 : Int32} {s2 : Int32} (hrec27 : ∀ (a : (sk_D × sk_X × Int32 × Nat × Nat × Nat × Int32 × Nat × Nat × Int32)) (res : Int32 × sk_D × sk_X), rec27 a = some res → (x0 ≤ a.2.1.1 ∧ a.2.1.1 ≤ x0 + 3) → sx_G l (sk_rm 14 3 192) m_L_staffed sx_T (sx_Zm m_L_staffed (some (.inl res.1)) res.2.1 res.2.2) a.2.1 L xs (0 + (a.2.1.1 - x0)) (0 + 64 * (a.2.1.1 - x0)) 27 [some (.inr (.inr (some (0, 0)))), some (.inr (.inr (some (9999, 0)))), some (.inl a.2.2.1), some (.inr (.inr (some (9998, a.2.2.2.1)))), some (.inr (.inr (some (9998, a.2.2.2.2.1)))), some (.inr (.inr (some (9998, a.2.2.2.2.2.1)))), some (.inl a.2.2.2.2.2.2.1), some (.inr (.inr (some (9998, a.2.2.2.2.2.2.2.1)))), some (.inr (.inr (some (9998, a.2.2.2.2.2.2.2.2.1)))), some (.inl a.2.2.2.2.2.2.2.2.2), none, none, none, none] [] a.1) {res : Int32 × sk_D × sk_X} (hq : q_L_staffed_74 rec27 L xs x0 d x v2 k3 k4 k5 v6 k7 k8 v9 v10 h0 s1 s2 = some res) (hI : (x0 ≤ x.1 ∧ x.1 ≤ x0 + 3)) :
    sx_G l (sk_rm 14 3 192) m_L_staffed sx_T (sx_Zm m_L_staffed (some (.inl res.1)) res.2.1 res.2.2) x L xs (0 + (x.1 - x0)) (0 + 64 * (x.1 - x0)) 74 [some (.inr (.inr (some (0, 0)))), some (.inr (.inr (some (9999, 0)))), some (.inl v2), some (.inr (.inr (some (9998, k3)))), some (.inr (.inr (some (9998, k4)))), some (.inr (.inr (some (9998, k5)))), some (.inl v6), some (.inr (.inr (some (9998, k7)))), some (.inr (.inr (some (9998, k8)))), some (.inl v9), some (.inl v10), none, none, none] [.inl (3 : Int32), .inl s2, .inl s1, .inr (.inr (some (9998, h0)))] d := by
  unfold q_L_staffed_74 at hq
  obtain ⟨y1, hr_y1, hq⟩ := sk_bnd hq
  refine sx_callBi (as := [.inl s2, .inl (3 : Int32)]) (st := [.inl s1, .inr (.inr (some (9998, h0)))]) 77 (s_L_low hr_y1) (sk_td o_L_staffed 43 rfl) rfl ls_L_55 rfl (Nat.le_of_ble_eq_true rfl) hI rfl rfl hI.2 (Nat.le_of_ble_eq_true rfl) (Nat.le_of_ble_eq_true rfl) (Nat.le_of_ble_eq_true rfl) (Nat.le_of_ble_eq_true rfl) (fun hI => ?_)
  obtain ⟨hb2, hq⟩ := sk_ifn hq
  refine sx_st 78 (sk_td o_L_staffed 44 rfl) rfl hb2 ?_
  refine sg_aload 80 (sk_td o_L_staffed 45 rfl) rfl rfl ?_
  refine sg_iconst (v := (4 : Int32)) 81 (sk_td o_L_staffed 46 rfl) rfl (by decide) ?_
  refine sg_iload 83 (sk_td o_L_staffed 47 rfl) rfl rfl ?_
  refine sg_imul 84 (sk_td o_L_staffed 48 rfl) rfl ?_
  refine sg_iconst (v := (2 : Int32)) 85 (sk_td o_L_staffed 49 rfl) rfl (by decide) ?_
  refine sg_iadd 86 (sk_td o_L_staffed 50 rfl) rfl ?_
  refine sg_aload 88 (sk_td o_L_staffed 51 rfl) rfl rfl ?_
  refine sg_iconst (v := (4 : Int32)) 89 (sk_td o_L_staffed 52 rfl) rfl (by decide) ?_
  refine sg_iload 91 (sk_td o_L_staffed 53 rfl) rfl rfl ?_
  refine sg_imul 92 (sk_td o_L_staffed 54 rfl) rfl ?_
  refine sg_iconst (v := (1 : Int32)) 93 (sk_td o_L_staffed 55 rfl) rfl (by decide) ?_
  refine sg_iadd 94 (sk_td o_L_staffed 56 rfl) rfl ?_
  exact t_L_staffed_94 hrec27 hq hI
def q_L_staffed_27 (rec27 : (sk_D × sk_X × Int32 × Nat × Nat × Nat × Int32 × Nat × Nat × Int32) → Option (Int32 × sk_D × sk_X)) (L : Nat) (xs : Nat → Int32) (x0 : Nat) (d : sk_D) (x : sk_X) (v2 : Int32) (k3 : Nat) (k4 : Nat) (k5 : Nat) (v6 : Int32) (k7 : Nat) (k8 : Nat) (v9 : Int32) : Option (Int32 × sk_D × sk_X) :=
  if v6 ≤ v9 then (q_L_bestStaff x v2 v6 k4 k3 k7 k8).bind fun y1 => if y1.2.1 = x.1 + 1 then if y1.2.1 ≤ x0 + 3 then (q_X8_staff d).bind fun y4 => if 0 ≤ y1.1 then (q_L_staffed_207 L xs x0 y4.2 y1.2 v2 k4 k5 v6 k7 k8 y1.1 y4.1 y1.1) else (q_L_staffed_207 L xs x0 y4.2 y1.2 v2 k4 k5 v6 k7 k8 y1.1 y4.1 (-2 : Int32)) else none else none else (q_L_cell L xs ((16 : Int32) + v9)).bind fun y5 => (q_L_low y5 (7 : Int32)).bind fun y6 => if xb x k7 ((4 : Int32) * v9) = true then (q_L_staffed_74 rec27 L xs x0 d (xw x k7 ((4 : Int32) * v9).toNatClampNeg ((1 : Int32) + y6)) v2 k3 k4 k5 v6 k7 k8 v9 y5 k7 (((4 : Int32) * v9) + (1 : Int32)) (y5 >>> ((3 : Int32) &&& 31))) else none
set_option maxRecDepth 100000 in
set_option maxHeartbeats 4000000 in
theorem t_L_staffed_27 {l : Launch} {rec27 : (sk_D × sk_X × Int32 × Nat × Nat × Nat × Int32 × Nat × Nat × Int32) → Option (Int32 × sk_D × sk_X)} {L : Nat} {xs : Nat → Int32} {x0 : Nat} {d : sk_D} {x : sk_X} {v2 : Int32} {k3 : Nat} {k4 : Nat} {k5 : Nat} {v6 : Int32} {k7 : Nat} {k8 : Nat} {v9 : Int32} (hrec27 : ∀ (a : (sk_D × sk_X × Int32 × Nat × Nat × Nat × Int32 × Nat × Nat × Int32)) (res : Int32 × sk_D × sk_X), rec27 a = some res → (x0 ≤ a.2.1.1 ∧ a.2.1.1 ≤ x0 + 3) → sx_G l (sk_rm 14 3 192) m_L_staffed sx_T (sx_Zm m_L_staffed (some (.inl res.1)) res.2.1 res.2.2) a.2.1 L xs (0 + (a.2.1.1 - x0)) (0 + 64 * (a.2.1.1 - x0)) 27 [some (.inr (.inr (some (0, 0)))), some (.inr (.inr (some (9999, 0)))), some (.inl a.2.2.1), some (.inr (.inr (some (9998, a.2.2.2.1)))), some (.inr (.inr (some (9998, a.2.2.2.2.1)))), some (.inr (.inr (some (9998, a.2.2.2.2.2.1)))), some (.inl a.2.2.2.2.2.2.1), some (.inr (.inr (some (9998, a.2.2.2.2.2.2.2.1)))), some (.inr (.inr (some (9998, a.2.2.2.2.2.2.2.2.1)))), some (.inl a.2.2.2.2.2.2.2.2.2), none, none, none, none] [] a.1) {res : Int32 × sk_D × sk_X} (hq : q_L_staffed_27 rec27 L xs x0 d x v2 k3 k4 k5 v6 k7 k8 v9 = some res) (hI : (x0 ≤ x.1 ∧ x.1 ≤ x0 + 3)) :
    sx_G l (sk_rm 14 3 192) m_L_staffed sx_T (sx_Zm m_L_staffed (some (.inl res.1)) res.2.1 res.2.2) x L xs (0 + (x.1 - x0)) (0 + 64 * (x.1 - x0)) 27 [some (.inr (.inr (some (0, 0)))), some (.inr (.inr (some (9999, 0)))), some (.inl v2), some (.inr (.inr (some (9998, k3)))), some (.inr (.inr (some (9998, k4)))), some (.inr (.inr (some (9998, k5)))), some (.inl v6), some (.inr (.inr (some (9998, k7)))), some (.inr (.inr (some (9998, k8)))), some (.inl v9), none, none, none, none] [] d := by
  unfold q_L_staffed_27 at hq
  refine sg_iload 29 (sk_td o_L_staffed 14 rfl) rfl rfl ?_
  refine sg_iload 31 (sk_td o_L_staffed 15 rfl) rfl rfl ?_
  refine sg_ic_ge 176 34 (sk_td o_L_staffed 16 rfl) (by decide) rfl (fun hc => ?_) (fun hc => ?_)
  · rw [if_pos hc] at hq
    refine sg_iload_n 177 (sk_td o_L_staffed 113 rfl) rfl rfl ?_
    refine sg_iload 179 (sk_td o_L_staffed 114 rfl) rfl rfl ?_
    refine sg_aload 181 (sk_td o_L_staffed 115 rfl) rfl rfl ?_
    refine sg_aload_n 182 (sk_td o_L_staffed 116 rfl) rfl rfl ?_
    refine sg_aload 184 (sk_td o_L_staffed 117 rfl) rfl rfl ?_
    refine sg_aload 186 (sk_td o_L_staffed 118 rfl) rfl rfl ?_
    obtain ⟨y1, hr_y1, hq⟩ := sk_bnd hq
    obtain ⟨hx2, hq⟩ := sk_ifn hq
    obtain ⟨hl3, hq⟩ := sk_ifn hq
    refine sx_callBi (as := [.inl v2, .inl v6, .inr (.inr (some (9998, k4))), .inr (.inr (some (9998, k3))), .inr (.inr (some (9998, k7))), .inr (.inr (some (9998, k8)))]) (st := []) 189 (s_L_bestStaff hr_y1) (sk_td o_L_staffed 119 rfl) rfl ls_L_83 rfl (Nat.le_of_ble_eq_true rfl) hI rfl hx2 hl3 (Nat.le_of_ble_eq_true rfl) (Nat.le_of_ble_eq_true rfl) (Nat.le_of_ble_eq_true rfl) (Nat.le_of_ble_eq_true rfl) (fun hI => ?_)
    refine sg_istore 191 [some (.inr (.inr (some (0, 0)))), some (.inr (.inr (some (9999, 0)))), some (.inl v2), some (.inr (.inr (some (9998, k3)))), some (.inr (.inr (some (9998, k4)))), some (.inr (.inr (some (9998, k5)))), some (.inl v6), some (.inr (.inr (some (9998, k7)))), some (.inr (.inr (some (9998, k8)))), some (.inl y1.1), none, none, none, none] (sk_td o_L_staffed 120 rfl) rfl rfl (Nat.le_of_ble_eq_true rfl) rfl ?_
    refine sg_aload_n 192 (sk_td o_L_staffed 121 rfl) rfl rfl ?_
    obtain ⟨y4, hr_y4, hq⟩ := sk_bnd hq
    refine sm_callL0i 195 (s_X8_staff hr_y4) (sk_td o_L_staffed 122 rfl) rfl lv_L_87 rfl rfl rfl sz_0 (sx_rk hI (Nat.le_of_ble_eq_true rfl) (Nat.le_of_ble_eq_true rfl) (Nat.le_of_ble_eq_true rfl) (Nat.le_of_ble_eq_true rfl) rfl) (Nat.le_of_ble_eq_true rfl) ?_
    refine sg_iload 197 (sk_td o_L_staffed 123 rfl) rfl rfl ?_
    refine sg_if_ge 205 200 (sk_td o_L_staffed 124 rfl) (by decide) rfl (fun hc => ?_) (fun hc => ?_)
    · rw [if_pos hc] at hq
      refine sg_iload 207 (sk_td o_L_staffed 127 rfl) rfl rfl ?_
      refine sx_wk [true, true, true, false, true, true, true, true, true, true, true, true, true, true] (ls' := [some (.inr (.inr (some (0, 0)))), some (.inr (.inr (some (9999, 0)))), some (.inl v2), none, some (.inr (.inr (some (9998, k4)))), some (.inr (.inr (some (9998, k5)))), some (.inl v6), some (.inr (.inr (some (9998, k7)))), some (.inr (.inr (some (9998, k8)))), some (.inl y1.1), none, none, none, none]) rfl ?_
      exact t_L_staffed_207 hq hI
    · rw [if_neg hc] at hq
      refine sg_bipush (v := (-2 : Int32)) 202 (sk_td o_L_staffed 125 rfl) rfl (by decide) ?_
      refine sg_goto 207 (sk_td o_L_staffed 126 rfl) (by decide) ?_
      refine sx_wk [true, true, true, false, true, true, true, true, true, true, true, true, true, true] (ls' := [some (.inr (.inr (some (0, 0)))), some (.inr (.inr (some (9999, 0)))), some (.inl v2), none, some (.inr (.inr (some (9998, k4)))), some (.inr (.inr (some (9998, k5)))), some (.inl v6), some (.inr (.inr (some (9998, k7)))), some (.inr (.inr (some (9998, k8)))), some (.inl y1.1), none, none, none, none]) rfl ?_
      exact t_L_staffed_207 hq hI
  · rw [if_neg hc] at hq
    refine sg_aload_n 35 (sk_td o_L_staffed 17 rfl) rfl rfl ?_
    refine sg_bipush (v := (16 : Int32)) 37 (sk_td o_L_staffed 18 rfl) rfl (by decide) ?_
    refine sg_iload 39 (sk_td o_L_staffed 19 rfl) rfl rfl ?_
    refine sg_iadd 40 (sk_td o_L_staffed 20 rfl) rfl ?_
    obtain ⟨y5, hr_y5, hq⟩ := sk_bnd hq
    refine sx_callBi (as := [.inr (.inr (some (9999, 0))), .inl ((16 : Int32) + v9)]) (st := []) 43 (s_L_cell hr_y5) (sk_td o_L_staffed 21 rfl) rfl ls_L_51 rfl (Nat.le_of_ble_eq_true rfl) hI rfl rfl hI.2 (Nat.le_of_ble_eq_true rfl) (Nat.le_of_ble_eq_true rfl) (Nat.le_of_ble_eq_true rfl) (Nat.le_of_ble_eq_true rfl) (fun hI => ?_)
    refine sg_istore 45 [some (.inr (.inr (some (0, 0)))), some (.inr (.inr (some (9999, 0)))), some (.inl v2), some (.inr (.inr (some (9998, k3)))), some (.inr (.inr (some (9998, k4)))), some (.inr (.inr (some (9998, k5)))), some (.inl v6), some (.inr (.inr (some (9998, k7)))), some (.inr (.inr (some (9998, k8)))), some (.inl v9), some (.inl y5), none, none, none] (sk_td o_L_staffed 22 rfl) rfl rfl (Nat.le_of_ble_eq_true rfl) rfl ?_
    refine sg_aload 47 (sk_td o_L_staffed 23 rfl) rfl rfl ?_
    refine sg_iconst (v := (4 : Int32)) 48 (sk_td o_L_staffed 24 rfl) rfl (by decide) ?_
    refine sg_iload 50 (sk_td o_L_staffed 25 rfl) rfl rfl ?_
    refine sg_imul 51 (sk_td o_L_staffed 26 rfl) rfl ?_
    refine sg_iconst (v := (1 : Int32)) 52 (sk_td o_L_staffed 27 rfl) rfl (by decide) ?_
    refine sg_iload 54 (sk_td o_L_staffed 28 rfl) rfl rfl ?_
    refine sg_bipush (v := (7 : Int32)) 56 (sk_td o_L_staffed 29 rfl) rfl (by decide) ?_
    obtain ⟨y6, hr_y6, hq⟩ := sk_bnd hq
    refine sx_callBi (as := [.inl y5, .inl (7 : Int32)]) (st := [.inl (1 : Int32), .inl ((4 : Int32) * v9), .inr (.inr (some (9998, k7)))]) 59 (s_L_low hr_y6) (sk_td o_L_staffed 30 rfl) rfl ls_L_55 rfl (Nat.le_of_ble_eq_true rfl) hI rfl rfl hI.2 (Nat.le_of_ble_eq_true rfl) (Nat.le_of_ble_eq_true rfl) (Nat.le_of_ble_eq_true rfl) (Nat.le_of_ble_eq_true rfl) (fun hI => ?_)
    refine sg_iadd 60 (sk_td o_L_staffed 31 rfl) rfl ?_
    obtain ⟨hb7, hq⟩ := sk_ifn hq
    refine sx_st 61 (sk_td o_L_staffed 32 rfl) rfl hb7 ?_
    refine sg_aload 63 (sk_td o_L_staffed 33 rfl) rfl rfl ?_
    refine sg_iconst (v := (4 : Int32)) 64 (sk_td o_L_staffed 34 rfl) rfl (by decide) ?_
    refine sg_iload 66 (sk_td o_L_staffed 35 rfl) rfl rfl ?_
    refine sg_imul 67 (sk_td o_L_staffed 36 rfl) rfl ?_
    refine sg_iconst (v := (1 : Int32)) 68 (sk_td o_L_staffed 37 rfl) rfl (by decide) ?_
    refine sg_iadd 69 (sk_td o_L_staffed 38 rfl) rfl ?_
    refine sg_iload 71 (sk_td o_L_staffed 39 rfl) rfl rfl ?_
    refine sg_iconst (v := (3 : Int32)) 72 (sk_td o_L_staffed 40 rfl) rfl (by decide) ?_
    refine sg_ishr 73 (sk_td o_L_staffed 41 rfl) rfl ?_
    refine sg_iconst (v := (3 : Int32)) 74 (sk_td o_L_staffed 42 rfl) rfl (by decide) ?_
    exact t_L_staffed_74 hrec27 hq hI
def l_L_staffed_27 (L : Nat) (xs : Nat → Int32) (x0 : Nat) (fl : Nat) (a : (sk_D × sk_X × Int32 × Nat × Nat × Nat × Int32 × Nat × Nat × Int32)) : Option (Int32 × sk_D × sk_X) := sk_it (fun rec27 a => q_L_staffed_27 rec27 L xs x0 a.1 a.2.1 a.2.2.1 a.2.2.2.1 a.2.2.2.2.1 a.2.2.2.2.2.1 a.2.2.2.2.2.2.1 a.2.2.2.2.2.2.2.1 a.2.2.2.2.2.2.2.2.1 a.2.2.2.2.2.2.2.2.2) fl a
theorem lt_L_staffed_27 {l : Launch} {L : Nat} {xs : Nat → Int32} {x0 : Nat} : ∀ (fl : Nat) (a : (sk_D × sk_X × Int32 × Nat × Nat × Nat × Int32 × Nat × Nat × Int32)) (res : Int32 × sk_D × sk_X), l_L_staffed_27 L xs x0 fl a = some res → (x0 ≤ a.2.1.1 ∧ a.2.1.1 ≤ x0 + 3) → sx_G l (sk_rm 14 3 192) m_L_staffed sx_T (sx_Zm m_L_staffed (some (.inl res.1)) res.2.1 res.2.2) a.2.1 L xs (0 + (a.2.1.1 - x0)) (0 + 64 * (a.2.1.1 - x0)) 27 [some (.inr (.inr (some (0, 0)))), some (.inr (.inr (some (9999, 0)))), some (.inl a.2.2.1), some (.inr (.inr (some (9998, a.2.2.2.1)))), some (.inr (.inr (some (9998, a.2.2.2.2.1)))), some (.inr (.inr (some (9998, a.2.2.2.2.2.1)))), some (.inl a.2.2.2.2.2.2.1), some (.inr (.inr (some (9998, a.2.2.2.2.2.2.2.1)))), some (.inr (.inr (some (9998, a.2.2.2.2.2.2.2.2.1)))), some (.inl a.2.2.2.2.2.2.2.2.2), none, none, none, none] [] a.1 :=
  sk_it_ind (P := fun (a : (sk_D × sk_X × Int32 × Nat × Nat × Nat × Int32 × Nat × Nat × Int32)) (res : Int32 × sk_D × sk_X) => (x0 ≤ a.2.1.1 ∧ a.2.1.1 ≤ x0 + 3) → sx_G l (sk_rm 14 3 192) m_L_staffed sx_T (sx_Zm m_L_staffed (some (.inl res.1)) res.2.1 res.2.2) a.2.1 L xs (0 + (a.2.1.1 - x0)) (0 + 64 * (a.2.1.1 - x0)) 27 [some (.inr (.inr (some (0, 0)))), some (.inr (.inr (some (9999, 0)))), some (.inl a.2.2.1), some (.inr (.inr (some (9998, a.2.2.2.1)))), some (.inr (.inr (some (9998, a.2.2.2.2.1)))), some (.inr (.inr (some (9998, a.2.2.2.2.2.1)))), some (.inl a.2.2.2.2.2.2.1), some (.inr (.inr (some (9998, a.2.2.2.2.2.2.2.1)))), some (.inr (.inr (some (9998, a.2.2.2.2.2.2.2.2.1)))), some (.inl a.2.2.2.2.2.2.2.2.2), none, none, none, none] [] a.1) (fun rec27 hrec27 a res hq hI => t_L_staffed_27 hrec27 hq hI)
def q_L_staffed_0 (L : Nat) (xs : Nat → Int32) (x0 : Nat) (d : sk_D) (x : sk_X) (v2 : Int32) (k3 : Nat) (k4 : Nat) (k5 : Nat) : Option (Int32 × sk_D × sk_X) :=
  (q_L_cell L xs (15 : Int32)).bind fun y1 => (q_L_low y1 (5 : Int32)).bind fun y2 => if x.1 < x0 + 3 then if (xn x 20).1 < x0 + 3 then (l_L_staffed_27 L xs x0 sk_fu (d, (xn (xn x 20) 8), v2, k3, k4, k5, y2, x.1, (xn x 20).1, (0 : Int32))) else none else none
set_option maxRecDepth 100000 in
set_option maxHeartbeats 4000000 in
theorem t_L_staffed_0 {l : Launch} {L : Nat} {xs : Nat → Int32} {x0 : Nat} {d : sk_D} {x : sk_X} {v2 : Int32} {k3 : Nat} {k4 : Nat} {k5 : Nat} {res : Int32 × sk_D × sk_X} (hq : q_L_staffed_0 L xs x0 d x v2 k3 k4 k5 = some res) (hI : (x0 ≤ x.1 ∧ x.1 ≤ x0 + 3)) :
    sx_G l (sk_rm 14 3 192) m_L_staffed sx_T (sx_Zm m_L_staffed (some (.inl res.1)) res.2.1 res.2.2) x L xs (0 + (x.1 - x0)) (0 + 64 * (x.1 - x0)) 0 [some (.inr (.inr (some (0, 0)))), some (.inr (.inr (some (9999, 0)))), some (.inl v2), some (.inr (.inr (some (9998, k3)))), some (.inr (.inr (some (9998, k4)))), some (.inr (.inr (some (9998, k5)))), none, none, none, none, none, none, none, none] [] d := by
  unfold q_L_staffed_0 at hq
  refine sg_aload_n 1 (sk_td o_L_staffed 0 rfl) rfl rfl ?_
  refine sg_bipush (v := (15 : Int32)) 3 (sk_td o_L_staffed 1 rfl) rfl (by decide) ?_
  obtain ⟨y1, hr_y1, hq⟩ := sk_bnd hq
  refine sx_callBi (as := [.inr (.inr (some (9999, 0))), .inl (15 : Int32)]) (st := []) 6 (s_L_cell hr_y1) (sk_td o_L_staffed 2 rfl) rfl ls_L_51 rfl (Nat.le_of_ble_eq_true rfl) hI rfl rfl hI.2 (Nat.le_of_ble_eq_true rfl) (Nat.le_of_ble_eq_true rfl) (Nat.le_of_ble_eq_true rfl) (Nat.le_of_ble_eq_true rfl) (fun hI => ?_)
  refine sg_iconst (v := (5 : Int32)) 7 (sk_td o_L_staffed 3 rfl) rfl (by decide) ?_
  obtain ⟨y2, hr_y2, hq⟩ := sk_bnd hq
  refine sx_callBi (as := [.inl y1, .inl (5 : Int32)]) (st := []) 10 (s_L_low hr_y2) (sk_td o_L_staffed 4 rfl) rfl ls_L_55 rfl (Nat.le_of_ble_eq_true rfl) hI rfl rfl hI.2 (Nat.le_of_ble_eq_true rfl) (Nat.le_of_ble_eq_true rfl) (Nat.le_of_ble_eq_true rfl) (Nat.le_of_ble_eq_true rfl) (fun hI => ?_)
  refine sg_istore 12 [some (.inr (.inr (some (0, 0)))), some (.inr (.inr (some (9999, 0)))), some (.inl v2), some (.inr (.inr (some (9998, k3)))), some (.inr (.inr (some (9998, k4)))), some (.inr (.inr (some (9998, k5)))), some (.inl y2), none, none, none, none, none, none, none] (sk_td o_L_staffed 5 rfl) rfl rfl (Nat.le_of_ble_eq_true rfl) rfl ?_
  refine sg_bipush (v := (20 : Int32)) 14 (sk_td o_L_staffed 6 rfl) rfl (by decide) ?_
  obtain ⟨hn3, hq⟩ := sk_ifn hq
  refine sx_newB (N := 20) 16 (sk_td o_L_staffed 7 rfl) rfl (by decide) (by decide) (by decide) hI hn3 (Nat.le_of_ble_eq_true rfl) (Nat.le_of_ble_eq_true rfl) (fun hI => ?_)
  refine sg_astore 18 [some (.inr (.inr (some (0, 0)))), some (.inr (.inr (some (9999, 0)))), some (.inl v2), some (.inr (.inr (some (9998, k3)))), some (.inr (.inr (some (9998, k4)))), some (.inr (.inr (some (9998, k5)))), some (.inl y2), some (.inr (.inr (some (9998, x.1)))), none, none, none, none, none, none] (sk_td o_L_staffed 8 rfl) rfl rfl (Nat.le_of_ble_eq_true rfl) rfl ?_
  refine sg_bipush (v := (8 : Int32)) 20 (sk_td o_L_staffed 9 rfl) rfl (by decide) ?_
  obtain ⟨hn4, hq⟩ := sk_ifn hq
  refine sx_newB (N := 8) 22 (sk_td o_L_staffed 10 rfl) rfl (by decide) (by decide) (by decide) hI hn4 (Nat.le_of_ble_eq_true rfl) (Nat.le_of_ble_eq_true rfl) (fun hI => ?_)
  refine sg_astore 24 [some (.inr (.inr (some (0, 0)))), some (.inr (.inr (some (9999, 0)))), some (.inl v2), some (.inr (.inr (some (9998, k3)))), some (.inr (.inr (some (9998, k4)))), some (.inr (.inr (some (9998, k5)))), some (.inl y2), some (.inr (.inr (some (9998, x.1)))), some (.inr (.inr (some (9998, (xn x 20).1)))), none, none, none, none, none] (sk_td o_L_staffed 11 rfl) rfl rfl (Nat.le_of_ble_eq_true rfl) rfl ?_
  refine sg_iconst (v := (0 : Int32)) 25 (sk_td o_L_staffed 12 rfl) rfl (by decide) ?_
  refine sg_istore 27 [some (.inr (.inr (some (0, 0)))), some (.inr (.inr (some (9999, 0)))), some (.inl v2), some (.inr (.inr (some (9998, k3)))), some (.inr (.inr (some (9998, k4)))), some (.inr (.inr (some (9998, k5)))), some (.inl y2), some (.inr (.inr (some (9998, x.1)))), some (.inr (.inr (some (9998, (xn x 20).1)))), some (.inl (0 : Int32)), none, none, none, none] (sk_td o_L_staffed 13 rfl) rfl rfl (Nat.le_of_ble_eq_true rfl) rfl ?_
  exact lt_L_staffed_27 sk_fu (d, (xn (xn x 20) 8), v2, k3, k4, k5, y2, x.1, (xn x 20).1, (0 : Int32)) _ hq hI
def q_L_staffed (L : Nat) (xs : Nat → Int32) (d : sk_D) (x : sk_X) (v2 : Int32) (k3 : Nat) (k4 : Nat) (k5 : Nat) : Option (Int32 × sk_D × sk_X) := q_L_staffed_0 L xs x.1 d x v2 k3 k4 k5 
theorem s_L_staffed {l : Launch} {L : Nat} {xs : Nat → Int32} {d : sk_D} {x : sk_X} {v2 : Int32} {k3 : Nat} {k4 : Nat} {k5 : Nat} {res : Int32 × sk_D × sk_X} (hq : q_L_staffed L xs d x v2 k3 k4 k5 = some res) : sx_M l 14 m_L_staffed [.inr (.inr (some (0, 0))), .inr (.inr (some (9999, 0))), .inl v2, .inr (.inr (some (9998, k3))), .inr (.inr (some (9998, k4))), .inr (.inr (some (9998, k5)))] d x (some (.inl res.1)) res.2.1 res.2.2 L xs :=
  sx_enter (by decide) (fun _ => Nat.le_of_ble_eq_true rfl) (Nat.le_of_ble_eq_true rfl) (sk_widen (Nat.zero_le _) (Nat.zero_le _) (t_L_staffed_0 hq ⟨Nat.le_refl _, Nat.le_add_right _ _⟩))
def q_L_lifts_429 (L : Nat) (xs : Nat → Int32) (x0 : Nat) (d : sk_D) (x : sk_X) (v8 : Int32) (v9 : Int32) : Option (Int32 × sk_D × sk_X) :=
  (q_X8_bestStart d v9 v8).bind fun y1 => if y1.1 = (-2 : Int32) then some ((1 : Int32), y1.2, x) else some ((0 : Int32), y1.2, x)
set_option maxRecDepth 100000 in
set_option maxHeartbeats 4000000 in
theorem t_L_lifts_429 {l : Launch} {L : Nat} {xs : Nat → Int32} {x0 : Nat} {d : sk_D} {x : sk_X} {v8 : Int32} {v9 : Int32} {res : Int32 × sk_D × sk_X} (hq : q_L_lifts_429 L xs x0 d x v8 v9 = some res) (hI : (x0 ≤ x.1 ∧ x.1 ≤ x0 + 131)) :
    sx_G l (sk_rm 8 131 8384) m_L_lifts sx_T (sx_Zm m_L_lifts (some (.inl res.1)) res.2.1 res.2.2) x L xs (0 + (x.1 - x0)) (0 + 64 * (x.1 - x0)) 429 [some (.inr (.inr (some (0, 0)))), none, none, none, none, none, none, none, some (.inl v8), some (.inl v9), none, none, none] [] d := by
  unfold q_L_lifts_429 at hq
  refine sg_aload_n 430 (sk_td o_L_lifts 258 rfl) rfl rfl ?_
  refine sg_iload 432 (sk_td o_L_lifts 259 rfl) rfl rfl ?_
  refine sg_iload 434 (sk_td o_L_lifts 260 rfl) rfl rfl ?_
  obtain ⟨y1, hr_y1, hq⟩ := sk_bnd hq
  refine sm_callL2i 437 (s_X8_bestStart hr_y1) (sk_td o_L_lifts 261 rfl) rfl lv_L_76 rfl rfl rfl sz_0 (sx_rk hI (Nat.le_of_ble_eq_true rfl) (Nat.le_of_ble_eq_true rfl) (Nat.le_of_ble_eq_true rfl) (Nat.le_of_ble_eq_true rfl) rfl) (Nat.le_of_ble_eq_true rfl) ?_
  refine sg_bipush (v := (-2 : Int32)) 439 (sk_td o_L_lifts 262 rfl) rfl (by decide) ?_
  refine sg_ic_ne 446 442 (sk_td o_L_lifts 263 rfl) (by decide) rfl (fun hc => ?_) (fun hc => ?_)
  · rw [if_neg hc] at hq
    refine sg_iconst (v := (0 : Int32)) 447 (sk_td o_L_lifts 266 rfl) rfl (by decide) ?_
    obtain rfl := Option.some.inj hq
    exact sx_iret rfl (sk_td o_L_lifts 267 rfl) rfl (show narrow .boolean (.int (0 : Int32)) = .int (0 : Int32) by decide) (sx_l1 hI) (sx_l2 hI)
  · rw [if_pos hc] at hq
    refine sg_iconst (v := (1 : Int32)) 443 (sk_td o_L_lifts 264 rfl) rfl (by decide) ?_
    refine sg_goto 447 (sk_td o_L_lifts 265 rfl) (by decide) ?_
    obtain rfl := Option.some.inj hq
    exact sx_iret rfl (sk_td o_L_lifts 267 rfl) rfl (show narrow .boolean (.int (1 : Int32)) = .int (1 : Int32) by decide) (sx_l1 hI) (sx_l2 hI)
def q_L_lifts_517 (rec457 : (sk_D × sk_X × Int32 × Nat × Int32 × Nat × Nat × Nat × Int32 × Int32 × Int32 × Int32 × Int32) → Option (Int32 × sk_D × sk_X)) (L : Nat) (xs : Nat → Int32) (x0 : Nat) (d : sk_D) (x : sk_X) (v2 : Int32) (k3 : Nat) (v4 : Int32) (k5 : Nat) (k6 : Nat) (k7 : Nat) (v8 : Int32) (v9 : Int32) (v10 : Int32) (v11 : Int32) (v12 : Int32) : Option (Int32 × sk_D × sk_X) :=
  (rec457 (d, x, v2, k3, v4, k5, k6, k7, v8, v9, v10, v11, (v12 + (1 : Int32))))
set_option maxRecDepth 100000 in
set_option maxHeartbeats 4000000 in
theorem t_L_lifts_517 {l : Launch} {rec457 : (sk_D × sk_X × Int32 × Nat × Int32 × Nat × Nat × Nat × Int32 × Int32 × Int32 × Int32 × Int32) → Option (Int32 × sk_D × sk_X)} {L : Nat} {xs : Nat → Int32} {x0 : Nat} {d : sk_D} {x : sk_X} {v2 : Int32} {k3 : Nat} {v4 : Int32} {k5 : Nat} {k6 : Nat} {k7 : Nat} {v8 : Int32} {v9 : Int32} {v10 : Int32} {v11 : Int32} {v12 : Int32} (hrec457 : ∀ (a : (sk_D × sk_X × Int32 × Nat × Int32 × Nat × Nat × Nat × Int32 × Int32 × Int32 × Int32 × Int32)) (res : Int32 × sk_D × sk_X), rec457 a = some res → (x0 ≤ a.2.1.1 ∧ a.2.1.1 ≤ x0 + 131) → sx_G l (sk_rm 8 131 8384) m_L_lifts sx_T (sx_Zm m_L_lifts (some (.inl res.1)) res.2.1 res.2.2) a.2.1 L xs (0 + (a.2.1.1 - x0)) (0 + 64 * (a.2.1.1 - x0)) 457 [some (.inr (.inr (some (0, 0)))), none, some (.inl a.2.2.1), some (.inr (.inr (some (9998, a.2.2.2.1)))), some (.inl a.2.2.2.2.1), some (.inr (.inr (some (9998, a.2.2.2.2.2.1)))), some (.inr (.inr (some (9998, a.2.2.2.2.2.2.1)))), some (.inr (.inr (some (9998, a.2.2.2.2.2.2.2.1)))), some (.inl a.2.2.2.2.2.2.2.2.1), some (.inl a.2.2.2.2.2.2.2.2.2.1), some (.inl a.2.2.2.2.2.2.2.2.2.2.1), some (.inl a.2.2.2.2.2.2.2.2.2.2.2.1), some (.inl a.2.2.2.2.2.2.2.2.2.2.2.2)] [] a.1) {res : Int32 × sk_D × sk_X} (hq : q_L_lifts_517 rec457 L xs x0 d x v2 k3 v4 k5 k6 k7 v8 v9 v10 v11 v12 = some res) (hI : (x0 ≤ x.1 ∧ x.1 ≤ x0 + 131)) :
    sx_G l (sk_rm 8 131 8384) m_L_lifts sx_T (sx_Zm m_L_lifts (some (.inl res.1)) res.2.1 res.2.2) x L xs (0 + (x.1 - x0)) (0 + 64 * (x.1 - x0)) 517 [some (.inr (.inr (some (0, 0)))), none, some (.inl v2), some (.inr (.inr (some (9998, k3)))), some (.inl v4), some (.inr (.inr (some (9998, k5)))), some (.inr (.inr (some (9998, k6)))), some (.inr (.inr (some (9998, k7)))), some (.inl v8), some (.inl v9), some (.inl v10), some (.inl v11), some (.inl v12)] [] d := by
  unfold q_L_lifts_517 at hq
  refine sg_iinc (v12 + (1 : Int32)) 520 [some (.inr (.inr (some (0, 0)))), none, some (.inl v2), some (.inr (.inr (some (9998, k3)))), some (.inl v4), some (.inr (.inr (some (9998, k5)))), some (.inr (.inr (some (9998, k6)))), some (.inr (.inr (some (9998, k7)))), some (.inl v8), some (.inl v9), some (.inl v10), some (.inl v11), some (.inl (v12 + (1 : Int32)))] (sk_td o_L_lifts 306 rfl) rfl rfl rfl rfl (Nat.le_of_ble_eq_true rfl) rfl ?_
  refine sg_goto 457 (sk_td o_L_lifts 307 rfl) (by decide) ?_
  exact hrec457 (d, x, v2, k3, v4, k5, k6, k7, v8, v9, v10, v11, (v12 + (1 : Int32))) _ hq hI
def q_L_lifts_506 (rec457 : (sk_D × sk_X × Int32 × Nat × Int32 × Nat × Nat × Nat × Int32 × Int32 × Int32 × Int32 × Int32) → Option (Int32 × sk_D × sk_X)) (L : Nat) (xs : Nat → Int32) (x0 : Nat) (d : sk_D) (x : sk_X) (v2 : Int32) (k3 : Nat) (v4 : Int32) (k5 : Nat) (k6 : Nat) (k7 : Nat) (v8 : Int32) (v9 : Int32) (v12 : Int32) : Option (Int32 × sk_D × sk_X) :=
  if xb x k7 v9 = true then (q_L_lifts_517 rec457 L xs x0 d x v2 k3 v4 k5 k6 k7 v8 v9 (x.2.2 k7 v9.toNatClampNeg) v12 v12) else none
set_option maxRecDepth 100000 in
set_option maxHeartbeats 4000000 in
theorem t_L_lifts_506 {l : Launch} {rec457 : (sk_D × sk_X × Int32 × Nat × Int32 × Nat × Nat × Nat × Int32 × Int32 × Int32 × Int32 × Int32) → Option (Int32 × sk_D × sk_X)} {L : Nat} {xs : Nat → Int32} {x0 : Nat} {d : sk_D} {x : sk_X} {v2 : Int32} {k3 : Nat} {v4 : Int32} {k5 : Nat} {k6 : Nat} {k7 : Nat} {v8 : Int32} {v9 : Int32} {v12 : Int32} (hrec457 : ∀ (a : (sk_D × sk_X × Int32 × Nat × Int32 × Nat × Nat × Nat × Int32 × Int32 × Int32 × Int32 × Int32)) (res : Int32 × sk_D × sk_X), rec457 a = some res → (x0 ≤ a.2.1.1 ∧ a.2.1.1 ≤ x0 + 131) → sx_G l (sk_rm 8 131 8384) m_L_lifts sx_T (sx_Zm m_L_lifts (some (.inl res.1)) res.2.1 res.2.2) a.2.1 L xs (0 + (a.2.1.1 - x0)) (0 + 64 * (a.2.1.1 - x0)) 457 [some (.inr (.inr (some (0, 0)))), none, some (.inl a.2.2.1), some (.inr (.inr (some (9998, a.2.2.2.1)))), some (.inl a.2.2.2.2.1), some (.inr (.inr (some (9998, a.2.2.2.2.2.1)))), some (.inr (.inr (some (9998, a.2.2.2.2.2.2.1)))), some (.inr (.inr (some (9998, a.2.2.2.2.2.2.2.1)))), some (.inl a.2.2.2.2.2.2.2.2.1), some (.inl a.2.2.2.2.2.2.2.2.2.1), some (.inl a.2.2.2.2.2.2.2.2.2.2.1), some (.inl a.2.2.2.2.2.2.2.2.2.2.2.1), some (.inl a.2.2.2.2.2.2.2.2.2.2.2.2)] [] a.1) {res : Int32 × sk_D × sk_X} (hq : q_L_lifts_506 rec457 L xs x0 d x v2 k3 v4 k5 k6 k7 v8 v9 v12 = some res) (hI : (x0 ≤ x.1 ∧ x.1 ≤ x0 + 131)) :
    sx_G l (sk_rm 8 131 8384) m_L_lifts sx_T (sx_Zm m_L_lifts (some (.inl res.1)) res.2.1 res.2.2) x L xs (0 + (x.1 - x0)) (0 + 64 * (x.1 - x0)) 506 [some (.inr (.inr (some (0, 0)))), none, some (.inl v2), some (.inr (.inr (some (9998, k3)))), some (.inl v4), some (.inr (.inr (some (9998, k5)))), some (.inr (.inr (some (9998, k6)))), some (.inr (.inr (some (9998, k7)))), some (.inl v8), some (.inl v9), none, none, some (.inl v12)] [] d := by
  unfold q_L_lifts_506 at hq
  refine sg_aload 508 (sk_td o_L_lifts 300 rfl) rfl rfl ?_
  refine sg_iload 510 (sk_td o_L_lifts 301 rfl) rfl rfl ?_
  obtain ⟨hb1, hq⟩ := sk_ifn hq
  refine sx_ld 511 (sk_td o_L_lifts 302 rfl) rfl hb1 ?_
  refine sg_istore 513 [some (.inr (.inr (some (0, 0)))), none, some (.inl v2), some (.inr (.inr (some (9998, k3)))), some (.inl v4), some (.inr (.inr (some (9998, k5)))), some (.inr (.inr (some (9998, k6)))), some (.inr (.inr (some (9998, k7)))), some (.inl v8), some (.inl v9), some (.inl (x.2.2 k7 v9.toNatClampNeg)), none, some (.inl v12)] (sk_td o_L_lifts 303 rfl) rfl rfl (Nat.le_of_ble_eq_true rfl) rfl ?_
  refine sg_iload 515 (sk_td o_L_lifts 304 rfl) rfl rfl ?_
  refine sg_istore 517 [some (.inr (.inr (some (0, 0)))), none, some (.inl v2), some (.inr (.inr (some (9998, k3)))), some (.inl v4), some (.inr (.inr (some (9998, k5)))), some (.inr (.inr (some (9998, k6)))), some (.inr (.inr (some (9998, k7)))), some (.inl v8), some (.inl v9), some (.inl (x.2.2 k7 v9.toNatClampNeg)), some (.inl v12), some (.inl v12)] (sk_td o_L_lifts 305 rfl) rfl rfl (Nat.le_of_ble_eq_true rfl) rfl ?_
  exact t_L_lifts_517 hrec457 hq hI
def q_L_lifts_488 (rec457 : (sk_D × sk_X × Int32 × Nat × Int32 × Nat × Nat × Nat × Int32 × Int32 × Int32 × Int32 × Int32) → Option (Int32 × sk_D × sk_X)) (L : Nat) (xs : Nat → Int32) (x0 : Nat) (d : sk_D) (x : sk_X) (v2 : Int32) (k3 : Nat) (v4 : Int32) (k5 : Nat) (k6 : Nat) (k7 : Nat) (v8 : Int32) (v9 : Int32) (v10 : Int32) (v11 : Int32) (v12 : Int32) (s0 : Int32) (s1 : Int32) (s2 : Int32) (h3 : Nat) (h4 : Nat) (h5 : Nat) (h6 : Nat) : Option (Int32 × sk_D × sk_X) :=
  (q_L_simulate x s0 s1 s2 h3 h4 h5 h6).bind fun y1 => if y1.1 = x.1 + 4 then if y1.1 ≤ x0 + 131 then if v10 < 0 then (q_L_lifts_506 rec457 L xs x0 d y1 v2 k3 v4 k5 k6 k7 v8 v9 v12) else if xb y1 k7 v9 = true then if v10 ≤ (y1.2.2 k7 v9.toNatClampNeg) then (q_L_lifts_517 rec457 L xs x0 d y1 v2 k3 v4 k5 k6 k7 v8 v9 v10 v11 v12) else (q_L_lifts_506 rec457 L xs x0 d y1 v2 k3 v4 k5 k6 k7 v8 v9 v12) else none else none else none
set_option maxRecDepth 100000 in
set_option maxHeartbeats 4000000 in
theorem t_L_lifts_488 {l : Launch} {rec457 : (sk_D × sk_X × Int32 × Nat × Int32 × Nat × Nat × Nat × Int32 × Int32 × Int32 × Int32 × Int32) → Option (Int32 × sk_D × sk_X)} {L : Nat} {xs : Nat → Int32} {x0 : Nat} {d : sk_D} {x : sk_X} {v2 : Int32} {k3 : Nat} {v4 : Int32} {k5 : Nat} {k6 : Nat} {k7 : Nat} {v8 : Int32} {v9 : Int32} {v10 : Int32} {v11 : Int32} {v12 : Int32} {s0 : Int32} {s1 : Int32} {s2 : Int32} {h3 : Nat} {h4 : Nat} {h5 : Nat} {h6 : Nat} (hrec457 : ∀ (a : (sk_D × sk_X × Int32 × Nat × Int32 × Nat × Nat × Nat × Int32 × Int32 × Int32 × Int32 × Int32)) (res : Int32 × sk_D × sk_X), rec457 a = some res → (x0 ≤ a.2.1.1 ∧ a.2.1.1 ≤ x0 + 131) → sx_G l (sk_rm 8 131 8384) m_L_lifts sx_T (sx_Zm m_L_lifts (some (.inl res.1)) res.2.1 res.2.2) a.2.1 L xs (0 + (a.2.1.1 - x0)) (0 + 64 * (a.2.1.1 - x0)) 457 [some (.inr (.inr (some (0, 0)))), none, some (.inl a.2.2.1), some (.inr (.inr (some (9998, a.2.2.2.1)))), some (.inl a.2.2.2.2.1), some (.inr (.inr (some (9998, a.2.2.2.2.2.1)))), some (.inr (.inr (some (9998, a.2.2.2.2.2.2.1)))), some (.inr (.inr (some (9998, a.2.2.2.2.2.2.2.1)))), some (.inl a.2.2.2.2.2.2.2.2.1), some (.inl a.2.2.2.2.2.2.2.2.2.1), some (.inl a.2.2.2.2.2.2.2.2.2.2.1), some (.inl a.2.2.2.2.2.2.2.2.2.2.2.1), some (.inl a.2.2.2.2.2.2.2.2.2.2.2.2)] [] a.1) {res : Int32 × sk_D × sk_X} (hq : q_L_lifts_488 rec457 L xs x0 d x v2 k3 v4 k5 k6 k7 v8 v9 v10 v11 v12 s0 s1 s2 h3 h4 h5 h6 = some res) (hI : (x0 ≤ x.1 ∧ x.1 ≤ x0 + 131)) :
    sx_G l (sk_rm 8 131 8384) m_L_lifts sx_T (sx_Zm m_L_lifts (some (.inl res.1)) res.2.1 res.2.2) x L xs (0 + (x.1 - x0)) (0 + 64 * (x.1 - x0)) 488 [some (.inr (.inr (some (0, 0)))), none, some (.inl v2), some (.inr (.inr (some (9998, k3)))), some (.inl v4), some (.inr (.inr (some (9998, k5)))), some (.inr (.inr (some (9998, k6)))), some (.inr (.inr (some (9998, k7)))), some (.inl v8), some (.inl v9), some (.inl v10), some (.inl v11), some (.inl v12)] [.inr (.inr (some (9998, h6))), .inr (.inr (some (9998, h5))), .inr (.inr (some (9998, h4))), .inr (.inr (some (9998, h3))), .inl s2, .inl s1, .inl s0] d := by
  unfold q_L_lifts_488 at hq
  obtain ⟨y1, hr_y1, hq⟩ := sk_bnd hq
  obtain ⟨hx2, hq⟩ := sk_ifn hq
  obtain ⟨hl3, hq⟩ := sk_ifn hq
  refine sx_callBv (as := [.inl s0, .inl s1, .inl s2, .inr (.inr (some (9998, h3))), .inr (.inr (some (9998, h4))), .inr (.inr (some (9998, h5))), .inr (.inr (some (9998, h6)))]) (st := []) 491 (s_L_simulate hr_y1) (sk_td o_L_lifts 292 rfl) rfl ls_L_69 rfl (Nat.le_of_ble_eq_true rfl) hI rfl hx2 hl3 (Nat.le_of_ble_eq_true rfl) (Nat.le_of_ble_eq_true rfl) (Nat.le_of_ble_eq_true rfl) (Nat.le_of_ble_eq_true rfl) (fun hI => ?_)
  refine sg_iload 493 (sk_td o_L_lifts 293 rfl) rfl rfl ?_
  refine sg_if_lt 506 496 (sk_td o_L_lifts 294 rfl) (by decide) rfl (fun hc => ?_) (fun hc => ?_)
  · rw [if_pos hc] at hq
    refine sx_wk [true, true, true, true, true, true, true, true, true, true, false, false, true] (ls' := [some (.inr (.inr (some (0, 0)))), none, some (.inl v2), some (.inr (.inr (some (9998, k3)))), some (.inl v4), some (.inr (.inr (some (9998, k5)))), some (.inr (.inr (some (9998, k6)))), some (.inr (.inr (some (9998, k7)))), some (.inl v8), some (.inl v9), none, none, some (.inl v12)]) rfl ?_
    exact t_L_lifts_506 hrec457 hq hI
  · rw [if_neg hc] at hq
    refine sg_aload 498 (sk_td o_L_lifts 295 rfl) rfl rfl ?_
    refine sg_iload 500 (sk_td o_L_lifts 296 rfl) rfl rfl ?_
    obtain ⟨hb4, hq⟩ := sk_ifn hq
    refine sx_ld 501 (sk_td o_L_lifts 297 rfl) rfl hb4 ?_
    refine sg_iload 503 (sk_td o_L_lifts 298 rfl) rfl rfl ?_
    refine sg_ic_ge 517 506 (sk_td o_L_lifts 299 rfl) (by decide) rfl (fun hc => ?_) (fun hc => ?_)
    · rw [if_pos hc] at hq
      exact t_L_lifts_517 hrec457 hq hI
    · rw [if_neg hc] at hq
      refine sx_wk [true, true, true, true, true, true, true, true, true, true, false, false, true] (ls' := [some (.inr (.inr (some (0, 0)))), none, some (.inl v2), some (.inr (.inr (some (9998, k3)))), some (.inl v4), some (.inr (.inr (some (9998, k5)))), some (.inr (.inr (some (9998, k6)))), some (.inr (.inr (some (9998, k7)))), some (.inl v8), some (.inl v9), none, none, some (.inl v12)]) rfl ?_
      exact t_L_lifts_506 hrec457 hq hI
def q_L_lifts_457 (rec457 : (sk_D × sk_X × Int32 × Nat × Int32 × Nat × Nat × Nat × Int32 × Int32 × Int32 × Int32 × Int32) → Option (Int32 × sk_D × sk_X)) (L : Nat) (xs : Nat → Int32) (x0 : Nat) (d : sk_D) (x : sk_X) (v2 : Int32) (k3 : Nat) (v4 : Int32) (k5 : Nat) (k6 : Nat) (k7 : Nat) (v8 : Int32) (v9 : Int32) (v10 : Int32) (v11 : Int32) (v12 : Int32) : Option (Int32 × sk_D × sk_X) :=
  if (30 : Int32) < v12 then (q_X8_bestStart d v9 v8).bind fun y1 => if y1.1 = v11 then some ((1 : Int32), y1.2, x) else some ((0 : Int32), y1.2, x) else if xb x k6 (((6 : Int32) * v9) + (1 : Int32)) = true then (q_L_lifts_488 rec457 L xs x0 d (xw x k6 (((6 : Int32) * v9) + (1 : Int32)).toNatClampNeg v12) v2 k3 v4 k5 k6 k7 v8 v9 v10 v11 v12 v8 v2 v4 k3 k5 k6 k7) else none
set_option maxRecDepth 100000 in
set_option maxHeartbeats 4000000 in
theorem t_L_lifts_457 {l : Launch} {rec457 : (sk_D × sk_X × Int32 × Nat × Int32 × Nat × Nat × Nat × Int32 × Int32 × Int32 × Int32 × Int32) → Option (Int32 × sk_D × sk_X)} {L : Nat} {xs : Nat → Int32} {x0 : Nat} {d : sk_D} {x : sk_X} {v2 : Int32} {k3 : Nat} {v4 : Int32} {k5 : Nat} {k6 : Nat} {k7 : Nat} {v8 : Int32} {v9 : Int32} {v10 : Int32} {v11 : Int32} {v12 : Int32} (hrec457 : ∀ (a : (sk_D × sk_X × Int32 × Nat × Int32 × Nat × Nat × Nat × Int32 × Int32 × Int32 × Int32 × Int32)) (res : Int32 × sk_D × sk_X), rec457 a = some res → (x0 ≤ a.2.1.1 ∧ a.2.1.1 ≤ x0 + 131) → sx_G l (sk_rm 8 131 8384) m_L_lifts sx_T (sx_Zm m_L_lifts (some (.inl res.1)) res.2.1 res.2.2) a.2.1 L xs (0 + (a.2.1.1 - x0)) (0 + 64 * (a.2.1.1 - x0)) 457 [some (.inr (.inr (some (0, 0)))), none, some (.inl a.2.2.1), some (.inr (.inr (some (9998, a.2.2.2.1)))), some (.inl a.2.2.2.2.1), some (.inr (.inr (some (9998, a.2.2.2.2.2.1)))), some (.inr (.inr (some (9998, a.2.2.2.2.2.2.1)))), some (.inr (.inr (some (9998, a.2.2.2.2.2.2.2.1)))), some (.inl a.2.2.2.2.2.2.2.2.1), some (.inl a.2.2.2.2.2.2.2.2.2.1), some (.inl a.2.2.2.2.2.2.2.2.2.2.1), some (.inl a.2.2.2.2.2.2.2.2.2.2.2.1), some (.inl a.2.2.2.2.2.2.2.2.2.2.2.2)] [] a.1) {res : Int32 × sk_D × sk_X} (hq : q_L_lifts_457 rec457 L xs x0 d x v2 k3 v4 k5 k6 k7 v8 v9 v10 v11 v12 = some res) (hI : (x0 ≤ x.1 ∧ x.1 ≤ x0 + 131)) :
    sx_G l (sk_rm 8 131 8384) m_L_lifts sx_T (sx_Zm m_L_lifts (some (.inl res.1)) res.2.1 res.2.2) x L xs (0 + (x.1 - x0)) (0 + 64 * (x.1 - x0)) 457 [some (.inr (.inr (some (0, 0)))), none, some (.inl v2), some (.inr (.inr (some (9998, k3)))), some (.inl v4), some (.inr (.inr (some (9998, k5)))), some (.inr (.inr (some (9998, k6)))), some (.inr (.inr (some (9998, k7)))), some (.inl v8), some (.inl v9), some (.inl v10), some (.inl v11), some (.inl v12)] [] d := by
  unfold q_L_lifts_457 at hq
  refine sg_iload 459 (sk_td o_L_lifts 274 rfl) rfl rfl ?_
  refine sg_bipush (v := (30 : Int32)) 461 (sk_td o_L_lifts 275 rfl) rfl (by decide) ?_
  refine sg_ic_gt 523 464 (sk_td o_L_lifts 276 rfl) (by decide) rfl (fun hc => ?_) (fun hc => ?_)
  · rw [if_pos hc] at hq
    refine sg_aload_n 524 (sk_td o_L_lifts 308 rfl) rfl rfl ?_
    refine sg_iload 526 (sk_td o_L_lifts 309 rfl) rfl rfl ?_
    refine sg_iload 528 (sk_td o_L_lifts 310 rfl) rfl rfl ?_
    obtain ⟨y1, hr_y1, hq⟩ := sk_bnd hq
    refine sm_callL2i 531 (s_X8_bestStart hr_y1) (sk_td o_L_lifts 311 rfl) rfl lv_L_76 rfl rfl rfl sz_0 (sx_rk hI (Nat.le_of_ble_eq_true rfl) (Nat.le_of_ble_eq_true rfl) (Nat.le_of_ble_eq_true rfl) (Nat.le_of_ble_eq_true rfl) rfl) (Nat.le_of_ble_eq_true rfl) ?_
    refine sg_iload 533 (sk_td o_L_lifts 312 rfl) rfl rfl ?_
    refine sg_ic_ne 540 536 (sk_td o_L_lifts 313 rfl) (by decide) rfl (fun hc => ?_) (fun hc => ?_)
    · rw [if_neg hc] at hq
      refine sg_iconst (v := (0 : Int32)) 541 (sk_td o_L_lifts 316 rfl) rfl (by decide) ?_
      obtain rfl := Option.some.inj hq
      exact sx_iret rfl (sk_td o_L_lifts 317 rfl) rfl (show narrow .boolean (.int (0 : Int32)) = .int (0 : Int32) by decide) (sx_l1 hI) (sx_l2 hI)
    · rw [if_pos hc] at hq
      refine sg_iconst (v := (1 : Int32)) 537 (sk_td o_L_lifts 314 rfl) rfl (by decide) ?_
      refine sg_goto 541 (sk_td o_L_lifts 315 rfl) (by decide) ?_
      obtain rfl := Option.some.inj hq
      exact sx_iret rfl (sk_td o_L_lifts 317 rfl) rfl (show narrow .boolean (.int (1 : Int32)) = .int (1 : Int32) by decide) (sx_l1 hI) (sx_l2 hI)
  · rw [if_neg hc] at hq
    refine sg_aload 466 (sk_td o_L_lifts 277 rfl) rfl rfl ?_
    refine sg_bipush (v := (6 : Int32)) 468 (sk_td o_L_lifts 278 rfl) rfl (by decide) ?_
    refine sg_iload 470 (sk_td o_L_lifts 279 rfl) rfl rfl ?_
    refine sg_imul 471 (sk_td o_L_lifts 280 rfl) rfl ?_
    refine sg_iconst (v := (1 : Int32)) 472 (sk_td o_L_lifts 281 rfl) rfl (by decide) ?_
    refine sg_iadd 473 (sk_td o_L_lifts 282 rfl) rfl ?_
    refine sg_iload 475 (sk_td o_L_lifts 283 rfl) rfl rfl ?_
    obtain ⟨hb2, hq⟩ := sk_ifn hq
    refine sx_st 476 (sk_td o_L_lifts 284 rfl) rfl hb2 ?_
    refine sg_iload 478 (sk_td o_L_lifts 285 rfl) rfl rfl ?_
    refine sg_iload_n 479 (sk_td o_L_lifts 286 rfl) rfl rfl ?_
    refine sg_iload 481 (sk_td o_L_lifts 287 rfl) rfl rfl ?_
    refine sg_aload_n 482 (sk_td o_L_lifts 288 rfl) rfl rfl ?_
    refine sg_aload 484 (sk_td o_L_lifts 289 rfl) rfl rfl ?_
    refine sg_aload 486 (sk_td o_L_lifts 290 rfl) rfl rfl ?_
    refine sg_aload 488 (sk_td o_L_lifts 291 rfl) rfl rfl ?_
    exact t_L_lifts_488 hrec457 hq hI
def l_L_lifts_457 (L : Nat) (xs : Nat → Int32) (x0 : Nat) (fl : Nat) (a : (sk_D × sk_X × Int32 × Nat × Int32 × Nat × Nat × Nat × Int32 × Int32 × Int32 × Int32 × Int32)) : Option (Int32 × sk_D × sk_X) := sk_it (fun rec457 a => q_L_lifts_457 rec457 L xs x0 a.1 a.2.1 a.2.2.1 a.2.2.2.1 a.2.2.2.2.1 a.2.2.2.2.2.1 a.2.2.2.2.2.2.1 a.2.2.2.2.2.2.2.1 a.2.2.2.2.2.2.2.2.1 a.2.2.2.2.2.2.2.2.2.1 a.2.2.2.2.2.2.2.2.2.2.1 a.2.2.2.2.2.2.2.2.2.2.2.1 a.2.2.2.2.2.2.2.2.2.2.2.2) fl a
theorem lt_L_lifts_457 {l : Launch} {L : Nat} {xs : Nat → Int32} {x0 : Nat} : ∀ (fl : Nat) (a : (sk_D × sk_X × Int32 × Nat × Int32 × Nat × Nat × Nat × Int32 × Int32 × Int32 × Int32 × Int32)) (res : Int32 × sk_D × sk_X), l_L_lifts_457 L xs x0 fl a = some res → (x0 ≤ a.2.1.1 ∧ a.2.1.1 ≤ x0 + 131) → sx_G l (sk_rm 8 131 8384) m_L_lifts sx_T (sx_Zm m_L_lifts (some (.inl res.1)) res.2.1 res.2.2) a.2.1 L xs (0 + (a.2.1.1 - x0)) (0 + 64 * (a.2.1.1 - x0)) 457 [some (.inr (.inr (some (0, 0)))), none, some (.inl a.2.2.1), some (.inr (.inr (some (9998, a.2.2.2.1)))), some (.inl a.2.2.2.2.1), some (.inr (.inr (some (9998, a.2.2.2.2.2.1)))), some (.inr (.inr (some (9998, a.2.2.2.2.2.2.1)))), some (.inr (.inr (some (9998, a.2.2.2.2.2.2.2.1)))), some (.inl a.2.2.2.2.2.2.2.2.1), some (.inl a.2.2.2.2.2.2.2.2.2.1), some (.inl a.2.2.2.2.2.2.2.2.2.2.1), some (.inl a.2.2.2.2.2.2.2.2.2.2.2.1), some (.inl a.2.2.2.2.2.2.2.2.2.2.2.2)] [] a.1 :=
  sk_it_ind (P := fun (a : (sk_D × sk_X × Int32 × Nat × Int32 × Nat × Nat × Nat × Int32 × Int32 × Int32 × Int32 × Int32)) (res : Int32 × sk_D × sk_X) => (x0 ≤ a.2.1.1 ∧ a.2.1.1 ≤ x0 + 131) → sx_G l (sk_rm 8 131 8384) m_L_lifts sx_T (sx_Zm m_L_lifts (some (.inl res.1)) res.2.1 res.2.2) a.2.1 L xs (0 + (a.2.1.1 - x0)) (0 + 64 * (a.2.1.1 - x0)) 457 [some (.inr (.inr (some (0, 0)))), none, some (.inl a.2.2.1), some (.inr (.inr (some (9998, a.2.2.2.1)))), some (.inl a.2.2.2.2.1), some (.inr (.inr (some (9998, a.2.2.2.2.2.1)))), some (.inr (.inr (some (9998, a.2.2.2.2.2.2.1)))), some (.inr (.inr (some (9998, a.2.2.2.2.2.2.2.1)))), some (.inl a.2.2.2.2.2.2.2.2.1), some (.inl a.2.2.2.2.2.2.2.2.2.1), some (.inl a.2.2.2.2.2.2.2.2.2.2.1), some (.inl a.2.2.2.2.2.2.2.2.2.2.2.1), some (.inl a.2.2.2.2.2.2.2.2.2.2.2.2)] [] a.1) (fun rec457 hrec457 a res hq hI => t_L_lifts_457 hrec457 hq hI)
def q_L_lifts_303 (rec153 : (sk_D × sk_X × Int32 × Nat × Int32 × Nat × Nat × Nat × Int32) → Option (Int32 × sk_D × sk_X)) (rec221 : (sk_D × sk_X × Int32 × Nat × Int32 × Nat × Nat × Nat × Int32 × Int32 × Int32 × Int32) → Option (Int32 × sk_D × sk_X)) (L : Nat) (xs : Nat → Int32) (x0 : Nat) (d : sk_D) (x : sk_X) (v2 : Int32) (k3 : Nat) (v4 : Int32) (k5 : Nat) (k6 : Nat) (k7 : Nat) (v8 : Int32) (v9 : Int32) (v10 : Int32) (v11 : Int32) (s1 : Int32) (h2 : Nat) (s3 : Int32) : Option (Int32 × sk_D × sk_X) :=
  if xb x h2 s3 = true then if xb x k6 ((((6 : Int32) * v8) + (3 : Int32)) + ((2 : Int32) * v11)) = true then (q_X8_addStop d s1 (x.2.2 h2 s3.toNatClampNeg) (x.2.2 k6 ((((6 : Int32) * v8) + (3 : Int32)) + ((2 : Int32) * v11)).toNatClampNeg)).bind fun y3 => if y3.1 = (v11 + (1 : Int32)) then (rec221 (y3.2, x, v2, k3, v4, k5, k6, k7, v8, v9, v10, (v11 + (1 : Int32)))) else some ((0 : Int32), y3.2, x) else none else none
set_option maxRecDepth 100000 in
set_option maxHeartbeats 4000000 in
theorem t_L_lifts_303 {l : Launch} {rec153 : (sk_D × sk_X × Int32 × Nat × Int32 × Nat × Nat × Nat × Int32) → Option (Int32 × sk_D × sk_X)} {rec221 : (sk_D × sk_X × Int32 × Nat × Int32 × Nat × Nat × Nat × Int32 × Int32 × Int32 × Int32) → Option (Int32 × sk_D × sk_X)} {L : Nat} {xs : Nat → Int32} {x0 : Nat} {d : sk_D} {x : sk_X} {v2 : Int32} {k3 : Nat} {v4 : Int32} {k5 : Nat} {k6 : Nat} {k7 : Nat} {v8 : Int32} {v9 : Int32} {v10 : Int32} {v11 : Int32} {s1 : Int32} {h2 : Nat} {s3 : Int32} (hrec153 : ∀ (a : (sk_D × sk_X × Int32 × Nat × Int32 × Nat × Nat × Nat × Int32)) (res : Int32 × sk_D × sk_X), rec153 a = some res → (x0 ≤ a.2.1.1 ∧ a.2.1.1 ≤ x0 + 131) → sx_G l (sk_rm 8 131 8384) m_L_lifts sx_T (sx_Zm m_L_lifts (some (.inl res.1)) res.2.1 res.2.2) a.2.1 L xs (0 + (a.2.1.1 - x0)) (0 + 64 * (a.2.1.1 - x0)) 153 [some (.inr (.inr (some (0, 0)))), some (.inr (.inr (some (9999, 0)))), some (.inl a.2.2.1), some (.inr (.inr (some (9998, a.2.2.2.1)))), some (.inl a.2.2.2.2.1), some (.inr (.inr (some (9998, a.2.2.2.2.2.1)))), some (.inr (.inr (some (9998, a.2.2.2.2.2.2.1)))), some (.inr (.inr (some (9998, a.2.2.2.2.2.2.2.1)))), some (.inl a.2.2.2.2.2.2.2.2), none, none, none, none] [] a.1) (hrec221 : ∀ (a : (sk_D × sk_X × Int32 × Nat × Int32 × Nat × Nat × Nat × Int32 × Int32 × Int32 × Int32)) (res : Int32 × sk_D × sk_X), rec221 a = some res → (x0 ≤ a.2.1.1 ∧ a.2.1.1 ≤ x0 + 131) → sx_G l (sk_rm 8 131 8384) m_L_lifts sx_T (sx_Zm m_L_lifts (some (.inl res.1)) res.2.1 res.2.2) a.2.1 L xs (0 + (a.2.1.1 - x0)) (0 + 64 * (a.2.1.1 - x0)) 221 [some (.inr (.inr (some (0, 0)))), some (.inr (.inr (some (9999, 0)))), some (.inl a.2.2.1), some (.inr (.inr (some (9998, a.2.2.2.1)))), some (.inl a.2.2.2.2.1), some (.inr (.inr (some (9998, a.2.2.2.2.2.1)))), some (.inr (.inr (some (9998, a.2.2.2.2.2.2.1)))), some (.inr (.inr (some (9998, a.2.2.2.2.2.2.2.1)))), some (.inl a.2.2.2.2.2.2.2.2.1), some (.inl a.2.2.2.2.2.2.2.2.2.1), some (.inl a.2.2.2.2.2.2.2.2.2.2.1), some (.inl a.2.2.2.2.2.2.2.2.2.2.2), none] [] a.1) {res : Int32 × sk_D × sk_X} (hq : q_L_lifts_303 rec153 rec221 L xs x0 d x v2 k3 v4 k5 k6 k7 v8 v9 v10 v11 s1 h2 s3 = some res) (hI : (x0 ≤ x.1 ∧ x.1 ≤ x0 + 131)) :
    sx_G l (sk_rm 8 131 8384) m_L_lifts sx_T (sx_Zm m_L_lifts (some (.inl res.1)) res.2.1 res.2.2) x L xs (0 + (x.1 - x0)) (0 + 64 * (x.1 - x0)) 303 [some (.inr (.inr (some (0, 0)))), some (.inr (.inr (some (9999, 0)))), some (.inl v2), some (.inr (.inr (some (9998, k3)))), some (.inl v4), some (.inr (.inr (some (9998, k5)))), some (.inr (.inr (some (9998, k6)))), some (.inr (.inr (some (9998, k7)))), some (.inl v8), some (.inl v9), some (.inl v10), some (.inl v11), none] [.inl s3, .inr (.inr (some (9998, h2))), .inl s1, .inr (.inr (some (0, 0)))] d := by
  unfold q_L_lifts_303 at hq
  obtain ⟨hb1, hq⟩ := sk_ifn hq
  refine sx_ld 304 (sk_td o_L_lifts 188 rfl) rfl hb1 ?_
  refine sg_aload 306 (sk_td o_L_lifts 189 rfl) rfl rfl ?_
  refine sg_bipush (v := (6 : Int32)) 308 (sk_td o_L_lifts 190 rfl) rfl (by decide) ?_
  refine sg_iload 310 (sk_td o_L_lifts 191 rfl) rfl rfl ?_
  refine sg_imul 311 (sk_td o_L_lifts 192 rfl) rfl ?_
  refine sg_iconst (v := (3 : Int32)) 312 (sk_td o_L_lifts 193 rfl) rfl (by decide) ?_
  refine sg_iadd 313 (sk_td o_L_lifts 194 rfl) rfl ?_
  refine sg_iconst (v := (2 : Int32)) 314 (sk_td o_L_lifts 195 rfl) rfl (by decide) ?_
  refine sg_iload 316 (sk_td o_L_lifts 196 rfl) rfl rfl ?_
  refine sg_imul 317 (sk_td o_L_lifts 197 rfl) rfl ?_
  refine sg_iadd 318 (sk_td o_L_lifts 198 rfl) rfl ?_
  obtain ⟨hb2, hq⟩ := sk_ifn hq
  refine sx_ld 319 (sk_td o_L_lifts 199 rfl) rfl hb2 ?_
  obtain ⟨y3, hr_y3, hq⟩ := sk_bnd hq
  refine sm_callL3i 322 (s_X8_addStop hr_y3) (sk_td o_L_lifts 200 rfl) rfl lv_L_66 rfl rfl rfl sz_0 (sx_rk hI (Nat.le_of_ble_eq_true rfl) (Nat.le_of_ble_eq_true rfl) (Nat.le_of_ble_eq_true rfl) (Nat.le_of_ble_eq_true rfl) rfl) (Nat.le_of_ble_eq_true rfl) ?_
  refine sg_iload 324 (sk_td o_L_lifts 201 rfl) rfl rfl ?_
  refine sg_iconst (v := (1 : Int32)) 325 (sk_td o_L_lifts 202 rfl) rfl (by decide) ?_
  refine sg_iadd 326 (sk_td o_L_lifts 203 rfl) rfl ?_
  refine sg_ic_eq 331 329 (sk_td o_L_lifts 204 rfl) (by decide) rfl (fun hc => ?_) (fun hc => ?_)
  · rw [if_pos hc] at hq
    refine sg_iinc (v11 + (1 : Int32)) 334 [some (.inr (.inr (some (0, 0)))), some (.inr (.inr (some (9999, 0)))), some (.inl v2), some (.inr (.inr (some (9998, k3)))), some (.inl v4), some (.inr (.inr (some (9998, k5)))), some (.inr (.inr (some (9998, k6)))), some (.inr (.inr (some (9998, k7)))), some (.inl v8), some (.inl v9), some (.inl v10), some (.inl (v11 + (1 : Int32))), none] (sk_td o_L_lifts 207 rfl) rfl rfl rfl rfl (Nat.le_of_ble_eq_true rfl) rfl ?_
    refine sg_goto 221 (sk_td o_L_lifts 208 rfl) (by decide) ?_
    exact hrec221 (y3.2, x, v2, k3, v4, k5, k6, k7, v8, v9, v10, (v11 + (1 : Int32))) _ hq hI
  · rw [if_neg hc] at hq
    refine sg_iconst (v := (0 : Int32)) 330 (sk_td o_L_lifts 205 rfl) rfl (by decide) ?_
    obtain rfl := Option.some.inj hq
    exact sx_iret rfl (sk_td o_L_lifts 206 rfl) rfl (show narrow .boolean (.int (0 : Int32)) = .int (0 : Int32) by decide) (sx_l1 hI) (sx_l2 hI)
def q_L_lifts_281 (rec153 : (sk_D × sk_X × Int32 × Nat × Int32 × Nat × Nat × Nat × Int32) → Option (Int32 × sk_D × sk_X)) (rec221 : (sk_D × sk_X × Int32 × Nat × Int32 × Nat × Nat × Nat × Int32 × Int32 × Int32 × Int32) → Option (Int32 × sk_D × sk_X)) (L : Nat) (xs : Nat → Int32) (x0 : Nat) (d : sk_D) (x : sk_X) (v2 : Int32) (k3 : Nat) (v4 : Int32) (k5 : Nat) (k6 : Nat) (k7 : Nat) (v8 : Int32) (v9 : Int32) (v10 : Int32) (v11 : Int32) (h0 : Nat) (s1 : Int32) (s3 : Int32) : Option (Int32 × sk_D × sk_X) :=
  (q_L_low s3 (7 : Int32)).bind fun y1 => if xb x h0 s1 = true then (q_L_lifts_303 rec153 rec221 L xs x0 d (xw x h0 s1.toNatClampNeg ((1 : Int32) + y1)) v2 k3 v4 k5 k6 k7 v8 v9 v10 v11 v8 k6 ((((6 : Int32) * v8) + (2 : Int32)) + ((2 : Int32) * v11))) else none
set_option maxRecDepth 100000 in
set_option maxHeartbeats 4000000 in
theorem t_L_lifts_281 {l : Launch} {rec153 : (sk_D × sk_X × Int32 × Nat × Int32 × Nat × Nat × Nat × Int32) → Option (Int32 × sk_D × sk_X)} {rec221 : (sk_D × sk_X × Int32 × Nat × Int32 × Nat × Nat × Nat × Int32 × Int32 × Int32 × Int32) → Option (Int32 × sk_D × sk_X)} {L : Nat} {xs : Nat → Int32} {x0 : Nat} {d : sk_D} {x : sk_X} {v2 : Int32} {k3 : Nat} {v4 : Int32} {k5 : Nat} {k6 : Nat} {k7 : Nat} {v8 : Int32} {v9 : Int32} {v10 : Int32} {v11 : Int32} {h0 : Nat} {s1 : Int32} {s3 : Int32} (hrec153 : ∀ (a : (sk_D × sk_X × Int32 × Nat × Int32 × Nat × Nat × Nat × Int32)) (res : Int32 × sk_D × sk_X), rec153 a = some res → (x0 ≤ a.2.1.1 ∧ a.2.1.1 ≤ x0 + 131) → sx_G l (sk_rm 8 131 8384) m_L_lifts sx_T (sx_Zm m_L_lifts (some (.inl res.1)) res.2.1 res.2.2) a.2.1 L xs (0 + (a.2.1.1 - x0)) (0 + 64 * (a.2.1.1 - x0)) 153 [some (.inr (.inr (some (0, 0)))), some (.inr (.inr (some (9999, 0)))), some (.inl a.2.2.1), some (.inr (.inr (some (9998, a.2.2.2.1)))), some (.inl a.2.2.2.2.1), some (.inr (.inr (some (9998, a.2.2.2.2.2.1)))), some (.inr (.inr (some (9998, a.2.2.2.2.2.2.1)))), some (.inr (.inr (some (9998, a.2.2.2.2.2.2.2.1)))), some (.inl a.2.2.2.2.2.2.2.2), none, none, none, none] [] a.1) (hrec221 : ∀ (a : (sk_D × sk_X × Int32 × Nat × Int32 × Nat × Nat × Nat × Int32 × Int32 × Int32 × Int32)) (res : Int32 × sk_D × sk_X), rec221 a = some res → (x0 ≤ a.2.1.1 ∧ a.2.1.1 ≤ x0 + 131) → sx_G l (sk_rm 8 131 8384) m_L_lifts sx_T (sx_Zm m_L_lifts (some (.inl res.1)) res.2.1 res.2.2) a.2.1 L xs (0 + (a.2.1.1 - x0)) (0 + 64 * (a.2.1.1 - x0)) 221 [some (.inr (.inr (some (0, 0)))), some (.inr (.inr (some (9999, 0)))), some (.inl a.2.2.1), some (.inr (.inr (some (9998, a.2.2.2.1)))), some (.inl a.2.2.2.2.1), some (.inr (.inr (some (9998, a.2.2.2.2.2.1)))), some (.inr (.inr (some (9998, a.2.2.2.2.2.2.1)))), some (.inr (.inr (some (9998, a.2.2.2.2.2.2.2.1)))), some (.inl a.2.2.2.2.2.2.2.2.1), some (.inl a.2.2.2.2.2.2.2.2.2.1), some (.inl a.2.2.2.2.2.2.2.2.2.2.1), some (.inl a.2.2.2.2.2.2.2.2.2.2.2), none] [] a.1) {res : Int32 × sk_D × sk_X} (hq : q_L_lifts_281 rec153 rec221 L xs x0 d x v2 k3 v4 k5 k6 k7 v8 v9 v10 v11 h0 s1 s3 = some res) (hI : (x0 ≤ x.1 ∧ x.1 ≤ x0 + 131)) :
    sx_G l (sk_rm 8 131 8384) m_L_lifts sx_T (sx_Zm m_L_lifts (some (.inl res.1)) res.2.1 res.2.2) x L xs (0 + (x.1 - x0)) (0 + 64 * (x.1 - x0)) 281 [some (.inr (.inr (some (0, 0)))), some (.inr (.inr (some (9999, 0)))), some (.inl v2), some (.inr (.inr (some (9998, k3)))), some (.inl v4), some (.inr (.inr (some (9998, k5)))), some (.inr (.inr (some (9998, k6)))), some (.inr (.inr (some (9998, k7)))), some (.inl v8), some (.inl v9), some (.inl v10), some (.inl v11), none] [.inl (7 : Int32), .inl s3, .inl (1 : Int32), .inl s1, .inr (.inr (some (9998, h0)))] d := by
  unfold q_L_lifts_281 at hq
  obtain ⟨y1, hr_y1, hq⟩ := sk_bnd hq
  refine sx_callBi (as := [.inl s3, .inl (7 : Int32)]) (st := [.inl (1 : Int32), .inl s1, .inr (.inr (some (9998, h0)))]) 284 (s_L_low hr_y1) (sk_td o_L_lifts 173 rfl) rfl ls_L_55 rfl (Nat.le_of_ble_eq_true rfl) hI rfl rfl hI.2 (Nat.le_of_ble_eq_true rfl) (Nat.le_of_ble_eq_true rfl) (Nat.le_of_ble_eq_true rfl) (Nat.le_of_ble_eq_true rfl) (fun hI => ?_)
  refine sg_iadd 285 (sk_td o_L_lifts 174 rfl) rfl ?_
  obtain ⟨hb2, hq⟩ := sk_ifn hq
  refine sx_st 286 (sk_td o_L_lifts 175 rfl) rfl hb2 ?_
  refine sg_aload_n 287 (sk_td o_L_lifts 176 rfl) rfl rfl ?_
  refine sg_iload 289 (sk_td o_L_lifts 177 rfl) rfl rfl ?_
  refine sg_aload 291 (sk_td o_L_lifts 178 rfl) rfl rfl ?_
  refine sg_bipush (v := (6 : Int32)) 293 (sk_td o_L_lifts 179 rfl) rfl (by decide) ?_
  refine sg_iload 295 (sk_td o_L_lifts 180 rfl) rfl rfl ?_
  refine sg_imul 296 (sk_td o_L_lifts 181 rfl) rfl ?_
  refine sg_iconst (v := (2 : Int32)) 297 (sk_td o_L_lifts 182 rfl) rfl (by decide) ?_
  refine sg_iadd 298 (sk_td o_L_lifts 183 rfl) rfl ?_
  refine sg_iconst (v := (2 : Int32)) 299 (sk_td o_L_lifts 184 rfl) rfl (by decide) ?_
  refine sg_iload 301 (sk_td o_L_lifts 185 rfl) rfl rfl ?_
  refine sg_imul 302 (sk_td o_L_lifts 186 rfl) rfl ?_
  refine sg_iadd 303 (sk_td o_L_lifts 187 rfl) rfl ?_
  exact t_L_lifts_303 hrec153 hrec221 hq hI
def q_L_lifts_221 (rec153 : (sk_D × sk_X × Int32 × Nat × Int32 × Nat × Nat × Nat × Int32) → Option (Int32 × sk_D × sk_X)) (rec221 : (sk_D × sk_X × Int32 × Nat × Int32 × Nat × Nat × Nat × Int32 × Int32 × Int32 × Int32) → Option (Int32 × sk_D × sk_X)) (L : Nat) (xs : Nat → Int32) (x0 : Nat) (d : sk_D) (x : sk_X) (v2 : Int32) (k3 : Nat) (v4 : Int32) (k5 : Nat) (k6 : Nat) (k7 : Nat) (v8 : Int32) (v9 : Int32) (v10 : Int32) (v11 : Int32) : Option (Int32 × sk_D × sk_X) :=
  if v10 ≤ v11 then if xb x k6 ((6 : Int32) * v8) = true then (rec153 (d, (xw x k6 ((6 : Int32) * v8).toNatClampNeg v10), v2, k3, v4, k5, k6, k7, (v8 + (1 : Int32)))) else none else (q_L_low (v9 >>> (((6 : Int32) + v11) &&& 31)) v4).bind fun y2 => if xb x k6 ((((6 : Int32) * v8) + (2 : Int32)) + ((2 : Int32) * v11)) = true then (q_L_lifts_281 rec153 rec221 L xs x0 d (xw x k6 ((((6 : Int32) * v8) + (2 : Int32)) + ((2 : Int32) * v11)).toNatClampNeg y2) v2 k3 v4 k5 k6 k7 v8 v9 v10 v11 k6 ((((6 : Int32) * v8) + (3 : Int32)) + ((2 : Int32) * v11)) (v9 >>> (((9 : Int32) + v11) &&& 31))) else none
set_option maxRecDepth 100000 in
set_option maxHeartbeats 4000000 in
theorem t_L_lifts_221 {l : Launch} {rec153 : (sk_D × sk_X × Int32 × Nat × Int32 × Nat × Nat × Nat × Int32) → Option (Int32 × sk_D × sk_X)} {rec221 : (sk_D × sk_X × Int32 × Nat × Int32 × Nat × Nat × Nat × Int32 × Int32 × Int32 × Int32) → Option (Int32 × sk_D × sk_X)} {L : Nat} {xs : Nat → Int32} {x0 : Nat} {d : sk_D} {x : sk_X} {v2 : Int32} {k3 : Nat} {v4 : Int32} {k5 : Nat} {k6 : Nat} {k7 : Nat} {v8 : Int32} {v9 : Int32} {v10 : Int32} {v11 : Int32} (hrec153 : ∀ (a : (sk_D × sk_X × Int32 × Nat × Int32 × Nat × Nat × Nat × Int32)) (res : Int32 × sk_D × sk_X), rec153 a = some res → (x0 ≤ a.2.1.1 ∧ a.2.1.1 ≤ x0 + 131) → sx_G l (sk_rm 8 131 8384) m_L_lifts sx_T (sx_Zm m_L_lifts (some (.inl res.1)) res.2.1 res.2.2) a.2.1 L xs (0 + (a.2.1.1 - x0)) (0 + 64 * (a.2.1.1 - x0)) 153 [some (.inr (.inr (some (0, 0)))), some (.inr (.inr (some (9999, 0)))), some (.inl a.2.2.1), some (.inr (.inr (some (9998, a.2.2.2.1)))), some (.inl a.2.2.2.2.1), some (.inr (.inr (some (9998, a.2.2.2.2.2.1)))), some (.inr (.inr (some (9998, a.2.2.2.2.2.2.1)))), some (.inr (.inr (some (9998, a.2.2.2.2.2.2.2.1)))), some (.inl a.2.2.2.2.2.2.2.2), none, none, none, none] [] a.1) (hrec221 : ∀ (a : (sk_D × sk_X × Int32 × Nat × Int32 × Nat × Nat × Nat × Int32 × Int32 × Int32 × Int32)) (res : Int32 × sk_D × sk_X), rec221 a = some res → (x0 ≤ a.2.1.1 ∧ a.2.1.1 ≤ x0 + 131) → sx_G l (sk_rm 8 131 8384) m_L_lifts sx_T (sx_Zm m_L_lifts (some (.inl res.1)) res.2.1 res.2.2) a.2.1 L xs (0 + (a.2.1.1 - x0)) (0 + 64 * (a.2.1.1 - x0)) 221 [some (.inr (.inr (some (0, 0)))), some (.inr (.inr (some (9999, 0)))), some (.inl a.2.2.1), some (.inr (.inr (some (9998, a.2.2.2.1)))), some (.inl a.2.2.2.2.1), some (.inr (.inr (some (9998, a.2.2.2.2.2.1)))), some (.inr (.inr (some (9998, a.2.2.2.2.2.2.1)))), some (.inr (.inr (some (9998, a.2.2.2.2.2.2.2.1)))), some (.inl a.2.2.2.2.2.2.2.2.1), some (.inl a.2.2.2.2.2.2.2.2.2.1), some (.inl a.2.2.2.2.2.2.2.2.2.2.1), some (.inl a.2.2.2.2.2.2.2.2.2.2.2), none] [] a.1) {res : Int32 × sk_D × sk_X} (hq : q_L_lifts_221 rec153 rec221 L xs x0 d x v2 k3 v4 k5 k6 k7 v8 v9 v10 v11 = some res) (hI : (x0 ≤ x.1 ∧ x.1 ≤ x0 + 131)) :
    sx_G l (sk_rm 8 131 8384) m_L_lifts sx_T (sx_Zm m_L_lifts (some (.inl res.1)) res.2.1 res.2.2) x L xs (0 + (x.1 - x0)) (0 + 64 * (x.1 - x0)) 221 [some (.inr (.inr (some (0, 0)))), some (.inr (.inr (some (9999, 0)))), some (.inl v2), some (.inr (.inr (some (9998, k3)))), some (.inl v4), some (.inr (.inr (some (9998, k5)))), some (.inr (.inr (some (9998, k6)))), some (.inr (.inr (some (9998, k7)))), some (.inl v8), some (.inl v9), some (.inl v10), some (.inl v11), none] [] d := by
  unfold q_L_lifts_221 at hq
  refine sg_iload 223 (sk_td o_L_lifts 135 rfl) rfl rfl ?_
  refine sg_iload 225 (sk_td o_L_lifts 136 rfl) rfl rfl ?_
  refine sg_ic_ge 337 228 (sk_td o_L_lifts 137 rfl) (by decide) rfl (fun hc => ?_) (fun hc => ?_)
  · rw [if_pos hc] at hq
    refine sg_aload 339 (sk_td o_L_lifts 209 rfl) rfl rfl ?_
    refine sg_bipush (v := (6 : Int32)) 341 (sk_td o_L_lifts 210 rfl) rfl (by decide) ?_
    refine sg_iload 343 (sk_td o_L_lifts 211 rfl) rfl rfl ?_
    refine sg_imul 344 (sk_td o_L_lifts 212 rfl) rfl ?_
    refine sg_iload 346 (sk_td o_L_lifts 213 rfl) rfl rfl ?_
    obtain ⟨hb1, hq⟩ := sk_ifn hq
    refine sx_st 347 (sk_td o_L_lifts 214 rfl) rfl hb1 ?_
    refine sg_iinc (v8 + (1 : Int32)) 350 [some (.inr (.inr (some (0, 0)))), some (.inr (.inr (some (9999, 0)))), some (.inl v2), some (.inr (.inr (some (9998, k3)))), some (.inl v4), some (.inr (.inr (some (9998, k5)))), some (.inr (.inr (some (9998, k6)))), some (.inr (.inr (some (9998, k7)))), some (.inl (v8 + (1 : Int32))), some (.inl v9), some (.inl v10), some (.inl v11), none] (sk_td o_L_lifts 215 rfl) rfl rfl rfl rfl (Nat.le_of_ble_eq_true rfl) rfl ?_
    refine sg_goto 153 (sk_td o_L_lifts 216 rfl) (by decide) ?_
    refine sx_wk [true, true, true, true, true, true, true, true, true, false, false, false, true] (ls' := [some (.inr (.inr (some (0, 0)))), some (.inr (.inr (some (9999, 0)))), some (.inl v2), some (.inr (.inr (some (9998, k3)))), some (.inl v4), some (.inr (.inr (some (9998, k5)))), some (.inr (.inr (some (9998, k6)))), some (.inr (.inr (some (9998, k7)))), some (.inl (v8 + (1 : Int32))), none, none, none, none]) rfl ?_
    exact hrec153 (d, (xw x k6 ((6 : Int32) * v8).toNatClampNeg v10), v2, k3, v4, k5, k6, k7, (v8 + (1 : Int32))) _ hq hI
  · rw [if_neg hc] at hq
    refine sg_aload 230 (sk_td o_L_lifts 138 rfl) rfl rfl ?_
    refine sg_bipush (v := (6 : Int32)) 232 (sk_td o_L_lifts 139 rfl) rfl (by decide) ?_
    refine sg_iload 234 (sk_td o_L_lifts 140 rfl) rfl rfl ?_
    refine sg_imul 235 (sk_td o_L_lifts 141 rfl) rfl ?_
    refine sg_iconst (v := (2 : Int32)) 236 (sk_td o_L_lifts 142 rfl) rfl (by decide) ?_
    refine sg_iadd 237 (sk_td o_L_lifts 143 rfl) rfl ?_
    refine sg_iconst (v := (2 : Int32)) 238 (sk_td o_L_lifts 144 rfl) rfl (by decide) ?_
    refine sg_iload 240 (sk_td o_L_lifts 145 rfl) rfl rfl ?_
    refine sg_imul 241 (sk_td o_L_lifts 146 rfl) rfl ?_
    refine sg_iadd 242 (sk_td o_L_lifts 147 rfl) rfl ?_
    refine sg_iload 244 (sk_td o_L_lifts 148 rfl) rfl rfl ?_
    refine sg_bipush (v := (6 : Int32)) 246 (sk_td o_L_lifts 149 rfl) rfl (by decide) ?_
    refine sg_iload 248 (sk_td o_L_lifts 150 rfl) rfl rfl ?_
    refine sg_iadd 249 (sk_td o_L_lifts 151 rfl) rfl ?_
    refine sg_ishr 250 (sk_td o_L_lifts 152 rfl) rfl ?_
    refine sg_iload 252 (sk_td o_L_lifts 153 rfl) rfl rfl ?_
    obtain ⟨y2, hr_y2, hq⟩ := sk_bnd hq
    refine sx_callBi (as := [.inl (v9 >>> (((6 : Int32) + v11) &&& 31)), .inl v4]) (st := [.inl ((((6 : Int32) * v8) + (2 : Int32)) + ((2 : Int32) * v11)), .inr (.inr (some (9998, k6)))]) 255 (s_L_low hr_y2) (sk_td o_L_lifts 154 rfl) rfl ls_L_55 rfl (Nat.le_of_ble_eq_true rfl) hI rfl rfl hI.2 (Nat.le_of_ble_eq_true rfl) (Nat.le_of_ble_eq_true rfl) (Nat.le_of_ble_eq_true rfl) (Nat.le_of_ble_eq_true rfl) (fun hI => ?_)
    obtain ⟨hb3, hq⟩ := sk_ifn hq
    refine sx_st 256 (sk_td o_L_lifts 155 rfl) rfl hb3 ?_
    refine sg_aload 258 (sk_td o_L_lifts 156 rfl) rfl rfl ?_
    refine sg_bipush (v := (6 : Int32)) 260 (sk_td o_L_lifts 157 rfl) rfl (by decide) ?_
    refine sg_iload 262 (sk_td o_L_lifts 158 rfl) rfl rfl ?_
    refine sg_imul 263 (sk_td o_L_lifts 159 rfl) rfl ?_
    refine sg_iconst (v := (3 : Int32)) 264 (sk_td o_L_lifts 160 rfl) rfl (by decide) ?_
    refine sg_iadd 265 (sk_td o_L_lifts 161 rfl) rfl ?_
    refine sg_iconst (v := (2 : Int32)) 266 (sk_td o_L_lifts 162 rfl) rfl (by decide) ?_
    refine sg_iload 268 (sk_td o_L_lifts 163 rfl) rfl rfl ?_
    refine sg_imul 269 (sk_td o_L_lifts 164 rfl) rfl ?_
    refine sg_iadd 270 (sk_td o_L_lifts 165 rfl) rfl ?_
    refine sg_iconst (v := (1 : Int32)) 271 (sk_td o_L_lifts 166 rfl) rfl (by decide) ?_
    refine sg_iload 273 (sk_td o_L_lifts 167 rfl) rfl rfl ?_
    refine sg_bipush (v := (9 : Int32)) 275 (sk_td o_L_lifts 168 rfl) rfl (by decide) ?_
    refine sg_iload 277 (sk_td o_L_lifts 169 rfl) rfl rfl ?_
    refine sg_iadd 278 (sk_td o_L_lifts 170 rfl) rfl ?_
    refine sg_ishr 279 (sk_td o_L_lifts 171 rfl) rfl ?_
    refine sg_bipush (v := (7 : Int32)) 281 (sk_td o_L_lifts 172 rfl) rfl (by decide) ?_
    exact t_L_lifts_281 hrec153 hrec221 hq hI
def l_L_lifts_221 (rec153 : (sk_D × sk_X × Int32 × Nat × Int32 × Nat × Nat × Nat × Int32) → Option (Int32 × sk_D × sk_X)) (L : Nat) (xs : Nat → Int32) (x0 : Nat) (fl : Nat) (a : (sk_D × sk_X × Int32 × Nat × Int32 × Nat × Nat × Nat × Int32 × Int32 × Int32 × Int32)) : Option (Int32 × sk_D × sk_X) := sk_it (fun rec221 a => q_L_lifts_221 rec153 rec221 L xs x0 a.1 a.2.1 a.2.2.1 a.2.2.2.1 a.2.2.2.2.1 a.2.2.2.2.2.1 a.2.2.2.2.2.2.1 a.2.2.2.2.2.2.2.1 a.2.2.2.2.2.2.2.2.1 a.2.2.2.2.2.2.2.2.2.1 a.2.2.2.2.2.2.2.2.2.2.1 a.2.2.2.2.2.2.2.2.2.2.2) fl a
theorem lt_L_lifts_221 {l : Launch} {L : Nat} {xs : Nat → Int32} {x0 : Nat} {rec153 : (sk_D × sk_X × Int32 × Nat × Int32 × Nat × Nat × Nat × Int32) → Option (Int32 × sk_D × sk_X)} (hrec153 : ∀ (a : (sk_D × sk_X × Int32 × Nat × Int32 × Nat × Nat × Nat × Int32)) (res : Int32 × sk_D × sk_X), rec153 a = some res → (x0 ≤ a.2.1.1 ∧ a.2.1.1 ≤ x0 + 131) → sx_G l (sk_rm 8 131 8384) m_L_lifts sx_T (sx_Zm m_L_lifts (some (.inl res.1)) res.2.1 res.2.2) a.2.1 L xs (0 + (a.2.1.1 - x0)) (0 + 64 * (a.2.1.1 - x0)) 153 [some (.inr (.inr (some (0, 0)))), some (.inr (.inr (some (9999, 0)))), some (.inl a.2.2.1), some (.inr (.inr (some (9998, a.2.2.2.1)))), some (.inl a.2.2.2.2.1), some (.inr (.inr (some (9998, a.2.2.2.2.2.1)))), some (.inr (.inr (some (9998, a.2.2.2.2.2.2.1)))), some (.inr (.inr (some (9998, a.2.2.2.2.2.2.2.1)))), some (.inl a.2.2.2.2.2.2.2.2), none, none, none, none] [] a.1) : ∀ (fl : Nat) (a : (sk_D × sk_X × Int32 × Nat × Int32 × Nat × Nat × Nat × Int32 × Int32 × Int32 × Int32)) (res : Int32 × sk_D × sk_X), l_L_lifts_221 rec153 L xs x0 fl a = some res → (x0 ≤ a.2.1.1 ∧ a.2.1.1 ≤ x0 + 131) → sx_G l (sk_rm 8 131 8384) m_L_lifts sx_T (sx_Zm m_L_lifts (some (.inl res.1)) res.2.1 res.2.2) a.2.1 L xs (0 + (a.2.1.1 - x0)) (0 + 64 * (a.2.1.1 - x0)) 221 [some (.inr (.inr (some (0, 0)))), some (.inr (.inr (some (9999, 0)))), some (.inl a.2.2.1), some (.inr (.inr (some (9998, a.2.2.2.1)))), some (.inl a.2.2.2.2.1), some (.inr (.inr (some (9998, a.2.2.2.2.2.1)))), some (.inr (.inr (some (9998, a.2.2.2.2.2.2.1)))), some (.inr (.inr (some (9998, a.2.2.2.2.2.2.2.1)))), some (.inl a.2.2.2.2.2.2.2.2.1), some (.inl a.2.2.2.2.2.2.2.2.2.1), some (.inl a.2.2.2.2.2.2.2.2.2.2.1), some (.inl a.2.2.2.2.2.2.2.2.2.2.2), none] [] a.1 :=
  sk_it_ind (P := fun (a : (sk_D × sk_X × Int32 × Nat × Int32 × Nat × Nat × Nat × Int32 × Int32 × Int32 × Int32)) (res : Int32 × sk_D × sk_X) => (x0 ≤ a.2.1.1 ∧ a.2.1.1 ≤ x0 + 131) → sx_G l (sk_rm 8 131 8384) m_L_lifts sx_T (sx_Zm m_L_lifts (some (.inl res.1)) res.2.1 res.2.2) a.2.1 L xs (0 + (a.2.1.1 - x0)) (0 + 64 * (a.2.1.1 - x0)) 221 [some (.inr (.inr (some (0, 0)))), some (.inr (.inr (some (9999, 0)))), some (.inl a.2.2.1), some (.inr (.inr (some (9998, a.2.2.2.1)))), some (.inl a.2.2.2.2.1), some (.inr (.inr (some (9998, a.2.2.2.2.2.1)))), some (.inr (.inr (some (9998, a.2.2.2.2.2.2.1)))), some (.inr (.inr (some (9998, a.2.2.2.2.2.2.2.1)))), some (.inl a.2.2.2.2.2.2.2.2.1), some (.inl a.2.2.2.2.2.2.2.2.2.1), some (.inl a.2.2.2.2.2.2.2.2.2.2.1), some (.inl a.2.2.2.2.2.2.2.2.2.2.2), none] [] a.1) (fun rec221 hrec221 a res hq hI => t_L_lifts_221 hrec153 hrec221 hq hI)
def q_L_lifts_199 (rec153 : (sk_D × sk_X × Int32 × Nat × Int32 × Nat × Nat × Nat × Int32) → Option (Int32 × sk_D × sk_X)) (L : Nat) (xs : Nat → Int32) (x0 : Nat) (d : sk_D) (x : sk_X) (v2 : Int32) (k3 : Nat) (v4 : Int32) (k5 : Nat) (k6 : Nat) (k7 : Nat) (v8 : Int32) (v9 : Int32) (s1 : Int32) (h2 : Nat) (s3 : Int32) : Option (Int32 × sk_D × sk_X) :=
  if xb x h2 s3 = true then (q_X8_setStart d s1 (x.2.2 h2 s3.toNatClampNeg)).bind fun y2 => if y2.1 = 0 then (q_L_low (v9 >>> ((4 : Int32) &&& 31)) (3 : Int32)).bind fun y3 => (l_L_lifts_221 rec153 L xs x0 sk_fu (y2.2, x, v2, k3, v4, k5, k6, k7, v8, v9, y3, (0 : Int32))) else some ((0 : Int32), y2.2, x) else none
set_option maxRecDepth 100000 in
set_option maxHeartbeats 4000000 in
theorem t_L_lifts_199 {l : Launch} {rec153 : (sk_D × sk_X × Int32 × Nat × Int32 × Nat × Nat × Nat × Int32) → Option (Int32 × sk_D × sk_X)} {L : Nat} {xs : Nat → Int32} {x0 : Nat} {d : sk_D} {x : sk_X} {v2 : Int32} {k3 : Nat} {v4 : Int32} {k5 : Nat} {k6 : Nat} {k7 : Nat} {v8 : Int32} {v9 : Int32} {s1 : Int32} {h2 : Nat} {s3 : Int32} (hrec153 : ∀ (a : (sk_D × sk_X × Int32 × Nat × Int32 × Nat × Nat × Nat × Int32)) (res : Int32 × sk_D × sk_X), rec153 a = some res → (x0 ≤ a.2.1.1 ∧ a.2.1.1 ≤ x0 + 131) → sx_G l (sk_rm 8 131 8384) m_L_lifts sx_T (sx_Zm m_L_lifts (some (.inl res.1)) res.2.1 res.2.2) a.2.1 L xs (0 + (a.2.1.1 - x0)) (0 + 64 * (a.2.1.1 - x0)) 153 [some (.inr (.inr (some (0, 0)))), some (.inr (.inr (some (9999, 0)))), some (.inl a.2.2.1), some (.inr (.inr (some (9998, a.2.2.2.1)))), some (.inl a.2.2.2.2.1), some (.inr (.inr (some (9998, a.2.2.2.2.2.1)))), some (.inr (.inr (some (9998, a.2.2.2.2.2.2.1)))), some (.inr (.inr (some (9998, a.2.2.2.2.2.2.2.1)))), some (.inl a.2.2.2.2.2.2.2.2), none, none, none, none] [] a.1) {res : Int32 × sk_D × sk_X} (hq : q_L_lifts_199 rec153 L xs x0 d x v2 k3 v4 k5 k6 k7 v8 v9 s1 h2 s3 = some res) (hI : (x0 ≤ x.1 ∧ x.1 ≤ x0 + 131)) :
    sx_G l (sk_rm 8 131 8384) m_L_lifts sx_T (sx_Zm m_L_lifts (some (.inl res.1)) res.2.1 res.2.2) x L xs (0 + (x.1 - x0)) (0 + 64 * (x.1 - x0)) 199 [some (.inr (.inr (some (0, 0)))), some (.inr (.inr (some (9999, 0)))), some (.inl v2), some (.inr (.inr (some (9998, k3)))), some (.inl v4), some (.inr (.inr (some (9998, k5)))), some (.inr (.inr (some (9998, k6)))), some (.inr (.inr (some (9998, k7)))), some (.inl v8), some (.inl v9), none, none, none] [.inl s3, .inr (.inr (some (9998, h2))), .inl s1, .inr (.inr (some (0, 0)))] d := by
  unfold q_L_lifts_199 at hq
  obtain ⟨hb1, hq⟩ := sk_ifn hq
  refine sx_ld 200 (sk_td o_L_lifts 122 rfl) rfl hb1 ?_
  obtain ⟨y2, hr_y2, hq⟩ := sk_bnd hq
  refine sm_callL2i 203 (s_X8_setStart hr_y2) (sk_td o_L_lifts 123 rfl) rfl lv_L_63 rfl rfl rfl sz_0 (sx_rk hI (Nat.le_of_ble_eq_true rfl) (Nat.le_of_ble_eq_true rfl) (Nat.le_of_ble_eq_true rfl) (Nat.le_of_ble_eq_true rfl) rfl) (Nat.le_of_ble_eq_true rfl) ?_
  refine sg_if_eq 208 206 (sk_td o_L_lifts 124 rfl) (by decide) rfl (fun hc => ?_) (fun hc => ?_)
  · rw [if_pos hc] at hq
    refine sg_iload 210 (sk_td o_L_lifts 127 rfl) rfl rfl ?_
    refine sg_iconst (v := (4 : Int32)) 211 (sk_td o_L_lifts 128 rfl) rfl (by decide) ?_
    refine sg_ishr 212 (sk_td o_L_lifts 129 rfl) rfl ?_
    refine sg_iconst (v := (3 : Int32)) 213 (sk_td o_L_lifts 130 rfl) rfl (by decide) ?_
    obtain ⟨y3, hr_y3, hq⟩ := sk_bnd hq
    refine sx_callBi (as := [.inl (v9 >>> ((4 : Int32) &&& 31)), .inl (3 : Int32)]) (st := []) 216 (s_L_low hr_y3) (sk_td o_L_lifts 131 rfl) rfl ls_L_55 rfl (Nat.le_of_ble_eq_true rfl) hI rfl rfl hI.2 (Nat.le_of_ble_eq_true rfl) (Nat.le_of_ble_eq_true rfl) (Nat.le_of_ble_eq_true rfl) (Nat.le_of_ble_eq_true rfl) (fun hI => ?_)
    refine sg_istore 218 [some (.inr (.inr (some (0, 0)))), some (.inr (.inr (some (9999, 0)))), some (.inl v2), some (.inr (.inr (some (9998, k3)))), some (.inl v4), some (.inr (.inr (some (9998, k5)))), some (.inr (.inr (some (9998, k6)))), some (.inr (.inr (some (9998, k7)))), some (.inl v8), some (.inl v9), some (.inl y3), none, none] (sk_td o_L_lifts 132 rfl) rfl rfl (Nat.le_of_ble_eq_true rfl) rfl ?_
    refine sg_iconst (v := (0 : Int32)) 219 (sk_td o_L_lifts 133 rfl) rfl (by decide) ?_
    refine sg_istore 221 [some (.inr (.inr (some (0, 0)))), some (.inr (.inr (some (9999, 0)))), some (.inl v2), some (.inr (.inr (some (9998, k3)))), some (.inl v4), some (.inr (.inr (some (9998, k5)))), some (.inr (.inr (some (9998, k6)))), some (.inr (.inr (some (9998, k7)))), some (.inl v8), some (.inl v9), some (.inl y3), some (.inl (0 : Int32)), none] (sk_td o_L_lifts 134 rfl) rfl rfl (Nat.le_of_ble_eq_true rfl) rfl ?_
    exact lt_L_lifts_221 hrec153 sk_fu (y2.2, x, v2, k3, v4, k5, k6, k7, v8, v9, y3, (0 : Int32)) _ hq hI
  · rw [if_neg hc] at hq
    refine sg_iconst (v := (0 : Int32)) 207 (sk_td o_L_lifts 125 rfl) rfl (by decide) ?_
    obtain rfl := Option.some.inj hq
    exact sx_iret rfl (sk_td o_L_lifts 126 rfl) rfl (show narrow .boolean (.int (0 : Int32)) = .int (0 : Int32) by decide) (sx_l1 hI) (sx_l2 hI)
def q_L_lifts_153 (rec153 : (sk_D × sk_X × Int32 × Nat × Int32 × Nat × Nat × Nat × Int32) → Option (Int32 × sk_D × sk_X)) (L : Nat) (xs : Nat → Int32) (x0 : Nat) (d : sk_D) (x : sk_X) (v2 : Int32) (k3 : Nat) (v4 : Int32) (k5 : Nat) (k6 : Nat) (k7 : Nat) (v8 : Int32) : Option (Int32 × sk_D × sk_X) :=
  if v2 ≤ v8 then (q_L_cell L xs (28 : Int32)).bind fun y1 => (q_L_low y1 (60 : Int32)).bind fun y2 => (q_L_simulate x ((1 : Int32) + y2) v2 v4 k3 k5 k6 k7).bind fun y3 => if y3.1 = x.1 + 4 then if y3.1 ≤ x0 + 131 then (q_L_simulated y3 d ((1 : Int32) + y2) v2 v4 k7).bind fun y6 => if y6.1 = 0 then some ((0 : Int32), y6.2, y3) else (q_L_cell L xs (29 : Int32)).bind fun y7 => (q_L_low y7 v2).bind fun y8 => if xb y3 k3 y8 = true then if (y3.2.2 k3 y8.toNatClampNeg) = 0 then (q_L_lifts_429 L xs x0 y6.2 y3 ((1 : Int32) + y2) y8) else if xb y3 k6 ((6 : Int32) * y8) = true then if (y3.2.2 k6 ((6 : Int32) * y8).toNatClampNeg) = 0 then (q_L_lifts_429 L xs x0 y6.2 y3 ((1 : Int32) + y2) y8) else (l_L_lifts_457 L xs x0 sk_fu (y6.2, y3, v2, k3, v4, k5, k6, k7, ((1 : Int32) + y2), y8, (-1 : Int32), (0 : Int32), (0 : Int32))) else none else none else none else none else (q_L_cell L xs ((24 : Int32) + v8)).bind fun y11 => (q_L_low y11 (6 : Int32)).bind fun y12 => if xb x k6 (((6 : Int32) * v8) + (1 : Int32)) = true then (q_L_lifts_199 rec153 L xs x0 d (xw x k6 (((6 : Int32) * v8) + (1 : Int32)).toNatClampNeg y12) v2 k3 v4 k5 k6 k7 v8 y11 v8 k6 (((6 : Int32) * v8) + (1 : Int32))) else none
set_option maxRecDepth 100000 in
set_option maxHeartbeats 4000000 in
theorem t_L_lifts_153 {l : Launch} {rec153 : (sk_D × sk_X × Int32 × Nat × Int32 × Nat × Nat × Nat × Int32) → Option (Int32 × sk_D × sk_X)} {L : Nat} {xs : Nat → Int32} {x0 : Nat} {d : sk_D} {x : sk_X} {v2 : Int32} {k3 : Nat} {v4 : Int32} {k5 : Nat} {k6 : Nat} {k7 : Nat} {v8 : Int32} (hrec153 : ∀ (a : (sk_D × sk_X × Int32 × Nat × Int32 × Nat × Nat × Nat × Int32)) (res : Int32 × sk_D × sk_X), rec153 a = some res → (x0 ≤ a.2.1.1 ∧ a.2.1.1 ≤ x0 + 131) → sx_G l (sk_rm 8 131 8384) m_L_lifts sx_T (sx_Zm m_L_lifts (some (.inl res.1)) res.2.1 res.2.2) a.2.1 L xs (0 + (a.2.1.1 - x0)) (0 + 64 * (a.2.1.1 - x0)) 153 [some (.inr (.inr (some (0, 0)))), some (.inr (.inr (some (9999, 0)))), some (.inl a.2.2.1), some (.inr (.inr (some (9998, a.2.2.2.1)))), some (.inl a.2.2.2.2.1), some (.inr (.inr (some (9998, a.2.2.2.2.2.1)))), some (.inr (.inr (some (9998, a.2.2.2.2.2.2.1)))), some (.inr (.inr (some (9998, a.2.2.2.2.2.2.2.1)))), some (.inl a.2.2.2.2.2.2.2.2), none, none, none, none] [] a.1) {res : Int32 × sk_D × sk_X} (hq : q_L_lifts_153 rec153 L xs x0 d x v2 k3 v4 k5 k6 k7 v8 = some res) (hI : (x0 ≤ x.1 ∧ x.1 ≤ x0 + 131)) :
    sx_G l (sk_rm 8 131 8384) m_L_lifts sx_T (sx_Zm m_L_lifts (some (.inl res.1)) res.2.1 res.2.2) x L xs (0 + (x.1 - x0)) (0 + 64 * (x.1 - x0)) 153 [some (.inr (.inr (some (0, 0)))), some (.inr (.inr (some (9999, 0)))), some (.inl v2), some (.inr (.inr (some (9998, k3)))), some (.inl v4), some (.inr (.inr (some (9998, k5)))), some (.inr (.inr (some (9998, k6)))), some (.inr (.inr (some (9998, k7)))), some (.inl v8), none, none, none, none] [] d := by
  unfold q_L_lifts_153 at hq
  refine sg_iload 155 (sk_td o_L_lifts 95 rfl) rfl rfl ?_
  refine sg_iload_n 156 (sk_td o_L_lifts 96 rfl) rfl rfl ?_
  refine sg_ic_ge 353 159 (sk_td o_L_lifts 97 rfl) (by decide) rfl (fun hc => ?_) (fun hc => ?_)
  · rw [if_pos hc] at hq
    refine sg_iconst (v := (1 : Int32)) 354 (sk_td o_L_lifts 217 rfl) rfl (by decide) ?_
    refine sg_aload_n 355 (sk_td o_L_lifts 218 rfl) rfl rfl ?_
    refine sg_bipush (v := (28 : Int32)) 357 (sk_td o_L_lifts 219 rfl) rfl (by decide) ?_
    obtain ⟨y1, hr_y1, hq⟩ := sk_bnd hq
    refine sx_callBi (as := [.inr (.inr (some (9999, 0))), .inl (28 : Int32)]) (st := [.inl (1 : Int32)]) 360 (s_L_cell hr_y1) (sk_td o_L_lifts 220 rfl) rfl ls_L_51 rfl (Nat.le_of_ble_eq_true rfl) hI rfl rfl hI.2 (Nat.le_of_ble_eq_true rfl) (Nat.le_of_ble_eq_true rfl) (Nat.le_of_ble_eq_true rfl) (Nat.le_of_ble_eq_true rfl) (fun hI => ?_)
    refine sg_bipush (v := (60 : Int32)) 362 (sk_td o_L_lifts 221 rfl) rfl (by decide) ?_
    obtain ⟨y2, hr_y2, hq⟩ := sk_bnd hq
    refine sx_callBi (as := [.inl y1, .inl (60 : Int32)]) (st := [.inl (1 : Int32)]) 365 (s_L_low hr_y2) (sk_td o_L_lifts 222 rfl) rfl ls_L_55 rfl (Nat.le_of_ble_eq_true rfl) hI rfl rfl hI.2 (Nat.le_of_ble_eq_true rfl) (Nat.le_of_ble_eq_true rfl) (Nat.le_of_ble_eq_true rfl) (Nat.le_of_ble_eq_true rfl) (fun hI => ?_)
    refine sg_iadd 366 (sk_td o_L_lifts 223 rfl) rfl ?_
    refine sg_istore 368 [some (.inr (.inr (some (0, 0)))), some (.inr (.inr (some (9999, 0)))), some (.inl v2), some (.inr (.inr (some (9998, k3)))), some (.inl v4), some (.inr (.inr (some (9998, k5)))), some (.inr (.inr (some (9998, k6)))), some (.inr (.inr (some (9998, k7)))), some (.inl ((1 : Int32) + y2)), none, none, none, none] (sk_td o_L_lifts 224 rfl) rfl rfl (Nat.le_of_ble_eq_true rfl) rfl ?_
    refine sg_iload 370 (sk_td o_L_lifts 225 rfl) rfl rfl ?_
    refine sg_iload_n 371 (sk_td o_L_lifts 226 rfl) rfl rfl ?_
    refine sg_iload 373 (sk_td o_L_lifts 227 rfl) rfl rfl ?_
    refine sg_aload_n 374 (sk_td o_L_lifts 228 rfl) rfl rfl ?_
    refine sg_aload 376 (sk_td o_L_lifts 229 rfl) rfl rfl ?_
    refine sg_aload 378 (sk_td o_L_lifts 230 rfl) rfl rfl ?_
    refine sg_aload 380 (sk_td o_L_lifts 231 rfl) rfl rfl ?_
    obtain ⟨y3, hr_y3, hq⟩ := sk_bnd hq
    obtain ⟨hx4, hq⟩ := sk_ifn hq
    obtain ⟨hl5, hq⟩ := sk_ifn hq
    refine sx_callBv (as := [.inl ((1 : Int32) + y2), .inl v2, .inl v4, .inr (.inr (some (9998, k3))), .inr (.inr (some (9998, k5))), .inr (.inr (some (9998, k6))), .inr (.inr (some (9998, k7)))]) (st := []) 383 (s_L_simulate hr_y3) (sk_td o_L_lifts 232 rfl) rfl ls_L_69 rfl (Nat.le_of_ble_eq_true rfl) hI rfl hx4 hl5 (Nat.le_of_ble_eq_true rfl) (Nat.le_of_ble_eq_true rfl) (Nat.le_of_ble_eq_true rfl) (Nat.le_of_ble_eq_true rfl) (fun hI => ?_)
    refine sg_aload_n 384 (sk_td o_L_lifts 233 rfl) rfl rfl ?_
    refine sg_iload 386 (sk_td o_L_lifts 234 rfl) rfl rfl ?_
    refine sg_iload_n 387 (sk_td o_L_lifts 235 rfl) rfl rfl ?_
    refine sg_iload 389 (sk_td o_L_lifts 236 rfl) rfl rfl ?_
    refine sg_aload 391 (sk_td o_L_lifts 237 rfl) rfl rfl ?_
    obtain ⟨y6, hr_y6, hq⟩ := sk_bnd hq
    refine sx_callBi (as := [.inr (.inr (some (0, 0))), .inl ((1 : Int32) + y2), .inl v2, .inl v4, .inr (.inr (some (9998, k7)))]) (st := []) 394 (s_L_simulated hr_y6) (sk_td o_L_lifts 238 rfl) rfl ls_L_72 rfl (Nat.le_of_ble_eq_true rfl) hI rfl rfl hI.2 (Nat.le_of_ble_eq_true rfl) (Nat.le_of_ble_eq_true rfl) (Nat.le_of_ble_eq_true rfl) (Nat.le_of_ble_eq_true rfl) (fun hI => ?_)
    refine sg_if_ne 399 397 (sk_td o_L_lifts 239 rfl) (by decide) rfl (fun hc => ?_) (fun hc => ?_)
    · rw [if_neg hc] at hq
      refine sg_aload_n 400 (sk_td o_L_lifts 242 rfl) rfl rfl ?_
      refine sg_bipush (v := (29 : Int32)) 402 (sk_td o_L_lifts 243 rfl) rfl (by decide) ?_
      obtain ⟨y7, hr_y7, hq⟩ := sk_bnd hq
      refine sx_callBi (as := [.inr (.inr (some (9999, 0))), .inl (29 : Int32)]) (st := []) 405 (s_L_cell hr_y7) (sk_td o_L_lifts 244 rfl) rfl ls_L_51 rfl (Nat.le_of_ble_eq_true rfl) hI rfl rfl hI.2 (Nat.le_of_ble_eq_true rfl) (Nat.le_of_ble_eq_true rfl) (Nat.le_of_ble_eq_true rfl) (Nat.le_of_ble_eq_true rfl) (fun hI => ?_)
      refine sg_iload_n 406 (sk_td o_L_lifts 245 rfl) rfl rfl ?_
      obtain ⟨y8, hr_y8, hq⟩ := sk_bnd hq
      refine sx_callBi (as := [.inl y7, .inl v2]) (st := []) 409 (s_L_low hr_y8) (sk_td o_L_lifts 246 rfl) rfl ls_L_55 rfl (Nat.le_of_ble_eq_true rfl) hI rfl rfl hI.2 (Nat.le_of_ble_eq_true rfl) (Nat.le_of_ble_eq_true rfl) (Nat.le_of_ble_eq_true rfl) (Nat.le_of_ble_eq_true rfl) (fun hI => ?_)
      refine sg_istore 411 [some (.inr (.inr (some (0, 0)))), some (.inr (.inr (some (9999, 0)))), some (.inl v2), some (.inr (.inr (some (9998, k3)))), some (.inl v4), some (.inr (.inr (some (9998, k5)))), some (.inr (.inr (some (9998, k6)))), some (.inr (.inr (some (9998, k7)))), some (.inl ((1 : Int32) + y2)), some (.inl y8), none, none, none] (sk_td o_L_lifts 247 rfl) rfl rfl (Nat.le_of_ble_eq_true rfl) rfl ?_
      refine sg_aload_n 412 (sk_td o_L_lifts 248 rfl) rfl rfl ?_
      refine sg_iload 414 (sk_td o_L_lifts 249 rfl) rfl rfl ?_
      obtain ⟨hb9, hq⟩ := sk_ifn hq
      refine sx_ld 415 (sk_td o_L_lifts 250 rfl) rfl hb9 ?_
      refine sg_if_eq 429 418 (sk_td o_L_lifts 251 rfl) (by decide) rfl (fun hc => ?_) (fun hc => ?_)
      · rw [if_pos hc] at hq
        refine sx_wk [true, false, false, false, false, false, false, false, true, true, true, true, true] (ls' := [some (.inr (.inr (some (0, 0)))), none, none, none, none, none, none, none, some (.inl ((1 : Int32) + y2)), some (.inl y8), none, none, none]) rfl ?_
        exact t_L_lifts_429 hq hI
      · rw [if_neg hc] at hq
        refine sg_aload 420 (sk_td o_L_lifts 252 rfl) rfl rfl ?_
        refine sg_bipush (v := (6 : Int32)) 422 (sk_td o_L_lifts 253 rfl) rfl (by decide) ?_
        refine sg_iload 424 (sk_td o_L_lifts 254 rfl) rfl rfl ?_
        refine sg_imul 425 (sk_td o_L_lifts 255 rfl) rfl ?_
        obtain ⟨hb10, hq⟩ := sk_ifn hq
        refine sx_ld 426 (sk_td o_L_lifts 256 rfl) rfl hb10 ?_
        refine sg_if_ne 448 429 (sk_td o_L_lifts 257 rfl) (by decide) rfl (fun hc => ?_) (fun hc => ?_)
        · rw [if_neg hc] at hq
          refine sg_iconst (v := (-1 : Int32)) 449 (sk_td o_L_lifts 268 rfl) rfl (by decide) ?_
          refine sg_istore 451 [some (.inr (.inr (some (0, 0)))), some (.inr (.inr (some (9999, 0)))), some (.inl v2), some (.inr (.inr (some (9998, k3)))), some (.inl v4), some (.inr (.inr (some (9998, k5)))), some (.inr (.inr (some (9998, k6)))), some (.inr (.inr (some (9998, k7)))), some (.inl ((1 : Int32) + y2)), some (.inl y8), some (.inl (-1 : Int32)), none, none] (sk_td o_L_lifts 269 rfl) rfl rfl (Nat.le_of_ble_eq_true rfl) rfl ?_
          refine sg_iconst (v := (0 : Int32)) 452 (sk_td o_L_lifts 270 rfl) rfl (by decide) ?_
          refine sg_istore 454 [some (.inr (.inr (some (0, 0)))), some (.inr (.inr (some (9999, 0)))), some (.inl v2), some (.inr (.inr (some (9998, k3)))), some (.inl v4), some (.inr (.inr (some (9998, k5)))), some (.inr (.inr (some (9998, k6)))), some (.inr (.inr (some (9998, k7)))), some (.inl ((1 : Int32) + y2)), some (.inl y8), some (.inl (-1 : Int32)), some (.inl (0 : Int32)), none] (sk_td o_L_lifts 271 rfl) rfl rfl (Nat.le_of_ble_eq_true rfl) rfl ?_
          refine sg_iconst (v := (0 : Int32)) 455 (sk_td o_L_lifts 272 rfl) rfl (by decide) ?_
          refine sg_istore 457 [some (.inr (.inr (some (0, 0)))), some (.inr (.inr (some (9999, 0)))), some (.inl v2), some (.inr (.inr (some (9998, k3)))), some (.inl v4), some (.inr (.inr (some (9998, k5)))), some (.inr (.inr (some (9998, k6)))), some (.inr (.inr (some (9998, k7)))), some (.inl ((1 : Int32) + y2)), some (.inl y8), some (.inl (-1 : Int32)), some (.inl (0 : Int32)), some (.inl (0 : Int32))] (sk_td o_L_lifts 273 rfl) rfl rfl (Nat.le_of_ble_eq_true rfl) rfl ?_
          refine sx_wk [true, false, true, true, true, true, true, true, true, true, true, true, true] (ls' := [some (.inr (.inr (some (0, 0)))), none, some (.inl v2), some (.inr (.inr (some (9998, k3)))), some (.inl v4), some (.inr (.inr (some (9998, k5)))), some (.inr (.inr (some (9998, k6)))), some (.inr (.inr (some (9998, k7)))), some (.inl ((1 : Int32) + y2)), some (.inl y8), some (.inl (-1 : Int32)), some (.inl (0 : Int32)), some (.inl (0 : Int32))]) rfl ?_
          exact lt_L_lifts_457 sk_fu (y6.2, y3, v2, k3, v4, k5, k6, k7, ((1 : Int32) + y2), y8, (-1 : Int32), (0 : Int32), (0 : Int32)) _ hq hI
        · rw [if_pos hc] at hq
          refine sx_wk [true, false, false, false, false, false, false, false, true, true, true, true, true] (ls' := [some (.inr (.inr (some (0, 0)))), none, none, none, none, none, none, none, some (.inl ((1 : Int32) + y2)), some (.inl y8), none, none, none]) rfl ?_
          exact t_L_lifts_429 hq hI
    · rw [if_pos hc] at hq
      refine sg_iconst (v := (0 : Int32)) 398 (sk_td o_L_lifts 240 rfl) rfl (by decide) ?_
      obtain rfl := Option.some.inj hq
      exact sx_iret rfl (sk_td o_L_lifts 241 rfl) rfl (show narrow .boolean (.int (0 : Int32)) = .int (0 : Int32) by decide) (sx_l1 hI) (sx_l2 hI)
  · rw [if_neg hc] at hq
    refine sg_aload_n 160 (sk_td o_L_lifts 98 rfl) rfl rfl ?_
    refine sg_bipush (v := (24 : Int32)) 162 (sk_td o_L_lifts 99 rfl) rfl (by decide) ?_
    refine sg_iload 164 (sk_td o_L_lifts 100 rfl) rfl rfl ?_
    refine sg_iadd 165 (sk_td o_L_lifts 101 rfl) rfl ?_
    obtain ⟨y11, hr_y11, hq⟩ := sk_bnd hq
    refine sx_callBi (as := [.inr (.inr (some (9999, 0))), .inl ((24 : Int32) + v8)]) (st := []) 168 (s_L_cell hr_y11) (sk_td o_L_lifts 102 rfl) rfl ls_L_51 rfl (Nat.le_of_ble_eq_true rfl) hI rfl rfl hI.2 (Nat.le_of_ble_eq_true rfl) (Nat.le_of_ble_eq_true rfl) (Nat.le_of_ble_eq_true rfl) (Nat.le_of_ble_eq_true rfl) (fun hI => ?_)
    refine sg_istore 170 [some (.inr (.inr (some (0, 0)))), some (.inr (.inr (some (9999, 0)))), some (.inl v2), some (.inr (.inr (some (9998, k3)))), some (.inl v4), some (.inr (.inr (some (9998, k5)))), some (.inr (.inr (some (9998, k6)))), some (.inr (.inr (some (9998, k7)))), some (.inl v8), some (.inl y11), none, none, none] (sk_td o_L_lifts 103 rfl) rfl rfl (Nat.le_of_ble_eq_true rfl) rfl ?_
    refine sg_aload 172 (sk_td o_L_lifts 104 rfl) rfl rfl ?_
    refine sg_bipush (v := (6 : Int32)) 174 (sk_td o_L_lifts 105 rfl) rfl (by decide) ?_
    refine sg_iload 176 (sk_td o_L_lifts 106 rfl) rfl rfl ?_
    refine sg_imul 177 (sk_td o_L_lifts 107 rfl) rfl ?_
    refine sg_iconst (v := (1 : Int32)) 178 (sk_td o_L_lifts 108 rfl) rfl (by decide) ?_
    refine sg_iadd 179 (sk_td o_L_lifts 109 rfl) rfl ?_
    refine sg_iload 181 (sk_td o_L_lifts 110 rfl) rfl rfl ?_
    refine sg_bipush (v := (6 : Int32)) 183 (sk_td o_L_lifts 111 rfl) rfl (by decide) ?_
    obtain ⟨y12, hr_y12, hq⟩ := sk_bnd hq
    refine sx_callBi (as := [.inl y11, .inl (6 : Int32)]) (st := [.inl (((6 : Int32) * v8) + (1 : Int32)), .inr (.inr (some (9998, k6)))]) 186 (s_L_low hr_y12) (sk_td o_L_lifts 112 rfl) rfl ls_L_55 rfl (Nat.le_of_ble_eq_true rfl) hI rfl rfl hI.2 (Nat.le_of_ble_eq_true rfl) (Nat.le_of_ble_eq_true rfl) (Nat.le_of_ble_eq_true rfl) (Nat.le_of_ble_eq_true rfl) (fun hI => ?_)
    obtain ⟨hb13, hq⟩ := sk_ifn hq
    refine sx_st 187 (sk_td o_L_lifts 113 rfl) rfl hb13 ?_
    refine sg_aload_n 188 (sk_td o_L_lifts 114 rfl) rfl rfl ?_
    refine sg_iload 190 (sk_td o_L_lifts 115 rfl) rfl rfl ?_
    refine sg_aload 192 (sk_td o_L_lifts 116 rfl) rfl rfl ?_
    refine sg_bipush (v := (6 : Int32)) 194 (sk_td o_L_lifts 117 rfl) rfl (by decide) ?_
    refine sg_iload 196 (sk_td o_L_lifts 118 rfl) rfl rfl ?_
    refine sg_imul 197 (sk_td o_L_lifts 119 rfl) rfl ?_
    refine sg_iconst (v := (1 : Int32)) 198 (sk_td o_L_lifts 120 rfl) rfl (by decide) ?_
    refine sg_iadd 199 (sk_td o_L_lifts 121 rfl) rfl ?_
    exact t_L_lifts_199 hrec153 hq hI
def l_L_lifts_153 (L : Nat) (xs : Nat → Int32) (x0 : Nat) (fl : Nat) (a : (sk_D × sk_X × Int32 × Nat × Int32 × Nat × Nat × Nat × Int32)) : Option (Int32 × sk_D × sk_X) := sk_it (fun rec153 a => q_L_lifts_153 rec153 L xs x0 a.1 a.2.1 a.2.2.1 a.2.2.2.1 a.2.2.2.2.1 a.2.2.2.2.2.1 a.2.2.2.2.2.2.1 a.2.2.2.2.2.2.2.1 a.2.2.2.2.2.2.2.2) fl a
theorem lt_L_lifts_153 {l : Launch} {L : Nat} {xs : Nat → Int32} {x0 : Nat} : ∀ (fl : Nat) (a : (sk_D × sk_X × Int32 × Nat × Int32 × Nat × Nat × Nat × Int32)) (res : Int32 × sk_D × sk_X), l_L_lifts_153 L xs x0 fl a = some res → (x0 ≤ a.2.1.1 ∧ a.2.1.1 ≤ x0 + 131) → sx_G l (sk_rm 8 131 8384) m_L_lifts sx_T (sx_Zm m_L_lifts (some (.inl res.1)) res.2.1 res.2.2) a.2.1 L xs (0 + (a.2.1.1 - x0)) (0 + 64 * (a.2.1.1 - x0)) 153 [some (.inr (.inr (some (0, 0)))), some (.inr (.inr (some (9999, 0)))), some (.inl a.2.2.1), some (.inr (.inr (some (9998, a.2.2.2.1)))), some (.inl a.2.2.2.2.1), some (.inr (.inr (some (9998, a.2.2.2.2.2.1)))), some (.inr (.inr (some (9998, a.2.2.2.2.2.2.1)))), some (.inr (.inr (some (9998, a.2.2.2.2.2.2.2.1)))), some (.inl a.2.2.2.2.2.2.2.2), none, none, none, none] [] a.1 :=
  sk_it_ind (P := fun (a : (sk_D × sk_X × Int32 × Nat × Int32 × Nat × Nat × Nat × Int32)) (res : Int32 × sk_D × sk_X) => (x0 ≤ a.2.1.1 ∧ a.2.1.1 ≤ x0 + 131) → sx_G l (sk_rm 8 131 8384) m_L_lifts sx_T (sx_Zm m_L_lifts (some (.inl res.1)) res.2.1 res.2.2) a.2.1 L xs (0 + (a.2.1.1 - x0)) (0 + 64 * (a.2.1.1 - x0)) 153 [some (.inr (.inr (some (0, 0)))), some (.inr (.inr (some (9999, 0)))), some (.inl a.2.2.1), some (.inr (.inr (some (9998, a.2.2.2.1)))), some (.inl a.2.2.2.2.1), some (.inr (.inr (some (9998, a.2.2.2.2.2.1)))), some (.inr (.inr (some (9998, a.2.2.2.2.2.2.1)))), some (.inr (.inr (some (9998, a.2.2.2.2.2.2.2.1)))), some (.inl a.2.2.2.2.2.2.2.2), none, none, none, none] [] a.1) (fun rec153 hrec153 a res hq hI => t_L_lifts_153 hrec153 hq hI)
def q_L_lifts_115 (rec35 : (sk_D × sk_X × Int32 × Nat × Int32 × Nat × Nat × Nat × Int32) → Option (Int32 × sk_D × sk_X)) (L : Nat) (xs : Nat → Int32) (x0 : Nat) (d : sk_D) (x : sk_X) (v2 : Int32) (k3 : Nat) (v4 : Int32) (k5 : Nat) (k6 : Nat) (k7 : Nat) (v8 : Int32) (h1 : Nat) (s2 : Int32) : Option (Int32 × sk_D × sk_X) :=
  if xb x h1 s2 = true then if xb x k5 (((3 : Int32) * v8) + (1 : Int32)) = true then if xb x k5 (((3 : Int32) * v8) + (2 : Int32)) = true then (q_X8_addLift d (x.2.2 h1 s2.toNatClampNeg) (x.2.2 k5 (((3 : Int32) * v8) + (1 : Int32)).toNatClampNeg) (x.2.2 k5 (((3 : Int32) * v8) + (2 : Int32)).toNatClampNeg)).bind fun y4 => if y4.1 = v8 then (rec35 (y4.2, x, v2, k3, v4, k5, k6, k7, (v8 + (1 : Int32)))) else some ((0 : Int32), y4.2, x) else none else none else none
set_option maxRecDepth 100000 in
set_option maxHeartbeats 4000000 in
theorem t_L_lifts_115 {l : Launch} {rec35 : (sk_D × sk_X × Int32 × Nat × Int32 × Nat × Nat × Nat × Int32) → Option (Int32 × sk_D × sk_X)} {L : Nat} {xs : Nat → Int32} {x0 : Nat} {d : sk_D} {x : sk_X} {v2 : Int32} {k3 : Nat} {v4 : Int32} {k5 : Nat} {k6 : Nat} {k7 : Nat} {v8 : Int32} {h1 : Nat} {s2 : Int32} (hrec35 : ∀ (a : (sk_D × sk_X × Int32 × Nat × Int32 × Nat × Nat × Nat × Int32)) (res : Int32 × sk_D × sk_X), rec35 a = some res → (x0 ≤ a.2.1.1 ∧ a.2.1.1 ≤ x0 + 131) → sx_G l (sk_rm 8 131 8384) m_L_lifts sx_T (sx_Zm m_L_lifts (some (.inl res.1)) res.2.1 res.2.2) a.2.1 L xs (0 + (a.2.1.1 - x0)) (0 + 64 * (a.2.1.1 - x0)) 35 [some (.inr (.inr (some (0, 0)))), some (.inr (.inr (some (9999, 0)))), some (.inl a.2.2.1), some (.inr (.inr (some (9998, a.2.2.2.1)))), some (.inl a.2.2.2.2.1), some (.inr (.inr (some (9998, a.2.2.2.2.2.1)))), some (.inr (.inr (some (9998, a.2.2.2.2.2.2.1)))), some (.inr (.inr (some (9998, a.2.2.2.2.2.2.2.1)))), some (.inl a.2.2.2.2.2.2.2.2), none, none, none, none] [] a.1) {res : Int32 × sk_D × sk_X} (hq : q_L_lifts_115 rec35 L xs x0 d x v2 k3 v4 k5 k6 k7 v8 h1 s2 = some res) (hI : (x0 ≤ x.1 ∧ x.1 ≤ x0 + 131)) :
    sx_G l (sk_rm 8 131 8384) m_L_lifts sx_T (sx_Zm m_L_lifts (some (.inl res.1)) res.2.1 res.2.2) x L xs (0 + (x.1 - x0)) (0 + 64 * (x.1 - x0)) 115 [some (.inr (.inr (some (0, 0)))), some (.inr (.inr (some (9999, 0)))), some (.inl v2), some (.inr (.inr (some (9998, k3)))), some (.inl v4), some (.inr (.inr (some (9998, k5)))), some (.inr (.inr (some (9998, k6)))), some (.inr (.inr (some (9998, k7)))), some (.inl v8), none, none, none, none] [.inl s2, .inr (.inr (some (9998, h1))), .inr (.inr (some (0, 0)))] d := by
  unfold q_L_lifts_115 at hq
  obtain ⟨hb1, hq⟩ := sk_ifn hq
  refine sx_ld 116 (sk_td o_L_lifts 71 rfl) rfl hb1 ?_
  refine sg_aload 118 (sk_td o_L_lifts 72 rfl) rfl rfl ?_
  refine sg_iconst (v := (3 : Int32)) 119 (sk_td o_L_lifts 73 rfl) rfl (by decide) ?_
  refine sg_iload 121 (sk_td o_L_lifts 74 rfl) rfl rfl ?_
  refine sg_imul 122 (sk_td o_L_lifts 75 rfl) rfl ?_
  refine sg_iconst (v := (1 : Int32)) 123 (sk_td o_L_lifts 76 rfl) rfl (by decide) ?_
  refine sg_iadd 124 (sk_td o_L_lifts 77 rfl) rfl ?_
  obtain ⟨hb2, hq⟩ := sk_ifn hq
  refine sx_ld 125 (sk_td o_L_lifts 78 rfl) rfl hb2 ?_
  refine sg_aload 127 (sk_td o_L_lifts 79 rfl) rfl rfl ?_
  refine sg_iconst (v := (3 : Int32)) 128 (sk_td o_L_lifts 80 rfl) rfl (by decide) ?_
  refine sg_iload 130 (sk_td o_L_lifts 81 rfl) rfl rfl ?_
  refine sg_imul 131 (sk_td o_L_lifts 82 rfl) rfl ?_
  refine sg_iconst (v := (2 : Int32)) 132 (sk_td o_L_lifts 83 rfl) rfl (by decide) ?_
  refine sg_iadd 133 (sk_td o_L_lifts 84 rfl) rfl ?_
  obtain ⟨hb3, hq⟩ := sk_ifn hq
  refine sx_ld 134 (sk_td o_L_lifts 85 rfl) rfl hb3 ?_
  obtain ⟨y4, hr_y4, hq⟩ := sk_bnd hq
  refine sm_callL3i 137 (s_X8_addLift hr_y4) (sk_td o_L_lifts 86 rfl) rfl lv_L_59 rfl rfl rfl sz_0 (sx_rk hI (Nat.le_of_ble_eq_true rfl) (Nat.le_of_ble_eq_true rfl) (Nat.le_of_ble_eq_true rfl) (Nat.le_of_ble_eq_true rfl) rfl) (Nat.le_of_ble_eq_true rfl) ?_
  refine sg_iload 139 (sk_td o_L_lifts 87 rfl) rfl rfl ?_
  refine sg_ic_eq 144 142 (sk_td o_L_lifts 88 rfl) (by decide) rfl (fun hc => ?_) (fun hc => ?_)
  · rw [if_pos hc] at hq
    refine sg_iinc (v8 + (1 : Int32)) 147 [some (.inr (.inr (some (0, 0)))), some (.inr (.inr (some (9999, 0)))), some (.inl v2), some (.inr (.inr (some (9998, k3)))), some (.inl v4), some (.inr (.inr (some (9998, k5)))), some (.inr (.inr (some (9998, k6)))), some (.inr (.inr (some (9998, k7)))), some (.inl (v8 + (1 : Int32))), none, none, none, none] (sk_td o_L_lifts 91 rfl) rfl rfl rfl rfl (Nat.le_of_ble_eq_true rfl) rfl ?_
    refine sg_goto 35 (sk_td o_L_lifts 92 rfl) (by decide) ?_
    exact hrec35 (y4.2, x, v2, k3, v4, k5, k6, k7, (v8 + (1 : Int32))) _ hq hI
  · rw [if_neg hc] at hq
    refine sg_iconst (v := (0 : Int32)) 143 (sk_td o_L_lifts 89 rfl) rfl (by decide) ?_
    obtain rfl := Option.some.inj hq
    exact sx_iret rfl (sk_td o_L_lifts 90 rfl) rfl (show narrow .boolean (.int (0 : Int32)) = .int (0 : Int32) by decide) (sx_l1 hI) (sx_l2 hI)
def q_L_lifts_103 (rec35 : (sk_D × sk_X × Int32 × Nat × Int32 × Nat × Nat × Nat × Int32) → Option (Int32 × sk_D × sk_X)) (L : Nat) (xs : Nat → Int32) (x0 : Nat) (d : sk_D) (x : sk_X) (v2 : Int32) (k3 : Nat) (v4 : Int32) (k5 : Nat) (k6 : Nat) (k7 : Nat) (v8 : Int32) (h0 : Nat) (s1 : Int32) (s3 : Int32) : Option (Int32 × sk_D × sk_X) :=
  (q_L_low s3 (9 : Int32)).bind fun y1 => if xb x h0 s1 = true then (q_L_lifts_115 rec35 L xs x0 d (xw x h0 s1.toNatClampNeg ((1 : Int32) + y1)) v2 k3 v4 k5 k6 k7 v8 k5 ((3 : Int32) * v8)) else none
set_option maxRecDepth 100000 in
set_option maxHeartbeats 4000000 in
theorem t_L_lifts_103 {l : Launch} {rec35 : (sk_D × sk_X × Int32 × Nat × Int32 × Nat × Nat × Nat × Int32) → Option (Int32 × sk_D × sk_X)} {L : Nat} {xs : Nat → Int32} {x0 : Nat} {d : sk_D} {x : sk_X} {v2 : Int32} {k3 : Nat} {v4 : Int32} {k5 : Nat} {k6 : Nat} {k7 : Nat} {v8 : Int32} {h0 : Nat} {s1 : Int32} {s3 : Int32} (hrec35 : ∀ (a : (sk_D × sk_X × Int32 × Nat × Int32 × Nat × Nat × Nat × Int32)) (res : Int32 × sk_D × sk_X), rec35 a = some res → (x0 ≤ a.2.1.1 ∧ a.2.1.1 ≤ x0 + 131) → sx_G l (sk_rm 8 131 8384) m_L_lifts sx_T (sx_Zm m_L_lifts (some (.inl res.1)) res.2.1 res.2.2) a.2.1 L xs (0 + (a.2.1.1 - x0)) (0 + 64 * (a.2.1.1 - x0)) 35 [some (.inr (.inr (some (0, 0)))), some (.inr (.inr (some (9999, 0)))), some (.inl a.2.2.1), some (.inr (.inr (some (9998, a.2.2.2.1)))), some (.inl a.2.2.2.2.1), some (.inr (.inr (some (9998, a.2.2.2.2.2.1)))), some (.inr (.inr (some (9998, a.2.2.2.2.2.2.1)))), some (.inr (.inr (some (9998, a.2.2.2.2.2.2.2.1)))), some (.inl a.2.2.2.2.2.2.2.2), none, none, none, none] [] a.1) {res : Int32 × sk_D × sk_X} (hq : q_L_lifts_103 rec35 L xs x0 d x v2 k3 v4 k5 k6 k7 v8 h0 s1 s3 = some res) (hI : (x0 ≤ x.1 ∧ x.1 ≤ x0 + 131)) :
    sx_G l (sk_rm 8 131 8384) m_L_lifts sx_T (sx_Zm m_L_lifts (some (.inl res.1)) res.2.1 res.2.2) x L xs (0 + (x.1 - x0)) (0 + 64 * (x.1 - x0)) 103 [some (.inr (.inr (some (0, 0)))), some (.inr (.inr (some (9999, 0)))), some (.inl v2), some (.inr (.inr (some (9998, k3)))), some (.inl v4), some (.inr (.inr (some (9998, k5)))), some (.inr (.inr (some (9998, k6)))), some (.inr (.inr (some (9998, k7)))), some (.inl v8), none, none, none, none] [.inl (9 : Int32), .inl s3, .inl (1 : Int32), .inl s1, .inr (.inr (some (9998, h0)))] d := by
  unfold q_L_lifts_103 at hq
  obtain ⟨y1, hr_y1, hq⟩ := sk_bnd hq
  refine sx_callBi (as := [.inl s3, .inl (9 : Int32)]) (st := [.inl (1 : Int32), .inl s1, .inr (.inr (some (9998, h0)))]) 106 (s_L_low hr_y1) (sk_td o_L_lifts 63 rfl) rfl ls_L_55 rfl (Nat.le_of_ble_eq_true rfl) hI rfl rfl hI.2 (Nat.le_of_ble_eq_true rfl) (Nat.le_of_ble_eq_true rfl) (Nat.le_of_ble_eq_true rfl) (Nat.le_of_ble_eq_true rfl) (fun hI => ?_)
  refine sg_iadd 107 (sk_td o_L_lifts 64 rfl) rfl ?_
  obtain ⟨hb2, hq⟩ := sk_ifn hq
  refine sx_st 108 (sk_td o_L_lifts 65 rfl) rfl hb2 ?_
  refine sg_aload_n 109 (sk_td o_L_lifts 66 rfl) rfl rfl ?_
  refine sg_aload 111 (sk_td o_L_lifts 67 rfl) rfl rfl ?_
  refine sg_iconst (v := (3 : Int32)) 112 (sk_td o_L_lifts 68 rfl) rfl (by decide) ?_
  refine sg_iload 114 (sk_td o_L_lifts 69 rfl) rfl rfl ?_
  refine sg_imul 115 (sk_td o_L_lifts 70 rfl) rfl ?_
  exact t_L_lifts_115 hrec35 hq hI
def q_L_lifts_82 (rec35 : (sk_D × sk_X × Int32 × Nat × Int32 × Nat × Nat × Nat × Int32) → Option (Int32 × sk_D × sk_X)) (L : Nat) (xs : Nat → Int32) (x0 : Nat) (d : sk_D) (x : sk_X) (v2 : Int32) (k3 : Nat) (v4 : Int32) (k5 : Nat) (k6 : Nat) (k7 : Nat) (v8 : Int32) (v9 : Int32) (h0 : Nat) (s1 : Int32) (s3 : Int32) : Option (Int32 × sk_D × sk_X) :=
  (q_L_low s3 (5 : Int32)).bind fun y1 => if xb x h0 s1 = true then (q_L_lifts_103 rec35 L xs x0 d (xw x h0 s1.toNatClampNeg ((1 : Int32) + y1)) v2 k3 v4 k5 k6 k7 v8 k5 (((3 : Int32) * v8) + (2 : Int32)) (v9 >>> ((6 : Int32) &&& 31))) else none
set_option maxRecDepth 100000 in
set_option maxHeartbeats 4000000 in
theorem t_L_lifts_82 {l : Launch} {rec35 : (sk_D × sk_X × Int32 × Nat × Int32 × Nat × Nat × Nat × Int32) → Option (Int32 × sk_D × sk_X)} {L : Nat} {xs : Nat → Int32} {x0 : Nat} {d : sk_D} {x : sk_X} {v2 : Int32} {k3 : Nat} {v4 : Int32} {k5 : Nat} {k6 : Nat} {k7 : Nat} {v8 : Int32} {v9 : Int32} {h0 : Nat} {s1 : Int32} {s3 : Int32} (hrec35 : ∀ (a : (sk_D × sk_X × Int32 × Nat × Int32 × Nat × Nat × Nat × Int32)) (res : Int32 × sk_D × sk_X), rec35 a = some res → (x0 ≤ a.2.1.1 ∧ a.2.1.1 ≤ x0 + 131) → sx_G l (sk_rm 8 131 8384) m_L_lifts sx_T (sx_Zm m_L_lifts (some (.inl res.1)) res.2.1 res.2.2) a.2.1 L xs (0 + (a.2.1.1 - x0)) (0 + 64 * (a.2.1.1 - x0)) 35 [some (.inr (.inr (some (0, 0)))), some (.inr (.inr (some (9999, 0)))), some (.inl a.2.2.1), some (.inr (.inr (some (9998, a.2.2.2.1)))), some (.inl a.2.2.2.2.1), some (.inr (.inr (some (9998, a.2.2.2.2.2.1)))), some (.inr (.inr (some (9998, a.2.2.2.2.2.2.1)))), some (.inr (.inr (some (9998, a.2.2.2.2.2.2.2.1)))), some (.inl a.2.2.2.2.2.2.2.2), none, none, none, none] [] a.1) {res : Int32 × sk_D × sk_X} (hq : q_L_lifts_82 rec35 L xs x0 d x v2 k3 v4 k5 k6 k7 v8 v9 h0 s1 s3 = some res) (hI : (x0 ≤ x.1 ∧ x.1 ≤ x0 + 131)) :
    sx_G l (sk_rm 8 131 8384) m_L_lifts sx_T (sx_Zm m_L_lifts (some (.inl res.1)) res.2.1 res.2.2) x L xs (0 + (x.1 - x0)) (0 + 64 * (x.1 - x0)) 82 [some (.inr (.inr (some (0, 0)))), some (.inr (.inr (some (9999, 0)))), some (.inl v2), some (.inr (.inr (some (9998, k3)))), some (.inl v4), some (.inr (.inr (some (9998, k5)))), some (.inr (.inr (some (9998, k6)))), some (.inr (.inr (some (9998, k7)))), some (.inl v8), some (.inl v9), none, none, none] [.inl (5 : Int32), .inl s3, .inl (1 : Int32), .inl s1, .inr (.inr (some (9998, h0)))] d := by
  unfold q_L_lifts_82 at hq
  obtain ⟨y1, hr_y1, hq⟩ := sk_bnd hq
  refine sx_callBi (as := [.inl s3, .inl (5 : Int32)]) (st := [.inl (1 : Int32), .inl s1, .inr (.inr (some (9998, h0)))]) 85 (s_L_low hr_y1) (sk_td o_L_lifts 49 rfl) rfl ls_L_55 rfl (Nat.le_of_ble_eq_true rfl) hI rfl rfl hI.2 (Nat.le_of_ble_eq_true rfl) (Nat.le_of_ble_eq_true rfl) (Nat.le_of_ble_eq_true rfl) (Nat.le_of_ble_eq_true rfl) (fun hI => ?_)
  refine sg_iadd 86 (sk_td o_L_lifts 50 rfl) rfl ?_
  obtain ⟨hb2, hq⟩ := sk_ifn hq
  refine sx_st 87 (sk_td o_L_lifts 51 rfl) rfl hb2 ?_
  refine sg_aload 89 (sk_td o_L_lifts 52 rfl) rfl rfl ?_
  refine sg_iconst (v := (3 : Int32)) 90 (sk_td o_L_lifts 53 rfl) rfl (by decide) ?_
  refine sg_iload 92 (sk_td o_L_lifts 54 rfl) rfl rfl ?_
  refine sg_imul 93 (sk_td o_L_lifts 55 rfl) rfl ?_
  refine sg_iconst (v := (2 : Int32)) 94 (sk_td o_L_lifts 56 rfl) rfl (by decide) ?_
  refine sg_iadd 95 (sk_td o_L_lifts 57 rfl) rfl ?_
  refine sg_iconst (v := (1 : Int32)) 96 (sk_td o_L_lifts 58 rfl) rfl (by decide) ?_
  refine sg_iload 98 (sk_td o_L_lifts 59 rfl) rfl rfl ?_
  refine sg_bipush (v := (6 : Int32)) 100 (sk_td o_L_lifts 60 rfl) rfl (by decide) ?_
  refine sg_ishr 101 (sk_td o_L_lifts 61 rfl) rfl ?_
  refine sg_bipush (v := (9 : Int32)) 103 (sk_td o_L_lifts 62 rfl) rfl (by decide) ?_
  refine sx_wk [true, true, true, true, true, true, true, true, true, false, true, true, true] (ls' := [some (.inr (.inr (some (0, 0)))), some (.inr (.inr (some (9999, 0)))), some (.inl v2), some (.inr (.inr (some (9998, k3)))), some (.inl v4), some (.inr (.inr (some (9998, k5)))), some (.inr (.inr (some (9998, k6)))), some (.inr (.inr (some (9998, k7)))), some (.inl v8), none, none, none, none]) rfl ?_
  exact t_L_lifts_103 hrec35 hq hI
def q_L_lifts_35 (rec35 : (sk_D × sk_X × Int32 × Nat × Int32 × Nat × Nat × Nat × Int32) → Option (Int32 × sk_D × sk_X)) (L : Nat) (xs : Nat → Int32) (x0 : Nat) (d : sk_D) (x : sk_X) (v2 : Int32) (k3 : Nat) (v4 : Int32) (k5 : Nat) (k6 : Nat) (k7 : Nat) (v8 : Int32) : Option (Int32 × sk_D × sk_X) :=
  if v4 ≤ v8 then (l_L_lifts_153 L xs x0 sk_fu (d, x, v2, k3, v4, k5, k6, k7, (0 : Int32))) else (q_L_cell L xs ((21 : Int32) + v8)).bind fun y1 => (q_L_low y1 (4 : Int32)).bind fun y2 => if xb x k5 ((3 : Int32) * v8) = true then (q_L_lifts_82 rec35 L xs x0 d (xw x k5 ((3 : Int32) * v8).toNatClampNeg ((1 : Int32) + y2)) v2 k3 v4 k5 k6 k7 v8 y1 k5 (((3 : Int32) * v8) + (1 : Int32)) (y1 >>> ((3 : Int32) &&& 31))) else none
set_option maxRecDepth 100000 in
set_option maxHeartbeats 4000000 in
theorem t_L_lifts_35 {l : Launch} {rec35 : (sk_D × sk_X × Int32 × Nat × Int32 × Nat × Nat × Nat × Int32) → Option (Int32 × sk_D × sk_X)} {L : Nat} {xs : Nat → Int32} {x0 : Nat} {d : sk_D} {x : sk_X} {v2 : Int32} {k3 : Nat} {v4 : Int32} {k5 : Nat} {k6 : Nat} {k7 : Nat} {v8 : Int32} (hrec35 : ∀ (a : (sk_D × sk_X × Int32 × Nat × Int32 × Nat × Nat × Nat × Int32)) (res : Int32 × sk_D × sk_X), rec35 a = some res → (x0 ≤ a.2.1.1 ∧ a.2.1.1 ≤ x0 + 131) → sx_G l (sk_rm 8 131 8384) m_L_lifts sx_T (sx_Zm m_L_lifts (some (.inl res.1)) res.2.1 res.2.2) a.2.1 L xs (0 + (a.2.1.1 - x0)) (0 + 64 * (a.2.1.1 - x0)) 35 [some (.inr (.inr (some (0, 0)))), some (.inr (.inr (some (9999, 0)))), some (.inl a.2.2.1), some (.inr (.inr (some (9998, a.2.2.2.1)))), some (.inl a.2.2.2.2.1), some (.inr (.inr (some (9998, a.2.2.2.2.2.1)))), some (.inr (.inr (some (9998, a.2.2.2.2.2.2.1)))), some (.inr (.inr (some (9998, a.2.2.2.2.2.2.2.1)))), some (.inl a.2.2.2.2.2.2.2.2), none, none, none, none] [] a.1) {res : Int32 × sk_D × sk_X} (hq : q_L_lifts_35 rec35 L xs x0 d x v2 k3 v4 k5 k6 k7 v8 = some res) (hI : (x0 ≤ x.1 ∧ x.1 ≤ x0 + 131)) :
    sx_G l (sk_rm 8 131 8384) m_L_lifts sx_T (sx_Zm m_L_lifts (some (.inl res.1)) res.2.1 res.2.2) x L xs (0 + (x.1 - x0)) (0 + 64 * (x.1 - x0)) 35 [some (.inr (.inr (some (0, 0)))), some (.inr (.inr (some (9999, 0)))), some (.inl v2), some (.inr (.inr (some (9998, k3)))), some (.inl v4), some (.inr (.inr (some (9998, k5)))), some (.inr (.inr (some (9998, k6)))), some (.inr (.inr (some (9998, k7)))), some (.inl v8), none, none, none, none] [] d := by
  unfold q_L_lifts_35 at hq
  refine sg_iload 37 (sk_td o_L_lifts 19 rfl) rfl rfl ?_
  refine sg_iload 39 (sk_td o_L_lifts 20 rfl) rfl rfl ?_
  refine sg_ic_ge 150 42 (sk_td o_L_lifts 21 rfl) (by decide) rfl (fun hc => ?_) (fun hc => ?_)
  · rw [if_pos hc] at hq
    refine sg_iconst (v := (0 : Int32)) 151 (sk_td o_L_lifts 93 rfl) rfl (by decide) ?_
    refine sg_istore 153 [some (.inr (.inr (some (0, 0)))), some (.inr (.inr (some (9999, 0)))), some (.inl v2), some (.inr (.inr (some (9998, k3)))), some (.inl v4), some (.inr (.inr (some (9998, k5)))), some (.inr (.inr (some (9998, k6)))), some (.inr (.inr (some (9998, k7)))), some (.inl (0 : Int32)), none, none, none, none] (sk_td o_L_lifts 94 rfl) rfl rfl (Nat.le_of_ble_eq_true rfl) rfl ?_
    exact lt_L_lifts_153 sk_fu (d, x, v2, k3, v4, k5, k6, k7, (0 : Int32)) _ hq hI
  · rw [if_neg hc] at hq
    refine sg_aload_n 43 (sk_td o_L_lifts 22 rfl) rfl rfl ?_
    refine sg_bipush (v := (21 : Int32)) 45 (sk_td o_L_lifts 23 rfl) rfl (by decide) ?_
    refine sg_iload 47 (sk_td o_L_lifts 24 rfl) rfl rfl ?_
    refine sg_iadd 48 (sk_td o_L_lifts 25 rfl) rfl ?_
    obtain ⟨y1, hr_y1, hq⟩ := sk_bnd hq
    refine sx_callBi (as := [.inr (.inr (some (9999, 0))), .inl ((21 : Int32) + v8)]) (st := []) 51 (s_L_cell hr_y1) (sk_td o_L_lifts 26 rfl) rfl ls_L_51 rfl (Nat.le_of_ble_eq_true rfl) hI rfl rfl hI.2 (Nat.le_of_ble_eq_true rfl) (Nat.le_of_ble_eq_true rfl) (Nat.le_of_ble_eq_true rfl) (Nat.le_of_ble_eq_true rfl) (fun hI => ?_)
    refine sg_istore 53 [some (.inr (.inr (some (0, 0)))), some (.inr (.inr (some (9999, 0)))), some (.inl v2), some (.inr (.inr (some (9998, k3)))), some (.inl v4), some (.inr (.inr (some (9998, k5)))), some (.inr (.inr (some (9998, k6)))), some (.inr (.inr (some (9998, k7)))), some (.inl v8), some (.inl y1), none, none, none] (sk_td o_L_lifts 27 rfl) rfl rfl (Nat.le_of_ble_eq_true rfl) rfl ?_
    refine sg_aload 55 (sk_td o_L_lifts 28 rfl) rfl rfl ?_
    refine sg_iconst (v := (3 : Int32)) 56 (sk_td o_L_lifts 29 rfl) rfl (by decide) ?_
    refine sg_iload 58 (sk_td o_L_lifts 30 rfl) rfl rfl ?_
    refine sg_imul 59 (sk_td o_L_lifts 31 rfl) rfl ?_
    refine sg_iconst (v := (1 : Int32)) 60 (sk_td o_L_lifts 32 rfl) rfl (by decide) ?_
    refine sg_iload 62 (sk_td o_L_lifts 33 rfl) rfl rfl ?_
    refine sg_iconst (v := (4 : Int32)) 63 (sk_td o_L_lifts 34 rfl) rfl (by decide) ?_
    obtain ⟨y2, hr_y2, hq⟩ := sk_bnd hq
    refine sx_callBi (as := [.inl y1, .inl (4 : Int32)]) (st := [.inl (1 : Int32), .inl ((3 : Int32) * v8), .inr (.inr (some (9998, k5)))]) 66 (s_L_low hr_y2) (sk_td o_L_lifts 35 rfl) rfl ls_L_55 rfl (Nat.le_of_ble_eq_true rfl) hI rfl rfl hI.2 (Nat.le_of_ble_eq_true rfl) (Nat.le_of_ble_eq_true rfl) (Nat.le_of_ble_eq_true rfl) (Nat.le_of_ble_eq_true rfl) (fun hI => ?_)
    refine sg_iadd 67 (sk_td o_L_lifts 36 rfl) rfl ?_
    obtain ⟨hb3, hq⟩ := sk_ifn hq
    refine sx_st 68 (sk_td o_L_lifts 37 rfl) rfl hb3 ?_
    refine sg_aload 70 (sk_td o_L_lifts 38 rfl) rfl rfl ?_
    refine sg_iconst (v := (3 : Int32)) 71 (sk_td o_L_lifts 39 rfl) rfl (by decide) ?_
    refine sg_iload 73 (sk_td o_L_lifts 40 rfl) rfl rfl ?_
    refine sg_imul 74 (sk_td o_L_lifts 41 rfl) rfl ?_
    refine sg_iconst (v := (1 : Int32)) 75 (sk_td o_L_lifts 42 rfl) rfl (by decide) ?_
    refine sg_iadd 76 (sk_td o_L_lifts 43 rfl) rfl ?_
    refine sg_iconst (v := (1 : Int32)) 77 (sk_td o_L_lifts 44 rfl) rfl (by decide) ?_
    refine sg_iload 79 (sk_td o_L_lifts 45 rfl) rfl rfl ?_
    refine sg_iconst (v := (3 : Int32)) 80 (sk_td o_L_lifts 46 rfl) rfl (by decide) ?_
    refine sg_ishr 81 (sk_td o_L_lifts 47 rfl) rfl ?_
    refine sg_iconst (v := (5 : Int32)) 82 (sk_td o_L_lifts 48 rfl) rfl (by decide) ?_
    exact t_L_lifts_82 hrec35 hq hI
def l_L_lifts_35 (L : Nat) (xs : Nat → Int32) (x0 : Nat) (fl : Nat) (a : (sk_D × sk_X × Int32 × Nat × Int32 × Nat × Nat × Nat × Int32)) : Option (Int32 × sk_D × sk_X) := sk_it (fun rec35 a => q_L_lifts_35 rec35 L xs x0 a.1 a.2.1 a.2.2.1 a.2.2.2.1 a.2.2.2.2.1 a.2.2.2.2.2.1 a.2.2.2.2.2.2.1 a.2.2.2.2.2.2.2.1 a.2.2.2.2.2.2.2.2) fl a
theorem lt_L_lifts_35 {l : Launch} {L : Nat} {xs : Nat → Int32} {x0 : Nat} : ∀ (fl : Nat) (a : (sk_D × sk_X × Int32 × Nat × Int32 × Nat × Nat × Nat × Int32)) (res : Int32 × sk_D × sk_X), l_L_lifts_35 L xs x0 fl a = some res → (x0 ≤ a.2.1.1 ∧ a.2.1.1 ≤ x0 + 131) → sx_G l (sk_rm 8 131 8384) m_L_lifts sx_T (sx_Zm m_L_lifts (some (.inl res.1)) res.2.1 res.2.2) a.2.1 L xs (0 + (a.2.1.1 - x0)) (0 + 64 * (a.2.1.1 - x0)) 35 [some (.inr (.inr (some (0, 0)))), some (.inr (.inr (some (9999, 0)))), some (.inl a.2.2.1), some (.inr (.inr (some (9998, a.2.2.2.1)))), some (.inl a.2.2.2.2.1), some (.inr (.inr (some (9998, a.2.2.2.2.2.1)))), some (.inr (.inr (some (9998, a.2.2.2.2.2.2.1)))), some (.inr (.inr (some (9998, a.2.2.2.2.2.2.2.1)))), some (.inl a.2.2.2.2.2.2.2.2), none, none, none, none] [] a.1 :=
  sk_it_ind (P := fun (a : (sk_D × sk_X × Int32 × Nat × Int32 × Nat × Nat × Nat × Int32)) (res : Int32 × sk_D × sk_X) => (x0 ≤ a.2.1.1 ∧ a.2.1.1 ≤ x0 + 131) → sx_G l (sk_rm 8 131 8384) m_L_lifts sx_T (sx_Zm m_L_lifts (some (.inl res.1)) res.2.1 res.2.2) a.2.1 L xs (0 + (a.2.1.1 - x0)) (0 + 64 * (a.2.1.1 - x0)) 35 [some (.inr (.inr (some (0, 0)))), some (.inr (.inr (some (9999, 0)))), some (.inl a.2.2.1), some (.inr (.inr (some (9998, a.2.2.2.1)))), some (.inl a.2.2.2.2.1), some (.inr (.inr (some (9998, a.2.2.2.2.2.1)))), some (.inr (.inr (some (9998, a.2.2.2.2.2.2.1)))), some (.inr (.inr (some (9998, a.2.2.2.2.2.2.2.1)))), some (.inl a.2.2.2.2.2.2.2.2), none, none, none, none] [] a.1) (fun rec35 hrec35 a res hq hI => t_L_lifts_35 hrec35 hq hI)
def q_L_lifts_0 (L : Nat) (xs : Nat → Int32) (x0 : Nat) (d : sk_D) (x : sk_X) (v2 : Int32) (k3 : Nat) : Option (Int32 × sk_D × sk_X) :=
  (q_L_cell L xs (20 : Int32)).bind fun y1 => (q_L_low y1 (2 : Int32)).bind fun y2 => if x.1 < x0 + 131 then if (xn x 12).1 < x0 + 131 then if (xn (xn x 12) 32).1 < x0 + 131 then (l_L_lifts_35 L xs x0 sk_fu (d, (xn (xn (xn x 12) 32) 16), v2, k3, ((1 : Int32) + y2), x.1, (xn x 12).1, (xn (xn x 12) 32).1, (0 : Int32))) else none else none else none
set_option maxRecDepth 100000 in
set_option maxHeartbeats 4000000 in
theorem t_L_lifts_0 {l : Launch} {L : Nat} {xs : Nat → Int32} {x0 : Nat} {d : sk_D} {x : sk_X} {v2 : Int32} {k3 : Nat} {res : Int32 × sk_D × sk_X} (hq : q_L_lifts_0 L xs x0 d x v2 k3 = some res) (hI : (x0 ≤ x.1 ∧ x.1 ≤ x0 + 131)) :
    sx_G l (sk_rm 8 131 8384) m_L_lifts sx_T (sx_Zm m_L_lifts (some (.inl res.1)) res.2.1 res.2.2) x L xs (0 + (x.1 - x0)) (0 + 64 * (x.1 - x0)) 0 [some (.inr (.inr (some (0, 0)))), some (.inr (.inr (some (9999, 0)))), some (.inl v2), some (.inr (.inr (some (9998, k3)))), none, none, none, none, none, none, none, none, none] [] d := by
  unfold q_L_lifts_0 at hq
  refine sg_iconst (v := (1 : Int32)) 1 (sk_td o_L_lifts 0 rfl) rfl (by decide) ?_
  refine sg_aload_n 2 (sk_td o_L_lifts 1 rfl) rfl rfl ?_
  refine sg_bipush (v := (20 : Int32)) 4 (sk_td o_L_lifts 2 rfl) rfl (by decide) ?_
  obtain ⟨y1, hr_y1, hq⟩ := sk_bnd hq
  refine sx_callBi (as := [.inr (.inr (some (9999, 0))), .inl (20 : Int32)]) (st := [.inl (1 : Int32)]) 7 (s_L_cell hr_y1) (sk_td o_L_lifts 3 rfl) rfl ls_L_51 rfl (Nat.le_of_ble_eq_true rfl) hI rfl rfl hI.2 (Nat.le_of_ble_eq_true rfl) (Nat.le_of_ble_eq_true rfl) (Nat.le_of_ble_eq_true rfl) (Nat.le_of_ble_eq_true rfl) (fun hI => ?_)
  refine sg_iconst (v := (2 : Int32)) 8 (sk_td o_L_lifts 4 rfl) rfl (by decide) ?_
  obtain ⟨y2, hr_y2, hq⟩ := sk_bnd hq
  refine sx_callBi (as := [.inl y1, .inl (2 : Int32)]) (st := [.inl (1 : Int32)]) 11 (s_L_low hr_y2) (sk_td o_L_lifts 5 rfl) rfl ls_L_55 rfl (Nat.le_of_ble_eq_true rfl) hI rfl rfl hI.2 (Nat.le_of_ble_eq_true rfl) (Nat.le_of_ble_eq_true rfl) (Nat.le_of_ble_eq_true rfl) (Nat.le_of_ble_eq_true rfl) (fun hI => ?_)
  refine sg_iadd 12 (sk_td o_L_lifts 6 rfl) rfl ?_
  refine sg_istore 14 [some (.inr (.inr (some (0, 0)))), some (.inr (.inr (some (9999, 0)))), some (.inl v2), some (.inr (.inr (some (9998, k3)))), some (.inl ((1 : Int32) + y2)), none, none, none, none, none, none, none, none] (sk_td o_L_lifts 7 rfl) rfl rfl (Nat.le_of_ble_eq_true rfl) rfl ?_
  refine sg_bipush (v := (12 : Int32)) 16 (sk_td o_L_lifts 8 rfl) rfl (by decide) ?_
  obtain ⟨hn3, hq⟩ := sk_ifn hq
  refine sx_newB (N := 12) 18 (sk_td o_L_lifts 9 rfl) rfl (by decide) (by decide) (by decide) hI hn3 (Nat.le_of_ble_eq_true rfl) (Nat.le_of_ble_eq_true rfl) (fun hI => ?_)
  refine sg_astore 20 [some (.inr (.inr (some (0, 0)))), some (.inr (.inr (some (9999, 0)))), some (.inl v2), some (.inr (.inr (some (9998, k3)))), some (.inl ((1 : Int32) + y2)), some (.inr (.inr (some (9998, x.1)))), none, none, none, none, none, none, none] (sk_td o_L_lifts 10 rfl) rfl rfl (Nat.le_of_ble_eq_true rfl) rfl ?_
  refine sg_bipush (v := (32 : Int32)) 22 (sk_td o_L_lifts 11 rfl) rfl (by decide) ?_
  obtain ⟨hn4, hq⟩ := sk_ifn hq
  refine sx_newB (N := 32) 24 (sk_td o_L_lifts 12 rfl) rfl (by decide) (by decide) (by decide) hI hn4 (Nat.le_of_ble_eq_true rfl) (Nat.le_of_ble_eq_true rfl) (fun hI => ?_)
  refine sg_astore 26 [some (.inr (.inr (some (0, 0)))), some (.inr (.inr (some (9999, 0)))), some (.inl v2), some (.inr (.inr (some (9998, k3)))), some (.inl ((1 : Int32) + y2)), some (.inr (.inr (some (9998, x.1)))), some (.inr (.inr (some (9998, (xn x 12).1)))), none, none, none, none, none, none] (sk_td o_L_lifts 13 rfl) rfl rfl (Nat.le_of_ble_eq_true rfl) rfl ?_
  refine sg_bipush (v := (16 : Int32)) 28 (sk_td o_L_lifts 14 rfl) rfl (by decide) ?_
  obtain ⟨hn5, hq⟩ := sk_ifn hq
  refine sx_newB (N := 16) 30 (sk_td o_L_lifts 15 rfl) rfl (by decide) (by decide) (by decide) hI hn5 (Nat.le_of_ble_eq_true rfl) (Nat.le_of_ble_eq_true rfl) (fun hI => ?_)
  refine sg_astore 32 [some (.inr (.inr (some (0, 0)))), some (.inr (.inr (some (9999, 0)))), some (.inl v2), some (.inr (.inr (some (9998, k3)))), some (.inl ((1 : Int32) + y2)), some (.inr (.inr (some (9998, x.1)))), some (.inr (.inr (some (9998, (xn x 12).1)))), some (.inr (.inr (some (9998, (xn (xn x 12) 32).1)))), none, none, none, none, none] (sk_td o_L_lifts 16 rfl) rfl rfl (Nat.le_of_ble_eq_true rfl) rfl ?_
  refine sg_iconst (v := (0 : Int32)) 33 (sk_td o_L_lifts 17 rfl) rfl (by decide) ?_
  refine sg_istore 35 [some (.inr (.inr (some (0, 0)))), some (.inr (.inr (some (9999, 0)))), some (.inl v2), some (.inr (.inr (some (9998, k3)))), some (.inl ((1 : Int32) + y2)), some (.inr (.inr (some (9998, x.1)))), some (.inr (.inr (some (9998, (xn x 12).1)))), some (.inr (.inr (some (9998, (xn (xn x 12) 32).1)))), some (.inl (0 : Int32)), none, none, none, none] (sk_td o_L_lifts 18 rfl) rfl rfl (Nat.le_of_ble_eq_true rfl) rfl ?_
  exact lt_L_lifts_35 sk_fu (d, (xn (xn (xn x 12) 32) 16), v2, k3, ((1 : Int32) + y2), x.1, (xn x 12).1, (xn (xn x 12) 32).1, (0 : Int32)) _ hq hI
def q_L_lifts (L : Nat) (xs : Nat → Int32) (d : sk_D) (x : sk_X) (v2 : Int32) (k3 : Nat) : Option (Int32 × sk_D × sk_X) := q_L_lifts_0 L xs x.1 d x v2 k3 
theorem s_L_lifts {l : Launch} {L : Nat} {xs : Nat → Int32} {d : sk_D} {x : sk_X} {v2 : Int32} {k3 : Nat} {res : Int32 × sk_D × sk_X} (hq : q_L_lifts L xs d x v2 k3 = some res) : sx_M l 8 m_L_lifts [.inr (.inr (some (0, 0))), .inr (.inr (some (9999, 0))), .inl v2, .inr (.inr (some (9998, k3)))] d x (some (.inl res.1)) res.2.1 res.2.2 L xs :=
  sx_enter (by decide) (fun _ => Nat.le_of_ble_eq_true rfl) (Nat.le_of_ble_eq_true rfl) (sk_widen (Nat.zero_le _) (Nat.zero_le _) (t_L_lifts_0 hq ⟨Nat.le_refl _, Nat.le_add_right _ _⟩))
