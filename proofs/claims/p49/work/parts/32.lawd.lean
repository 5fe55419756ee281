/-! the law's methods, decompiled: law -/
def q_L_law_558 (rec522 : (sk_D × sk_X × Int32 × Int32 × Nat × Nat × Nat × Nat × Int32) → Option (Int32)) (rec531 : (sk_D × sk_X × Int32 × Int32 × Nat × Nat × Nat × Nat × Int32 × Int32) → Option (Int32)) (L : Nat) (xs : Nat → Int32) (x0 : Nat) (d : sk_D) (x : sk_X) (v2 : Int32) (v3 : Int32) (k6 : Nat) (k7 : Nat) (k8 : Nat) (k9 : Nat) (v11 : Int32) (v12 : Int32) (h0 : Nat) (s1 : Int32) (s2 : Int32) (s3 : Int32) : Option (Int32) :=
  if xb x h0 s1 = true then (rec531 (d, (xw x h0 s1.toNatClampNeg (s2 + s3)), v2, v3, k6, k7, k8, k9, v11, (v12 + (1 : Int32)))) else none
set_option maxRecDepth 100000 in
set_option maxHeartbeats 4000000 in
theorem t_L_law_558 {l : Launch} {nm : String} {rec522 : (sk_D × sk_X × Int32 × Int32 × Nat × Nat × Nat × Nat × Int32) → Option (Int32)} {rec531 : (sk_D × sk_X × Int32 × Int32 × Nat × Nat × Nat × Nat × Int32 × Int32) → Option (Int32)} {L : Nat} {xs : Nat → Int32} {x0 : Nat} {d : sk_D} {x : sk_X} {v2 : Int32} {v3 : Int32} {k6 : Nat} {k7 : Nat} {k8 : Nat} {k9 : Nat} {v11 : Int32} {v12 : Int32} {h0 : Nat} {s1 : Int32} {s2 : Int32} {s3 : Int32} (hrec522 : ∀ (a : (sk_D × sk_X × Int32 × Int32 × Nat × Nat × Nat × Nat × Int32)) (res : Int32), rec522 a = some res → (x0 ≤ a.2.1.1 ∧ a.2.1.1 ≤ x0 + 149) → res = 1 → sx_G l room_1 (m_L_law nm) sx_El sx_Zl a.2.1 L xs (121 + (a.2.1.1 - x0)) (5601 + 64 * (a.2.1.1 - x0)) 522 [some (.inr (.inr (some (9999, 0)))), some (.inr (.inr (some (0, 0)))), some (.inl a.2.2.1), some (.inl a.2.2.2.1), none, none, some (.inr (.inr (some (9998, a.2.2.2.2.1)))), some (.inr (.inr (some (9998, a.2.2.2.2.2.1)))), some (.inr (.inr (some (9998, a.2.2.2.2.2.2.1)))), some (.inr (.inr (some (9998, a.2.2.2.2.2.2.2.1)))), none, some (.inl a.2.2.2.2.2.2.2.2), none] [] a.1) (hrec531 : ∀ (a : (sk_D × sk_X × Int32 × Int32 × Nat × Nat × Nat × Nat × Int32 × Int32)) (res : Int32), rec531 a = some res → (x0 ≤ a.2.1.1 ∧ a.2.1.1 ≤ x0 + 149) → res = 1 → sx_G l room_1 (m_L_law nm) sx_El sx_Zl a.2.1 L xs (121 + (a.2.1.1 - x0)) (5601 + 64 * (a.2.1.1 - x0)) 531 [some (.inr (.inr (some (9999, 0)))), some (.inr (.inr (some (0, 0)))), some (.inl a.2.2.1), some (.inl a.2.2.2.1), none, none, some (.inr (.inr (some (9998, a.2.2.2.2.1)))), some (.inr (.inr (some (9998, a.2.2.2.2.2.1)))), some (.inr (.inr (some (9998, a.2.2.2.2.2.2.1)))), some (.inr (.inr (some (9998, a.2.2.2.2.2.2.2.1)))), none, some (.inl a.2.2.2.2.2.2.2.2.1), some (.inl a.2.2.2.2.2.2.2.2.2)] [] a.1) {res : Int32} (hq : q_L_law_558 rec522 rec531 L xs x0 d x v2 v3 k6 k7 k8 k9 v11 v12 h0 s1 s2 s3 = some res) (hI : (x0 ≤ x.1 ∧ x.1 ≤ x0 + 149)) (hone : res = 1) :
    sx_G l room_1 (m_L_law nm) sx_El sx_Zl x L xs (121 + (x.1 - x0)) (5601 + 64 * (x.1 - x0)) 558 [some (.inr (.inr (some (9999, 0)))), some (.inr (.inr (some (0, 0)))), some (.inl v2), some (.inl v3), none, none, some (.inr (.inr (some (9998, k6)))), some (.inr (.inr (some (9998, k7)))), some (.inr (.inr (some (9998, k8)))), some (.inr (.inr (some (9998, k9)))), none, some (.inl v11), some (.inl v12)] [.inl s3, .inl s2, .inl s1, .inr (.inr (some (9998, h0)))] d := by
  unfold q_L_law_558 at hq
  refine sg_iadd 559 (sk_td o_L_law 338 rfl) rfl ?_
  obtain ⟨hb1, hq⟩ := sk_ifn hq
  refine sx_st 560 (sk_td o_L_law 339 rfl) rfl hb1 ?_
  refine sg_iinc (v12 + (1 : Int32)) 563 [some (.inr (.inr (some (9999, 0)))), some (.inr (.inr (some (0, 0)))), some (.inl v2), some (.inl v3), none, none, some (.inr (.inr (some (9998, k6)))), some (.inr (.inr (some (9998, k7)))), some (.inr (.inr (some (9998, k8)))), some (.inr (.inr (some (9998, k9)))), none, some (.inl v11), some (.inl (v12 + (1 : Int32)))] (sk_td o_L_law 340 rfl) rfl rfl rfl rfl (Nat.le_of_ble_eq_true rfl) rfl ?_
  refine sg_goto 531 (sk_td o_L_law 341 rfl) (by decide) ?_
  exact hrec531 (d, (xw x h0 s1.toNatClampNeg (s2 + s3)), v2, v3, k6, k7, k8, k9, v11, (v12 + (1 : Int32))) _ hq hI hone
def q_L_law_531 (rec522 : (sk_D × sk_X × Int32 × Int32 × Nat × Nat × Nat × Nat × Int32) → Option (Int32)) (rec531 : (sk_D × sk_X × Int32 × Int32 × Nat × Nat × Nat × Nat × Int32 × Int32) → Option (Int32)) (L : Nat) (xs : Nat → Int32) (x0 : Nat) (d : sk_D) (x : sk_X) (v2 : Int32) (v3 : Int32) (k6 : Nat) (k7 : Nat) (k8 : Nat) (k9 : Nat) (v11 : Int32) (v12 : Int32) : Option (Int32) :=
  if v2 ≤ v12 then (q_X8_size d v11).bind fun y1 => if xb x k8 v11 = true then if y1 = (x.2.2 k8 v11.toNatClampNeg) then (rec522 (d, x, v2, v3, k6, k7, k8, k9, (v11 + (1 : Int32)))) else some (0 : Int32) else none else if xb x k8 v11 = true then if xb x k7 v12 = true then if (x.2.2 k7 v12.toNatClampNeg) = v11 then (q_L_law_558 rec522 rec531 L xs x0 d x v2 v3 k6 k7 k8 k9 v11 v12 k8 v11 (x.2.2 k8 v11.toNatClampNeg) (1 : Int32)) else (q_L_law_558 rec522 rec531 L xs x0 d x v2 v3 k6 k7 k8 k9 v11 v12 k8 v11 (x.2.2 k8 v11.toNatClampNeg) (0 : Int32)) else none else none
set_option maxRecDepth 100000 in
set_option maxHeartbeats 4000000 in
theorem t_L_law_531 {l : Launch} {nm : String} {rec522 : (sk_D × sk_X × Int32 × Int32 × Nat × Nat × Nat × Nat × Int32) → Option (Int32)} {rec531 : (sk_D × sk_X × Int32 × Int32 × Nat × Nat × Nat × Nat × Int32 × Int32) → Option (Int32)} {L : Nat} {xs : Nat → Int32} {x0 : Nat} {d : sk_D} {x : sk_X} {v2 : Int32} {v3 : Int32} {k6 : Nat} {k7 : Nat} {k8 : Nat} {k9 : Nat} {v11 : Int32} {v12 : Int32} (hrec522 : ∀ (a : (sk_D × sk_X × Int32 × Int32 × Nat × Nat × Nat × Nat × Int32)) (res : Int32), rec522 a = some res → (x0 ≤ a.2.1.1 ∧ a.2.1.1 ≤ x0 + 149) → res = 1 → sx_G l room_1 (m_L_law nm) sx_El sx_Zl a.2.1 L xs (121 + (a.2.1.1 - x0)) (5601 + 64 * (a.2.1.1 - x0)) 522 [some (.inr (.inr (some (9999, 0)))), some (.inr (.inr (some (0, 0)))), some (.inl a.2.2.1), some (.inl a.2.2.2.1), none, none, some (.inr (.inr (some (9998, a.2.2.2.2.1)))), some (.inr (.inr (some (9998, a.2.2.2.2.2.1)))), some (.inr (.inr (some (9998, a.2.2.2.2.2.2.1)))), some (.inr (.inr (some (9998, a.2.2.2.2.2.2.2.1)))), none, some (.inl a.2.2.2.2.2.2.2.2), none] [] a.1) (hrec531 : ∀ (a : (sk_D × sk_X × Int32 × Int32 × Nat × Nat × Nat × Nat × Int32 × Int32)) (res : Int32), rec531 a = some res → (x0 ≤ a.2.1.1 ∧ a.2.1.1 ≤ x0 + 149) → res = 1 → sx_G l room_1 (m_L_law nm) sx_El sx_Zl a.2.1 L xs (121 + (a.2.1.1 - x0)) (5601 + 64 * (a.2.1.1 - x0)) 531 [some (.inr (.inr (some (9999, 0)))), some (.inr (.inr (some (0, 0)))), some (.inl a.2.2.1), some (.inl a.2.2.2.1), none, none, some (.inr (.inr (some (9998, a.2.2.2.2.1)))), some (.inr (.inr (some (9998, a.2.2.2.2.2.1)))), some (.inr (.inr (some (9998, a.2.2.2.2.2.2.1)))), some (.inr (.inr (some (9998, a.2.2.2.2.2.2.2.1)))), none, some (.inl a.2.2.2.2.2.2.2.2.1), some (.inl a.2.2.2.2.2.2.2.2.2)] [] a.1) {res : Int32} (hq : q_L_law_531 rec522 rec531 L xs x0 d x v2 v3 k6 k7 k8 k9 v11 v12 = some res) (hI : (x0 ≤ x.1 ∧ x.1 ≤ x0 + 149)) (hone : res = 1) :
    sx_G l room_1 (m_L_law nm) sx_El sx_Zl x L xs (121 + (x.1 - x0)) (5601 + 64 * (x.1 - x0)) 531 [some (.inr (.inr (some (9999, 0)))), some (.inr (.inr (some (0, 0)))), some (.inl v2), some (.inl v3), none, none, some (.inr (.inr (some (9998, k6)))), some (.inr (.inr (some (9998, k7)))), some (.inr (.inr (some (9998, k8)))), some (.inr (.inr (some (9998, k9)))), none, some (.inl v11), some (.inl v12)] [] d := by
  unfold q_L_law_531 at hq
  refine sg_iload 533 (sk_td o_L_law 323 rfl) rfl rfl ?_
  refine sg_iload_n 534 (sk_td o_L_law 324 rfl) rfl rfl ?_
  refine sg_ic_ge 566 537 (sk_td o_L_law 325 rfl) (by decide) rfl (fun hc => ?_) (fun hc => ?_)
  · rw [if_pos hc] at hq
    refine sg_aload_n 567 (sk_td o_L_law 342 rfl) rfl rfl ?_
    refine sg_iload 569 (sk_td o_L_law 343 rfl) rfl rfl ?_
    obtain ⟨y1, hr_y1, hq⟩ := sk_bnd hq
    refine sm_callL1i 572 (s_X8_size hr_y1) (sk_td o_L_law 344 rfl) rfl lv_L_120 rfl rfl rfl sz_0 (sx_rk hI (Nat.le_of_ble_eq_true rfl) (Nat.le_of_ble_eq_true rfl) (Nat.le_of_ble_eq_true rfl) (Nat.le_of_ble_eq_true rfl) rfl) (Nat.le_of_ble_eq_true rfl) ?_
    refine sg_aload 574 (sk_td o_L_law 345 rfl) rfl rfl ?_
    refine sg_iload 576 (sk_td o_L_law 346 rfl) rfl rfl ?_
    obtain ⟨hb2, hq⟩ := sk_ifn hq
    refine sx_ld 577 (sk_td o_L_law 347 rfl) rfl hb2 ?_
    refine sg_ic_eq 582 580 (sk_td o_L_law 348 rfl) (by decide) rfl (fun hc => ?_) (fun hc => ?_)
    · rw [if_pos hc] at hq
      refine sg_iinc (v11 + (1 : Int32)) 585 [some (.inr (.inr (some (9999, 0)))), some (.inr (.inr (some (0, 0)))), some (.inl v2), some (.inl v3), none, none, some (.inr (.inr (some (9998, k6)))), some (.inr (.inr (some (9998, k7)))), some (.inr (.inr (some (9998, k8)))), some (.inr (.inr (some (9998, k9)))), none, some (.inl (v11 + (1 : Int32))), some (.inl v12)] (sk_td o_L_law 351 rfl) rfl rfl rfl rfl (Nat.le_of_ble_eq_true rfl) rfl ?_
      refine sg_goto 522 (sk_td o_L_law 352 rfl) (by decide) ?_
      refine sx_wk [true, true, true, true, true, true, true, true, true, true, true, true, false] (ls' := [some (.inr (.inr (some (9999, 0)))), some (.inr (.inr (some (0, 0)))), some (.inl v2), some (.inl v3), none, none, some (.inr (.inr (some (9998, k6)))), some (.inr (.inr (some (9998, k7)))), some (.inr (.inr (some (9998, k8)))), some (.inr (.inr (some (9998, k9)))), none, some (.inl (v11 + (1 : Int32))), none]) rfl ?_
      exact hrec522 (d, x, v2, v3, k6, k7, k8, k9, (v11 + (1 : Int32))) _ hq hI hone
    · rw [if_neg hc] at hq
      refine sg_iconst (v := (0 : Int32)) 581 (sk_td o_L_law 349 rfl) rfl (by decide) ?_
      obtain rfl := Option.some.inj hq
      exact law_end hI hone (sk_td o_L_law 350 rfl)
  · rw [if_neg hc] at hq
    refine sg_aload 539 (sk_td o_L_law 326 rfl) rfl rfl ?_
    refine sg_iload 541 (sk_td o_L_law 327 rfl) rfl rfl ?_
    refine sg_dup2 542 (sk_td o_L_law 328 rfl) rfl ?_
    obtain ⟨hb3, hq⟩ := sk_ifn hq
    refine sx_ld 543 (sk_td o_L_law 329 rfl) rfl hb3 ?_
    refine sg_aload 545 (sk_td o_L_law 330 rfl) rfl rfl ?_
    refine sg_iload 547 (sk_td o_L_law 331 rfl) rfl rfl ?_
    obtain ⟨hb4, hq⟩ := sk_ifn hq
    refine sx_ld 548 (sk_td o_L_law 332 rfl) rfl hb4 ?_
    refine sg_iload 550 (sk_td o_L_law 333 rfl) rfl rfl ?_
    refine sg_ic_ne 557 553 (sk_td o_L_law 334 rfl) (by decide) rfl (fun hc => ?_) (fun hc => ?_)
    · rw [if_neg hc] at hq
      refine sg_iconst (v := (0 : Int32)) 558 (sk_td o_L_law 337 rfl) rfl (by decide) ?_
      exact t_L_law_558 hrec522 hrec531 hq hI hone
    · rw [if_pos hc] at hq
      refine sg_iconst (v := (1 : Int32)) 554 (sk_td o_L_law 335 rfl) rfl (by decide) ?_
      refine sg_goto 558 (sk_td o_L_law 336 rfl) (by decide) ?_
      exact t_L_law_558 hrec522 hrec531 hq hI hone
def l_L_law_531 (rec522 : (sk_D × sk_X × Int32 × Int32 × Nat × Nat × Nat × Nat × Int32) → Option (Int32)) (L : Nat) (xs : Nat → Int32) (x0 : Nat) (fl : Nat) (a : (sk_D × sk_X × Int32 × Int32 × Nat × Nat × Nat × Nat × Int32 × Int32)) : Option (Int32) := sk_it (fun rec531 a => q_L_law_531 rec522 rec531 L xs x0 a.1 a.2.1 a.2.2.1 a.2.2.2.1 a.2.2.2.2.1 a.2.2.2.2.2.1 a.2.2.2.2.2.2.1 a.2.2.2.2.2.2.2.1 a.2.2.2.2.2.2.2.2.1 a.2.2.2.2.2.2.2.2.2) fl a
theorem lt_L_law_531 {l : Launch} {nm : String} {L : Nat} {xs : Nat → Int32} {x0 : Nat} {rec522 : (sk_D × sk_X × Int32 × Int32 × Nat × Nat × Nat × Nat × Int32) → Option (Int32)} (hrec522 : ∀ (a : (sk_D × sk_X × Int32 × Int32 × Nat × Nat × Nat × Nat × Int32)) (res : Int32), rec522 a = some res → (x0 ≤ a.2.1.1 ∧ a.2.1.1 ≤ x0 + 149) → res = 1 → sx_G l room_1 (m_L_law nm) sx_El sx_Zl a.2.1 L xs (121 + (a.2.1.1 - x0)) (5601 + 64 * (a.2.1.1 - x0)) 522 [some (.inr (.inr (some (9999, 0)))), some (.inr (.inr (some (0, 0)))), some (.inl a.2.2.1), some (.inl a.2.2.2.1), none, none, some (.inr (.inr (some (9998, a.2.2.2.2.1)))), some (.inr (.inr (some (9998, a.2.2.2.2.2.1)))), some (.inr (.inr (some (9998, a.2.2.2.2.2.2.1)))), some (.inr (.inr (some (9998, a.2.2.2.2.2.2.2.1)))), none, some (.inl a.2.2.2.2.2.2.2.2), none] [] a.1) : ∀ (fl : Nat) (a : (sk_D × sk_X × Int32 × Int32 × Nat × Nat × Nat × Nat × Int32 × Int32)) (res : Int32), l_L_law_531 rec522 L xs x0 fl a = some res → (x0 ≤ a.2.1.1 ∧ a.2.1.1 ≤ x0 + 149) → res = 1 → sx_G l room_1 (m_L_law nm) sx_El sx_Zl a.2.1 L xs (121 + (a.2.1.1 - x0)) (5601 + 64 * (a.2.1.1 - x0)) 531 [some (.inr (.inr (some (9999, 0)))), some (.inr (.inr (some (0, 0)))), some (.inl a.2.2.1), some (.inl a.2.2.2.1), none, none, some (.inr (.inr (some (9998, a.2.2.2.2.1)))), some (.inr (.inr (some (9998, a.2.2.2.2.2.1)))), some (.inr (.inr (some (9998, a.2.2.2.2.2.2.1)))), some (.inr (.inr (some (9998, a.2.2.2.2.2.2.2.1)))), none, some (.inl a.2.2.2.2.2.2.2.2.1), some (.inl a.2.2.2.2.2.2.2.2.2)] [] a.1 :=
  sk_it_ind (P := fun (a : (sk_D × sk_X × Int32 × Int32 × Nat × Nat × Nat × Nat × Int32 × Int32)) (res : Int32) => (x0 ≤ a.2.1.1 ∧ a.2.1.1 ≤ x0 + 149) → res = 1 → sx_G l room_1 (m_L_law nm) sx_El sx_Zl a.2.1 L xs (121 + (a.2.1.1 - x0)) (5601 + 64 * (a.2.1.1 - x0)) 531 [some (.inr (.inr (some (9999, 0)))), some (.inr (.inr (some (0, 0)))), some (.inl a.2.2.1), some (.inl a.2.2.2.1), none, none, some (.inr (.inr (some (9998, a.2.2.2.2.1)))), some (.inr (.inr (some (9998, a.2.2.2.2.2.1)))), some (.inr (.inr (some (9998, a.2.2.2.2.2.2.1)))), some (.inr (.inr (some (9998, a.2.2.2.2.2.2.2.1)))), none, some (.inl a.2.2.2.2.2.2.2.2.1), some (.inl a.2.2.2.2.2.2.2.2.2)] [] a.1) (fun rec531 hrec531 a res hq hI hone => t_L_law_531 hrec522 hrec531 hq hI hone)
def q_L_law_522 (rec522 : (sk_D × sk_X × Int32 × Int32 × Nat × Nat × Nat × Nat × Int32) → Option (Int32)) (L : Nat) (xs : Nat → Int32) (x0 : Nat) (d : sk_D) (x : sk_X) (v2 : Int32) (v3 : Int32) (k6 : Nat) (k7 : Nat) (k8 : Nat) (k9 : Nat) (v11 : Int32) : Option (Int32) :=
  if v3 ≤ v11 then (q_L_staffed L xs d x v3 k6 k8 k9).bind fun y1 => if y1.2.2.1 = x.1 + 3 then if y1.2.2.1 ≤ x0 + 149 then if y1.1 = 0 then some (0 : Int32) else (q_L_lifts L xs y1.2.1 y1.2.2 v3 k9).bind fun y4 => if y1.2.2.1 + 131 ≤ x0 + 149 then if y4.1 = 0 then some (0 : Int32) else some (1 : Int32) else none else none else none else (l_L_law_531 rec522 L xs x0 sk_fu (d, x, v2, v3, k6, k7, k8, k9, v11, (0 : Int32)))
set_option maxRecDepth 100000 in
set_option maxHeartbeats 4000000 in
theorem t_L_law_522 {l : Launch} {nm : String} {rec522 : (sk_D × sk_X × Int32 × Int32 × Nat × Nat × Nat × Nat × Int32) → Option (Int32)} {L : Nat} {xs : Nat → Int32} {x0 : Nat} {d : sk_D} {x : sk_X} {v2 : Int32} {v3 : Int32} {k6 : Nat} {k7 : Nat} {k8 : Nat} {k9 : Nat} {v11 : Int32} (hrec522 : ∀ (a : (sk_D × sk_X × Int32 × Int32 × Nat × Nat × Nat × Nat × Int32)) (res : Int32), rec522 a = some res → (x0 ≤ a.2.1.1 ∧ a.2.1.1 ≤ x0 + 149) → res = 1 → sx_G l room_1 (m_L_law nm) sx_El sx_Zl a.2.1 L xs (121 + (a.2.1.1 - x0)) (5601 + 64 * (a.2.1.1 - x0)) 522 [some (.inr (.inr (some (9999, 0)))), some (.inr (.inr (some (0, 0)))), some (.inl a.2.2.1), some (.inl a.2.2.2.1), none, none, some (.inr (.inr (some (9998, a.2.2.2.2.1)))), some (.inr (.inr (some (9998, a.2.2.2.2.2.1)))), some (.inr (.inr (some (9998, a.2.2.2.2.2.2.1)))), some (.inr (.inr (some (9998, a.2.2.2.2.2.2.2.1)))), none, some (.inl a.2.2.2.2.2.2.2.2), none] [] a.1) {res : Int32} (hq : q_L_law_522 rec522 L xs x0 d x v2 v3 k6 k7 k8 k9 v11 = some res) (hI : (x0 ≤ x.1 ∧ x.1 ≤ x0 + 149)) (hone : res = 1) :
    sx_G l room_1 (m_L_law nm) sx_El sx_Zl x L xs (121 + (x.1 - x0)) (5601 + 64 * (x.1 - x0)) 522 [some (.inr (.inr (some (9999, 0)))), some (.inr (.inr (some (0, 0)))), some (.inl v2), some (.inl v3), none, none, some (.inr (.inr (some (9998, k6)))), some (.inr (.inr (some (9998, k7)))), some (.inr (.inr (some (9998, k8)))), some (.inr (.inr (some (9998, k9)))), none, some (.inl v11), none] [] d := by
  unfold q_L_law_522 at hq
  refine sg_iload 524 (sk_td o_L_law 318 rfl) rfl rfl ?_
  refine sg_iload_n 525 (sk_td o_L_law 319 rfl) rfl rfl ?_
  refine sg_ic_ge 588 528 (sk_td o_L_law 320 rfl) (by decide) rfl (fun hc => ?_) (fun hc => ?_)
  · rw [if_pos hc] at hq
    refine sg_aload_n 589 (sk_td o_L_law 353 rfl) rfl rfl ?_
    refine sg_aload_n 590 (sk_td o_L_law 354 rfl) rfl rfl ?_
    refine sg_iload_n 591 (sk_td o_L_law 355 rfl) rfl rfl ?_
    refine sg_aload 593 (sk_td o_L_law 356 rfl) rfl rfl ?_
    refine sg_aload 595 (sk_td o_L_law 357 rfl) rfl rfl ?_
    refine sg_aload 597 (sk_td o_L_law 358 rfl) rfl rfl ?_
    obtain ⟨y1, hr_y1, hq⟩ := sk_bnd hq
    obtain ⟨hx2, hq⟩ := sk_ifn hq
    obtain ⟨hl3, hq⟩ := sk_ifn hq
    refine sx_callBi (as := [.inr (.inr (some (0, 0))), .inr (.inr (some (9999, 0))), .inl v3, .inr (.inr (some (9998, k6))), .inr (.inr (some (9998, k8))), .inr (.inr (some (9998, k9)))]) (st := []) 600 (s_L_staffed hr_y1) (sk_td o_L_law 359 rfl) rfl ls_L_123 rfl (Nat.le_of_ble_eq_true rfl) hI rfl hx2 hl3 (Nat.le_of_ble_eq_true rfl) (Nat.le_of_ble_eq_true rfl) (Nat.le_of_ble_eq_true rfl) (Nat.le_of_ble_eq_true rfl) (fun hI => ?_)
    refine sg_if_eq 618 603 (sk_td o_L_law 360 rfl) (by decide) rfl (fun hc => ?_) (fun hc => ?_)
    · rw [if_pos hc] at hq
      refine sg_iconst (v := (0 : Int32)) 619 (sk_td o_L_law 369 rfl) rfl (by decide) ?_
      obtain rfl := Option.some.inj hq
      exact law_end hI hone (sk_td o_L_law 370 rfl)
    · rw [if_neg hc] at hq
      refine sg_aload_n 604 (sk_td o_L_law 361 rfl) rfl rfl ?_
      refine sg_aload_n 605 (sk_td o_L_law 362 rfl) rfl rfl ?_
      refine sg_iload_n 606 (sk_td o_L_law 363 rfl) rfl rfl ?_
      refine sg_aload 608 (sk_td o_L_law 364 rfl) rfl rfl ?_
      obtain ⟨y4, hr_y4, hq⟩ := sk_bnd hq
      obtain ⟨hl6, hq⟩ := sk_ifn hq
      refine sx_callCi (as := [.inr (.inr (some (0, 0))), .inr (.inr (some (9999, 0))), .inl v3, .inr (.inr (some (9998, k9)))]) (st := []) 611 (s_L_lifts hr_y4) (sk_td o_L_law 365 rfl) rfl ls_L_127 rfl (Nat.le_of_ble_eq_true rfl) hI rfl hl6 (Nat.le_of_ble_eq_true rfl) (Nat.le_of_ble_eq_true rfl) (Nat.le_of_ble_eq_true rfl) (Nat.le_of_ble_eq_true rfl) (fun hI => ?_)
      refine sg_if_eq 618 614 (sk_td o_L_law 366 rfl) (by decide) rfl (fun hc => ?_) (fun hc => ?_)
      · rw [if_pos hc] at hq
        refine sg_iconst (v := (0 : Int32)) 619 (sk_td o_L_law 369 rfl) rfl (by decide) ?_
        obtain rfl := Option.some.inj hq
        exact law_end2 hI hone (sk_td o_L_law 370 rfl)
      · rw [if_neg hc] at hq
        refine sg_iconst (v := (1 : Int32)) 615 (sk_td o_L_law 367 rfl) rfl (by decide) ?_
        refine sg_goto 619 (sk_td o_L_law 368 rfl) (by decide) ?_
        obtain rfl := Option.some.inj hq
        exact law_end2 hI hone (sk_td o_L_law 370 rfl)
  · rw [if_neg hc] at hq
    refine sg_iconst (v := (0 : Int32)) 529 (sk_td o_L_law 321 rfl) rfl (by decide) ?_
    refine sg_istore 531 [some (.inr (.inr (some (9999, 0)))), some (.inr (.inr (some (0, 0)))), some (.inl v2), some (.inl v3), none, none, some (.inr (.inr (some (9998, k6)))), some (.inr (.inr (some (9998, k7)))), some (.inr (.inr (some (9998, k8)))), some (.inr (.inr (some (9998, k9)))), none, some (.inl v11), some (.inl (0 : Int32))] (sk_td o_L_law 322 rfl) rfl rfl (Nat.le_of_ble_eq_true rfl) rfl ?_
    exact lt_L_law_531 hrec522 sk_fu (d, x, v2, v3, k6, k7, k8, k9, v11, (0 : Int32)) _ hq hI hone
def l_L_law_522 (L : Nat) (xs : Nat → Int32) (x0 : Nat) (fl : Nat) (a : (sk_D × sk_X × Int32 × Int32 × Nat × Nat × Nat × Nat × Int32)) : Option (Int32) := sk_it (fun rec522 a => q_L_law_522 rec522 L xs x0 a.1 a.2.1 a.2.2.1 a.2.2.2.1 a.2.2.2.2.1 a.2.2.2.2.2.1 a.2.2.2.2.2.2.1 a.2.2.2.2.2.2.2.1 a.2.2.2.2.2.2.2.2) fl a
theorem lt_L_law_522 {l : Launch} {nm : String} {L : Nat} {xs : Nat → Int32} {x0 : Nat} : ∀ (fl : Nat) (a : (sk_D × sk_X × Int32 × Int32 × Nat × Nat × Nat × Nat × Int32)) (res : Int32), l_L_law_522 L xs x0 fl a = some res → (x0 ≤ a.2.1.1 ∧ a.2.1.1 ≤ x0 + 149) → res = 1 → sx_G l room_1 (m_L_law nm) sx_El sx_Zl a.2.1 L xs (121 + (a.2.1.1 - x0)) (5601 + 64 * (a.2.1.1 - x0)) 522 [some (.inr (.inr (some (9999, 0)))), some (.inr (.inr (some (0, 0)))), some (.inl a.2.2.1), some (.inl a.2.2.2.1), none, none, some (.inr (.inr (some (9998, a.2.2.2.2.1)))), some (.inr (.inr (some (9998, a.2.2.2.2.2.1)))), some (.inr (.inr (some (9998, a.2.2.2.2.2.2.1)))), some (.inr (.inr (some (9998, a.2.2.2.2.2.2.2.1)))), none, some (.inl a.2.2.2.2.2.2.2.2), none] [] a.1 :=
  sk_it_ind (P := fun (a : (sk_D × sk_X × Int32 × Int32 × Nat × Nat × Nat × Nat × Int32)) (res : Int32) => (x0 ≤ a.2.1.1 ∧ a.2.1.1 ≤ x0 + 149) → res = 1 → sx_G l room_1 (m_L_law nm) sx_El sx_Zl a.2.1 L xs (121 + (a.2.1.1 - x0)) (5601 + 64 * (a.2.1.1 - x0)) 522 [some (.inr (.inr (some (9999, 0)))), some (.inr (.inr (some (0, 0)))), some (.inl a.2.2.1), some (.inl a.2.2.2.1), none, none, some (.inr (.inr (some (9998, a.2.2.2.2.1)))), some (.inr (.inr (some (9998, a.2.2.2.2.2.1)))), some (.inr (.inr (some (9998, a.2.2.2.2.2.2.1)))), some (.inr (.inr (some (9998, a.2.2.2.2.2.2.2.1)))), none, some (.inl a.2.2.2.2.2.2.2.2), none] [] a.1) (fun rec522 hrec522 a res hq hI hone => t_L_law_522 hrec522 hq hI hone)
def q_L_law_447 (rec447 : (sk_D × sk_X × Int32 × Int32 × Int32 × Nat × Nat × Nat × Nat × Nat × Int32 × Int32) → Option (Int32)) (L : Nat) (xs : Nat → Int32) (x0 : Nat) (d : sk_D) (x : sk_X) (v2 : Int32) (v3 : Int32) (v4 : Int32) (k5 : Nat) (k6 : Nat) (k7 : Nat) (k8 : Nat) (k9 : Nat) (v10 : Int32) (v11 : Int32) : Option (Int32) :=
  if (2 : Int32) ≤ v11 then (q_X8_placed d).bind fun y1 => if y1 = 0 then (q_L_planned d x v2 v3 v4 k5 k6 k7).bind fun y2 => if y2.2.2.1 = x.1 + 2 then if y2.2.2.1 ≤ x0 + 149 then if y2.1 = 0 then some (0 : Int32) else (l_L_law_522 L xs x0 sk_fu (y2.2.1, y2.2.2, v2, v3, k6, k7, k8, k9, (0 : Int32))) else none else none else some (0 : Int32) else (q_X8_splitGain d v11).bind fun y5 => (q_L_bestPlan x v2 v3 (v4 &&& (((1 : Int32) <<< (v11 &&& 31)) ^^^ (-1 : Int32))) k5 k6 k7).bind fun y6 => if y6.2.1 = x.1 + 2 then if y6.2.1 ≤ x0 + 149 then if y5.1 = (y6.1 - v10) then (rec447 (y5.2, y6.2, v2, v3, v4, k5, k6, k7, k8, k9, v10, (v11 + (1 : Int32)))) else some (0 : Int32) else none else none
set_option maxRecDepth 100000 in
set_option maxHeartbeats 4000000 in
theorem t_L_law_447 {l : Launch} {nm : String} {rec447 : (sk_D × sk_X × Int32 × Int32 × Int32 × Nat × Nat × Nat × Nat × Nat × Int32 × Int32) → Option (Int32)} {L : Nat} {xs : Nat → Int32} {x0 : Nat} {d : sk_D} {x : sk_X} {v2 : Int32} {v3 : Int32} {v4 : Int32} {k5 : Nat} {k6 : Nat} {k7 : Nat} {k8 : Nat} {k9 : Nat} {v10 : Int32} {v11 : Int32} (hrec447 : ∀ (a : (sk_D × sk_X × Int32 × Int32 × Int32 × Nat × Nat × Nat × Nat × Nat × Int32 × Int32)) (res : Int32), rec447 a = some res → (x0 ≤ a.2.1.1 ∧ a.2.1.1 ≤ x0 + 149) → res = 1 → sx_G l room_1 (m_L_law nm) sx_El sx_Zl a.2.1 L xs (121 + (a.2.1.1 - x0)) (5601 + 64 * (a.2.1.1 - x0)) 447 [some (.inr (.inr (some (9999, 0)))), some (.inr (.inr (some (0, 0)))), some (.inl a.2.2.1), some (.inl a.2.2.2.1), some (.inl a.2.2.2.2.1), some (.inr (.inr (some (9998, a.2.2.2.2.2.1)))), some (.inr (.inr (some (9998, a.2.2.2.2.2.2.1)))), some (.inr (.inr (some (9998, a.2.2.2.2.2.2.2.1)))), some (.inr (.inr (some (9998, a.2.2.2.2.2.2.2.2.1)))), some (.inr (.inr (some (9998, a.2.2.2.2.2.2.2.2.2.1)))), some (.inl a.2.2.2.2.2.2.2.2.2.2.1), some (.inl a.2.2.2.2.2.2.2.2.2.2.2), none] [] a.1) {res : Int32} (hq : q_L_law_447 rec447 L xs x0 d x v2 v3 v4 k5 k6 k7 k8 k9 v10 v11 = some res) (hI : (x0 ≤ x.1 ∧ x.1 ≤ x0 + 149)) (hone : res = 1) :
    sx_G l room_1 (m_L_law nm) sx_El sx_Zl x L xs (121 + (x.1 - x0)) (5601 + 64 * (x.1 - x0)) 447 [some (.inr (.inr (some (9999, 0)))), some (.inr (.inr (some (0, 0)))), some (.inl v2), some (.inl v3), some (.inl v4), some (.inr (.inr (some (9998, k5)))), some (.inr (.inr (some (9998, k6)))), some (.inr (.inr (some (9998, k7)))), some (.inr (.inr (some (9998, k8)))), some (.inr (.inr (some (9998, k9)))), some (.inl v10), some (.inl v11), none] [] d := by
  unfold q_L_law_447 at hq
  refine sg_iload 449 (sk_td o_L_law 276 rfl) rfl rfl ?_
  refine sg_iconst (v := (2 : Int32)) 450 (sk_td o_L_law 277 rfl) rfl (by decide) ?_
  refine sg_ic_ge 493 453 (sk_td o_L_law 278 rfl) (by decide) rfl (fun hc => ?_) (fun hc => ?_)
  · rw [if_pos hc] at hq
    refine sg_aload_n 494 (sk_td o_L_law 302 rfl) rfl rfl ?_
    obtain ⟨y1, hr_y1, hq⟩ := sk_bnd hq
    refine sm_callL0i 497 (s_X8_placed hr_y1) (sk_td o_L_law 303 rfl) rfl lv_L_26 rfl rfl rfl sz_0 (sx_rk hI (Nat.le_of_ble_eq_true rfl) (Nat.le_of_ble_eq_true rfl) (Nat.le_of_ble_eq_true rfl) (Nat.le_of_ble_eq_true rfl) rfl) (Nat.le_of_ble_eq_true rfl) ?_
    refine sg_if_ne 517 500 (sk_td o_L_law 304 rfl) (by decide) rfl (fun hc => ?_) (fun hc => ?_)
    · rw [if_neg hc] at hq
      refine sg_iconst (v := (0 : Int32)) 518 (sk_td o_L_law 314 rfl) rfl (by decide) ?_
      obtain rfl := Option.some.inj hq
      exact law_end hI hone (sk_td o_L_law 315 rfl)
    · rw [if_pos hc] at hq
      refine sg_aload_n 501 (sk_td o_L_law 305 rfl) rfl rfl ?_
      refine sg_iload_n 502 (sk_td o_L_law 306 rfl) rfl rfl ?_
      refine sg_iload_n 503 (sk_td o_L_law 307 rfl) rfl rfl ?_
      refine sg_iload 505 (sk_td o_L_law 308 rfl) rfl rfl ?_
      refine sg_aload 507 (sk_td o_L_law 309 rfl) rfl rfl ?_
      refine sg_aload 509 (sk_td o_L_law 310 rfl) rfl rfl ?_
      refine sg_aload 511 (sk_td o_L_law 311 rfl) rfl rfl ?_
      obtain ⟨y2, hr_y2, hq⟩ := sk_bnd hq
      obtain ⟨hx3, hq⟩ := sk_ifn hq
      obtain ⟨hl4, hq⟩ := sk_ifn hq
      refine sx_callBi (as := [.inr (.inr (some (0, 0))), .inl v2, .inl v3, .inl v4, .inr (.inr (some (9998, k5))), .inr (.inr (some (9998, k6))), .inr (.inr (some (9998, k7)))]) (st := []) 514 (s_L_planned hr_y2) (sk_td o_L_law 312 rfl) rfl ls_L_116 rfl (Nat.le_of_ble_eq_true rfl) hI rfl hx3 hl4 (Nat.le_of_ble_eq_true rfl) (Nat.le_of_ble_eq_true rfl) (Nat.le_of_ble_eq_true rfl) (Nat.le_of_ble_eq_true rfl) (fun hI => ?_)
      refine sg_if_ne 519 517 (sk_td o_L_law 313 rfl) (by decide) rfl (fun hc => ?_) (fun hc => ?_)
      · rw [if_neg hc] at hq
        refine sg_iconst (v := (0 : Int32)) 520 (sk_td o_L_law 316 rfl) rfl (by decide) ?_
        refine sg_istore 522 [some (.inr (.inr (some (9999, 0)))), some (.inr (.inr (some (0, 0)))), some (.inl v2), some (.inl v3), some (.inl v4), some (.inr (.inr (some (9998, k5)))), some (.inr (.inr (some (9998, k6)))), some (.inr (.inr (some (9998, k7)))), some (.inr (.inr (some (9998, k8)))), some (.inr (.inr (some (9998, k9)))), some (.inl v10), some (.inl (0 : Int32)), none] (sk_td o_L_law 317 rfl) rfl rfl (Nat.le_of_ble_eq_true rfl) rfl ?_
        refine sx_wk [true, true, true, true, false, false, true, true, true, true, false, true, true] (ls' := [some (.inr (.inr (some (9999, 0)))), some (.inr (.inr (some (0, 0)))), some (.inl v2), some (.inl v3), none, none, some (.inr (.inr (some (9998, k6)))), some (.inr (.inr (some (9998, k7)))), some (.inr (.inr (some (9998, k8)))), some (.inr (.inr (some (9998, k9)))), none, some (.inl (0 : Int32)), none]) rfl ?_
        exact lt_L_law_522 sk_fu (y2.2.1, y2.2.2, v2, v3, k6, k7, k8, k9, (0 : Int32)) _ hq hI hone
      · rw [if_pos hc] at hq
        refine sg_iconst (v := (0 : Int32)) 518 (sk_td o_L_law 314 rfl) rfl (by decide) ?_
        obtain rfl := Option.some.inj hq
        exact law_end hI hone (sk_td o_L_law 315 rfl)
  · rw [if_neg hc] at hq
    refine sg_aload_n 454 (sk_td o_L_law 279 rfl) rfl rfl ?_
    refine sg_iload 456 (sk_td o_L_law 280 rfl) rfl rfl ?_
    obtain ⟨y5, hr_y5, hq⟩ := sk_bnd hq
    refine sm_callL1i 459 (s_X8_splitGain hr_y5) (sk_td o_L_law 281 rfl) rfl lv_L_113 rfl rfl rfl sz_0 (sx_rk hI (Nat.le_of_ble_eq_true rfl) (Nat.le_of_ble_eq_true rfl) (Nat.le_of_ble_eq_true rfl) (Nat.le_of_ble_eq_true rfl) rfl) (Nat.le_of_ble_eq_true rfl) ?_
    refine sg_iload_n 460 (sk_td o_L_law 282 rfl) rfl rfl ?_
    refine sg_iload_n 461 (sk_td o_L_law 283 rfl) rfl rfl ?_
    refine sg_iload 463 (sk_td o_L_law 284 rfl) rfl rfl ?_
    refine sg_iconst (v := (1 : Int32)) 464 (sk_td o_L_law 285 rfl) rfl (by decide) ?_
    refine sg_iload 466 (sk_td o_L_law 286 rfl) rfl rfl ?_
    refine sg_ishl 467 (sk_td o_L_law 287 rfl) rfl ?_
    refine sg_iconst (v := (-1 : Int32)) 468 (sk_td o_L_law 288 rfl) rfl (by decide) ?_
    refine sg_ixor 469 (sk_td o_L_law 289 rfl) rfl ?_
    refine sg_iand 470 (sk_td o_L_law 290 rfl) rfl ?_
    refine sg_aload 472 (sk_td o_L_law 291 rfl) rfl rfl ?_
    refine sg_aload 474 (sk_td o_L_law 292 rfl) rfl rfl ?_
    refine sg_aload 476 (sk_td o_L_law 293 rfl) rfl rfl ?_
    obtain ⟨y6, hr_y6, hq⟩ := sk_bnd hq
    obtain ⟨hx7, hq⟩ := sk_ifn hq
    obtain ⟨hl8, hq⟩ := sk_ifn hq
    refine sx_callBi (as := [.inl v2, .inl v3, .inl (v4 &&& (((1 : Int32) <<< (v11 &&& 31)) ^^^ (-1 : Int32))), .inr (.inr (some (9998, k5))), .inr (.inr (some (9998, k6))), .inr (.inr (some (9998, k7)))]) (st := [.inl y5.1]) 479 (s_L_bestPlan hr_y6) (sk_td o_L_law 294 rfl) rfl ls_L_16 rfl (Nat.le_of_ble_eq_true rfl) hI rfl hx7 hl8 (Nat.le_of_ble_eq_true rfl) (Nat.le_of_ble_eq_true rfl) (Nat.le_of_ble_eq_true rfl) (Nat.le_of_ble_eq_true rfl) (fun hI => ?_)
    refine sg_iload 481 (sk_td o_L_law 295 rfl) rfl rfl ?_
    refine sg_isub 482 (sk_td o_L_law 296 rfl) rfl ?_
    refine sg_ic_eq 487 485 (sk_td o_L_law 297 rfl) (by decide) rfl (fun hc => ?_) (fun hc => ?_)
    · rw [if_pos hc] at hq
      refine sg_iinc (v11 + (1 : Int32)) 490 [some (.inr (.inr (some (9999, 0)))), some (.inr (.inr (some (0, 0)))), some (.inl v2), some (.inl v3), some (.inl v4), some (.inr (.inr (some (9998, k5)))), some (.inr (.inr (some (9998, k6)))), some (.inr (.inr (some (9998, k7)))), some (.inr (.inr (some (9998, k8)))), some (.inr (.inr (some (9998, k9)))), some (.inl v10), some (.inl (v11 + (1 : Int32))), none] (sk_td o_L_law 300 rfl) rfl rfl rfl rfl (Nat.le_of_ble_eq_true rfl) rfl ?_
      refine sg_goto 447 (sk_td o_L_law 301 rfl) (by decide) ?_
      exact hrec447 (y5.2, y6.2, v2, v3, v4, k5, k6, k7, k8, k9, v10, (v11 + (1 : Int32))) _ hq hI hone
    · rw [if_neg hc] at hq
      refine sg_iconst (v := (0 : Int32)) 486 (sk_td o_L_law 298 rfl) rfl (by decide) ?_
      obtain rfl := Option.some.inj hq
      exact law_end hI hone (sk_td o_L_law 299 rfl)
def l_L_law_447 (L : Nat) (xs : Nat → Int32) (x0 : Nat) (fl : Nat) (a : (sk_D × sk_X × Int32 × Int32 × Int32 × Nat × Nat × Nat × Nat × Nat × Int32 × Int32)) : Option (Int32) := sk_it (fun rec447 a => q_L_law_447 rec447 L xs x0 a.1 a.2.1 a.2.2.1 a.2.2.2.1 a.2.2.2.2.1 a.2.2.2.2.2.1 a.2.2.2.2.2.2.1 a.2.2.2.2.2.2.2.1 a.2.2.2.2.2.2.2.2.1 a.2.2.2.2.2.2.2.2.2.1 a.2.2.2.2.2.2.2.2.2.2.1 a.2.2.2.2.2.2.2.2.2.2.2) fl a
theorem lt_L_law_447 {l : Launch} {nm : String} {L : Nat} {xs : Nat → Int32} {x0 : Nat} : ∀ (fl : Nat) (a : (sk_D × sk_X × Int32 × Int32 × Int32 × Nat × Nat × Nat × Nat × Nat × Int32 × Int32)) (res : Int32), l_L_law_447 L xs x0 fl a = some res → (x0 ≤ a.2.1.1 ∧ a.2.1.1 ≤ x0 + 149) → res = 1 → sx_G l room_1 (m_L_law nm) sx_El sx_Zl a.2.1 L xs (121 + (a.2.1.1 - x0)) (5601 + 64 * (a.2.1.1 - x0)) 447 [some (.inr (.inr (some (9999, 0)))), some (.inr (.inr (some (0, 0)))), some (.inl a.2.2.1), some (.inl a.2.2.2.1), some (.inl a.2.2.2.2.1), some (.inr (.inr (some (9998, a.2.2.2.2.2.1)))), some (.inr (.inr (some (9998, a.2.2.2.2.2.2.1)))), some (.inr (.inr (some (9998, a.2.2.2.2.2.2.2.1)))), some (.inr (.inr (some (9998, a.2.2.2.2.2.2.2.2.1)))), some (.inr (.inr (some (9998, a.2.2.2.2.2.2.2.2.2.1)))), some (.inl a.2.2.2.2.2.2.2.2.2.2.1), some (.inl a.2.2.2.2.2.2.2.2.2.2.2), none] [] a.1 :=
  sk_it_ind (P := fun (a : (sk_D × sk_X × Int32 × Int32 × Int32 × Nat × Nat × Nat × Nat × Nat × Int32 × Int32)) (res : Int32) => (x0 ≤ a.2.1.1 ∧ a.2.1.1 ≤ x0 + 149) → res = 1 → sx_G l room_1 (m_L_law nm) sx_El sx_Zl a.2.1 L xs (121 + (a.2.1.1 - x0)) (5601 + 64 * (a.2.1.1 - x0)) 447 [some (.inr (.inr (some (9999, 0)))), some (.inr (.inr (some (0, 0)))), some (.inl a.2.2.1), some (.inl a.2.2.2.1), some (.inl a.2.2.2.2.1), some (.inr (.inr (some (9998, a.2.2.2.2.2.1)))), some (.inr (.inr (some (9998, a.2.2.2.2.2.2.1)))), some (.inr (.inr (some (9998, a.2.2.2.2.2.2.2.1)))), some (.inr (.inr (some (9998, a.2.2.2.2.2.2.2.2.1)))), some (.inr (.inr (some (9998, a.2.2.2.2.2.2.2.2.2.1)))), some (.inl a.2.2.2.2.2.2.2.2.2.2.1), some (.inl a.2.2.2.2.2.2.2.2.2.2.2), none] [] a.1) (fun rec447 hrec447 a res hq hI hone => t_L_law_447 hrec447 hq hI hone)
def q_L_law_366 (rec341 : (sk_D × sk_X × Int32 × Int32 × Int32 × Nat × Nat × Nat × Nat × Nat × Int32) → Option (Int32)) (L : Nat) (xs : Nat → Int32) (x0 : Nat) (d : sk_D) (x : sk_X) (v2 : Int32) (v3 : Int32) (v4 : Int32) (k5 : Nat) (k6 : Nat) (k7 : Nat) (k8 : Nat) (k9 : Nat) (v10 : Int32) (s1 : Int32) (s2 : Int32) : Option (Int32) :=
  (q_X8_setTogether d s1 s2).bind fun y1 => if y1.1 = 0 then (rec341 (y1.2, x, v2, v3, v4, k5, k6, k7, k8, k9, (v10 + (1 : Int32)))) else some (0 : Int32)
set_option maxRecDepth 100000 in
set_option maxHeartbeats 4000000 in
theorem t_L_law_366 {l : Launch} {nm : String} {rec341 : (sk_D × sk_X × Int32 × Int32 × Int32 × Nat × Nat × Nat × Nat × Nat × Int32) → Option (Int32)} {L : Nat} {xs : Nat → Int32} {x0 : Nat} {d : sk_D} {x : sk_X} {v2 : Int32} {v3 : Int32} {v4 : Int32} {k5 : Nat} {k6 : Nat} {k7 : Nat} {k8 : Nat} {k9 : Nat} {v10 : Int32} {s1 : Int32} {s2 : Int32} (hrec341 : ∀ (a : (sk_D × sk_X × Int32 × Int32 × Int32 × Nat × Nat × Nat × Nat × Nat × Int32)) (res : Int32), rec341 a = some res → (x0 ≤ a.2.1.1 ∧ a.2.1.1 ≤ x0 + 149) → res = 1 → sx_G l room_1 (m_L_law nm) sx_El sx_Zl a.2.1 L xs (121 + (a.2.1.1 - x0)) (5601 + 64 * (a.2.1.1 - x0)) 341 [some (.inr (.inr (some (9999, 0)))), some (.inr (.inr (some (0, 0)))), some (.inl a.2.2.1), some (.inl a.2.2.2.1), some (.inl a.2.2.2.2.1), some (.inr (.inr (some (9998, a.2.2.2.2.2.1)))), some (.inr (.inr (some (9998, a.2.2.2.2.2.2.1)))), some (.inr (.inr (some (9998, a.2.2.2.2.2.2.2.1)))), some (.inr (.inr (some (9998, a.2.2.2.2.2.2.2.2.1)))), some (.inr (.inr (some (9998, a.2.2.2.2.2.2.2.2.2.1)))), some (.inl a.2.2.2.2.2.2.2.2.2.2), none, none] [] a.1) {res : Int32} (hq : q_L_law_366 rec341 L xs x0 d x v2 v3 v4 k5 k6 k7 k8 k9 v10 s1 s2 = some res) (hI : (x0 ≤ x.1 ∧ x.1 ≤ x0 + 149)) (hone : res = 1) :
    sx_G l room_1 (m_L_law nm) sx_El sx_Zl x L xs (121 + (x.1 - x0)) (5601 + 64 * (x.1 - x0)) 366 [some (.inr (.inr (some (9999, 0)))), some (.inr (.inr (some (0, 0)))), some (.inl v2), some (.inl v3), some (.inl v4), some (.inr (.inr (some (9998, k5)))), some (.inr (.inr (some (9998, k6)))), some (.inr (.inr (some (9998, k7)))), some (.inr (.inr (some (9998, k8)))), some (.inr (.inr (some (9998, k9)))), some (.inl v10), none, none] [.inl s2, .inl s1, .inr (.inr (some (0, 0)))] d := by
  unfold q_L_law_366 at hq
  obtain ⟨y1, hr_y1, hq⟩ := sk_bnd hq
  refine sm_callL2i 369 (s_X8_setTogether hr_y1) (sk_td o_L_law 225 rfl) rfl lv_L_106 rfl rfl rfl sz_0 (sx_rk hI (Nat.le_of_ble_eq_true rfl) (Nat.le_of_ble_eq_true rfl) (Nat.le_of_ble_eq_true rfl) (Nat.le_of_ble_eq_true rfl) rfl) (Nat.le_of_ble_eq_true rfl) ?_
  refine sg_if_eq 374 372 (sk_td o_L_law 226 rfl) (by decide) rfl (fun hc => ?_) (fun hc => ?_)
  · rw [if_pos hc] at hq
    refine sg_iinc (v10 + (1 : Int32)) 377 [some (.inr (.inr (some (9999, 0)))), some (.inr (.inr (some (0, 0)))), some (.inl v2), some (.inl v3), some (.inl v4), some (.inr (.inr (some (9998, k5)))), some (.inr (.inr (some (9998, k6)))), some (.inr (.inr (some (9998, k7)))), some (.inr (.inr (some (9998, k8)))), some (.inr (.inr (some (9998, k9)))), some (.inl (v10 + (1 : Int32))), none, none] (sk_td o_L_law 229 rfl) rfl rfl rfl rfl (Nat.le_of_ble_eq_true rfl) rfl ?_
    refine sg_goto 341 (sk_td o_L_law 230 rfl) (by decide) ?_
    exact hrec341 (y1.2, x, v2, v3, v4, k5, k6, k7, k8, k9, (v10 + (1 : Int32))) _ hq hI hone
  · rw [if_neg hc] at hq
    refine sg_iconst (v := (0 : Int32)) 373 (sk_td o_L_law 227 rfl) rfl (by decide) ?_
    obtain rfl := Option.some.inj hq
    exact law_end hI hone (sk_td o_L_law 228 rfl)
def q_L_law_341 (rec341 : (sk_D × sk_X × Int32 × Int32 × Int32 × Nat × Nat × Nat × Nat × Nat × Int32) → Option (Int32)) (L : Nat) (xs : Nat → Int32) (x0 : Nat) (d : sk_D) (x : sk_X) (v2 : Int32) (v3 : Int32) (v4 : Int32) (k5 : Nat) (k6 : Nat) (k7 : Nat) (k8 : Nat) (k9 : Nat) (v10 : Int32) : Option (Int32) :=
  if (2 : Int32) ≤ v10 then (q_L_bestPlan x v2 v3 v4 k5 k6 k7).bind fun y1 => if y1.2.1 = x.1 + 2 then if y1.2.1 ≤ x0 + 149 then if xb y1.2 k6 ((3 : Int32) * v3) = true then if xb y1.2 k6 (((3 : Int32) * v3) + (1 : Int32)) = true then if xb y1.2 k6 (((3 : Int32) * v3) + (2 : Int32)) = true then (q_X8_extraPlaced d (y1.2.2.2 k6 ((3 : Int32) * v3).toNatClampNeg) (y1.2.2.2 k6 (((3 : Int32) * v3) + (1 : Int32)).toNatClampNeg) (y1.2.2.2 k6 (((3 : Int32) * v3) + (2 : Int32)).toNatClampNeg)).bind fun y7 => (q_L_bestPlan y1.2 v2 (v3 + (1 : Int32)) v4 k5 k6 k7).bind fun y8 => if y8.2.1 = y1.2.1 + 2 then if y8.2.1 ≤ x0 + 149 then if y7.1 = (y8.1 - y1.1) then (l_L_law_447 L xs x0 sk_fu (y7.2, y8.2, v2, v3, v4, k5, k6, k7, k8, k9, y1.1, (0 : Int32))) else some (0 : Int32) else none else none else none else none else none else none else none else if ((v4 >>> (v10 &&& 31)) &&& (1 : Int32)) = (1 : Int32) then (q_L_law_366 rec341 L xs x0 d x v2 v3 v4 k5 k6 k7 k8 k9 v10 v10 (1 : Int32)) else (q_L_law_366 rec341 L xs x0 d x v2 v3 v4 k5 k6 k7 k8 k9 v10 v10 (0 : Int32))
set_option maxRecDepth 100000 in
set_option maxHeartbeats 4000000 in
theorem t_L_law_341 {l : Launch} {nm : String} {rec341 : (sk_D × sk_X × Int32 × Int32 × Int32 × Nat × Nat × Nat × Nat × Nat × Int32) → Option (Int32)} {L : Nat} {xs : Nat → Int32} {x0 : Nat} {d : sk_D} {x : sk_X} {v2 : Int32} {v3 : Int32} {v4 : Int32} {k5 : Nat} {k6 : Nat} {k7 : Nat} {k8 : Nat} {k9 : Nat} {v10 : Int32} (hrec341 : ∀ (a : (sk_D × sk_X × Int32 × Int32 × Int32 × Nat × Nat × Nat × Nat × Nat × Int32)) (res : Int32), rec341 a = some res → (x0 ≤ a.2.1.1 ∧ a.2.1.1 ≤ x0 + 149) → res = 1 → sx_G l room_1 (m_L_law nm) sx_El sx_Zl a.2.1 L xs (121 + (a.2.1.1 - x0)) (5601 + 64 * (a.2.1.1 - x0)) 341 [some (.inr (.inr (some (9999, 0)))), some (.inr (.inr (some (0, 0)))), some (.inl a.2.2.1), some (.inl a.2.2.2.1), some (.inl a.2.2.2.2.1), some (.inr (.inr (some (9998, a.2.2.2.2.2.1)))), some (.inr (.inr (some (9998, a.2.2.2.2.2.2.1)))), some (.inr (.inr (some (9998, a.2.2.2.2.2.2.2.1)))), some (.inr (.inr (some (9998, a.2.2.2.2.2.2.2.2.1)))), some (.inr (.inr (some (9998, a.2.2.2.2.2.2.2.2.2.1)))), some (.inl a.2.2.2.2.2.2.2.2.2.2), none, none] [] a.1) {res : Int32} (hq : q_L_law_341 rec341 L xs x0 d x v2 v3 v4 k5 k6 k7 k8 k9 v10 = some res) (hI : (x0 ≤ x.1 ∧ x.1 ≤ x0 + 149)) (hone : res = 1) :
    sx_G l room_1 (m_L_law nm) sx_El sx_Zl x L xs (121 + (x.1 - x0)) (5601 + 64 * (x.1 - x0)) 341 [some (.inr (.inr (some (9999, 0)))), some (.inr (.inr (some (0, 0)))), some (.inl v2), some (.inl v3), some (.inl v4), some (.inr (.inr (some (9998, k5)))), some (.inr (.inr (some (9998, k6)))), some (.inr (.inr (some (9998, k7)))), some (.inr (.inr (some (9998, k8)))), some (.inr (.inr (some (9998, k9)))), some (.inl v10), none, none] [] d := by
  unfold q_L_law_341 at hq
  refine sg_iload 343 (sk_td o_L_law 210 rfl) rfl rfl ?_
  refine sg_iconst (v := (2 : Int32)) 344 (sk_td o_L_law 211 rfl) rfl (by decide) ?_
  refine sg_ic_ge 380 347 (sk_td o_L_law 212 rfl) (by decide) rfl (fun hc => ?_) (fun hc => ?_)
  · rw [if_pos hc] at hq
    refine sg_iload_n 381 (sk_td o_L_law 231 rfl) rfl rfl ?_
    refine sg_iload_n 382 (sk_td o_L_law 232 rfl) rfl rfl ?_
    refine sg_iload 384 (sk_td o_L_law 233 rfl) rfl rfl ?_
    refine sg_aload 386 (sk_td o_L_law 234 rfl) rfl rfl ?_
    refine sg_aload 388 (sk_td o_L_law 235 rfl) rfl rfl ?_
    refine sg_aload 390 (sk_td o_L_law 236 rfl) rfl rfl ?_
    obtain ⟨y1, hr_y1, hq⟩ := sk_bnd hq
    obtain ⟨hx2, hq⟩ := sk_ifn hq
    obtain ⟨hl3, hq⟩ := sk_ifn hq
    refine sx_callBi (as := [.inl v2, .inl v3, .inl v4, .inr (.inr (some (9998, k5))), .inr (.inr (some (9998, k6))), .inr (.inr (some (9998, k7)))]) (st := []) 393 (s_L_bestPlan hr_y1) (sk_td o_L_law 237 rfl) rfl ls_L_16 rfl (Nat.le_of_ble_eq_true rfl) hI rfl hx2 hl3 (Nat.le_of_ble_eq_true rfl) (Nat.le_of_ble_eq_true rfl) (Nat.le_of_ble_eq_true rfl) (Nat.le_of_ble_eq_true rfl) (fun hI => ?_)
    refine sg_istore 395 [some (.inr (.inr (some (9999, 0)))), some (.inr (.inr (some (0, 0)))), some (.inl v2), some (.inl v3), some (.inl v4), some (.inr (.inr (some (9998, k5)))), some (.inr (.inr (some (9998, k6)))), some (.inr (.inr (some (9998, k7)))), some (.inr (.inr (some (9998, k8)))), some (.inr (.inr (some (9998, k9)))), some (.inl y1.1), none, none] (sk_td o_L_law 238 rfl) rfl rfl (Nat.le_of_ble_eq_true rfl) rfl ?_
    refine sg_aload_n 396 (sk_td o_L_law 239 rfl) rfl rfl ?_
    refine sg_aload 398 (sk_td o_L_law 240 rfl) rfl rfl ?_
    refine sg_iconst (v := (3 : Int32)) 399 (sk_td o_L_law 241 rfl) rfl (by decide) ?_
    refine sg_iload_n 400 (sk_td o_L_law 242 rfl) rfl rfl ?_
    refine sg_imul 401 (sk_td o_L_law 243 rfl) rfl ?_
    obtain ⟨hb4, hq⟩ := sk_ifn hq
    refine sx_ld 402 (sk_td o_L_law 244 rfl) rfl hb4 ?_
    refine sg_aload 404 (sk_td o_L_law 245 rfl) rfl rfl ?_
    refine sg_iconst (v := (3 : Int32)) 405 (sk_td o_L_law 246 rfl) rfl (by decide) ?_
    refine sg_iload_n 406 (sk_td o_L_law 247 rfl) rfl rfl ?_
    refine sg_imul 407 (sk_td o_L_law 248 rfl) rfl ?_
    refine sg_iconst (v := (1 : Int32)) 408 (sk_td o_L_law 249 rfl) rfl (by decide) ?_
    refine sg_iadd 409 (sk_td o_L_law 250 rfl) rfl ?_
    obtain ⟨hb5, hq⟩ := sk_ifn hq
    refine sx_ld 410 (sk_td o_L_law 251 rfl) rfl hb5 ?_
    refine sg_aload 412 (sk_td o_L_law 252 rfl) rfl rfl ?_
    refine sg_iconst (v := (3 : Int32)) 413 (sk_td o_L_law 253 rfl) rfl (by decide) ?_
    refine sg_iload_n 414 (sk_td o_L_law 254 rfl) rfl rfl ?_
    refine sg_imul 415 (sk_td o_L_law 255 rfl) rfl ?_
    refine sg_iconst (v := (2 : Int32)) 416 (sk_td o_L_law 256 rfl) rfl (by decide) ?_
    refine sg_iadd 417 (sk_td o_L_law 257 rfl) rfl ?_
    obtain ⟨hb6, hq⟩ := sk_ifn hq
    refine sx_ld 418 (sk_td o_L_law 258 rfl) rfl hb6 ?_
    obtain ⟨y7, hr_y7, hq⟩ := sk_bnd hq
    refine sm_callL3i 421 (s_X8_extraPlaced hr_y7) (sk_td o_L_law 259 rfl) rfl lv_L_110 rfl rfl rfl sz_0 (sx_rk hI (Nat.le_of_ble_eq_true rfl) (Nat.le_of_ble_eq_true rfl) (Nat.le_of_ble_eq_true rfl) (Nat.le_of_ble_eq_true rfl) rfl) (Nat.le_of_ble_eq_true rfl) ?_
    refine sg_iload_n 422 (sk_td o_L_law 260 rfl) rfl rfl ?_
    refine sg_iload_n 423 (sk_td o_L_law 261 rfl) rfl rfl ?_
    refine sg_iconst (v := (1 : Int32)) 424 (sk_td o_L_law 262 rfl) rfl (by decide) ?_
    refine sg_iadd 425 (sk_td o_L_law 263 rfl) rfl ?_
    refine sg_iload 427 (sk_td o_L_law 264 rfl) rfl rfl ?_
    refine sg_aload 429 (sk_td o_L_law 265 rfl) rfl rfl ?_
    refine sg_aload 431 (sk_td o_L_law 266 rfl) rfl rfl ?_
    refine sg_aload 433 (sk_td o_L_law 267 rfl) rfl rfl ?_
    obtain ⟨y8, hr_y8, hq⟩ := sk_bnd hq
    obtain ⟨hx9, hq⟩ := sk_ifn hq
    obtain ⟨hl10, hq⟩ := sk_ifn hq
    refine sx_callBi (as := [.inl v2, .inl (v3 + (1 : Int32)), .inl v4, .inr (.inr (some (9998, k5))), .inr (.inr (some (9998, k6))), .inr (.inr (some (9998, k7)))]) (st := [.inl y7.1]) 436 (s_L_bestPlan hr_y8) (sk_td o_L_law 268 rfl) rfl ls_L_16 rfl (Nat.le_of_ble_eq_true rfl) hI rfl hx9 hl10 (Nat.le_of_ble_eq_true rfl) (Nat.le_of_ble_eq_true rfl) (Nat.le_of_ble_eq_true rfl) (Nat.le_of_ble_eq_true rfl) (fun hI => ?_)
    refine sg_iload 438 (sk_td o_L_law 269 rfl) rfl rfl ?_
    refine sg_isub 439 (sk_td o_L_law 270 rfl) rfl ?_
    refine sg_ic_eq 444 442 (sk_td o_L_law 271 rfl) (by decide) rfl (fun hc => ?_) (fun hc => ?_)
    · rw [if_pos hc] at hq
      refine sg_iconst (v := (0 : Int32)) 445 (sk_td o_L_law 274 rfl) rfl (by decide) ?_
      refine sg_istore 447 [some (.inr (.inr (some (9999, 0)))), some (.inr (.inr (some (0, 0)))), some (.inl v2), some (.inl v3), some (.inl v4), some (.inr (.inr (some (9998, k5)))), some (.inr (.inr (some (9998, k6)))), some (.inr (.inr (some (9998, k7)))), some (.inr (.inr (some (9998, k8)))), some (.inr (.inr (some (9998, k9)))), some (.inl y1.1), some (.inl (0 : Int32)), none] (sk_td o_L_law 275 rfl) rfl rfl (Nat.le_of_ble_eq_true rfl) rfl ?_
      exact lt_L_law_447 sk_fu (y7.2, y8.2, v2, v3, v4, k5, k6, k7, k8, k9, y1.1, (0 : Int32)) _ hq hI hone
    · rw [if_neg hc] at hq
      refine sg_iconst (v := (0 : Int32)) 443 (sk_td o_L_law 272 rfl) rfl (by decide) ?_
      obtain rfl := Option.some.inj hq
      exact law_end hI hone (sk_td o_L_law 273 rfl)
  · rw [if_neg hc] at hq
    refine sg_aload_n 348 (sk_td o_L_law 213 rfl) rfl rfl ?_
    refine sg_iload 350 (sk_td o_L_law 214 rfl) rfl rfl ?_
    refine sg_iload 352 (sk_td o_L_law 215 rfl) rfl rfl ?_
    refine sg_iload 354 (sk_td o_L_law 216 rfl) rfl rfl ?_
    refine sg_ishr 355 (sk_td o_L_law 217 rfl) rfl ?_
    refine sg_iconst (v := (1 : Int32)) 356 (sk_td o_L_law 218 rfl) rfl (by decide) ?_
    refine sg_iand 357 (sk_td o_L_law 219 rfl) rfl ?_
    refine sg_iconst (v := (1 : Int32)) 358 (sk_td o_L_law 220 rfl) rfl (by decide) ?_
    refine sg_ic_ne 365 361 (sk_td o_L_law 221 rfl) (by decide) rfl (fun hc => ?_) (fun hc => ?_)
    · rw [if_neg hc] at hq
      refine sg_iconst (v := (0 : Int32)) 366 (sk_td o_L_law 224 rfl) rfl (by decide) ?_
      exact t_L_law_366 hrec341 hq hI hone
    · rw [if_pos hc] at hq
      refine sg_iconst (v := (1 : Int32)) 362 (sk_td o_L_law 222 rfl) rfl (by decide) ?_
      refine sg_goto 366 (sk_td o_L_law 223 rfl) (by decide) ?_
      exact t_L_law_366 hrec341 hq hI hone
def l_L_law_341 (L : Nat) (xs : Nat → Int32) (x0 : Nat) (fl : Nat) (a : (sk_D × sk_X × Int32 × Int32 × Int32 × Nat × Nat × Nat × Nat × Nat × Int32)) : Option (Int32) := sk_it (fun rec341 a => q_L_law_341 rec341 L xs x0 a.1 a.2.1 a.2.2.1 a.2.2.2.1 a.2.2.2.2.1 a.2.2.2.2.2.1 a.2.2.2.2.2.2.1 a.2.2.2.2.2.2.2.1 a.2.2.2.2.2.2.2.2.1 a.2.2.2.2.2.2.2.2.2.1 a.2.2.2.2.2.2.2.2.2.2) fl a
theorem lt_L_law_341 {l : Launch} {nm : String} {L : Nat} {xs : Nat → Int32} {x0 : Nat} : ∀ (fl : Nat) (a : (sk_D × sk_X × Int32 × Int32 × Int32 × Nat × Nat × Nat × Nat × Nat × Int32)) (res : Int32), l_L_law_341 L xs x0 fl a = some res → (x0 ≤ a.2.1.1 ∧ a.2.1.1 ≤ x0 + 149) → res = 1 → sx_G l room_1 (m_L_law nm) sx_El sx_Zl a.2.1 L xs (121 + (a.2.1.1 - x0)) (5601 + 64 * (a.2.1.1 - x0)) 341 [some (.inr (.inr (some (9999, 0)))), some (.inr (.inr (some (0, 0)))), some (.inl a.2.2.1), some (.inl a.2.2.2.1), some (.inl a.2.2.2.2.1), some (.inr (.inr (some (9998, a.2.2.2.2.2.1)))), some (.inr (.inr (some (9998, a.2.2.2.2.2.2.1)))), some (.inr (.inr (some (9998, a.2.2.2.2.2.2.2.1)))), some (.inr (.inr (some (9998, a.2.2.2.2.2.2.2.2.1)))), some (.inr (.inr (some (9998, a.2.2.2.2.2.2.2.2.2.1)))), some (.inl a.2.2.2.2.2.2.2.2.2.2), none, none] [] a.1 :=
  sk_it_ind (P := fun (a : (sk_D × sk_X × Int32 × Int32 × Int32 × Nat × Nat × Nat × Nat × Nat × Int32)) (res : Int32) => (x0 ≤ a.2.1.1 ∧ a.2.1.1 ≤ x0 + 149) → res = 1 → sx_G l room_1 (m_L_law nm) sx_El sx_Zl a.2.1 L xs (121 + (a.2.1.1 - x0)) (5601 + 64 * (a.2.1.1 - x0)) 341 [some (.inr (.inr (some (9999, 0)))), some (.inr (.inr (some (0, 0)))), some (.inl a.2.2.1), some (.inl a.2.2.2.1), some (.inl a.2.2.2.2.1), some (.inr (.inr (some (9998, a.2.2.2.2.2.1)))), some (.inr (.inr (some (9998, a.2.2.2.2.2.2.1)))), some (.inr (.inr (some (9998, a.2.2.2.2.2.2.2.1)))), some (.inr (.inr (some (9998, a.2.2.2.2.2.2.2.2.1)))), some (.inr (.inr (some (9998, a.2.2.2.2.2.2.2.2.2.1)))), some (.inl a.2.2.2.2.2.2.2.2.2.2), none, none] [] a.1) (fun rec341 hrec341 a res hq hI hone => t_L_law_341 hrec341 hq hI hone)
def q_L_law_332 (rec224 : (sk_D × sk_X × Int32 × Int32 × Int32 × Nat × Nat × Nat × Nat × Nat × Int32) → Option (Int32)) (L : Nat) (xs : Nat → Int32) (x0 : Nat) (d : sk_D) (x : sk_X) (v2 : Int32) (v3 : Int32) (v4 : Int32) (k5 : Nat) (k6 : Nat) (k7 : Nat) (k8 : Nat) (k9 : Nat) (v10 : Int32) : Option (Int32) :=
  (rec224 (d, x, v2, v3, v4, k5, k6, k7, k8, k9, (v10 + (1 : Int32))))
set_option maxRecDepth 100000 in
set_option maxHeartbeats 4000000 in
theorem t_L_law_332 {l : Launch} {nm : String} {rec224 : (sk_D × sk_X × Int32 × Int32 × Int32 × Nat × Nat × Nat × Nat × Nat × Int32) → Option (Int32)} {L : Nat} {xs : Nat → Int32} {x0 : Nat} {d : sk_D} {x : sk_X} {v2 : Int32} {v3 : Int32} {v4 : Int32} {k5 : Nat} {k6 : Nat} {k7 : Nat} {k8 : Nat} {k9 : Nat} {v10 : Int32} (hrec224 : ∀ (a : (sk_D × sk_X × Int32 × Int32 × Int32 × Nat × Nat × Nat × Nat × Nat × Int32)) (res : Int32), rec224 a = some res → (x0 ≤ a.2.1.1 ∧ a.2.1.1 ≤ x0 + 149) → res = 1 → sx_G l room_1 (m_L_law nm) sx_El sx_Zl a.2.1 L xs (121 + (a.2.1.1 - x0)) (5601 + 64 * (a.2.1.1 - x0)) 224 [some (.inr (.inr (some (9999, 0)))), some (.inr (.inr (some (0, 0)))), some (.inl a.2.2.1), some (.inl a.2.2.2.1), some (.inl a.2.2.2.2.1), some (.inr (.inr (some (9998, a.2.2.2.2.2.1)))), some (.inr (.inr (some (9998, a.2.2.2.2.2.2.1)))), some (.inr (.inr (some (9998, a.2.2.2.2.2.2.2.1)))), some (.inr (.inr (some (9998, a.2.2.2.2.2.2.2.2.1)))), some (.inr (.inr (some (9998, a.2.2.2.2.2.2.2.2.2.1)))), some (.inl a.2.2.2.2.2.2.2.2.2.2), none, none] [] a.1) {res : Int32} (hq : q_L_law_332 rec224 L xs x0 d x v2 v3 v4 k5 k6 k7 k8 k9 v10 = some res) (hI : (x0 ≤ x.1 ∧ x.1 ≤ x0 + 149)) (hone : res = 1) :
    sx_G l room_1 (m_L_law nm) sx_El sx_Zl x L xs (121 + (x.1 - x0)) (5601 + 64 * (x.1 - x0)) 332 [some (.inr (.inr (some (9999, 0)))), some (.inr (.inr (some (0, 0)))), some (.inl v2), some (.inl v3), some (.inl v4), some (.inr (.inr (some (9998, k5)))), some (.inr (.inr (some (9998, k6)))), some (.inr (.inr (some (9998, k7)))), some (.inr (.inr (some (9998, k8)))), some (.inr (.inr (some (9998, k9)))), some (.inl v10), none, none] [] d := by
  unfold q_L_law_332 at hq
  refine sg_iinc (v10 + (1 : Int32)) 335 [some (.inr (.inr (some (9999, 0)))), some (.inr (.inr (some (0, 0)))), some (.inl v2), some (.inl v3), some (.inl v4), some (.inr (.inr (some (9998, k5)))), some (.inr (.inr (some (9998, k6)))), some (.inr (.inr (some (9998, k7)))), some (.inr (.inr (some (9998, k8)))), some (.inr (.inr (some (9998, k9)))), some (.inl (v10 + (1 : Int32))), none, none] (sk_td o_L_law 206 rfl) rfl rfl rfl rfl (Nat.le_of_ble_eq_true rfl) rfl ?_
  refine sg_goto 224 (sk_td o_L_law 207 rfl) (by decide) ?_
  exact hrec224 (d, x, v2, v3, v4, k5, k6, k7, k8, k9, (v10 + (1 : Int32))) _ hq hI hone
def q_L_law_303 (rec224 : (sk_D × sk_X × Int32 × Int32 × Int32 × Nat × Nat × Nat × Nat × Nat × Int32) → Option (Int32)) (L : Nat) (xs : Nat → Int32) (x0 : Nat) (d : sk_D) (x : sk_X) (v2 : Int32) (v3 : Int32) (v4 : Int32) (k5 : Nat) (k6 : Nat) (k7 : Nat) (k8 : Nat) (k9 : Nat) (v10 : Int32) (h1 : Nat) (s2 : Int32) : Option (Int32) :=
  if xb x h1 s2 = true then if xb x k6 (((3 : Int32) * v10) + (1 : Int32)) = true then if xb x k6 (((3 : Int32) * v10) + (2 : Int32)) = true then (q_X8_openGroup d (x.2.2 h1 s2.toNatClampNeg) (x.2.2 k6 (((3 : Int32) * v10) + (1 : Int32)).toNatClampNeg) (x.2.2 k6 (((3 : Int32) * v10) + (2 : Int32)).toNatClampNeg)).bind fun y4 => if y4.1 = v10 then (q_L_law_332 rec224 L xs x0 y4.2 x v2 v3 v4 k5 k6 k7 k8 k9 v10) else some (0 : Int32) else none else none else none
set_option maxRecDepth 100000 in
set_option maxHeartbeats 4000000 in
theorem t_L_law_303 {l : Launch} {nm : String} {rec224 : (sk_D × sk_X × Int32 × Int32 × Int32 × Nat × Nat × Nat × Nat × Nat × Int32) → Option (Int32)} {L : Nat} {xs : Nat → Int32} {x0 : Nat} {d : sk_D} {x : sk_X} {v2 : Int32} {v3 : Int32} {v4 : Int32} {k5 : Nat} {k6 : Nat} {k7 : Nat} {k8 : Nat} {k9 : Nat} {v10 : Int32} {h1 : Nat} {s2 : Int32} (hrec224 : ∀ (a : (sk_D × sk_X × Int32 × Int32 × Int32 × Nat × Nat × Nat × Nat × Nat × Int32)) (res : Int32), rec224 a = some res → (x0 ≤ a.2.1.1 ∧ a.2.1.1 ≤ x0 + 149) → res = 1 → sx_G l room_1 (m_L_law nm) sx_El sx_Zl a.2.1 L xs (121 + (a.2.1.1 - x0)) (5601 + 64 * (a.2.1.1 - x0)) 224 [some (.inr (.inr (some (9999, 0)))), some (.inr (.inr (some (0, 0)))), some (.inl a.2.2.1), some (.inl a.2.2.2.1), some (.inl a.2.2.2.2.1), some (.inr (.inr (some (9998, a.2.2.2.2.2.1)))), some (.inr (.inr (some (9998, a.2.2.2.2.2.2.1)))), some (.inr (.inr (some (9998, a.2.2.2.2.2.2.2.1)))), some (.inr (.inr (some (9998, a.2.2.2.2.2.2.2.2.1)))), some (.inr (.inr (some (9998, a.2.2.2.2.2.2.2.2.2.1)))), some (.inl a.2.2.2.2.2.2.2.2.2.2), none, none] [] a.1) {res : Int32} (hq : q_L_law_303 rec224 L xs x0 d x v2 v3 v4 k5 k6 k7 k8 k9 v10 h1 s2 = some res) (hI : (x0 ≤ x.1 ∧ x.1 ≤ x0 + 149)) (hone : res = 1) :
    sx_G l room_1 (m_L_law nm) sx_El sx_Zl x L xs (121 + (x.1 - x0)) (5601 + 64 * (x.1 - x0)) 303 [some (.inr (.inr (some (9999, 0)))), some (.inr (.inr (some (0, 0)))), some (.inl v2), some (.inl v3), some (.inl v4), some (.inr (.inr (some (9998, k5)))), some (.inr (.inr (some (9998, k6)))), some (.inr (.inr (some (9998, k7)))), some (.inr (.inr (some (9998, k8)))), some (.inr (.inr (some (9998, k9)))), some (.inl v10), none, none] [.inl s2, .inr (.inr (some (9998, h1))), .inr (.inr (some (0, 0)))] d := by
  unfold q_L_law_303 at hq
  obtain ⟨hb1, hq⟩ := sk_ifn hq
  refine sx_ld 304 (sk_td o_L_law 186 rfl) rfl hb1 ?_
  refine sg_aload 306 (sk_td o_L_law 187 rfl) rfl rfl ?_
  refine sg_iconst (v := (3 : Int32)) 307 (sk_td o_L_law 188 rfl) rfl (by decide) ?_
  refine sg_iload 309 (sk_td o_L_law 189 rfl) rfl rfl ?_
  refine sg_imul 310 (sk_td o_L_law 190 rfl) rfl ?_
  refine sg_iconst (v := (1 : Int32)) 311 (sk_td o_L_law 191 rfl) rfl (by decide) ?_
  refine sg_iadd 312 (sk_td o_L_law 192 rfl) rfl ?_
  obtain ⟨hb2, hq⟩ := sk_ifn hq
  refine sx_ld 313 (sk_td o_L_law 193 rfl) rfl hb2 ?_
  refine sg_aload 315 (sk_td o_L_law 194 rfl) rfl rfl ?_
  refine sg_iconst (v := (3 : Int32)) 316 (sk_td o_L_law 195 rfl) rfl (by decide) ?_
  refine sg_iload 318 (sk_td o_L_law 196 rfl) rfl rfl ?_
  refine sg_imul 319 (sk_td o_L_law 197 rfl) rfl ?_
  refine sg_iconst (v := (2 : Int32)) 320 (sk_td o_L_law 198 rfl) rfl (by decide) ?_
  refine sg_iadd 321 (sk_td o_L_law 199 rfl) rfl ?_
  obtain ⟨hb3, hq⟩ := sk_ifn hq
  refine sx_ld 322 (sk_td o_L_law 200 rfl) rfl hb3 ?_
  obtain ⟨y4, hr_y4, hq⟩ := sk_bnd hq
  refine sm_callL3i 325 (s_X8_openGroup hr_y4) (sk_td o_L_law 201 rfl) rfl lv_L_103 rfl rfl rfl sz_0 (sx_rk hI (Nat.le_of_ble_eq_true rfl) (Nat.le_of_ble_eq_true rfl) (Nat.le_of_ble_eq_true rfl) (Nat.le_of_ble_eq_true rfl) rfl) (Nat.le_of_ble_eq_true rfl) ?_
  refine sg_iload 327 (sk_td o_L_law 202 rfl) rfl rfl ?_
  refine sg_ic_eq 332 330 (sk_td o_L_law 203 rfl) (by decide) rfl (fun hc => ?_) (fun hc => ?_)
  · rw [if_pos hc] at hq
    exact t_L_law_332 hrec224 hq hI hone
  · rw [if_neg hc] at hq
    refine sg_iconst (v := (0 : Int32)) 331 (sk_td o_L_law 204 rfl) rfl (by decide) ?_
    obtain rfl := Option.some.inj hq
    exact law_end hI hone (sk_td o_L_law 205 rfl)
def q_L_law_285 (rec224 : (sk_D × sk_X × Int32 × Int32 × Int32 × Nat × Nat × Nat × Nat × Nat × Int32) → Option (Int32)) (L : Nat) (xs : Nat → Int32) (x0 : Nat) (d : sk_D) (x : sk_X) (v2 : Int32) (v3 : Int32) (v4 : Int32) (k5 : Nat) (k6 : Nat) (k7 : Nat) (k8 : Nat) (k9 : Nat) (v10 : Int32) (h0 : Nat) (s1 : Int32) (s3 : Int32) : Option (Int32) :=
  (q_L_low s3 (3 : Int32)).bind fun y1 => if xb x h0 s1 = true then if v3 ≤ v10 then (q_L_law_332 rec224 L xs x0 d (xw x h0 s1.toNatClampNeg ((1 : Int32) + y1)) v2 v3 v4 k5 k6 k7 k8 k9 v10) else (q_L_law_303 rec224 L xs x0 d (xw x h0 s1.toNatClampNeg ((1 : Int32) + y1)) v2 v3 v4 k5 k6 k7 k8 k9 v10 k6 ((3 : Int32) * v10)) else none
set_option maxRecDepth 100000 in
set_option maxHeartbeats 4000000 in
theorem t_L_law_285 {l : Launch} {nm : String} {rec224 : (sk_D × sk_X × Int32 × Int32 × Int32 × Nat × Nat × Nat × Nat × Nat × Int32) → Option (Int32)} {L : Nat} {xs : Nat → Int32} {x0 : Nat} {d : sk_D} {x : sk_X} {v2 : Int32} {v3 : Int32} {v4 : Int32} {k5 : Nat} {k6 : Nat} {k7 : Nat} {k8 : Nat} {k9 : Nat} {v10 : Int32} {h0 : Nat} {s1 : Int32} {s3 : Int32} (hrec224 : ∀ (a : (sk_D × sk_X × Int32 × Int32 × Int32 × Nat × Nat × Nat × Nat × Nat × Int32)) (res : Int32), rec224 a = some res → (x0 ≤ a.2.1.1 ∧ a.2.1.1 ≤ x0 + 149) → res = 1 → sx_G l room_1 (m_L_law nm) sx_El sx_Zl a.2.1 L xs (121 + (a.2.1.1 - x0)) (5601 + 64 * (a.2.1.1 - x0)) 224 [some (.inr (.inr (some (9999, 0)))), some (.inr (.inr (some (0, 0)))), some (.inl a.2.2.1), some (.inl a.2.2.2.1), some (.inl a.2.2.2.2.1), some (.inr (.inr (some (9998, a.2.2.2.2.2.1)))), some (.inr (.inr (some (9998, a.2.2.2.2.2.2.1)))), some (.inr (.inr (some (9998, a.2.2.2.2.2.2.2.1)))), some (.inr (.inr (some (9998, a.2.2.2.2.2.2.2.2.1)))), some (.inr (.inr (some (9998, a.2.2.2.2.2.2.2.2.2.1)))), some (.inl a.2.2.2.2.2.2.2.2.2.2), none, none] [] a.1) {res : Int32} (hq : q_L_law_285 rec224 L xs x0 d x v2 v3 v4 k5 k6 k7 k8 k9 v10 h0 s1 s3 = some res) (hI : (x0 ≤ x.1 ∧ x.1 ≤ x0 + 149)) (hone : res = 1) :
    sx_G l room_1 (m_L_law nm) sx_El sx_Zl x L xs (121 + (x.1 - x0)) (5601 + 64 * (x.1 - x0)) 285 [some (.inr (.inr (some (9999, 0)))), some (.inr (.inr (some (0, 0)))), some (.inl v2), some (.inl v3), some (.inl v4), some (.inr (.inr (some (9998, k5)))), some (.inr (.inr (some (9998, k6)))), some (.inr (.inr (some (9998, k7)))), some (.inr (.inr (some (9998, k8)))), some (.inr (.inr (some (9998, k9)))), some (.inl v10), none, none] [.inl (3 : Int32), .inl s3, .inl (1 : Int32), .inl s1, .inr (.inr (some (9998, h0)))] d := by
  unfold q_L_law_285 at hq
  obtain ⟨y1, hr_y1, hq⟩ := sk_bnd hq
  refine sx_callBi (as := [.inl s3, .inl (3 : Int32)]) (st := [.inl (1 : Int32), .inl s1, .inr (.inr (some (9998, h0)))]) 288 (s_L_low hr_y1) (sk_td o_L_law 175 rfl) rfl ls_L_55 rfl (Nat.le_of_ble_eq_true rfl) hI rfl rfl hI.2 (Nat.le_of_ble_eq_true rfl) (Nat.le_of_ble_eq_true rfl) (Nat.le_of_ble_eq_true rfl) (Nat.le_of_ble_eq_true rfl) (fun hI => ?_)
  refine sg_iadd 289 (sk_td o_L_law 176 rfl) rfl ?_
  obtain ⟨hb2, hq⟩ := sk_ifn hq
  refine sx_st 290 (sk_td o_L_law 177 rfl) rfl hb2 ?_
  refine sg_iload 292 (sk_td o_L_law 178 rfl) rfl rfl ?_
  refine sg_iload_n 293 (sk_td o_L_law 179 rfl) rfl rfl ?_
  refine sg_ic_ge 332 296 (sk_td o_L_law 180 rfl) (by decide) rfl (fun hc => ?_) (fun hc => ?_)
  · rw [if_pos hc] at hq
    exact t_L_law_332 hrec224 hq hI hone
  · rw [if_neg hc] at hq
    refine sg_aload_n 297 (sk_td o_L_law 181 rfl) rfl rfl ?_
    refine sg_aload 299 (sk_td o_L_law 182 rfl) rfl rfl ?_
    refine sg_iconst (v := (3 : Int32)) 300 (sk_td o_L_law 183 rfl) rfl (by decide) ?_
    refine sg_iload 302 (sk_td o_L_law 184 rfl) rfl rfl ?_
    refine sg_imul 303 (sk_td o_L_law 185 rfl) rfl ?_
    exact t_L_law_303 hrec224 hq hI hone
def q_L_law_267 (rec224 : (sk_D × sk_X × Int32 × Int32 × Int32 × Nat × Nat × Nat × Nat × Nat × Int32) → Option (Int32)) (L : Nat) (xs : Nat → Int32) (x0 : Nat) (d : sk_D) (x : sk_X) (v2 : Int32) (v3 : Int32) (v4 : Int32) (k5 : Nat) (k6 : Nat) (k7 : Nat) (k8 : Nat) (k9 : Nat) (v10 : Int32) (v11 : Int32) (h0 : Nat) (s1 : Int32) (s2 : Int32) : Option (Int32) :=
  (q_L_low s2 (3 : Int32)).bind fun y1 => if xb x h0 s1 = true then (q_L_law_285 rec224 L xs x0 d (xw x h0 s1.toNatClampNeg y1) v2 v3 v4 k5 k6 k7 k8 k9 v10 k6 (((3 : Int32) * v10) + (2 : Int32)) (v11 >>> ((4 : Int32) &&& 31))) else none
set_option maxRecDepth 100000 in
set_option maxHeartbeats 4000000 in
theorem t_L_law_267 {l : Launch} {nm : String} {rec224 : (sk_D × sk_X × Int32 × Int32 × Int32 × Nat × Nat × Nat × Nat × Nat × Int32) → Option (Int32)} {L : Nat} {xs : Nat → Int32} {x0 : Nat} {d : sk_D} {x : sk_X} {v2 : Int32} {v3 : Int32} {v4 : Int32} {k5 : Nat} {k6 : Nat} {k7 : Nat} {k8 : Nat} {k9 : Nat} {v10 : Int32} {v11 : Int32} {h0 : Nat} {s1 : Int32} {s2 : Int32} (hrec224 : ∀ (a : (sk_D × sk_X × Int32 × Int32 × Int32 × Nat × Nat × Nat × Nat × Nat × Int32)) (res : Int32), rec224 a = some res → (x0 ≤ a.2.1.1 ∧ a.2.1.1 ≤ x0 + 149) → res = 1 → sx_G l room_1 (m_L_law nm) sx_El sx_Zl a.2.1 L xs (121 + (a.2.1.1 - x0)) (5601 + 64 * (a.2.1.1 - x0)) 224 [some (.inr (.inr (some (9999, 0)))), some (.inr (.inr (some (0, 0)))), some (.inl a.2.2.1), some (.inl a.2.2.2.1), some (.inl a.2.2.2.2.1), some (.inr (.inr (some (9998, a.2.2.2.2.2.1)))), some (.inr (.inr (some (9998, a.2.2.2.2.2.2.1)))), some (.inr (.inr (some (9998, a.2.2.2.2.2.2.2.1)))), some (.inr (.inr (some (9998, a.2.2.2.2.2.2.2.2.1)))), some (.inr (.inr (some (9998, a.2.2.2.2.2.2.2.2.2.1)))), some (.inl a.2.2.2.2.2.2.2.2.2.2), none, none] [] a.1) {res : Int32} (hq : q_L_law_267 rec224 L xs x0 d x v2 v3 v4 k5 k6 k7 k8 k9 v10 v11 h0 s1 s2 = some res) (hI : (x0 ≤ x.1 ∧ x.1 ≤ x0 + 149)) (hone : res = 1) :
    sx_G l room_1 (m_L_law nm) sx_El sx_Zl x L xs (121 + (x.1 - x0)) (5601 + 64 * (x.1 - x0)) 267 [some (.inr (.inr (some (9999, 0)))), some (.inr (.inr (some (0, 0)))), some (.inl v2), some (.inl v3), some (.inl v4), some (.inr (.inr (some (9998, k5)))), some (.inr (.inr (some (9998, k6)))), some (.inr (.inr (some (9998, k7)))), some (.inr (.inr (some (9998, k8)))), some (.inr (.inr (some (9998, k9)))), some (.inl v10), some (.inl v11), none] [.inl (3 : Int32), .inl s2, .inl s1, .inr (.inr (some (9998, h0)))] d := by
  unfold q_L_law_267 at hq
  obtain ⟨y1, hr_y1, hq⟩ := sk_bnd hq
  refine sx_callBi (as := [.inl s2, .inl (3 : Int32)]) (st := [.inl s1, .inr (.inr (some (9998, h0)))]) 270 (s_L_low hr_y1) (sk_td o_L_law 162 rfl) rfl ls_L_55 rfl (Nat.le_of_ble_eq_true rfl) hI rfl rfl hI.2 (Nat.le_of_ble_eq_true rfl) (Nat.le_of_ble_eq_true rfl) (Nat.le_of_ble_eq_true rfl) (Nat.le_of_ble_eq_true rfl) (fun hI => ?_)
  obtain ⟨hb2, hq⟩ := sk_ifn hq
  refine sx_st 271 (sk_td o_L_law 163 rfl) rfl hb2 ?_
  refine sg_aload 273 (sk_td o_L_law 164 rfl) rfl rfl ?_
  refine sg_iconst (v := (3 : Int32)) 274 (sk_td o_L_law 165 rfl) rfl (by decide) ?_
  refine sg_iload 276 (sk_td o_L_law 166 rfl) rfl rfl ?_
  refine sg_imul 277 (sk_td o_L_law 167 rfl) rfl ?_
  refine sg_iconst (v := (2 : Int32)) 278 (sk_td o_L_law 168 rfl) rfl (by decide) ?_
  refine sg_iadd 279 (sk_td o_L_law 169 rfl) rfl ?_
  refine sg_iconst (v := (1 : Int32)) 280 (sk_td o_L_law 170 rfl) rfl (by decide) ?_
  refine sg_iload 282 (sk_td o_L_law 171 rfl) rfl rfl ?_
  refine sg_iconst (v := (4 : Int32)) 283 (sk_td o_L_law 172 rfl) rfl (by decide) ?_
  refine sg_ishr 284 (sk_td o_L_law 173 rfl) rfl ?_
  refine sg_iconst (v := (3 : Int32)) 285 (sk_td o_L_law 174 rfl) rfl (by decide) ?_
  refine sx_wk [true, true, true, true, true, true, true, true, true, true, true, false, true] (ls' := [some (.inr (.inr (some (9999, 0)))), some (.inr (.inr (some (0, 0)))), some (.inl v2), some (.inl v3), some (.inl v4), some (.inr (.inr (some (9998, k5)))), some (.inr (.inr (some (9998, k6)))), some (.inr (.inr (some (9998, k7)))), some (.inr (.inr (some (9998, k8)))), some (.inr (.inr (some (9998, k9)))), some (.inl v10), none, none]) rfl ?_
  exact t_L_law_285 hrec224 hq hI hone
def q_L_law_224 (rec224 : (sk_D × sk_X × Int32 × Int32 × Int32 × Nat × Nat × Nat × Nat × Nat × Int32) → Option (Int32)) (L : Nat) (xs : Nat → Int32) (x0 : Nat) (d : sk_D) (x : sk_X) (v2 : Int32) (v3 : Int32) (v4 : Int32) (k5 : Nat) (k6 : Nat) (k7 : Nat) (k8 : Nat) (k9 : Nat) (v10 : Int32) : Option (Int32) :=
  if v3 < v10 then (l_L_law_341 L xs x0 sk_fu (d, x, v2, v3, v4, k5, k6, k7, k8, k9, (0 : Int32))) else (q_L_cell L xs ((10 : Int32) + v10)).bind fun y1 => (q_L_low y1 (4 : Int32)).bind fun y2 => if xb x k6 ((3 : Int32) * v10) = true then (q_L_law_267 rec224 L xs x0 d (xw x k6 ((3 : Int32) * v10).toNatClampNeg y2) v2 v3 v4 k5 k6 k7 k8 k9 v10 y1 k6 (((3 : Int32) * v10) + (1 : Int32)) (y1 >>> ((2 : Int32) &&& 31))) else none
set_option maxRecDepth 100000 in
set_option maxHeartbeats 4000000 in
theorem t_L_law_224 {l : Launch} {nm : String} {rec224 : (sk_D × sk_X × Int32 × Int32 × Int32 × Nat × Nat × Nat × Nat × Nat × Int32) → Option (Int32)} {L : Nat} {xs : Nat → Int32} {x0 : Nat} {d : sk_D} {x : sk_X} {v2 : Int32} {v3 : Int32} {v4 : Int32} {k5 : Nat} {k6 : Nat} {k7 : Nat} {k8 : Nat} {k9 : Nat} {v10 : Int32} (hrec224 : ∀ (a : (sk_D × sk_X × Int32 × Int32 × Int32 × Nat × Nat × Nat × Nat × Nat × Int32)) (res : Int32), rec224 a = some res → (x0 ≤ a.2.1.1 ∧ a.2.1.1 ≤ x0 + 149) → res = 1 → sx_G l room_1 (m_L_law nm) sx_El sx_Zl a.2.1 L xs (121 + (a.2.1.1 - x0)) (5601 + 64 * (a.2.1.1 - x0)) 224 [some (.inr (.inr (some (9999, 0)))), some (.inr (.inr (some (0, 0)))), some (.inl a.2.2.1), some (.inl a.2.2.2.1), some (.inl a.2.2.2.2.1), some (.inr (.inr (some (9998, a.2.2.2.2.2.1)))), some (.inr (.inr (some (9998, a.2.2.2.2.2.2.1)))), some (.inr (.inr (some (9998, a.2.2.2.2.2.2.2.1)))), some (.inr (.inr (some (9998, a.2.2.2.2.2.2.2.2.1)))), some (.inr (.inr (some (9998, a.2.2.2.2.2.2.2.2.2.1)))), some (.inl a.2.2.2.2.2.2.2.2.2.2), none, none] [] a.1) {res : Int32} (hq : q_L_law_224 rec224 L xs x0 d x v2 v3 v4 k5 k6 k7 k8 k9 v10 = some res) (hI : (x0 ≤ x.1 ∧ x.1 ≤ x0 + 149)) (hone : res = 1) :
    sx_G l room_1 (m_L_law nm) sx_El sx_Zl x L xs (121 + (x.1 - x0)) (5601 + 64 * (x.1 - x0)) 224 [some (.inr (.inr (some (9999, 0)))), some (.inr (.inr (some (0, 0)))), some (.inl v2), some (.inl v3), some (.inl v4), some (.inr (.inr (some (9998, k5)))), some (.inr (.inr (some (9998, k6)))), some (.inr (.inr (some (9998, k7)))), some (.inr (.inr (some (9998, k8)))), some (.inr (.inr (some (9998, k9)))), some (.inl v10), none, none] [] d := by
  unfold q_L_law_224 at hq
  refine sg_iload 226 (sk_td o_L_law 135 rfl) rfl rfl ?_
  refine sg_iload_n 227 (sk_td o_L_law 136 rfl) rfl rfl ?_
  refine sg_ic_gt 338 230 (sk_td o_L_law 137 rfl) (by decide) rfl (fun hc => ?_) (fun hc => ?_)
  · rw [if_pos hc] at hq
    refine sg_iconst (v := (0 : Int32)) 339 (sk_td o_L_law 208 rfl) rfl (by decide) ?_
    refine sg_istore 341 [some (.inr (.inr (some (9999, 0)))), some (.inr (.inr (some (0, 0)))), some (.inl v2), some (.inl v3), some (.inl v4), some (.inr (.inr (some (9998, k5)))), some (.inr (.inr (some (9998, k6)))), some (.inr (.inr (some (9998, k7)))), some (.inr (.inr (some (9998, k8)))), some (.inr (.inr (some (9998, k9)))), some (.inl (0 : Int32)), none, none] (sk_td o_L_law 209 rfl) rfl rfl (Nat.le_of_ble_eq_true rfl) rfl ?_
    exact lt_L_law_341 sk_fu (d, x, v2, v3, v4, k5, k6, k7, k8, k9, (0 : Int32)) _ hq hI hone
  · rw [if_neg hc] at hq
    refine sg_aload_n 231 (sk_td o_L_law 138 rfl) rfl rfl ?_
    refine sg_bipush (v := (10 : Int32)) 233 (sk_td o_L_law 139 rfl) rfl (by decide) ?_
    refine sg_iload 235 (sk_td o_L_law 140 rfl) rfl rfl ?_
    refine sg_iadd 236 (sk_td o_L_law 141 rfl) rfl ?_
    obtain ⟨y1, hr_y1, hq⟩ := sk_bnd hq
    refine sx_callBi (as := [.inr (.inr (some (9999, 0))), .inl ((10 : Int32) + v10)]) (st := []) 239 (s_L_cell hr_y1) (sk_td o_L_law 142 rfl) rfl ls_L_51 rfl (Nat.le_of_ble_eq_true rfl) hI rfl rfl hI.2 (Nat.le_of_ble_eq_true rfl) (Nat.le_of_ble_eq_true rfl) (Nat.le_of_ble_eq_true rfl) (Nat.le_of_ble_eq_true rfl) (fun hI => ?_)
    refine sg_istore 241 [some (.inr (.inr (some (9999, 0)))), some (.inr (.inr (some (0, 0)))), some (.inl v2), some (.inl v3), some (.inl v4), some (.inr (.inr (some (9998, k5)))), some (.inr (.inr (some (9998, k6)))), some (.inr (.inr (some (9998, k7)))), some (.inr (.inr (some (9998, k8)))), some (.inr (.inr (some (9998, k9)))), some (.inl v10), some (.inl y1), none] (sk_td o_L_law 143 rfl) rfl rfl (Nat.le_of_ble_eq_true rfl) rfl ?_
    refine sg_aload 243 (sk_td o_L_law 144 rfl) rfl rfl ?_
    refine sg_iconst (v := (3 : Int32)) 244 (sk_td o_L_law 145 rfl) rfl (by decide) ?_
    refine sg_iload 246 (sk_td o_L_law 146 rfl) rfl rfl ?_
    refine sg_imul 247 (sk_td o_L_law 147 rfl) rfl ?_
    refine sg_iload 249 (sk_td o_L_law 148 rfl) rfl rfl ?_
    refine sg_iconst (v := (4 : Int32)) 250 (sk_td o_L_law 149 rfl) rfl (by decide) ?_
    obtain ⟨y2, hr_y2, hq⟩ := sk_bnd hq
    refine sx_callBi (as := [.inl y1, .inl (4 : Int32)]) (st := [.inl ((3 : Int32) * v10), .inr (.inr (some (9998, k6)))]) 253 (s_L_low hr_y2) (sk_td o_L_law 150 rfl) rfl ls_L_55 rfl (Nat.le_of_ble_eq_true rfl) hI rfl rfl hI.2 (Nat.le_of_ble_eq_true rfl) (Nat.le_of_ble_eq_true rfl) (Nat.le_of_ble_eq_true rfl) (Nat.le_of_ble_eq_true rfl) (fun hI => ?_)
    obtain ⟨hb3, hq⟩ := sk_ifn hq
    refine sx_st 254 (sk_td o_L_law 151 rfl) rfl hb3 ?_
    refine sg_aload 256 (sk_td o_L_law 152 rfl) rfl rfl ?_
    refine sg_iconst (v := (3 : Int32)) 257 (sk_td o_L_law 153 rfl) rfl (by decide) ?_
    refine sg_iload 259 (sk_td o_L_law 154 rfl) rfl rfl ?_
    refine sg_imul 260 (sk_td o_L_law 155 rfl) rfl ?_
    refine sg_iconst (v := (1 : Int32)) 261 (sk_td o_L_law 156 rfl) rfl (by decide) ?_
    refine sg_iadd 262 (sk_td o_L_law 157 rfl) rfl ?_
    refine sg_iload 264 (sk_td o_L_law 158 rfl) rfl rfl ?_
    refine sg_iconst (v := (2 : Int32)) 265 (sk_td o_L_law 159 rfl) rfl (by decide) ?_
    refine sg_ishr 266 (sk_td o_L_law 160 rfl) rfl ?_
    refine sg_iconst (v := (3 : Int32)) 267 (sk_td o_L_law 161 rfl) rfl (by decide) ?_
    exact t_L_law_267 hrec224 hq hI hone
def l_L_law_224 (L : Nat) (xs : Nat → Int32) (x0 : Nat) (fl : Nat) (a : (sk_D × sk_X × Int32 × Int32 × Int32 × Nat × Nat × Nat × Nat × Nat × Int32)) : Option (Int32) := sk_it (fun rec224 a => q_L_law_224 rec224 L xs x0 a.1 a.2.1 a.2.2.1 a.2.2.2.1 a.2.2.2.2.1 a.2.2.2.2.2.1 a.2.2.2.2.2.2.1 a.2.2.2.2.2.2.2.1 a.2.2.2.2.2.2.2.2.1 a.2.2.2.2.2.2.2.2.2.1 a.2.2.2.2.2.2.2.2.2.2) fl a
theorem lt_L_law_224 {l : Launch} {nm : String} {L : Nat} {xs : Nat → Int32} {x0 : Nat} : ∀ (fl : Nat) (a : (sk_D × sk_X × Int32 × Int32 × Int32 × Nat × Nat × Nat × Nat × Nat × Int32)) (res : Int32), l_L_law_224 L xs x0 fl a = some res → (x0 ≤ a.2.1.1 ∧ a.2.1.1 ≤ x0 + 149) → res = 1 → sx_G l room_1 (m_L_law nm) sx_El sx_Zl a.2.1 L xs (121 + (a.2.1.1 - x0)) (5601 + 64 * (a.2.1.1 - x0)) 224 [some (.inr (.inr (some (9999, 0)))), some (.inr (.inr (some (0, 0)))), some (.inl a.2.2.1), some (.inl a.2.2.2.1), some (.inl a.2.2.2.2.1), some (.inr (.inr (some (9998, a.2.2.2.2.2.1)))), some (.inr (.inr (some (9998, a.2.2.2.2.2.2.1)))), some (.inr (.inr (some (9998, a.2.2.2.2.2.2.2.1)))), some (.inr (.inr (some (9998, a.2.2.2.2.2.2.2.2.1)))), some (.inr (.inr (some (9998, a.2.2.2.2.2.2.2.2.2.1)))), some (.inl a.2.2.2.2.2.2.2.2.2.2), none, none] [] a.1 :=
  sk_it_ind (P := fun (a : (sk_D × sk_X × Int32 × Int32 × Int32 × Nat × Nat × Nat × Nat × Nat × Int32)) (res : Int32) => (x0 ≤ a.2.1.1 ∧ a.2.1.1 ≤ x0 + 149) → res = 1 → sx_G l room_1 (m_L_law nm) sx_El sx_Zl a.2.1 L xs (121 + (a.2.1.1 - x0)) (5601 + 64 * (a.2.1.1 - x0)) 224 [some (.inr (.inr (some (9999, 0)))), some (.inr (.inr (some (0, 0)))), some (.inl a.2.2.1), some (.inl a.2.2.2.1), some (.inl a.2.2.2.2.1), some (.inr (.inr (some (9998, a.2.2.2.2.2.1)))), some (.inr (.inr (some (9998, a.2.2.2.2.2.2.1)))), some (.inr (.inr (some (9998, a.2.2.2.2.2.2.2.1)))), some (.inr (.inr (some (9998, a.2.2.2.2.2.2.2.2.1)))), some (.inr (.inr (some (9998, a.2.2.2.2.2.2.2.2.2.1)))), some (.inl a.2.2.2.2.2.2.2.2.2.2), none, none] [] a.1) (fun rec224 hrec224 a res hq hI hone => t_L_law_224 hrec224 hq hI hone)
def q_L_law_205 (rec77 : (sk_D × sk_X × Int32 × Int32 × Int32 × Nat × Nat × Nat × Nat × Nat × Int32) → Option (Int32)) (L : Nat) (xs : Nat → Int32) (x0 : Nat) (d : sk_D) (x : sk_X) (v2 : Int32) (v3 : Int32) (v4 : Int32) (k5 : Nat) (k6 : Nat) (k7 : Nat) (k8 : Nat) (k9 : Nat) (v10 : Int32) (s1 : Int32) (s2 : Int32) (s3 : Int32) : Option (Int32) :=
  (q_X8_addPupil d s1 s2 s3).bind fun y1 => if y1.1 = v10 then (rec77 (y1.2, x, v2, v3, v4, k5, k6, k7, k8, k9, (v10 + (1 : Int32)))) else some (0 : Int32)
set_option maxRecDepth 100000 in
set_option maxHeartbeats 4000000 in
theorem t_L_law_205 {l : Launch} {nm : String} {rec77 : (sk_D × sk_X × Int32 × Int32 × Int32 × Nat × Nat × Nat × Nat × Nat × Int32) → Option (Int32)} {L : Nat} {xs : Nat → Int32} {x0 : Nat} {d : sk_D} {x : sk_X} {v2 : Int32} {v3 : Int32} {v4 : Int32} {k5 : Nat} {k6 : Nat} {k7 : Nat} {k8 : Nat} {k9 : Nat} {v10 : Int32} {s1 : Int32} {s2 : Int32} {s3 : Int32} (hrec77 : ∀ (a : (sk_D × sk_X × Int32 × Int32 × Int32 × Nat × Nat × Nat × Nat × Nat × Int32)) (res : Int32), rec77 a = some res → (x0 ≤ a.2.1.1 ∧ a.2.1.1 ≤ x0 + 149) → res = 1 → sx_G l room_1 (m_L_law nm) sx_El sx_Zl a.2.1 L xs (121 + (a.2.1.1 - x0)) (5601 + 64 * (a.2.1.1 - x0)) 77 [some (.inr (.inr (some (9999, 0)))), some (.inr (.inr (some (0, 0)))), some (.inl a.2.2.1), some (.inl a.2.2.2.1), some (.inl a.2.2.2.2.1), some (.inr (.inr (some (9998, a.2.2.2.2.2.1)))), some (.inr (.inr (some (9998, a.2.2.2.2.2.2.1)))), some (.inr (.inr (some (9998, a.2.2.2.2.2.2.2.1)))), some (.inr (.inr (some (9998, a.2.2.2.2.2.2.2.2.1)))), some (.inr (.inr (some (9998, a.2.2.2.2.2.2.2.2.2.1)))), some (.inl a.2.2.2.2.2.2.2.2.2.2), none, none] [] a.1) {res : Int32} (hq : q_L_law_205 rec77 L xs x0 d x v2 v3 v4 k5 k6 k7 k8 k9 v10 s1 s2 s3 = some res) (hI : (x0 ≤ x.1 ∧ x.1 ≤ x0 + 149)) (hone : res = 1) :
    sx_G l room_1 (m_L_law nm) sx_El sx_Zl x L xs (121 + (x.1 - x0)) (5601 + 64 * (x.1 - x0)) 205 [some (.inr (.inr (some (9999, 0)))), some (.inr (.inr (some (0, 0)))), some (.inl v2), some (.inl v3), some (.inl v4), some (.inr (.inr (some (9998, k5)))), some (.inr (.inr (some (9998, k6)))), some (.inr (.inr (some (9998, k7)))), some (.inr (.inr (some (9998, k8)))), some (.inr (.inr (some (9998, k9)))), some (.inl v10), none, none] [.inl s3, .inl s2, .inl s1, .inr (.inr (some (0, 0)))] d := by
  unfold q_L_law_205 at hq
  obtain ⟨y1, hr_y1, hq⟩ := sk_bnd hq
  refine sm_callL3i 208 (s_X8_addPupil hr_y1) (sk_td o_L_law 126 rfl) rfl lv_L_100 rfl rfl rfl sz_0 (sx_rk hI (Nat.le_of_ble_eq_true rfl) (Nat.le_of_ble_eq_true rfl) (Nat.le_of_ble_eq_true rfl) (Nat.le_of_ble_eq_true rfl) rfl) (Nat.le_of_ble_eq_true rfl) ?_
  refine sg_iload 210 (sk_td o_L_law 127 rfl) rfl rfl ?_
  refine sg_ic_eq 215 213 (sk_td o_L_law 128 rfl) (by decide) rfl (fun hc => ?_) (fun hc => ?_)
  · rw [if_pos hc] at hq
    refine sg_iinc (v10 + (1 : Int32)) 218 [some (.inr (.inr (some (9999, 0)))), some (.inr (.inr (some (0, 0)))), some (.inl v2), some (.inl v3), some (.inl v4), some (.inr (.inr (some (9998, k5)))), some (.inr (.inr (some (9998, k6)))), some (.inr (.inr (some (9998, k7)))), some (.inr (.inr (some (9998, k8)))), some (.inr (.inr (some (9998, k9)))), some (.inl (v10 + (1 : Int32))), none, none] (sk_td o_L_law 131 rfl) rfl rfl rfl rfl (Nat.le_of_ble_eq_true rfl) rfl ?_
    refine sg_goto 77 (sk_td o_L_law 132 rfl) (by decide) ?_
    exact hrec77 (y1.2, x, v2, v3, v4, k5, k6, k7, k8, k9, (v10 + (1 : Int32))) _ hq hI hone
  · rw [if_neg hc] at hq
    refine sg_iconst (v := (0 : Int32)) 214 (sk_td o_L_law 129 rfl) rfl (by decide) ?_
    obtain rfl := Option.some.inj hq
    exact law_end hI hone (sk_td o_L_law 130 rfl)
def q_L_law_167 (rec77 : (sk_D × sk_X × Int32 × Int32 × Int32 × Nat × Nat × Nat × Nat × Nat × Int32) → Option (Int32)) (L : Nat) (xs : Nat → Int32) (x0 : Nat) (d : sk_D) (x : sk_X) (v2 : Int32) (v3 : Int32) (v4 : Int32) (k5 : Nat) (k6 : Nat) (k7 : Nat) (k8 : Nat) (k9 : Nat) (v10 : Int32) (h1 : Nat) (s2 : Int32) : Option (Int32) :=
  if xb x h1 s2 = true then if xb x k5 (((3 : Int32) * v10) + (1 : Int32)) = true then if xb x k5 (((3 : Int32) * v10) + (2 : Int32)) = true then if (x.2.2 k5 (((3 : Int32) * v10) + (2 : Int32)).toNatClampNeg) = (8 : Int32) then (q_L_law_205 rec77 L xs x0 d x v2 v3 v4 k5 k6 k7 k8 k9 v10 (x.2.2 h1 s2.toNatClampNeg) (x.2.2 k5 (((3 : Int32) * v10) + (1 : Int32)).toNatClampNeg) (-9 : Int32)) else if xb x k5 (((3 : Int32) * v10) + (2 : Int32)) = true then (q_L_law_205 rec77 L xs x0 d x v2 v3 v4 k5 k6 k7 k8 k9 v10 (x.2.2 h1 s2.toNatClampNeg) (x.2.2 k5 (((3 : Int32) * v10) + (1 : Int32)).toNatClampNeg) (x.2.2 k5 (((3 : Int32) * v10) + (2 : Int32)).toNatClampNeg)) else none else none else none else none
set_option maxRecDepth 100000 in
set_option maxHeartbeats 4000000 in
theorem t_L_law_167 {l : Launch} {nm : String} {rec77 : (sk_D × sk_X × Int32 × Int32 × Int32 × Nat × Nat × Nat × Nat × Nat × Int32) → Option (Int32)} {L : Nat} {xs : Nat → Int32} {x0 : Nat} {d : sk_D} {x : sk_X} {v2 : Int32} {v3 : Int32} {v4 : Int32} {k5 : Nat} {k6 : Nat} {k7 : Nat} {k8 : Nat} {k9 : Nat} {v10 : Int32} {h1 : Nat} {s2 : Int32} (hrec77 : ∀ (a : (sk_D × sk_X × Int32 × Int32 × Int32 × Nat × Nat × Nat × Nat × Nat × Int32)) (res : Int32), rec77 a = some res → (x0 ≤ a.2.1.1 ∧ a.2.1.1 ≤ x0 + 149) → res = 1 → sx_G l room_1 (m_L_law nm) sx_El sx_Zl a.2.1 L xs (121 + (a.2.1.1 - x0)) (5601 + 64 * (a.2.1.1 - x0)) 77 [some (.inr (.inr (some (9999, 0)))), some (.inr (.inr (some (0, 0)))), some (.inl a.2.2.1), some (.inl a.2.2.2.1), some (.inl a.2.2.2.2.1), some (.inr (.inr (some (9998, a.2.2.2.2.2.1)))), some (.inr (.inr (some (9998, a.2.2.2.2.2.2.1)))), some (.inr (.inr (some (9998, a.2.2.2.2.2.2.2.1)))), some (.inr (.inr (some (9998, a.2.2.2.2.2.2.2.2.1)))), some (.inr (.inr (some (9998, a.2.2.2.2.2.2.2.2.2.1)))), some (.inl a.2.2.2.2.2.2.2.2.2.2), none, none] [] a.1) {res : Int32} (hq : q_L_law_167 rec77 L xs x0 d x v2 v3 v4 k5 k6 k7 k8 k9 v10 h1 s2 = some res) (hI : (x0 ≤ x.1 ∧ x.1 ≤ x0 + 149)) (hone : res = 1) :
    sx_G l room_1 (m_L_law nm) sx_El sx_Zl x L xs (121 + (x.1 - x0)) (5601 + 64 * (x.1 - x0)) 167 [some (.inr (.inr (some (9999, 0)))), some (.inr (.inr (some (0, 0)))), some (.inl v2), some (.inl v3), some (.inl v4), some (.inr (.inr (some (9998, k5)))), some (.inr (.inr (some (9998, k6)))), some (.inr (.inr (some (9998, k7)))), some (.inr (.inr (some (9998, k8)))), some (.inr (.inr (some (9998, k9)))), some (.inl v10), none, none] [.inl s2, .inr (.inr (some (9998, h1))), .inr (.inr (some (0, 0)))] d := by
  unfold q_L_law_167 at hq
  obtain ⟨hb1, hq⟩ := sk_ifn hq
  refine sx_ld 168 (sk_td o_L_law 100 rfl) rfl hb1 ?_
  refine sg_aload 170 (sk_td o_L_law 101 rfl) rfl rfl ?_
  refine sg_iconst (v := (3 : Int32)) 171 (sk_td o_L_law 102 rfl) rfl (by decide) ?_
  refine sg_iload 173 (sk_td o_L_law 103 rfl) rfl rfl ?_
  refine sg_imul 174 (sk_td o_L_law 104 rfl) rfl ?_
  refine sg_iconst (v := (1 : Int32)) 175 (sk_td o_L_law 105 rfl) rfl (by decide) ?_
  refine sg_iadd 176 (sk_td o_L_law 106 rfl) rfl ?_
  obtain ⟨hb2, hq⟩ := sk_ifn hq
  refine sx_ld 177 (sk_td o_L_law 107 rfl) rfl hb2 ?_
  refine sg_aload 179 (sk_td o_L_law 108 rfl) rfl rfl ?_
  refine sg_iconst (v := (3 : Int32)) 180 (sk_td o_L_law 109 rfl) rfl (by decide) ?_
  refine sg_iload 182 (sk_td o_L_law 110 rfl) rfl rfl ?_
  refine sg_imul 183 (sk_td o_L_law 111 rfl) rfl ?_
  refine sg_iconst (v := (2 : Int32)) 184 (sk_td o_L_law 112 rfl) rfl (by decide) ?_
  refine sg_iadd 185 (sk_td o_L_law 113 rfl) rfl ?_
  obtain ⟨hb3, hq⟩ := sk_ifn hq
  refine sx_ld 186 (sk_td o_L_law 114 rfl) rfl hb3 ?_
  refine sg_bipush (v := (8 : Int32)) 188 (sk_td o_L_law 115 rfl) rfl (by decide) ?_
  refine sg_ic_ne 196 191 (sk_td o_L_law 116 rfl) (by decide) rfl (fun hc => ?_) (fun hc => ?_)
  · rw [if_neg hc] at hq
    refine sg_aload 198 (sk_td o_L_law 119 rfl) rfl rfl ?_
    refine sg_iconst (v := (3 : Int32)) 199 (sk_td o_L_law 120 rfl) rfl (by decide) ?_
    refine sg_iload 201 (sk_td o_L_law 121 rfl) rfl rfl ?_
    refine sg_imul 202 (sk_td o_L_law 122 rfl) rfl ?_
    refine sg_iconst (v := (2 : Int32)) 203 (sk_td o_L_law 123 rfl) rfl (by decide) ?_
    refine sg_iadd 204 (sk_td o_L_law 124 rfl) rfl ?_
    obtain ⟨hb4, hq⟩ := sk_ifn hq
    refine sx_ld 205 (sk_td o_L_law 125 rfl) rfl hb4 ?_
    exact t_L_law_205 hrec77 hq hI hone
  · rw [if_pos hc] at hq
    refine sg_bipush (v := (-9 : Int32)) 193 (sk_td o_L_law 117 rfl) rfl (by decide) ?_
    refine sg_goto 205 (sk_td o_L_law 118 rfl) (by decide) ?_
    exact t_L_law_205 hrec77 hq hI hone
def q_L_law_159 (rec77 : (sk_D × sk_X × Int32 × Int32 × Int32 × Nat × Nat × Nat × Nat × Nat × Int32) → Option (Int32)) (L : Nat) (xs : Nat → Int32) (x0 : Nat) (d : sk_D) (x : sk_X) (v2 : Int32) (v3 : Int32) (v4 : Int32) (k5 : Nat) (k6 : Nat) (k7 : Nat) (k8 : Nat) (k9 : Nat) (v10 : Int32) (h0 : Nat) (s1 : Int32) (s2 : Int32) : Option (Int32) :=
  if xb x h0 s1 = true then (q_L_law_167 rec77 L xs x0 d (xw x h0 s1.toNatClampNeg s2) v2 v3 v4 k5 k6 k7 k8 k9 v10 k5 ((3 : Int32) * v10)) else none
set_option maxRecDepth 100000 in
set_option maxHeartbeats 4000000 in
theorem t_L_law_159 {l : Launch} {nm : String} {rec77 : (sk_D × sk_X × Int32 × Int32 × Int32 × Nat × Nat × Nat × Nat × Nat × Int32) → Option (Int32)} {L : Nat} {xs : Nat → Int32} {x0 : Nat} {d : sk_D} {x : sk_X} {v2 : Int32} {v3 : Int32} {v4 : Int32} {k5 : Nat} {k6 : Nat} {k7 : Nat} {k8 : Nat} {k9 : Nat} {v10 : Int32} {h0 : Nat} {s1 : Int32} {s2 : Int32} (hrec77 : ∀ (a : (sk_D × sk_X × Int32 × Int32 × Int32 × Nat × Nat × Nat × Nat × Nat × Int32)) (res : Int32), rec77 a = some res → (x0 ≤ a.2.1.1 ∧ a.2.1.1 ≤ x0 + 149) → res = 1 → sx_G l room_1 (m_L_law nm) sx_El sx_Zl a.2.1 L xs (121 + (a.2.1.1 - x0)) (5601 + 64 * (a.2.1.1 - x0)) 77 [some (.inr (.inr (some (9999, 0)))), some (.inr (.inr (some (0, 0)))), some (.inl a.2.2.1), some (.inl a.2.2.2.1), some (.inl a.2.2.2.2.1), some (.inr (.inr (some (9998, a.2.2.2.2.2.1)))), some (.inr (.inr (some (9998, a.2.2.2.2.2.2.1)))), some (.inr (.inr (some (9998, a.2.2.2.2.2.2.2.1)))), some (.inr (.inr (some (9998, a.2.2.2.2.2.2.2.2.1)))), some (.inr (.inr (some (9998, a.2.2.2.2.2.2.2.2.2.1)))), some (.inl a.2.2.2.2.2.2.2.2.2.2), none, none] [] a.1) {res : Int32} (hq : q_L_law_159 rec77 L xs x0 d x v2 v3 v4 k5 k6 k7 k8 k9 v10 h0 s1 s2 = some res) (hI : (x0 ≤ x.1 ∧ x.1 ≤ x0 + 149)) (hone : res = 1) :
    sx_G l room_1 (m_L_law nm) sx_El sx_Zl x L xs (121 + (x.1 - x0)) (5601 + 64 * (x.1 - x0)) 159 [some (.inr (.inr (some (9999, 0)))), some (.inr (.inr (some (0, 0)))), some (.inl v2), some (.inl v3), some (.inl v4), some (.inr (.inr (some (9998, k5)))), some (.inr (.inr (some (9998, k6)))), some (.inr (.inr (some (9998, k7)))), some (.inr (.inr (some (9998, k8)))), some (.inr (.inr (some (9998, k9)))), some (.inl v10), none, none] [.inl s2, .inl s1, .inr (.inr (some (9998, h0)))] d := by
  unfold q_L_law_159 at hq
  obtain ⟨hb1, hq⟩ := sk_ifn hq
  refine sx_st 160 (sk_td o_L_law 94 rfl) rfl hb1 ?_
  refine sg_aload_n 161 (sk_td o_L_law 95 rfl) rfl rfl ?_
  refine sg_aload 163 (sk_td o_L_law 96 rfl) rfl rfl ?_
  refine sg_iconst (v := (3 : Int32)) 164 (sk_td o_L_law 97 rfl) rfl (by decide) ?_
  refine sg_iload 166 (sk_td o_L_law 98 rfl) rfl rfl ?_
  refine sg_imul 167 (sk_td o_L_law 99 rfl) rfl ?_
  exact t_L_law_167 hrec77 hq hI hone
def q_L_law_139 (rec77 : (sk_D × sk_X × Int32 × Int32 × Int32 × Nat × Nat × Nat × Nat × Nat × Int32) → Option (Int32)) (L : Nat) (xs : Nat → Int32) (x0 : Nat) (d : sk_D) (x : sk_X) (v2 : Int32) (v3 : Int32) (v4 : Int32) (k5 : Nat) (k6 : Nat) (k7 : Nat) (k8 : Nat) (k9 : Nat) (v10 : Int32) (v11 : Int32) (h0 : Nat) (s1 : Int32) (s2 : Int32) : Option (Int32) :=
  (q_L_low s2 (4 : Int32)).bind fun y1 => if (2 : Int32) ≤ y1 then (q_L_law_159 rec77 L xs x0 d x v2 v3 v4 k5 k6 k7 k8 k9 v10 h0 s1 (8 : Int32)) else (q_L_low (v11 >>> ((5 : Int32) &&& 31)) (4 : Int32)).bind fun y2 => (q_L_law_159 rec77 L xs x0 d x v2 v3 v4 k5 k6 k7 k8 k9 v10 h0 s1 y2)
set_option maxRecDepth 100000 in
set_option maxHeartbeats 4000000 in
theorem t_L_law_139 {l : Launch} {nm : String} {rec77 : (sk_D × sk_X × Int32 × Int32 × Int32 × Nat × Nat × Nat × Nat × Nat × Int32) → Option (Int32)} {L : Nat} {xs : Nat → Int32} {x0 : Nat} {d : sk_D} {x : sk_X} {v2 : Int32} {v3 : Int32} {v4 : Int32} {k5 : Nat} {k6 : Nat} {k7 : Nat} {k8 : Nat} {k9 : Nat} {v10 : Int32} {v11 : Int32} {h0 : Nat} {s1 : Int32} {s2 : Int32} (hrec77 : ∀ (a : (sk_D × sk_X × Int32 × Int32 × Int32 × Nat × Nat × Nat × Nat × Nat × Int32)) (res : Int32), rec77 a = some res → (x0 ≤ a.2.1.1 ∧ a.2.1.1 ≤ x0 + 149) → res = 1 → sx_G l room_1 (m_L_law nm) sx_El sx_Zl a.2.1 L xs (121 + (a.2.1.1 - x0)) (5601 + 64 * (a.2.1.1 - x0)) 77 [some (.inr (.inr (some (9999, 0)))), some (.inr (.inr (some (0, 0)))), some (.inl a.2.2.1), some (.inl a.2.2.2.1), some (.inl a.2.2.2.2.1), some (.inr (.inr (some (9998, a.2.2.2.2.2.1)))), some (.inr (.inr (some (9998, a.2.2.2.2.2.2.1)))), some (.inr (.inr (some (9998, a.2.2.2.2.2.2.2.1)))), some (.inr (.inr (some (9998, a.2.2.2.2.2.2.2.2.1)))), some (.inr (.inr (some (9998, a.2.2.2.2.2.2.2.2.2.1)))), some (.inl a.2.2.2.2.2.2.2.2.2.2), none, none] [] a.1) {res : Int32} (hq : q_L_law_139 rec77 L xs x0 d x v2 v3 v4 k5 k6 k7 k8 k9 v10 v11 h0 s1 s2 = some res) (hI : (x0 ≤ x.1 ∧ x.1 ≤ x0 + 149)) (hone : res = 1) :
    sx_G l room_1 (m_L_law nm) sx_El sx_Zl x L xs (121 + (x.1 - x0)) (5601 + 64 * (x.1 - x0)) 139 [some (.inr (.inr (some (9999, 0)))), some (.inr (.inr (some (0, 0)))), some (.inl v2), some (.inl v3), some (.inl v4), some (.inr (.inr (some (9998, k5)))), some (.inr (.inr (some (9998, k6)))), some (.inr (.inr (some (9998, k7)))), some (.inr (.inr (some (9998, k8)))), some (.inr (.inr (some (9998, k9)))), some (.inl v10), some (.inl v11), none] [.inl (4 : Int32), .inl s2, .inl s1, .inr (.inr (some (9998, h0)))] d := by
  unfold q_L_law_139 at hq
  obtain ⟨y1, hr_y1, hq⟩ := sk_bnd hq
  refine sx_callBi (as := [.inl s2, .inl (4 : Int32)]) (st := [.inl s1, .inr (.inr (some (9998, h0)))]) 142 (s_L_low hr_y1) (sk_td o_L_law 84 rfl) rfl ls_L_55 rfl (Nat.le_of_ble_eq_true rfl) hI rfl rfl hI.2 (Nat.le_of_ble_eq_true rfl) (Nat.le_of_ble_eq_true rfl) (Nat.le_of_ble_eq_true rfl) (Nat.le_of_ble_eq_true rfl) (fun hI => ?_)
  refine sg_iconst (v := (2 : Int32)) 143 (sk_td o_L_law 85 rfl) rfl (by decide) ?_
  refine sg_ic_ge 157 146 (sk_td o_L_law 86 rfl) (by decide) rfl (fun hc => ?_) (fun hc => ?_)
  · rw [if_pos hc] at hq
    refine sg_bipush (v := (8 : Int32)) 159 (sk_td o_L_law 93 rfl) rfl (by decide) ?_
    refine sx_wk [true, true, true, true, true, true, true, true, true, true, true, false, true] (ls' := [some (.inr (.inr (some (9999, 0)))), some (.inr (.inr (some (0, 0)))), some (.inl v2), some (.inl v3), some (.inl v4), some (.inr (.inr (some (9998, k5)))), some (.inr (.inr (some (9998, k6)))), some (.inr (.inr (some (9998, k7)))), some (.inr (.inr (some (9998, k8)))), some (.inr (.inr (some (9998, k9)))), some (.inl v10), none, none]) rfl ?_
    exact t_L_law_159 hrec77 hq hI hone
  · rw [if_neg hc] at hq
    refine sg_iload 148 (sk_td o_L_law 87 rfl) rfl rfl ?_
    refine sg_iconst (v := (5 : Int32)) 149 (sk_td o_L_law 88 rfl) rfl (by decide) ?_
    refine sg_ishr 150 (sk_td o_L_law 89 rfl) rfl ?_
    refine sg_iconst (v := (4 : Int32)) 151 (sk_td o_L_law 90 rfl) rfl (by decide) ?_
    obtain ⟨y2, hr_y2, hq⟩ := sk_bnd hq
    refine sx_callBi (as := [.inl (v11 >>> ((5 : Int32) &&& 31)), .inl (4 : Int32)]) (st := [.inl s1, .inr (.inr (some (9998, h0)))]) 154 (s_L_low hr_y2) (sk_td o_L_law 91 rfl) rfl ls_L_55 rfl (Nat.le_of_ble_eq_true rfl) hI rfl rfl hI.2 (Nat.le_of_ble_eq_true rfl) (Nat.le_of_ble_eq_true rfl) (Nat.le_of_ble_eq_true rfl) (Nat.le_of_ble_eq_true rfl) (fun hI => ?_)
    refine sg_goto 159 (sk_td o_L_law 92 rfl) (by decide) ?_
    refine sx_wk [true, true, true, true, true, true, true, true, true, true, true, false, true] (ls' := [some (.inr (.inr (some (9999, 0)))), some (.inr (.inr (some (0, 0)))), some (.inl v2), some (.inl v3), some (.inl v4), some (.inr (.inr (some (9998, k5)))), some (.inr (.inr (some (9998, k6)))), some (.inr (.inr (some (9998, k7)))), some (.inr (.inr (some (9998, k8)))), some (.inr (.inr (some (9998, k9)))), some (.inl v10), none, none]) rfl ?_
    exact t_L_law_159 hrec77 hq hI hone
def q_L_law_121 (rec77 : (sk_D × sk_X × Int32 × Int32 × Int32 × Nat × Nat × Nat × Nat × Nat × Int32) → Option (Int32)) (L : Nat) (xs : Nat → Int32) (x0 : Nat) (d : sk_D) (x : sk_X) (v2 : Int32) (v3 : Int32) (v4 : Int32) (k5 : Nat) (k6 : Nat) (k7 : Nat) (k8 : Nat) (k9 : Nat) (v10 : Int32) (v11 : Int32) (h0 : Nat) (s1 : Int32) (s3 : Int32) : Option (Int32) :=
  (q_L_low s3 (7 : Int32)).bind fun y1 => if xb x h0 s1 = true then (q_L_law_139 rec77 L xs x0 d (xw x h0 s1.toNatClampNeg ((1 : Int32) + y1)) v2 v3 v4 k5 k6 k7 k8 k9 v10 v11 k5 (((3 : Int32) * v10) + (2 : Int32)) (v11 >>> ((5 : Int32) &&& 31))) else none
set_option maxRecDepth 100000 in
set_option maxHeartbeats 4000000 in
theorem t_L_law_121 {l : Launch} {nm : String} {rec77 : (sk_D × sk_X × Int32 × Int32 × Int32 × Nat × Nat × Nat × Nat × Nat × Int32) → Option (Int32)} {L : Nat} {xs : Nat → Int32} {x0 : Nat} {d : sk_D} {x : sk_X} {v2 : Int32} {v3 : Int32} {v4 : Int32} {k5 : Nat} {k6 : Nat} {k7 : Nat} {k8 : Nat} {k9 : Nat} {v10 : Int32} {v11 : Int32} {h0 : Nat} {s1 : Int32} {s3 : Int32} (hrec77 : ∀ (a : (sk_D × sk_X × Int32 × Int32 × Int32 × Nat × Nat × Nat × Nat × Nat × Int32)) (res : Int32), rec77 a = some res → (x0 ≤ a.2.1.1 ∧ a.2.1.1 ≤ x0 + 149) → res = 1 → sx_G l room_1 (m_L_law nm) sx_El sx_Zl a.2.1 L xs (121 + (a.2.1.1 - x0)) (5601 + 64 * (a.2.1.1 - x0)) 77 [some (.inr (.inr (some (9999, 0)))), some (.inr (.inr (some (0, 0)))), some (.inl a.2.2.1), some (.inl a.2.2.2.1), some (.inl a.2.2.2.2.1), some (.inr (.inr (some (9998, a.2.2.2.2.2.1)))), some (.inr (.inr (some (9998, a.2.2.2.2.2.2.1)))), some (.inr (.inr (some (9998, a.2.2.2.2.2.2.2.1)))), some (.inr (.inr (some (9998, a.2.2.2.2.2.2.2.2.1)))), some (.inr (.inr (some (9998, a.2.2.2.2.2.2.2.2.2.1)))), some (.inl a.2.2.2.2.2.2.2.2.2.2), none, none] [] a.1) {res : Int32} (hq : q_L_law_121 rec77 L xs x0 d x v2 v3 v4 k5 k6 k7 k8 k9 v10 v11 h0 s1 s3 = some res) (hI : (x0 ≤ x.1 ∧ x.1 ≤ x0 + 149)) (hone : res = 1) :
    sx_G l room_1 (m_L_law nm) sx_El sx_Zl x L xs (121 + (x.1 - x0)) (5601 + 64 * (x.1 - x0)) 121 [some (.inr (.inr (some (9999, 0)))), some (.inr (.inr (some (0, 0)))), some (.inl v2), some (.inl v3), some (.inl v4), some (.inr (.inr (some (9998, k5)))), some (.inr (.inr (some (9998, k6)))), some (.inr (.inr (some (9998, k7)))), some (.inr (.inr (some (9998, k8)))), some (.inr (.inr (some (9998, k9)))), some (.inl v10), some (.inl v11), none] [.inl (7 : Int32), .inl s3, .inl (1 : Int32), .inl s1, .inr (.inr (some (9998, h0)))] d := by
  unfold q_L_law_121 at hq
  obtain ⟨y1, hr_y1, hq⟩ := sk_bnd hq
  refine sx_callBi (as := [.inl s3, .inl (7 : Int32)]) (st := [.inl (1 : Int32), .inl s1, .inr (.inr (some (9998, h0)))]) 124 (s_L_low hr_y1) (sk_td o_L_law 71 rfl) rfl ls_L_55 rfl (Nat.le_of_ble_eq_true rfl) hI rfl rfl hI.2 (Nat.le_of_ble_eq_true rfl) (Nat.le_of_ble_eq_true rfl) (Nat.le_of_ble_eq_true rfl) (Nat.le_of_ble_eq_true rfl) (fun hI => ?_)
  refine sg_iadd 125 (sk_td o_L_law 72 rfl) rfl ?_
  obtain ⟨hb2, hq⟩ := sk_ifn hq
  refine sx_st 126 (sk_td o_L_law 73 rfl) rfl hb2 ?_
  refine sg_aload 128 (sk_td o_L_law 74 rfl) rfl rfl ?_
  refine sg_iconst (v := (3 : Int32)) 129 (sk_td o_L_law 75 rfl) rfl (by decide) ?_
  refine sg_iload 131 (sk_td o_L_law 76 rfl) rfl rfl ?_
  refine sg_imul 132 (sk_td o_L_law 77 rfl) rfl ?_
  refine sg_iconst (v := (2 : Int32)) 133 (sk_td o_L_law 78 rfl) rfl (by decide) ?_
  refine sg_iadd 134 (sk_td o_L_law 79 rfl) rfl ?_
  refine sg_iload 136 (sk_td o_L_law 80 rfl) rfl rfl ?_
  refine sg_iconst (v := (5 : Int32)) 137 (sk_td o_L_law 81 rfl) rfl (by decide) ?_
  refine sg_ishr 138 (sk_td o_L_law 82 rfl) rfl ?_
  refine sg_iconst (v := (4 : Int32)) 139 (sk_td o_L_law 83 rfl) rfl (by decide) ?_
  exact t_L_law_139 hrec77 hq hI hone
def q_L_law_77 (rec77 : (sk_D × sk_X × Int32 × Int32 × Int32 × Nat × Nat × Nat × Nat × Nat × Int32) → Option (Int32)) (L : Nat) (xs : Nat → Int32) (x0 : Nat) (d : sk_D) (x : sk_X) (v2 : Int32) (v3 : Int32) (v4 : Int32) (k5 : Nat) (k6 : Nat) (k7 : Nat) (k8 : Nat) (k9 : Nat) (v10 : Int32) : Option (Int32) :=
  if v2 ≤ v10 then (l_L_law_224 L xs x0 sk_fu (d, x, v2, v3, v4, k5, k6, k7, k8, k9, (0 : Int32))) else (q_L_cell L xs ((3 : Int32) + v10)).bind fun y1 => (q_L_low y1 (4 : Int32)).bind fun y2 => if xb x k5 ((3 : Int32) * v10) = true then (q_L_law_121 rec77 L xs x0 d (xw x k5 ((3 : Int32) * v10).toNatClampNeg y2) v2 v3 v4 k5 k6 k7 k8 k9 v10 y1 k5 (((3 : Int32) * v10) + (1 : Int32)) (y1 >>> ((2 : Int32) &&& 31))) else none
set_option maxRecDepth 100000 in
set_option maxHeartbeats 4000000 in
theorem t_L_law_77 {l : Launch} {nm : String} {rec77 : (sk_D × sk_X × Int32 × Int32 × Int32 × Nat × Nat × Nat × Nat × Nat × Int32) → Option (Int32)} {L : Nat} {xs : Nat → Int32} {x0 : Nat} {d : sk_D} {x : sk_X} {v2 : Int32} {v3 : Int32} {v4 : Int32} {k5 : Nat} {k6 : Nat} {k7 : Nat} {k8 : Nat} {k9 : Nat} {v10 : Int32} (hrec77 : ∀ (a : (sk_D × sk_X × Int32 × Int32 × Int32 × Nat × Nat × Nat × Nat × Nat × Int32)) (res : Int32), rec77 a = some res → (x0 ≤ a.2.1.1 ∧ a.2.1.1 ≤ x0 + 149) → res = 1 → sx_G l room_1 (m_L_law nm) sx_El sx_Zl a.2.1 L xs (121 + (a.2.1.1 - x0)) (5601 + 64 * (a.2.1.1 - x0)) 77 [some (.inr (.inr (some (9999, 0)))), some (.inr (.inr (some (0, 0)))), some (.inl a.2.2.1), some (.inl a.2.2.2.1), some (.inl a.2.2.2.2.1), some (.inr (.inr (some (9998, a.2.2.2.2.2.1)))), some (.inr (.inr (some (9998, a.2.2.2.2.2.2.1)))), some (.inr (.inr (some (9998, a.2.2.2.2.2.2.2.1)))), some (.inr (.inr (some (9998, a.2.2.2.2.2.2.2.2.1)))), some (.inr (.inr (some (9998, a.2.2.2.2.2.2.2.2.2.1)))), some (.inl a.2.2.2.2.2.2.2.2.2.2), none, none] [] a.1) {res : Int32} (hq : q_L_law_77 rec77 L xs x0 d x v2 v3 v4 k5 k6 k7 k8 k9 v10 = some res) (hI : (x0 ≤ x.1 ∧ x.1 ≤ x0 + 149)) (hone : res = 1) :
    sx_G l room_1 (m_L_law nm) sx_El sx_Zl x L xs (121 + (x.1 - x0)) (5601 + 64 * (x.1 - x0)) 77 [some (.inr (.inr (some (9999, 0)))), some (.inr (.inr (some (0, 0)))), some (.inl v2), some (.inl v3), some (.inl v4), some (.inr (.inr (some (9998, k5)))), some (.inr (.inr (some (9998, k6)))), some (.inr (.inr (some (9998, k7)))), some (.inr (.inr (some (9998, k8)))), some (.inr (.inr (some (9998, k9)))), some (.inl v10), none, none] [] d := by
  unfold q_L_law_77 at hq
  refine sg_iload 79 (sk_td o_L_law 43 rfl) rfl rfl ?_
  refine sg_iload_n 80 (sk_td o_L_law 44 rfl) rfl rfl ?_
  refine sg_ic_ge 221 83 (sk_td o_L_law 45 rfl) (by decide) rfl (fun hc => ?_) (fun hc => ?_)
  · rw [if_pos hc] at hq
    refine sg_iconst (v := (0 : Int32)) 222 (sk_td o_L_law 133 rfl) rfl (by decide) ?_
    refine sg_istore 224 [some (.inr (.inr (some (9999, 0)))), some (.inr (.inr (some (0, 0)))), some (.inl v2), some (.inl v3), some (.inl v4), some (.inr (.inr (some (9998, k5)))), some (.inr (.inr (some (9998, k6)))), some (.inr (.inr (some (9998, k7)))), some (.inr (.inr (some (9998, k8)))), some (.inr (.inr (some (9998, k9)))), some (.inl (0 : Int32)), none, none] (sk_td o_L_law 134 rfl) rfl rfl (Nat.le_of_ble_eq_true rfl) rfl ?_
    exact lt_L_law_224 sk_fu (d, x, v2, v3, v4, k5, k6, k7, k8, k9, (0 : Int32)) _ hq hI hone
  · rw [if_neg hc] at hq
    refine sg_aload_n 84 (sk_td o_L_law 46 rfl) rfl rfl ?_
    refine sg_iconst (v := (3 : Int32)) 85 (sk_td o_L_law 47 rfl) rfl (by decide) ?_
    refine sg_iload 87 (sk_td o_L_law 48 rfl) rfl rfl ?_
    refine sg_iadd 88 (sk_td o_L_law 49 rfl) rfl ?_
    obtain ⟨y1, hr_y1, hq⟩ := sk_bnd hq
    refine sx_callBi (as := [.inr (.inr (some (9999, 0))), .inl ((3 : Int32) + v10)]) (st := []) 91 (s_L_cell hr_y1) (sk_td o_L_law 50 rfl) rfl ls_L_51 rfl (Nat.le_of_ble_eq_true rfl) hI rfl rfl hI.2 (Nat.le_of_ble_eq_true rfl) (Nat.le_of_ble_eq_true rfl) (Nat.le_of_ble_eq_true rfl) (Nat.le_of_ble_eq_true rfl) (fun hI => ?_)
    refine sg_istore 93 [some (.inr (.inr (some (9999, 0)))), some (.inr (.inr (some (0, 0)))), some (.inl v2), some (.inl v3), some (.inl v4), some (.inr (.inr (some (9998, k5)))), some (.inr (.inr (some (9998, k6)))), some (.inr (.inr (some (9998, k7)))), some (.inr (.inr (some (9998, k8)))), some (.inr (.inr (some (9998, k9)))), some (.inl v10), some (.inl y1), none] (sk_td o_L_law 51 rfl) rfl rfl (Nat.le_of_ble_eq_true rfl) rfl ?_
    refine sg_aload 95 (sk_td o_L_law 52 rfl) rfl rfl ?_
    refine sg_iconst (v := (3 : Int32)) 96 (sk_td o_L_law 53 rfl) rfl (by decide) ?_
    refine sg_iload 98 (sk_td o_L_law 54 rfl) rfl rfl ?_
    refine sg_imul 99 (sk_td o_L_law 55 rfl) rfl ?_
    refine sg_iload 101 (sk_td o_L_law 56 rfl) rfl rfl ?_
    refine sg_iconst (v := (4 : Int32)) 102 (sk_td o_L_law 57 rfl) rfl (by decide) ?_
    obtain ⟨y2, hr_y2, hq⟩ := sk_bnd hq
    refine sx_callBi (as := [.inl y1, .inl (4 : Int32)]) (st := [.inl ((3 : Int32) * v10), .inr (.inr (some (9998, k5)))]) 105 (s_L_low hr_y2) (sk_td o_L_law 58 rfl) rfl ls_L_55 rfl (Nat.le_of_ble_eq_true rfl) hI rfl rfl hI.2 (Nat.le_of_ble_eq_true rfl) (Nat.le_of_ble_eq_true rfl) (Nat.le_of_ble_eq_true rfl) (Nat.le_of_ble_eq_true rfl) (fun hI => ?_)
    obtain ⟨hb3, hq⟩ := sk_ifn hq
    refine sx_st 106 (sk_td o_L_law 59 rfl) rfl hb3 ?_
    refine sg_aload 108 (sk_td o_L_law 60 rfl) rfl rfl ?_
    refine sg_iconst (v := (3 : Int32)) 109 (sk_td o_L_law 61 rfl) rfl (by decide) ?_
    refine sg_iload 111 (sk_td o_L_law 62 rfl) rfl rfl ?_
    refine sg_imul 112 (sk_td o_L_law 63 rfl) rfl ?_
    refine sg_iconst (v := (1 : Int32)) 113 (sk_td o_L_law 64 rfl) rfl (by decide) ?_
    refine sg_iadd 114 (sk_td o_L_law 65 rfl) rfl ?_
    refine sg_iconst (v := (1 : Int32)) 115 (sk_td o_L_law 66 rfl) rfl (by decide) ?_
    refine sg_iload 117 (sk_td o_L_law 67 rfl) rfl rfl ?_
    refine sg_iconst (v := (2 : Int32)) 118 (sk_td o_L_law 68 rfl) rfl (by decide) ?_
    refine sg_ishr 119 (sk_td o_L_law 69 rfl) rfl ?_
    refine sg_bipush (v := (7 : Int32)) 121 (sk_td o_L_law 70 rfl) rfl (by decide) ?_
    exact t_L_law_121 hrec77 hq hI hone
def l_L_law_77 (L : Nat) (xs : Nat → Int32) (x0 : Nat) (fl : Nat) (a : (sk_D × sk_X × Int32 × Int32 × Int32 × Nat × Nat × Nat × Nat × Nat × Int32)) : Option (Int32) := sk_it (fun rec77 a => q_L_law_77 rec77 L xs x0 a.1 a.2.1 a.2.2.1 a.2.2.2.1 a.2.2.2.2.1 a.2.2.2.2.2.1 a.2.2.2.2.2.2.1 a.2.2.2.2.2.2.2.1 a.2.2.2.2.2.2.2.2.1 a.2.2.2.2.2.2.2.2.2.1 a.2.2.2.2.2.2.2.2.2.2) fl a
theorem lt_L_law_77 {l : Launch} {nm : String} {L : Nat} {xs : Nat → Int32} {x0 : Nat} : ∀ (fl : Nat) (a : (sk_D × sk_X × Int32 × Int32 × Int32 × Nat × Nat × Nat × Nat × Nat × Int32)) (res : Int32), l_L_law_77 L xs x0 fl a = some res → (x0 ≤ a.2.1.1 ∧ a.2.1.1 ≤ x0 + 149) → res = 1 → sx_G l room_1 (m_L_law nm) sx_El sx_Zl a.2.1 L xs (121 + (a.2.1.1 - x0)) (5601 + 64 * (a.2.1.1 - x0)) 77 [some (.inr (.inr (some (9999, 0)))), some (.inr (.inr (some (0, 0)))), some (.inl a.2.2.1), some (.inl a.2.2.2.1), some (.inl a.2.2.2.2.1), some (.inr (.inr (some (9998, a.2.2.2.2.2.1)))), some (.inr (.inr (some (9998, a.2.2.2.2.2.2.1)))), some (.inr (.inr (some (9998, a.2.2.2.2.2.2.2.1)))), some (.inr (.inr (some (9998, a.2.2.2.2.2.2.2.2.1)))), some (.inr (.inr (some (9998, a.2.2.2.2.2.2.2.2.2.1)))), some (.inl a.2.2.2.2.2.2.2.2.2.2), none, none] [] a.1 :=
  sk_it_ind (P := fun (a : (sk_D × sk_X × Int32 × Int32 × Int32 × Nat × Nat × Nat × Nat × Nat × Int32)) (res : Int32) => (x0 ≤ a.2.1.1 ∧ a.2.1.1 ≤ x0 + 149) → res = 1 → sx_G l room_1 (m_L_law nm) sx_El sx_Zl a.2.1 L xs (121 + (a.2.1.1 - x0)) (5601 + 64 * (a.2.1.1 - x0)) 77 [some (.inr (.inr (some (9999, 0)))), some (.inr (.inr (some (0, 0)))), some (.inl a.2.2.1), some (.inl a.2.2.2.1), some (.inl a.2.2.2.2.1), some (.inr (.inr (some (9998, a.2.2.2.2.2.1)))), some (.inr (.inr (some (9998, a.2.2.2.2.2.2.1)))), some (.inr (.inr (some (9998, a.2.2.2.2.2.2.2.1)))), some (.inr (.inr (some (9998, a.2.2.2.2.2.2.2.2.1)))), some (.inr (.inr (some (9998, a.2.2.2.2.2.2.2.2.2.1)))), some (.inl a.2.2.2.2.2.2.2.2.2.2), none, none] [] a.1) (fun rec77 hrec77 a res hq hI hone => t_L_law_77 hrec77 hq hI hone)
def q_L_law_8 (L : Nat) (xs : Nat → Int32) (x0 : Nat) (d : sk_D) (x : sk_X) : Option (Int32) :=
  (q_L_cell L xs (0 : Int32)).bind fun y1 => (q_L_low y1 (6 : Int32)).bind fun y2 => (q_L_cell L xs (1 : Int32)).bind fun y3 => (q_L_low y3 (3 : Int32)).bind fun y4 => (q_L_cell L xs (2 : Int32)).bind fun y5 => (q_L_low y5 (4 : Int32)).bind fun y6 => if x.1 < x0 + 149 then if (xn x 24).1 < x0 + 149 then if (xn (xn x 24) 16).1 < x0 + 149 then if (xn (xn (xn x 24) 16) 8).1 < x0 + 149 then if (xn (xn (xn (xn x 24) 16) 8) 8).1 < x0 + 149 then (l_L_law_77 L xs x0 sk_fu (d, (xn (xn (xn (xn (xn x 24) 16) 8) 8) 8), ((1 : Int32) + y2), ((1 : Int32) + y4), y6, x.1, (xn x 24).1, (xn (xn x 24) 16).1, (xn (xn (xn x 24) 16) 8).1, (xn (xn (xn (xn x 24) 16) 8) 8).1, (0 : Int32))) else none else none else none else none else none
set_option maxRecDepth 100000 in
set_option maxHeartbeats 4000000 in
theorem t_L_law_8 {l : Launch} {nm : String} {L : Nat} {xs : Nat → Int32} {x0 : Nat} {d : sk_D} {x : sk_X} {res : Int32} (hq : q_L_law_8 L xs x0 d x = some res) (hI : (x0 ≤ x.1 ∧ x.1 ≤ x0 + 149)) (hone : res = 1) :
    sx_G l room_1 (m_L_law nm) sx_El sx_Zl x L xs (121 + (x.1 - x0)) (5601 + 64 * (x.1 - x0)) 8 [some (.inr (.inr (some (9999, 0)))), some (.inr (.inr (some (0, 0)))), none, none, none, none, none, none, none, none, none, none, none] [] d := by
  unfold q_L_law_8 at hq
  refine sg_iconst (v := (1 : Int32)) 9 (sk_td o_L_law 4 rfl) rfl (by decide) ?_
  refine sg_aload_n 10 (sk_td o_L_law 5 rfl) rfl rfl ?_
  refine sg_iconst (v := (0 : Int32)) 11 (sk_td o_L_law 6 rfl) rfl (by decide) ?_
  obtain ⟨y1, hr_y1, hq⟩ := sk_bnd hq
  refine sx_callBi (as := [.inr (.inr (some (9999, 0))), .inl (0 : Int32)]) (st := [.inl (1 : Int32)]) 14 (s_L_cell hr_y1) (sk_td o_L_law 7 rfl) rfl ls_L_51 rfl (Nat.le_of_ble_eq_true rfl) hI rfl rfl hI.2 (Nat.le_of_ble_eq_true rfl) (Nat.le_of_ble_eq_true rfl) (Nat.le_of_ble_eq_true rfl) (Nat.le_of_ble_eq_true rfl) (fun hI => ?_)
  refine sg_bipush (v := (6 : Int32)) 16 (sk_td o_L_law 8 rfl) rfl (by decide) ?_
  obtain ⟨y2, hr_y2, hq⟩ := sk_bnd hq
  refine sx_callBi (as := [.inl y1, .inl (6 : Int32)]) (st := [.inl (1 : Int32)]) 19 (s_L_low hr_y2) (sk_td o_L_law 9 rfl) rfl ls_L_55 rfl (Nat.le_of_ble_eq_true rfl) hI rfl rfl hI.2 (Nat.le_of_ble_eq_true rfl) (Nat.le_of_ble_eq_true rfl) (Nat.le_of_ble_eq_true rfl) (Nat.le_of_ble_eq_true rfl) (fun hI => ?_)
  refine sg_iadd 20 (sk_td o_L_law 10 rfl) rfl ?_
  refine sg_istore_n 21 [some (.inr (.inr (some (9999, 0)))), some (.inr (.inr (some (0, 0)))), some (.inl ((1 : Int32) + y2)), none, none, none, none, none, none, none, none, none, none] (sk_td o_L_law 11 rfl) rfl rfl (Nat.le_of_ble_eq_true rfl) rfl ?_
  refine sg_iconst (v := (1 : Int32)) 22 (sk_td o_L_law 12 rfl) rfl (by decide) ?_
  refine sg_aload_n 23 (sk_td o_L_law 13 rfl) rfl rfl ?_
  refine sg_iconst (v := (1 : Int32)) 24 (sk_td o_L_law 14 rfl) rfl (by decide) ?_
  obtain ⟨y3, hr_y3, hq⟩ := sk_bnd hq
  refine sx_callBi (as := [.inr (.inr (some (9999, 0))), .inl (1 : Int32)]) (st := [.inl (1 : Int32)]) 27 (s_L_cell hr_y3) (sk_td o_L_law 15 rfl) rfl ls_L_51 rfl (Nat.le_of_ble_eq_true rfl) hI rfl rfl hI.2 (Nat.le_of_ble_eq_true rfl) (Nat.le_of_ble_eq_true rfl) (Nat.le_of_ble_eq_true rfl) (Nat.le_of_ble_eq_true rfl) (fun hI => ?_)
  refine sg_iconst (v := (3 : Int32)) 28 (sk_td o_L_law 16 rfl) rfl (by decide) ?_
  obtain ⟨y4, hr_y4, hq⟩ := sk_bnd hq
  refine sx_callBi (as := [.inl y3, .inl (3 : Int32)]) (st := [.inl (1 : Int32)]) 31 (s_L_low hr_y4) (sk_td o_L_law 17 rfl) rfl ls_L_55 rfl (Nat.le_of_ble_eq_true rfl) hI rfl rfl hI.2 (Nat.le_of_ble_eq_true rfl) (Nat.le_of_ble_eq_true rfl) (Nat.le_of_ble_eq_true rfl) (Nat.le_of_ble_eq_true rfl) (fun hI => ?_)
  refine sg_iadd 32 (sk_td o_L_law 18 rfl) rfl ?_
  refine sg_istore_n 33 [some (.inr (.inr (some (9999, 0)))), some (.inr (.inr (some (0, 0)))), some (.inl ((1 : Int32) + y2)), some (.inl ((1 : Int32) + y4)), none, none, none, none, none, none, none, none, none] (sk_td o_L_law 19 rfl) rfl rfl (Nat.le_of_ble_eq_true rfl) rfl ?_
  refine sg_aload_n 34 (sk_td o_L_law 20 rfl) rfl rfl ?_
  refine sg_iconst (v := (2 : Int32)) 35 (sk_td o_L_law 21 rfl) rfl (by decide) ?_
  obtain ⟨y5, hr_y5, hq⟩ := sk_bnd hq
  refine sx_callBi (as := [.inr (.inr (some (9999, 0))), .inl (2 : Int32)]) (st := []) 38 (s_L_cell hr_y5) (sk_td o_L_law 22 rfl) rfl ls_L_51 rfl (Nat.le_of_ble_eq_true rfl) hI rfl rfl hI.2 (Nat.le_of_ble_eq_true rfl) (Nat.le_of_ble_eq_true rfl) (Nat.le_of_ble_eq_true rfl) (Nat.le_of_ble_eq_true rfl) (fun hI => ?_)
  refine sg_iconst (v := (4 : Int32)) 39 (sk_td o_L_law 23 rfl) rfl (by decide) ?_
  obtain ⟨y6, hr_y6, hq⟩ := sk_bnd hq
  refine sx_callBi (as := [.inl y5, .inl (4 : Int32)]) (st := []) 42 (s_L_low hr_y6) (sk_td o_L_law 24 rfl) rfl ls_L_55 rfl (Nat.le_of_ble_eq_true rfl) hI rfl rfl hI.2 (Nat.le_of_ble_eq_true rfl) (Nat.le_of_ble_eq_true rfl) (Nat.le_of_ble_eq_true rfl) (Nat.le_of_ble_eq_true rfl) (fun hI => ?_)
  refine sg_istore 44 [some (.inr (.inr (some (9999, 0)))), some (.inr (.inr (some (0, 0)))), some (.inl ((1 : Int32) + y2)), some (.inl ((1 : Int32) + y4)), some (.inl y6), none, none, none, none, none, none, none, none] (sk_td o_L_law 25 rfl) rfl rfl (Nat.le_of_ble_eq_true rfl) rfl ?_
  refine sg_bipush (v := (24 : Int32)) 46 (sk_td o_L_law 26 rfl) rfl (by decide) ?_
  obtain ⟨hn7, hq⟩ := sk_ifn hq
  refine sx_newB (N := 24) 48 (sk_td o_L_law 27 rfl) rfl (by decide) (by decide) (by decide) hI hn7 (Nat.le_of_ble_eq_true rfl) (Nat.le_of_ble_eq_true rfl) (fun hI => ?_)
  refine sg_astore 50 [some (.inr (.inr (some (9999, 0)))), some (.inr (.inr (some (0, 0)))), some (.inl ((1 : Int32) + y2)), some (.inl ((1 : Int32) + y4)), some (.inl y6), some (.inr (.inr (some (9998, x.1)))), none, none, none, none, none, none, none] (sk_td o_L_law 28 rfl) rfl rfl (Nat.le_of_ble_eq_true rfl) rfl ?_
  refine sg_bipush (v := (16 : Int32)) 52 (sk_td o_L_law 29 rfl) rfl (by decide) ?_
  obtain ⟨hn8, hq⟩ := sk_ifn hq
  refine sx_newB (N := 16) 54 (sk_td o_L_law 30 rfl) rfl (by decide) (by decide) (by decide) hI hn8 (Nat.le_of_ble_eq_true rfl) (Nat.le_of_ble_eq_true rfl) (fun hI => ?_)
  refine sg_astore 56 [some (.inr (.inr (some (9999, 0)))), some (.inr (.inr (some (0, 0)))), some (.inl ((1 : Int32) + y2)), some (.inl ((1 : Int32) + y4)), some (.inl y6), some (.inr (.inr (some (9998, x.1)))), some (.inr (.inr (some (9998, (xn x 24).1)))), none, none, none, none, none, none] (sk_td o_L_law 31 rfl) rfl rfl (Nat.le_of_ble_eq_true rfl) rfl ?_
  refine sg_bipush (v := (8 : Int32)) 58 (sk_td o_L_law 32 rfl) rfl (by decide) ?_
  obtain ⟨hn9, hq⟩ := sk_ifn hq
  refine sx_newB (N := 8) 60 (sk_td o_L_law 33 rfl) rfl (by decide) (by decide) (by decide) hI hn9 (Nat.le_of_ble_eq_true rfl) (Nat.le_of_ble_eq_true rfl) (fun hI => ?_)
  refine sg_astore 62 [some (.inr (.inr (some (9999, 0)))), some (.inr (.inr (some (0, 0)))), some (.inl ((1 : Int32) + y2)), some (.inl ((1 : Int32) + y4)), some (.inl y6), some (.inr (.inr (some (9998, x.1)))), some (.inr (.inr (some (9998, (xn x 24).1)))), some (.inr (.inr (some (9998, (xn (xn x 24) 16).1)))), none, none, none, none, none] (sk_td o_L_law 34 rfl) rfl rfl (Nat.le_of_ble_eq_true rfl) rfl ?_
  refine sg_bipush (v := (8 : Int32)) 64 (sk_td o_L_law 35 rfl) rfl (by decide) ?_
  obtain ⟨hn10, hq⟩ := sk_ifn hq
  refine sx_newB (N := 8) 66 (sk_td o_L_law 36 rfl) rfl (by decide) (by decide) (by decide) hI hn10 (Nat.le_of_ble_eq_true rfl) (Nat.le_of_ble_eq_true rfl) (fun hI => ?_)
  refine sg_astore 68 [some (.inr (.inr (some (9999, 0)))), some (.inr (.inr (some (0, 0)))), some (.inl ((1 : Int32) + y2)), some (.inl ((1 : Int32) + y4)), some (.inl y6), some (.inr (.inr (some (9998, x.1)))), some (.inr (.inr (some (9998, (xn x 24).1)))), some (.inr (.inr (some (9998, (xn (xn x 24) 16).1)))), some (.inr (.inr (some (9998, (xn (xn (xn x 24) 16) 8).1)))), none, none, none, none] (sk_td o_L_law 37 rfl) rfl rfl (Nat.le_of_ble_eq_true rfl) rfl ?_
  refine sg_bipush (v := (8 : Int32)) 70 (sk_td o_L_law 38 rfl) rfl (by decide) ?_
  obtain ⟨hn11, hq⟩ := sk_ifn hq
  refine sx_newB (N := 8) 72 (sk_td o_L_law 39 rfl) rfl (by decide) (by decide) (by decide) hI hn11 (Nat.le_of_ble_eq_true rfl) (Nat.le_of_ble_eq_true rfl) (fun hI => ?_)
  refine sg_astore 74 [some (.inr (.inr (some (9999, 0)))), some (.inr (.inr (some (0, 0)))), some (.inl ((1 : Int32) + y2)), some (.inl ((1 : Int32) + y4)), some (.inl y6), some (.inr (.inr (some (9998, x.1)))), some (.inr (.inr (some (9998, (xn x 24).1)))), some (.inr (.inr (some (9998, (xn (xn x 24) 16).1)))), some (.inr (.inr (some (9998, (xn (xn (xn x 24) 16) 8).1)))), some (.inr (.inr (some (9998, (xn (xn (xn (xn x 24) 16) 8) 8).1)))), none, none, none] (sk_td o_L_law 40 rfl) rfl rfl (Nat.le_of_ble_eq_true rfl) rfl ?_
  refine sg_iconst (v := (0 : Int32)) 75 (sk_td o_L_law 41 rfl) rfl (by decide) ?_
  refine sg_istore 77 [some (.inr (.inr (some (9999, 0)))), some (.inr (.inr (some (0, 0)))), some (.inl ((1 : Int32) + y2)), some (.inl ((1 : Int32) + y4)), some (.inl y6), some (.inr (.inr (some (9998, x.1)))), some (.inr (.inr (some (9998, (xn x 24).1)))), some (.inr (.inr (some (9998, (xn (xn x 24) 16).1)))), some (.inr (.inr (some (9998, (xn (xn (xn x 24) 16) 8).1)))), some (.inr (.inr (some (9998, (xn (xn (xn (xn x 24) 16) 8) 8).1)))), some (.inl (0 : Int32)), none, none] (sk_td o_L_law 42 rfl) rfl rfl (Nat.le_of_ble_eq_true rfl) rfl ?_
  exact lt_L_law_77 sk_fu (d, (xn (xn (xn (xn (xn x 24) 16) 8) 8) 8), ((1 : Int32) + y2), ((1 : Int32) + y4), y6, x.1, (xn x 24).1, (xn (xn x 24) 16).1, (xn (xn (xn x 24) 16) 8).1, (xn (xn (xn (xn x 24) 16) 8) 8).1, (0 : Int32)) _ hq hI hone
