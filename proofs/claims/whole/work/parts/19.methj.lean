/-! decompiled: X9_entry X9_load X9_digest -/
def q_X9_entry_0 (d : sk_D) (v1 : Int32) : Option (Int32 × sk_D) :=
  (q_X9_takes d (112 : Int32)).bind fun x1 => if x1.1 = 0 then (q_X9_takes x1.2 (103 : Int32)).bind fun x2 => if x2.1 = 0 then (q_X9_takes x2.2 (105 : Int32)).bind fun x3 => if x3.1 = 0 then some ((-1 : Int32), x3.2) else (q_X9_readsInstructor x3.2).bind fun x4 => if x4.1 = 0 then some ((-1 : Int32), x4.2) else if v1 = 0 then some ((0 : Int32), x4.2) else (q_X9_hire x4.2 (x4.2.1 44 0 57) (x4.2.1 44 0 58) (x4.2.1 44 0 59) (x4.2.1 44 0 60)).bind fun x5 => some (x5.1, x5.2) else (q_X9_readsGroup x2.2).bind fun x6 => if x6.1 = 0 then some ((-1 : Int32), x6.2) else if v1 = 0 then some ((0 : Int32), x6.2) else (q_X9_openGroup x6.2 (x6.2.1 44 0 58) (x6.2.1 44 0 59) (x6.2.1 44 0 60)).bind fun x7 => some (x7.1, x7.2) else (q_X9_readsPupil x1.2).bind fun x8 => if x8.1 = 0 then some ((-1 : Int32), x8.2) else if v1 = 0 then some ((0 : Int32), x8.2) else (q_X9_addPupil x8.2 (x8.2.1 44 0 58) (x8.2.1 44 0 57) (x8.2.1 44 0 59)).bind fun x9 => some (x9.1, x9.2)
set_option maxRecDepth 100000 in
set_option maxHeartbeats 4000000 in
theorem t_X9_entry_0 {l : Launch} {d : sk_D} {v1 : Int32} {res : Int32 × sk_D} (hq : q_X9_entry_0 d v1 = some res) :
    sk_G l (sk_rm 5 0 0) m_X9_entry sk_Ex0 (sk_Zm m_X9_entry (some (.inl res.1)) (sk_mm res.2)) 0 0 0 [some (.inr (.inr (some (44, 0)))), some (.inl v1)] [] (sk_mm d) := by
  unfold q_X9_entry_0 at hq
  refine sg_aload_n 1 (sk_td o_X9_entry 0 rfl) rfl rfl ?_
  refine sg_bipush (v := (112 : Int32)) 3 (sk_td o_X9_entry 1 rfl) rfl (by decide) ?_
  obtain ⟨x1, hr_x1, hq⟩ := sk_bnd hq
  refine sm_callV1i 6 (s_X9_takes hr_x1) (sk_td o_X9_entry 2 rfl) rfl lv_X9_337 rfl rfl rfl sz_44 (sk_rok (Nat.le_of_ble_eq_true rfl) (Nat.le_of_ble_eq_true rfl) rfl rfl) (Nat.le_of_ble_eq_true rfl) ?_
  refine sg_if_eq 45 9 (sk_td o_X9_entry 3 rfl) (by decide) rfl (fun hc => ?_) (fun hc => ?_)
  · rw [if_pos hc] at hq
    refine sg_aload_n 46 (sk_td o_X9_entry 22 rfl) rfl rfl ?_
    refine sg_bipush (v := (103 : Int32)) 48 (sk_td o_X9_entry 23 rfl) rfl (by decide) ?_
    obtain ⟨x2, hr_x2, hq⟩ := sk_bnd hq
    refine sm_callV1i 51 (s_X9_takes hr_x2) (sk_td o_X9_entry 24 rfl) rfl lv_X9_337 rfl rfl rfl sz_44 (sk_rok (Nat.le_of_ble_eq_true rfl) (Nat.le_of_ble_eq_true rfl) rfl rfl) (Nat.le_of_ble_eq_true rfl) ?_
    refine sg_if_eq 90 54 (sk_td o_X9_entry 25 rfl) (by decide) rfl (fun hc => ?_) (fun hc => ?_)
    · rw [if_pos hc] at hq
      refine sg_aload_n 91 (sk_td o_X9_entry 44 rfl) rfl rfl ?_
      refine sg_bipush (v := (105 : Int32)) 93 (sk_td o_X9_entry 45 rfl) rfl (by decide) ?_
      obtain ⟨x3, hr_x3, hq⟩ := sk_bnd hq
      refine sm_callV1i 96 (s_X9_takes hr_x3) (sk_td o_X9_entry 46 rfl) rfl lv_X9_337 rfl rfl rfl sz_44 (sk_rok (Nat.le_of_ble_eq_true rfl) (Nat.le_of_ble_eq_true rfl) rfl rfl) (Nat.le_of_ble_eq_true rfl) ?_
      refine sg_if_eq 139 99 (sk_td o_X9_entry 47 rfl) (by decide) rfl (fun hc => ?_) (fun hc => ?_)
      · rw [if_pos hc] at hq
        refine sg_iconst (v := (-1 : Int32)) 140 (sk_td o_X9_entry 68 rfl) rfl (by decide) ?_
        obtain rfl := Option.some.inj hq
        exact sg_iret (sk_td o_X9_entry 69 rfl) rfl rfl
      · rw [if_neg hc] at hq
        refine sg_aload_n 100 (sk_td o_X9_entry 48 rfl) rfl rfl ?_
        obtain ⟨x4, hr_x4, hq⟩ := sk_bnd hq
        refine sm_callV0i 103 (s_X9_readsInstructor hr_x4) (sk_td o_X9_entry 49 rfl) rfl lv_X9_355 rfl rfl rfl sz_44 (sk_rok (Nat.le_of_ble_eq_true rfl) (Nat.le_of_ble_eq_true rfl) rfl rfl) (Nat.le_of_ble_eq_true rfl) ?_
        refine sg_if_ne 110 106 (sk_td o_X9_entry 50 rfl) (by decide) rfl (fun hc => ?_) (fun hc => ?_)
        · rw [if_neg hc] at hq
          refine sg_iload_n 111 (sk_td o_X9_entry 53 rfl) rfl rfl ?_
          refine sg_if_ne 118 114 (sk_td o_X9_entry 54 rfl) (by decide) rfl (fun hc => ?_) (fun hc => ?_)
          · rw [if_neg hc] at hq
            refine sg_aload_n 119 (sk_td o_X9_entry 57 rfl) rfl rfl ?_
            refine sg_aload_n 120 (sk_td o_X9_entry 58 rfl) rfl rfl ?_
            refine sm_getI 123 (sk_td o_X9_entry 59 rfl) rfl kf_X9_321 rfl rfl sz_44 ?_
            refine sg_aload_n 124 (sk_td o_X9_entry 60 rfl) rfl rfl ?_
            refine sm_getI 127 (sk_td o_X9_entry 61 rfl) rfl kf_X9_327 rfl rfl sz_44 ?_
            refine sg_aload_n 128 (sk_td o_X9_entry 62 rfl) rfl rfl ?_
            refine sm_getI 131 (sk_td o_X9_entry 63 rfl) rfl kf_X9_334 rfl rfl sz_44 ?_
            refine sg_aload_n 132 (sk_td o_X9_entry 64 rfl) rfl rfl ?_
            refine sm_getI 135 (sk_td o_X9_entry 65 rfl) rfl kf_X9_318 rfl rfl sz_44 ?_
            obtain ⟨x5, hr_x5, hq⟩ := sk_bnd hq
            refine sm_callV4i 138 (s_X9_hire hr_x5) (sk_td o_X9_entry 66 rfl) rfl lv_X9_358 rfl rfl rfl sz_44 (sk_rok (Nat.le_of_ble_eq_true rfl) (Nat.le_of_ble_eq_true rfl) rfl rfl) (Nat.le_of_ble_eq_true rfl) ?_
            obtain rfl := Option.some.inj hq
            exact sg_iret (sk_td o_X9_entry 67 rfl) rfl rfl
          · rw [if_pos hc] at hq
            refine sg_iconst (v := (0 : Int32)) 115 (sk_td o_X9_entry 55 rfl) rfl (by decide) ?_
            refine sg_goto 138 (sk_td o_X9_entry 56 rfl) (by decide) ?_
            obtain rfl := Option.some.inj hq
            exact sg_iret (sk_td o_X9_entry 67 rfl) rfl rfl
        · rw [if_pos hc] at hq
          refine sg_iconst (v := (-1 : Int32)) 107 (sk_td o_X9_entry 51 rfl) rfl (by decide) ?_
          refine sg_goto 138 (sk_td o_X9_entry 52 rfl) (by decide) ?_
          obtain rfl := Option.some.inj hq
          exact sg_iret (sk_td o_X9_entry 67 rfl) rfl rfl
    · rw [if_neg hc] at hq
      refine sg_aload_n 55 (sk_td o_X9_entry 26 rfl) rfl rfl ?_
      obtain ⟨x6, hr_x6, hq⟩ := sk_bnd hq
      refine sm_callV0i 58 (s_X9_readsGroup hr_x6) (sk_td o_X9_entry 27 rfl) rfl lv_X9_349 rfl rfl rfl sz_44 (sk_rok (Nat.le_of_ble_eq_true rfl) (Nat.le_of_ble_eq_true rfl) rfl rfl) (Nat.le_of_ble_eq_true rfl) ?_
      refine sg_if_ne 65 61 (sk_td o_X9_entry 28 rfl) (by decide) rfl (fun hc => ?_) (fun hc => ?_)
      · rw [if_neg hc] at hq
        refine sg_iload_n 66 (sk_td o_X9_entry 31 rfl) rfl rfl ?_
        refine sg_if_ne 73 69 (sk_td o_X9_entry 32 rfl) (by decide) rfl (fun hc => ?_) (fun hc => ?_)
        · rw [if_neg hc] at hq
          refine sg_aload_n 74 (sk_td o_X9_entry 35 rfl) rfl rfl ?_
          refine sg_aload_n 75 (sk_td o_X9_entry 36 rfl) rfl rfl ?_
          refine sm_getI 78 (sk_td o_X9_entry 37 rfl) rfl kf_X9_327 rfl rfl sz_44 ?_
          refine sg_aload_n 79 (sk_td o_X9_entry 38 rfl) rfl rfl ?_
          refine sm_getI 82 (sk_td o_X9_entry 39 rfl) rfl kf_X9_334 rfl rfl sz_44 ?_
          refine sg_aload_n 83 (sk_td o_X9_entry 40 rfl) rfl rfl ?_
          refine sm_getI 86 (sk_td o_X9_entry 41 rfl) rfl kf_X9_318 rfl rfl sz_44 ?_
          obtain ⟨x7, hr_x7, hq⟩ := sk_bnd hq
          refine sm_callV3i 89 (s_X9_openGroup hr_x7) (sk_td o_X9_entry 42 rfl) rfl lv_X9_352 rfl rfl rfl sz_44 (sk_rok (Nat.le_of_ble_eq_true rfl) (Nat.le_of_ble_eq_true rfl) rfl rfl) (Nat.le_of_ble_eq_true rfl) ?_
          obtain rfl := Option.some.inj hq
          exact sg_iret (sk_td o_X9_entry 43 rfl) rfl rfl
        · rw [if_pos hc] at hq
          refine sg_iconst (v := (0 : Int32)) 70 (sk_td o_X9_entry 33 rfl) rfl (by decide) ?_
          refine sg_goto 89 (sk_td o_X9_entry 34 rfl) (by decide) ?_
          obtain rfl := Option.some.inj hq
          exact sg_iret (sk_td o_X9_entry 43 rfl) rfl rfl
      · rw [if_pos hc] at hq
        refine sg_iconst (v := (-1 : Int32)) 62 (sk_td o_X9_entry 29 rfl) rfl (by decide) ?_
        refine sg_goto 89 (sk_td o_X9_entry 30 rfl) (by decide) ?_
        obtain rfl := Option.some.inj hq
        exact sg_iret (sk_td o_X9_entry 43 rfl) rfl rfl
  · rw [if_neg hc] at hq
    refine sg_aload_n 10 (sk_td o_X9_entry 4 rfl) rfl rfl ?_
    obtain ⟨x8, hr_x8, hq⟩ := sk_bnd hq
    refine sm_callV0i 13 (s_X9_readsPupil hr_x8) (sk_td o_X9_entry 5 rfl) rfl lv_X9_343 rfl rfl rfl sz_44 (sk_rok (Nat.le_of_ble_eq_true rfl) (Nat.le_of_ble_eq_true rfl) rfl rfl) (Nat.le_of_ble_eq_true rfl) ?_
    refine sg_if_ne 20 16 (sk_td o_X9_entry 6 rfl) (by decide) rfl (fun hc => ?_) (fun hc => ?_)
    · rw [if_neg hc] at hq
      refine sg_iload_n 21 (sk_td o_X9_entry 9 rfl) rfl rfl ?_
      refine sg_if_ne 28 24 (sk_td o_X9_entry 10 rfl) (by decide) rfl (fun hc => ?_) (fun hc => ?_)
      · rw [if_neg hc] at hq
        refine sg_aload_n 29 (sk_td o_X9_entry 13 rfl) rfl rfl ?_
        refine sg_aload_n 30 (sk_td o_X9_entry 14 rfl) rfl rfl ?_
        refine sm_getI 33 (sk_td o_X9_entry 15 rfl) rfl kf_X9_327 rfl rfl sz_44 ?_
        refine sg_aload_n 34 (sk_td o_X9_entry 16 rfl) rfl rfl ?_
        refine sm_getI 37 (sk_td o_X9_entry 17 rfl) rfl kf_X9_321 rfl rfl sz_44 ?_
        refine sg_aload_n 38 (sk_td o_X9_entry 18 rfl) rfl rfl ?_
        refine sm_getI 41 (sk_td o_X9_entry 19 rfl) rfl kf_X9_334 rfl rfl sz_44 ?_
        obtain ⟨x9, hr_x9, hq⟩ := sk_bnd hq
        refine sm_callV3i 44 (s_X9_addPupil hr_x9) (sk_td o_X9_entry 20 rfl) rfl lv_X9_346 rfl rfl rfl sz_44 (sk_rok (Nat.le_of_ble_eq_true rfl) (Nat.le_of_ble_eq_true rfl) rfl rfl) (Nat.le_of_ble_eq_true rfl) ?_
        obtain rfl := Option.some.inj hq
        exact sg_iret (sk_td o_X9_entry 21 rfl) rfl rfl
      · rw [if_pos hc] at hq
        refine sg_iconst (v := (0 : Int32)) 25 (sk_td o_X9_entry 11 rfl) rfl (by decide) ?_
        refine sg_goto 44 (sk_td o_X9_entry 12 rfl) (by decide) ?_
        obtain rfl := Option.some.inj hq
        exact sg_iret (sk_td o_X9_entry 21 rfl) rfl rfl
    · rw [if_pos hc] at hq
      refine sg_iconst (v := (-1 : Int32)) 17 (sk_td o_X9_entry 7 rfl) rfl (by decide) ?_
      refine sg_goto 44 (sk_td o_X9_entry 8 rfl) (by decide) ?_
      obtain rfl := Option.some.inj hq
      exact sg_iret (sk_td o_X9_entry 21 rfl) rfl rfl
def q_X9_entry (d : sk_D) (v1 : Int32) : Option (Int32 × sk_D) := q_X9_entry_0 d v1 
theorem s_X9_entry {l : Launch} {d : sk_D} {v1 : Int32} {res : Int32 × sk_D} (hq : q_X9_entry d v1 = some res) : sk_M l 5 m_X9_entry [.inr (.inr (some (44, 0))), .inl v1] (sk_mm d) (some (.inl res.1)) (sk_mm res.2) :=
  sk_enter (by decide) (fun _ => Nat.le_of_ble_eq_true rfl) (Nat.le_of_ble_eq_true rfl) (t_X9_entry_0 hq )
def q_X9_load_99 (rec60 : (sk_D × Int32 × Int32) → Option (Int32 × sk_D)) (d : sk_D) (v3 : Int32) (s0 : Int32) (s1 : Int32) : Option (Int32 × sk_D) :=
  (rec60 (d, (s0 + s1), v3))
set_option maxRecDepth 100000 in
set_option maxHeartbeats 4000000 in
theorem t_X9_load_99 {l : Launch} {rec60 : (sk_D × Int32 × Int32) → Option (Int32 × sk_D)} {d : sk_D} {v3 : Int32} {s0 : Int32} {s1 : Int32} (hrec60 : ∀ (a : (sk_D × Int32 × Int32)) (res : Int32 × sk_D), rec60 a = some res → sk_G l (sk_rm 6 0 0) m_X9_load sk_Ex0 (sk_Zm m_X9_load (some (.inl res.1)) (sk_mm res.2)) 0 0 60 [some (.inr (.inr (some (44, 0)))), none, some (.inl a.2.1), some (.inl a.2.2)] [] (sk_mm a.1)) {res : Int32 × sk_D} (hq : q_X9_load_99 rec60 d v3 s0 s1 = some res) :
    sk_G l (sk_rm 6 0 0) m_X9_load sk_Ex0 (sk_Zm m_X9_load (some (.inl res.1)) (sk_mm res.2)) 0 0 99 [some (.inr (.inr (some (44, 0)))), none, none, some (.inl v3)] [.inl s1, .inl s0] (sk_mm d) := by
  unfold q_X9_load_99 at hq
  refine sg_iadd 100 (sk_td o_X9_load 56 rfl) rfl ?_
  refine sg_istore_n 101 [some (.inr (.inr (some (44, 0)))), none, some (.inl (s0 + s1)), some (.inl v3)] (sk_td o_X9_load 57 rfl) rfl rfl (Nat.le_of_ble_eq_true rfl) rfl ?_
  refine sg_goto 60 (sk_td o_X9_load 58 rfl) (by decide) ?_
  exact hrec60 (d, (s0 + s1), v3) _ hq
def q_X9_load_88 (rec60 : (sk_D × Int32 × Int32) → Option (Int32 × sk_D)) (d : sk_D) (v2 : Int32) (s0 : Int32) : Option (Int32 × sk_D) :=
  if s0 = 0 then (q_X9_load_99 rec60 d s0 v2 (0 : Int32)) else (q_X9_load_99 rec60 d s0 v2 (1 : Int32))
set_option maxRecDepth 100000 in
set_option maxHeartbeats 4000000 in
theorem t_X9_load_88 {l : Launch} {rec60 : (sk_D × Int32 × Int32) → Option (Int32 × sk_D)} {d : sk_D} {v2 : Int32} {s0 : Int32} (hrec60 : ∀ (a : (sk_D × Int32 × Int32)) (res : Int32 × sk_D), rec60 a = some res → sk_G l (sk_rm 6 0 0) m_X9_load sk_Ex0 (sk_Zm m_X9_load (some (.inl res.1)) (sk_mm res.2)) 0 0 60 [some (.inr (.inr (some (44, 0)))), none, some (.inl a.2.1), some (.inl a.2.2)] [] (sk_mm a.1)) {res : Int32 × sk_D} (hq : q_X9_load_88 rec60 d v2 s0 = some res) :
    sk_G l (sk_rm 6 0 0) m_X9_load sk_Ex0 (sk_Zm m_X9_load (some (.inl res.1)) (sk_mm res.2)) 0 0 88 [some (.inr (.inr (some (44, 0)))), none, some (.inl v2), none] [.inl s0] (sk_mm d) := by
  unfold q_X9_load_88 at hq
  refine sg_istore_n 89 [some (.inr (.inr (some (44, 0)))), none, some (.inl v2), some (.inl s0)] (sk_td o_X9_load 49 rfl) rfl rfl (Nat.le_of_ble_eq_true rfl) rfl ?_
  refine sg_iload_n 90 (sk_td o_X9_load 50 rfl) rfl rfl ?_
  refine sg_iload_n 91 (sk_td o_X9_load 51 rfl) rfl rfl ?_
  refine sg_if_eq 98 94 (sk_td o_X9_load 52 rfl) (by decide) rfl (fun hc => ?_) (fun hc => ?_)
  · rw [if_pos hc] at hq
    refine sg_iconst (v := (0 : Int32)) 99 (sk_td o_X9_load 55 rfl) rfl (by decide) ?_
    refine sk_wk [true, true, false, true] (ls' := [some (.inr (.inr (some (44, 0)))), none, none, some (.inl s0)]) rfl ?_
    exact t_X9_load_99 hrec60 hq
  · rw [if_neg hc] at hq
    refine sg_iconst (v := (1 : Int32)) 95 (sk_td o_X9_load 53 rfl) rfl (by decide) ?_
    refine sg_goto 99 (sk_td o_X9_load 54 rfl) (by decide) ?_
    refine sk_wk [true, true, false, true] (ls' := [some (.inr (.inr (some (44, 0)))), none, none, some (.inl s0)]) rfl ?_
    exact t_X9_load_99 hrec60 hq
def q_X9_load_60 (rec60 : (sk_D × Int32 × Int32) → Option (Int32 × sk_D)) (d : sk_D) (v2 : Int32) (v3 : Int32) : Option (Int32 × sk_D) :=
  if v3 = 0 then some (v2, d) else if (d.1 44 0 36) ≤ (d.1 44 0 56) then some (v2, d) else (q_X9_entry d (1 : Int32)).bind fun x1 => if x1.1 < 0 then (q_X9_load_88 rec60 x1.2 v2 (0 : Int32)) else (q_X9_load_88 rec60 x1.2 v2 (1 : Int32))
set_option maxRecDepth 100000 in
set_option maxHeartbeats 4000000 in
theorem t_X9_load_60 {l : Launch} {rec60 : (sk_D × Int32 × Int32) → Option (Int32 × sk_D)} {d : sk_D} {v2 : Int32} {v3 : Int32} (hrec60 : ∀ (a : (sk_D × Int32 × Int32)) (res : Int32 × sk_D), rec60 a = some res → sk_G l (sk_rm 6 0 0) m_X9_load sk_Ex0 (sk_Zm m_X9_load (some (.inl res.1)) (sk_mm res.2)) 0 0 60 [some (.inr (.inr (some (44, 0)))), none, some (.inl a.2.1), some (.inl a.2.2)] [] (sk_mm a.1)) {res : Int32 × sk_D} (hq : q_X9_load_60 rec60 d v2 v3 = some res) :
    sk_G l (sk_rm 6 0 0) m_X9_load sk_Ex0 (sk_Zm m_X9_load (some (.inl res.1)) (sk_mm res.2)) 0 0 60 [some (.inr (.inr (some (44, 0)))), none, some (.inl v2), some (.inl v3)] [] (sk_mm d) := by
  unfold q_X9_load_60 at hq
  refine sg_iload_n 61 (sk_td o_X9_load 35 rfl) rfl rfl ?_
  refine sg_if_eq 104 64 (sk_td o_X9_load 36 rfl) (by decide) rfl (fun hc => ?_) (fun hc => ?_)
  · rw [if_pos hc] at hq
    refine sg_iload_n 105 (sk_td o_X9_load 59 rfl) rfl rfl ?_
    obtain rfl := Option.some.inj hq
    exact sg_iret (sk_td o_X9_load 60 rfl) rfl rfl
  · rw [if_neg hc] at hq
    refine sg_aload_n 65 (sk_td o_X9_load 37 rfl) rfl rfl ?_
    refine sm_getI 68 (sk_td o_X9_load 38 rfl) rfl kf_X9_312 rfl rfl sz_44 ?_
    refine sg_aload_n 69 (sk_td o_X9_load 39 rfl) rfl rfl ?_
    refine sm_getI 72 (sk_td o_X9_load 40 rfl) rfl kf_X9_309 rfl rfl sz_44 ?_
    refine sg_ic_ge 104 75 (sk_td o_X9_load 41 rfl) (by decide) rfl (fun hc => ?_) (fun hc => ?_)
    · rw [if_pos hc] at hq
      refine sg_iload_n 105 (sk_td o_X9_load 59 rfl) rfl rfl ?_
      obtain rfl := Option.some.inj hq
      exact sg_iret (sk_td o_X9_load 60 rfl) rfl rfl
    · rw [if_neg hc] at hq
      refine sg_aload_n 76 (sk_td o_X9_load 42 rfl) rfl rfl ?_
      refine sg_iconst (v := (1 : Int32)) 77 (sk_td o_X9_load 43 rfl) rfl (by decide) ?_
      obtain ⟨x1, hr_x1, hq⟩ := sk_bnd hq
      refine sm_callV1i 80 (s_X9_entry hr_x1) (sk_td o_X9_load 44 rfl) rfl lv_X9_362 rfl rfl rfl sz_44 (sk_rok (Nat.le_of_ble_eq_true rfl) (Nat.le_of_ble_eq_true rfl) rfl rfl) (Nat.le_of_ble_eq_true rfl) ?_
      refine sg_if_lt 87 83 (sk_td o_X9_load 45 rfl) (by decide) rfl (fun hc => ?_) (fun hc => ?_)
      · rw [if_pos hc] at hq
        refine sg_iconst (v := (0 : Int32)) 88 (sk_td o_X9_load 48 rfl) rfl (by decide) ?_
        refine sk_wk [true, true, true, false] (ls' := [some (.inr (.inr (some (44, 0)))), none, some (.inl v2), none]) rfl ?_
        exact t_X9_load_88 hrec60 hq
      · rw [if_neg hc] at hq
        refine sg_iconst (v := (1 : Int32)) 84 (sk_td o_X9_load 46 rfl) rfl (by decide) ?_
        refine sg_goto 88 (sk_td o_X9_load 47 rfl) (by decide) ?_
        refine sk_wk [true, true, true, false] (ls' := [some (.inr (.inr (some (44, 0)))), none, some (.inl v2), none]) rfl ?_
        exact t_X9_load_88 hrec60 hq
def l_X9_load_60 (fl : Nat) (a : (sk_D × Int32 × Int32)) : Option (Int32 × sk_D) := sk_it (fun rec60 a => q_X9_load_60 rec60 a.1 a.2.1 a.2.2) fl a
theorem lt_X9_load_60 {l : Launch} : ∀ (fl : Nat) (a : (sk_D × Int32 × Int32)) (res : Int32 × sk_D), l_X9_load_60 fl a = some res → sk_G l (sk_rm 6 0 0) m_X9_load sk_Ex0 (sk_Zm m_X9_load (some (.inl res.1)) (sk_mm res.2)) 0 0 60 [some (.inr (.inr (some (44, 0)))), none, some (.inl a.2.1), some (.inl a.2.2)] [] (sk_mm a.1) :=
  sk_it_ind (P := fun (a : (sk_D × Int32 × Int32)) (res : Int32 × sk_D) => sk_G l (sk_rm 6 0 0) m_X9_load sk_Ex0 (sk_Zm m_X9_load (some (.inl res.1)) (sk_mm res.2)) 0 0 60 [some (.inr (.inr (some (44, 0)))), none, some (.inl a.2.1), some (.inl a.2.2)] [] (sk_mm a.1)) (fun rec60 hrec60 a res hq  => t_X9_load_60 hrec60 hq )
def q_X9_load_39 (d : sk_D) (v1 : Int32) : Option (Int32 × sk_D) :=
  if v1 = 0 then some (((-10 : Int32) - (d.1 44 0 56)), d) else (l_X9_load_60 sk_fu ((sk_wi d 44 0 56 (0 : Int32)), (0 : Int32), (1 : Int32)))
set_option maxRecDepth 100000 in
set_option maxHeartbeats 4000000 in
theorem t_X9_load_39 {l : Launch} {d : sk_D} {v1 : Int32} {res : Int32 × sk_D} (hq : q_X9_load_39 d v1 = some res) :
    sk_G l (sk_rm 6 0 0) m_X9_load sk_Ex0 (sk_Zm m_X9_load (some (.inl res.1)) (sk_mm res.2)) 0 0 39 [some (.inr (.inr (some (44, 0)))), some (.inl v1), none, none] [] (sk_mm d) := by
  unfold q_X9_load_39 at hq
  refine sg_iload_n 40 (sk_td o_X9_load 21 rfl) rfl rfl ?_
  refine sg_if_ne 51 43 (sk_td o_X9_load 22 rfl) (by decide) rfl (fun hc => ?_) (fun hc => ?_)
  · rw [if_neg hc] at hq
    refine sg_aload_n 52 (sk_td o_X9_load 28 rfl) rfl rfl ?_
    refine sg_iconst (v := (0 : Int32)) 53 (sk_td o_X9_load 29 rfl) rfl (by decide) ?_
    refine sm_putI 56 (sk_td o_X9_load 30 rfl) rfl kp_X9_312 rfl rfl sz_44 ?_
    refine sg_iconst (v := (0 : Int32)) 57 (sk_td o_X9_load 31 rfl) rfl (by decide) ?_
    refine sg_istore_n 58 [some (.inr (.inr (some (44, 0)))), some (.inl v1), some (.inl (0 : Int32)), none] (sk_td o_X9_load 32 rfl) rfl rfl (Nat.le_of_ble_eq_true rfl) rfl ?_
    refine sg_iconst (v := (1 : Int32)) 59 (sk_td o_X9_load 33 rfl) rfl (by decide) ?_
    refine sg_istore_n 60 [some (.inr (.inr (some (44, 0)))), some (.inl v1), some (.inl (0 : Int32)), some (.inl (1 : Int32))] (sk_td o_X9_load 34 rfl) rfl rfl (Nat.le_of_ble_eq_true rfl) rfl ?_
    refine sk_wk [true, false, true, true] (ls' := [some (.inr (.inr (some (44, 0)))), none, some (.inl (0 : Int32)), some (.inl (1 : Int32))]) rfl ?_
    exact lt_X9_load_60 sk_fu ((sk_wi d 44 0 56 (0 : Int32)), (0 : Int32), (1 : Int32)) _ hq
  · rw [if_pos hc] at hq
    refine sg_bipush (v := (-10 : Int32)) 45 (sk_td o_X9_load 23 rfl) rfl (by decide) ?_
    refine sg_aload_n 46 (sk_td o_X9_load 24 rfl) rfl rfl ?_
    refine sm_getI 49 (sk_td o_X9_load 25 rfl) rfl kf_X9_312 rfl rfl sz_44 ?_
    refine sg_isub 50 (sk_td o_X9_load 26 rfl) rfl ?_
    obtain rfl := Option.some.inj hq
    exact sg_iret (sk_td o_X9_load 27 rfl) rfl rfl
def q_X9_load_35 (rec7 : (sk_D × Int32) → Option (Int32 × sk_D)) (d : sk_D) (s0 : Int32) : Option (Int32 × sk_D) :=
  (rec7 (d, s0))
set_option maxRecDepth 100000 in
set_option maxHeartbeats 4000000 in
theorem t_X9_load_35 {l : Launch} {rec7 : (sk_D × Int32) → Option (Int32 × sk_D)} {d : sk_D} {s0 : Int32} (hrec7 : ∀ (a : (sk_D × Int32)) (res : Int32 × sk_D), rec7 a = some res → sk_G l (sk_rm 6 0 0) m_X9_load sk_Ex0 (sk_Zm m_X9_load (some (.inl res.1)) (sk_mm res.2)) 0 0 7 [some (.inr (.inr (some (44, 0)))), some (.inl a.2), none, none] [] (sk_mm a.1)) {res : Int32 × sk_D} (hq : q_X9_load_35 rec7 d s0 = some res) :
    sk_G l (sk_rm 6 0 0) m_X9_load sk_Ex0 (sk_Zm m_X9_load (some (.inl res.1)) (sk_mm res.2)) 0 0 35 [some (.inr (.inr (some (44, 0)))), none, none, none] [.inl s0] (sk_mm d) := by
  unfold q_X9_load_35 at hq
  refine sg_istore_n 36 [some (.inr (.inr (some (44, 0)))), some (.inl s0), none, none] (sk_td o_X9_load 19 rfl) rfl rfl (Nat.le_of_ble_eq_true rfl) rfl ?_
  refine sg_goto 7 (sk_td o_X9_load 20 rfl) (by decide) ?_
  exact hrec7 (d, s0) _ hq
def q_X9_load_7 (rec7 : (sk_D × Int32) → Option (Int32 × sk_D)) (d : sk_D) (v1 : Int32) : Option (Int32 × sk_D) :=
  if v1 = 0 then (q_X9_load_39 d v1) else if (d.1 44 0 36) ≤ (d.1 44 0 56) then (q_X9_load_39 d v1) else (q_X9_entry d (0 : Int32)).bind fun x1 => if x1.1 = 0 then (q_X9_load_35 rec7 x1.2 (1 : Int32)) else (q_X9_load_35 rec7 x1.2 (0 : Int32))
set_option maxRecDepth 100000 in
set_option maxHeartbeats 4000000 in
theorem t_X9_load_7 {l : Launch} {rec7 : (sk_D × Int32) → Option (Int32 × sk_D)} {d : sk_D} {v1 : Int32} (hrec7 : ∀ (a : (sk_D × Int32)) (res : Int32 × sk_D), rec7 a = some res → sk_G l (sk_rm 6 0 0) m_X9_load sk_Ex0 (sk_Zm m_X9_load (some (.inl res.1)) (sk_mm res.2)) 0 0 7 [some (.inr (.inr (some (44, 0)))), some (.inl a.2), none, none] [] (sk_mm a.1)) {res : Int32 × sk_D} (hq : q_X9_load_7 rec7 d v1 = some res) :
    sk_G l (sk_rm 6 0 0) m_X9_load sk_Ex0 (sk_Zm m_X9_load (some (.inl res.1)) (sk_mm res.2)) 0 0 7 [some (.inr (.inr (some (44, 0)))), some (.inl v1), none, none] [] (sk_mm d) := by
  unfold q_X9_load_7 at hq
  refine sg_iload_n 8 (sk_td o_X9_load 5 rfl) rfl rfl ?_
  refine sg_if_eq 39 11 (sk_td o_X9_load 6 rfl) (by decide) rfl (fun hc => ?_) (fun hc => ?_)
  · rw [if_pos hc] at hq
    exact t_X9_load_39 hq
  · rw [if_neg hc] at hq
    refine sg_aload_n 12 (sk_td o_X9_load 7 rfl) rfl rfl ?_
    refine sm_getI 15 (sk_td o_X9_load 8 rfl) rfl kf_X9_312 rfl rfl sz_44 ?_
    refine sg_aload_n 16 (sk_td o_X9_load 9 rfl) rfl rfl ?_
    refine sm_getI 19 (sk_td o_X9_load 10 rfl) rfl kf_X9_309 rfl rfl sz_44 ?_
    refine sg_ic_ge 39 22 (sk_td o_X9_load 11 rfl) (by decide) rfl (fun hc => ?_) (fun hc => ?_)
    · rw [if_pos hc] at hq
      exact t_X9_load_39 hq
    · rw [if_neg hc] at hq
      refine sg_aload_n 23 (sk_td o_X9_load 12 rfl) rfl rfl ?_
      refine sg_iconst (v := (0 : Int32)) 24 (sk_td o_X9_load 13 rfl) rfl (by decide) ?_
      obtain ⟨x1, hr_x1, hq⟩ := sk_bnd hq
      refine sm_callV1i 27 (s_X9_entry hr_x1) (sk_td o_X9_load 14 rfl) rfl lv_X9_362 rfl rfl rfl sz_44 (sk_rok (Nat.le_of_ble_eq_true rfl) (Nat.le_of_ble_eq_true rfl) rfl rfl) (Nat.le_of_ble_eq_true rfl) ?_
      refine sg_if_ne 34 30 (sk_td o_X9_load 15 rfl) (by decide) rfl (fun hc => ?_) (fun hc => ?_)
      · rw [if_neg hc] at hq
        refine sg_iconst (v := (0 : Int32)) 35 (sk_td o_X9_load 18 rfl) rfl (by decide) ?_
        refine sk_wk [true, false, true, true] (ls' := [some (.inr (.inr (some (44, 0)))), none, none, none]) rfl ?_
        exact t_X9_load_35 hrec7 hq
      · rw [if_pos hc] at hq
        refine sg_iconst (v := (1 : Int32)) 31 (sk_td o_X9_load 16 rfl) rfl (by decide) ?_
        refine sg_goto 35 (sk_td o_X9_load 17 rfl) (by decide) ?_
        refine sk_wk [true, false, true, true] (ls' := [some (.inr (.inr (some (44, 0)))), none, none, none]) rfl ?_
        exact t_X9_load_35 hrec7 hq
def l_X9_load_7 (fl : Nat) (a : (sk_D × Int32)) : Option (Int32 × sk_D) := sk_it (fun rec7 a => q_X9_load_7 rec7 a.1 a.2) fl a
theorem lt_X9_load_7 {l : Launch} : ∀ (fl : Nat) (a : (sk_D × Int32)) (res : Int32 × sk_D), l_X9_load_7 fl a = some res → sk_G l (sk_rm 6 0 0) m_X9_load sk_Ex0 (sk_Zm m_X9_load (some (.inl res.1)) (sk_mm res.2)) 0 0 7 [some (.inr (.inr (some (44, 0)))), some (.inl a.2), none, none] [] (sk_mm a.1) :=
  sk_it_ind (P := fun (a : (sk_D × Int32)) (res : Int32 × sk_D) => sk_G l (sk_rm 6 0 0) m_X9_load sk_Ex0 (sk_Zm m_X9_load (some (.inl res.1)) (sk_mm res.2)) 0 0 7 [some (.inr (.inr (some (44, 0)))), some (.inl a.2), none, none] [] (sk_mm a.1)) (fun rec7 hrec7 a res hq  => t_X9_load_7 hrec7 hq )
def q_X9_load_0 (d : sk_D) : Option (Int32 × sk_D) :=
  (l_X9_load_7 sk_fu ((sk_wi d 44 0 56 (0 : Int32)), (1 : Int32)))
set_option maxRecDepth 100000 in
set_option maxHeartbeats 4000000 in
theorem t_X9_load_0 {l : Launch} {d : sk_D} {res : Int32 × sk_D} (hq : q_X9_load_0 d = some res) :
    sk_G l (sk_rm 6 0 0) m_X9_load sk_Ex0 (sk_Zm m_X9_load (some (.inl res.1)) (sk_mm res.2)) 0 0 0 [some (.inr (.inr (some (44, 0)))), none, none, none] [] (sk_mm d) := by
  unfold q_X9_load_0 at hq
  refine sg_aload_n 1 (sk_td o_X9_load 0 rfl) rfl rfl ?_
  refine sg_iconst (v := (0 : Int32)) 2 (sk_td o_X9_load 1 rfl) rfl (by decide) ?_
  refine sm_putI 5 (sk_td o_X9_load 2 rfl) rfl kp_X9_312 rfl rfl sz_44 ?_
  refine sg_iconst (v := (1 : Int32)) 6 (sk_td o_X9_load 3 rfl) rfl (by decide) ?_
  refine sg_istore_n 7 [some (.inr (.inr (some (44, 0)))), some (.inl (1 : Int32)), none, none] (sk_td o_X9_load 4 rfl) rfl rfl (Nat.le_of_ble_eq_true rfl) rfl ?_
  exact lt_X9_load_7 sk_fu ((sk_wi d 44 0 56 (0 : Int32)), (1 : Int32)) _ hq
def q_X9_load (d : sk_D) : Option (Int32 × sk_D) := q_X9_load_0 d 
theorem s_X9_load {l : Launch} {d : sk_D} {res : Int32 × sk_D} (hq : q_X9_load d = some res) : sk_M l 6 m_X9_load [.inr (.inr (some (44, 0)))] (sk_mm d) (some (.inl res.1)) (sk_mm res.2) :=
  sk_enter (by decide) (fun _ => Nat.le_of_ble_eq_true rfl) (Nat.le_of_ble_eq_true rfl) (t_X9_load_0 hq )
def q_X9_digest_346 (rec346 : (Int64 × Int32) → Option (Int64)) (d : sk_D) (w1 : Int64) (v3 : Int32) : Option (Int64) :=
  if (d.1 44 0 27) ≤ v3 then (q_X9_placedMany d).bind fun x1 => (q_X9_outMany d).bind fun x2 => some (((31 : Int64) * (((31 : Int64) * (((31 : Int64) * w1) + x1.toInt64)) + x2.toInt64)) + (d.1 44 0 36).toInt64) else if sk_bi v3 3 = true then if sk_bi v3 3 = true then (rec346 ((((31 : Int64) * (((31 : Int64) * w1) + (d.1 73 0 v3.toNatClampNeg).toInt64)) + (d.1 74 0 v3.toNatClampNeg).toInt64), (v3 + (1 : Int32)))) else none else none
set_option maxRecDepth 100000 in
set_option maxHeartbeats 4000000 in
theorem t_X9_digest_346 {l : Launch} {rec346 : (Int64 × Int32) → Option (Int64)} {d : sk_D} {w1 : Int64} {v3 : Int32} (hrec346 : ∀ (a : (Int64 × Int32)) (res : Int64), rec346 a = some res → sk_G l (sk_rm 3 0 0) m_X9_digest sk_Ex0 (sk_Zm m_X9_digest (some (.inr (.inl res))) (sk_mm d)) 0 0 346 [some (.inr (.inr (some (44, 0)))), some (.inr (.inl a.1)), none, some (.inl a.2), none] [] (sk_mm d)) {res : Int64} (hq : q_X9_digest_346 rec346 d w1 v3 = some res) :
    sk_G l (sk_rm 3 0 0) m_X9_digest sk_Ex0 (sk_Zm m_X9_digest (some (.inr (.inl res))) (sk_mm d)) 0 0 346 [some (.inr (.inr (some (44, 0)))), some (.inr (.inl w1)), none, some (.inl v3), none] [] (sk_mm d) := by
  unfold q_X9_digest_346 at hq
  refine sg_iload_n 347 (sk_td o_X9_digest 228 rfl) rfl rfl ?_
  refine sg_aload_n 348 (sk_td o_X9_digest 229 rfl) rfl rfl ?_
  refine sm_getI 351 (sk_td o_X9_digest 230 rfl) rfl kf_X9_284 rfl rfl sz_44 ?_
  refine sg_ic_ge 388 354 (sk_td o_X9_digest 231 rfl) (by decide) rfl (fun hc => ?_) (fun hc => ?_)
  · rw [if_pos hc] at hq
    refine sg_ldc2 391 (sk_td o_X9_digest 254 rfl) rfl kc_X9_368 ?_
    refine sg_lload_n 392 (sk_td o_X9_digest 255 rfl) rfl rfl ?_
    refine sg_lmul 393 (sk_td o_X9_digest 256 rfl) rfl ?_
    refine sg_aload_n 394 (sk_td o_X9_digest 257 rfl) rfl rfl ?_
    obtain ⟨x1, hr_x1, hq⟩ := sk_bnd hq
    refine sm_callV0i 397 (s_X9_placedMany hr_x1) (sk_td o_X9_digest 258 rfl) rfl lv_X9_257 rfl rfl rfl sz_44 (sk_rok (Nat.le_of_ble_eq_true rfl) (Nat.le_of_ble_eq_true rfl) rfl rfl) (Nat.le_of_ble_eq_true rfl) ?_
    refine sg_i2l 398 (sk_td o_X9_digest 259 rfl) rfl ?_
    refine sg_ladd 399 (sk_td o_X9_digest 260 rfl) rfl ?_
    refine sg_lstore_n 400 [some (.inr (.inr (some (44, 0)))), some (.inr (.inl (((31 : Int64) * w1) + x1.toInt64))), none, some (.inl v3), none] (sk_td o_X9_digest 261 rfl) rfl rfl (Nat.le_of_ble_eq_true rfl) rfl ?_
    refine sg_ldc2 403 (sk_td o_X9_digest 262 rfl) rfl kc_X9_368 ?_
    refine sg_lload_n 404 (sk_td o_X9_digest 263 rfl) rfl rfl ?_
    refine sg_lmul 405 (sk_td o_X9_digest 264 rfl) rfl ?_
    refine sg_aload_n 406 (sk_td o_X9_digest 265 rfl) rfl rfl ?_
    obtain ⟨x2, hr_x2, hq⟩ := sk_bnd hq
    refine sm_callV0i 409 (s_X9_outMany hr_x2) (sk_td o_X9_digest 266 rfl) rfl lv_X9_260 rfl rfl rfl sz_44 (sk_rok (Nat.le_of_ble_eq_true rfl) (Nat.le_of_ble_eq_true rfl) rfl rfl) (Nat.le_of_ble_eq_true rfl) ?_
    refine sg_i2l 410 (sk_td o_X9_digest 267 rfl) rfl ?_
    refine sg_ladd 411 (sk_td o_X9_digest 268 rfl) rfl ?_
    refine sg_lstore_n 412 [some (.inr (.inr (some (44, 0)))), some (.inr (.inl (((31 : Int64) * (((31 : Int64) * w1) + x1.toInt64)) + x2.toInt64))), none, some (.inl v3), none] (sk_td o_X9_digest 269 rfl) rfl rfl (Nat.le_of_ble_eq_true rfl) rfl ?_
    refine sg_ldc2 415 (sk_td o_X9_digest 270 rfl) rfl kc_X9_368 ?_
    refine sg_lload_n 416 (sk_td o_X9_digest 271 rfl) rfl rfl ?_
    refine sg_lmul 417 (sk_td o_X9_digest 272 rfl) rfl ?_
    refine sg_aload_n 418 (sk_td o_X9_digest 273 rfl) rfl rfl ?_
    refine sm_getI 421 (sk_td o_X9_digest 274 rfl) rfl kf_X9_309 rfl rfl sz_44 ?_
    refine sg_i2l 422 (sk_td o_X9_digest 275 rfl) rfl ?_
    refine sg_ladd 423 (sk_td o_X9_digest 276 rfl) rfl ?_
    obtain rfl := Option.some.inj hq
    exact sg_lret (sk_td o_X9_digest 277 rfl) rfl
  · rw [if_neg hc] at hq
    refine sg_ldc2 357 (sk_td o_X9_digest 232 rfl) rfl kc_X9_368 ?_
    refine sg_lload_n 358 (sk_td o_X9_digest 233 rfl) rfl rfl ?_
    refine sg_lmul 359 (sk_td o_X9_digest 234 rfl) rfl ?_
    refine sg_aload_n 360 (sk_td o_X9_digest 235 rfl) rfl rfl ?_
    refine sm_getR (73, 0) 363 (sk_td o_X9_digest 236 rfl) rfl kf_X9_104 rfl rfl sz_44 rfl ?_
    refine sg_iload_n 364 (sk_td o_X9_digest 237 rfl) rfl rfl ?_
    obtain ⟨hb3, hq⟩ := sk_ifn hq
    refine sm_iald 365 (sk_td o_X9_digest 238 rfl) rfl rfl sz_73 hb3 ?_
    refine sg_i2l 366 (sk_td o_X9_digest 239 rfl) rfl ?_
    refine sg_ladd 367 (sk_td o_X9_digest 240 rfl) rfl ?_
    refine sg_lstore_n 368 [some (.inr (.inr (some (44, 0)))), some (.inr (.inl (((31 : Int64) * w1) + (d.1 73 0 v3.toNatClampNeg).toInt64))), none, some (.inl v3), none] (sk_td o_X9_digest 241 rfl) rfl rfl (Nat.le_of_ble_eq_true rfl) rfl ?_
    refine sg_ldc2 371 (sk_td o_X9_digest 242 rfl) rfl kc_X9_368 ?_
    refine sg_lload_n 372 (sk_td o_X9_digest 243 rfl) rfl rfl ?_
    refine sg_lmul 373 (sk_td o_X9_digest 244 rfl) rfl ?_
    refine sg_aload_n 374 (sk_td o_X9_digest 245 rfl) rfl rfl ?_
    refine sm_getR (74, 0) 377 (sk_td o_X9_digest 246 rfl) rfl kf_X9_107 rfl rfl sz_44 rfl ?_
    refine sg_iload_n 378 (sk_td o_X9_digest 247 rfl) rfl rfl ?_
    obtain ⟨hb4, hq⟩ := sk_ifn hq
    refine sm_iald 379 (sk_td o_X9_digest 248 rfl) rfl rfl sz_74 hb4 ?_
    refine sg_i2l 380 (sk_td o_X9_digest 249 rfl) rfl ?_
    refine sg_ladd 381 (sk_td o_X9_digest 250 rfl) rfl ?_
    refine sg_lstore_n 382 [some (.inr (.inr (some (44, 0)))), some (.inr (.inl (((31 : Int64) * (((31 : Int64) * w1) + (d.1 73 0 v3.toNatClampNeg).toInt64)) + (d.1 74 0 v3.toNatClampNeg).toInt64))), none, some (.inl v3), none] (sk_td o_X9_digest 251 rfl) rfl rfl (Nat.le_of_ble_eq_true rfl) rfl ?_
    refine sg_iinc (v3 + (1 : Int32)) 385 [some (.inr (.inr (some (44, 0)))), some (.inr (.inl (((31 : Int64) * (((31 : Int64) * w1) + (d.1 73 0 v3.toNatClampNeg).toInt64)) + (d.1 74 0 v3.toNatClampNeg).toInt64))), none, some (.inl (v3 + (1 : Int32))), none] (sk_td o_X9_digest 252 rfl) rfl rfl rfl rfl (Nat.le_of_ble_eq_true rfl) rfl ?_
    refine sg_goto 346 (sk_td o_X9_digest 253 rfl) (by decide) ?_
    exact hrec346 ((((31 : Int64) * (((31 : Int64) * w1) + (d.1 73 0 v3.toNatClampNeg).toInt64)) + (d.1 74 0 v3.toNatClampNeg).toInt64), (v3 + (1 : Int32))) _ hq
def l_X9_digest_346 (d : sk_D) (fl : Nat) (a : (Int64 × Int32)) : Option (Int64) := sk_it (fun rec346 a => q_X9_digest_346 rec346 d a.1 a.2) fl a
theorem lt_X9_digest_346 {l : Launch} {d : sk_D} : ∀ (fl : Nat) (a : (Int64 × Int32)) (res : Int64), l_X9_digest_346 d fl a = some res → sk_G l (sk_rm 3 0 0) m_X9_digest sk_Ex0 (sk_Zm m_X9_digest (some (.inr (.inl res))) (sk_mm d)) 0 0 346 [some (.inr (.inr (some (44, 0)))), some (.inr (.inl a.1)), none, some (.inl a.2), none] [] (sk_mm d) :=
  sk_it_ind (P := fun (a : (Int64 × Int32)) (res : Int64) => sk_G l (sk_rm 3 0 0) m_X9_digest sk_Ex0 (sk_Zm m_X9_digest (some (.inr (.inl res))) (sk_mm d)) 0 0 346 [some (.inr (.inr (some (44, 0)))), some (.inr (.inl a.1)), none, some (.inl a.2), none] [] (sk_mm d)) (fun rec346 hrec346 a res hq  => t_X9_digest_346 hrec346 hq )
def q_X9_digest_338 (rec299 : (Int64 × Int32) → Option (Int64)) (d : sk_D) (w1 : Int64) (v3 : Int32) : Option (Int64) :=
  (rec299 (w1, (v3 + (1 : Int32))))
set_option maxRecDepth 100000 in
set_option maxHeartbeats 4000000 in
theorem t_X9_digest_338 {l : Launch} {rec299 : (Int64 × Int32) → Option (Int64)} {d : sk_D} {w1 : Int64} {v3 : Int32} (hrec299 : ∀ (a : (Int64 × Int32)) (res : Int64), rec299 a = some res → sk_G l (sk_rm 3 0 0) m_X9_digest sk_Ex0 (sk_Zm m_X9_digest (some (.inr (.inl res))) (sk_mm d)) 0 0 299 [some (.inr (.inr (some (44, 0)))), some (.inr (.inl a.1)), none, some (.inl a.2), none] [] (sk_mm d)) {res : Int64} (hq : q_X9_digest_338 rec299 d w1 v3 = some res) :
    sk_G l (sk_rm 3 0 0) m_X9_digest sk_Ex0 (sk_Zm m_X9_digest (some (.inr (.inl res))) (sk_mm d)) 0 0 338 [some (.inr (.inr (some (44, 0)))), some (.inr (.inl w1)), none, some (.inl v3), none] [] (sk_mm d) := by
  unfold q_X9_digest_338 at hq
  refine sg_iinc (v3 + (1 : Int32)) 341 [some (.inr (.inr (some (44, 0)))), some (.inr (.inl w1)), none, some (.inl (v3 + (1 : Int32))), none] (sk_td o_X9_digest 224 rfl) rfl rfl rfl rfl (Nat.le_of_ble_eq_true rfl) rfl ?_
  refine sg_goto 299 (sk_td o_X9_digest 225 rfl) (by decide) ?_
  exact hrec299 (w1, (v3 + (1 : Int32))) _ hq
def q_X9_digest_299 (rec299 : (Int64 × Int32) → Option (Int64)) (d : sk_D) (w1 : Int64) (v3 : Int32) : Option (Int64) :=
  if (8 : Int32) ≤ v3 then (l_X9_digest_346 d sk_fu (w1, (0 : Int32))) else if sk_bi v3 8 = true then if (d.1 62 0 v3.toNatClampNeg) = (1 : Int32) then if sk_bi v3 8 = true then (q_X9_digest_338 rec299 d (((31 : Int64) * (((31 : Int64) * w1) + v3.toInt64)) + (d.1 67 0 v3.toNatClampNeg).toInt64) v3) else none else (q_X9_digest_338 rec299 d w1 v3) else none
set_option maxRecDepth 100000 in
set_option maxHeartbeats 4000000 in
theorem t_X9_digest_299 {l : Launch} {rec299 : (Int64 × Int32) → Option (Int64)} {d : sk_D} {w1 : Int64} {v3 : Int32} (hrec299 : ∀ (a : (Int64 × Int32)) (res : Int64), rec299 a = some res → sk_G l (sk_rm 3 0 0) m_X9_digest sk_Ex0 (sk_Zm m_X9_digest (some (.inr (.inl res))) (sk_mm d)) 0 0 299 [some (.inr (.inr (some (44, 0)))), some (.inr (.inl a.1)), none, some (.inl a.2), none] [] (sk_mm d)) {res : Int64} (hq : q_X9_digest_299 rec299 d w1 v3 = some res) :
    sk_G l (sk_rm 3 0 0) m_X9_digest sk_Ex0 (sk_Zm m_X9_digest (some (.inr (.inl res))) (sk_mm d)) 0 0 299 [some (.inr (.inr (some (44, 0)))), some (.inr (.inl w1)), none, some (.inl v3), none] [] (sk_mm d) := by
  unfold q_X9_digest_299 at hq
  refine sg_iload_n 300 (sk_td o_X9_digest 198 rfl) rfl rfl ?_
  refine sg_bipush (v := (8 : Int32)) 302 (sk_td o_X9_digest 199 rfl) rfl (by decide) ?_
  refine sg_ic_ge 344 305 (sk_td o_X9_digest 200 rfl) (by decide) rfl (fun hc => ?_) (fun hc => ?_)
  · rw [if_pos hc] at hq
    refine sg_iconst (v := (0 : Int32)) 345 (sk_td o_X9_digest 226 rfl) rfl (by decide) ?_
    refine sg_istore_n 346 [some (.inr (.inr (some (44, 0)))), some (.inr (.inl w1)), none, some (.inl (0 : Int32)), none] (sk_td o_X9_digest 227 rfl) rfl rfl (Nat.le_of_ble_eq_true rfl) rfl ?_
    exact lt_X9_digest_346 sk_fu (w1, (0 : Int32)) _ hq
  · rw [if_neg hc] at hq
    refine sg_aload_n 306 (sk_td o_X9_digest 201 rfl) rfl rfl ?_
    refine sm_getR (62, 0) 309 (sk_td o_X9_digest 202 rfl) rfl kf_X9_71 rfl rfl sz_44 rfl ?_
    refine sg_iload_n 310 (sk_td o_X9_digest 203 rfl) rfl rfl ?_
    obtain ⟨hb1, hq⟩ := sk_ifn hq
    refine sm_iald 311 (sk_td o_X9_digest 204 rfl) rfl rfl sz_62 hb1 ?_
    refine sg_iconst (v := (1 : Int32)) 312 (sk_td o_X9_digest 205 rfl) rfl (by decide) ?_
    refine sg_ic_ne 338 315 (sk_td o_X9_digest 206 rfl) (by decide) rfl (fun hc => ?_) (fun hc => ?_)
    · rw [if_neg hc] at hq
      exact t_X9_digest_338 hrec299 hq
    · rw [if_pos hc] at hq
      refine sg_ldc2 318 (sk_td o_X9_digest 207 rfl) rfl kc_X9_368 ?_
      refine sg_lload_n 319 (sk_td o_X9_digest 208 rfl) rfl rfl ?_
      refine sg_lmul 320 (sk_td o_X9_digest 209 rfl) rfl ?_
      refine sg_iload_n 321 (sk_td o_X9_digest 210 rfl) rfl rfl ?_
      refine sg_i2l 322 (sk_td o_X9_digest 211 rfl) rfl ?_
      refine sg_ladd 323 (sk_td o_X9_digest 212 rfl) rfl ?_
      refine sg_lstore_n 324 [some (.inr (.inr (some (44, 0)))), some (.inr (.inl (((31 : Int64) * w1) + v3.toInt64))), none, some (.inl v3), none] (sk_td o_X9_digest 213 rfl) rfl rfl (Nat.le_of_ble_eq_true rfl) rfl ?_
      refine sg_ldc2 327 (sk_td o_X9_digest 214 rfl) rfl kc_X9_368 ?_
      refine sg_lload_n 328 (sk_td o_X9_digest 215 rfl) rfl rfl ?_
      refine sg_lmul 329 (sk_td o_X9_digest 216 rfl) rfl ?_
      refine sg_aload_n 330 (sk_td o_X9_digest 217 rfl) rfl rfl ?_
      refine sm_getR (67, 0) 333 (sk_td o_X9_digest 218 rfl) rfl kf_X9_86 rfl rfl sz_44 rfl ?_
      refine sg_iload_n 334 (sk_td o_X9_digest 219 rfl) rfl rfl ?_
      obtain ⟨hb2, hq⟩ := sk_ifn hq
      refine sm_iald 335 (sk_td o_X9_digest 220 rfl) rfl rfl sz_67 hb2 ?_
      refine sg_i2l 336 (sk_td o_X9_digest 221 rfl) rfl ?_
      refine sg_ladd 337 (sk_td o_X9_digest 222 rfl) rfl ?_
      refine sg_lstore_n 338 [some (.inr (.inr (some (44, 0)))), some (.inr (.inl (((31 : Int64) * (((31 : Int64) * w1) + v3.toInt64)) + (d.1 67 0 v3.toNatClampNeg).toInt64))), none, some (.inl v3), none] (sk_td o_X9_digest 223 rfl) rfl rfl (Nat.le_of_ble_eq_true rfl) rfl ?_
      exact t_X9_digest_338 hrec299 hq
def l_X9_digest_299 (d : sk_D) (fl : Nat) (a : (Int64 × Int32)) : Option (Int64) := sk_it (fun rec299 a => q_X9_digest_299 rec299 d a.1 a.2) fl a
theorem lt_X9_digest_299 {l : Launch} {d : sk_D} : ∀ (fl : Nat) (a : (Int64 × Int32)) (res : Int64), l_X9_digest_299 d fl a = some res → sk_G l (sk_rm 3 0 0) m_X9_digest sk_Ex0 (sk_Zm m_X9_digest (some (.inr (.inl res))) (sk_mm d)) 0 0 299 [some (.inr (.inr (some (44, 0)))), some (.inr (.inl a.1)), none, some (.inl a.2), none] [] (sk_mm d) :=
  sk_it_ind (P := fun (a : (Int64 × Int32)) (res : Int64) => sk_G l (sk_rm 3 0 0) m_X9_digest sk_Ex0 (sk_Zm m_X9_digest (some (.inr (.inl res))) (sk_mm d)) 0 0 299 [some (.inr (.inr (some (44, 0)))), some (.inr (.inl a.1)), none, some (.inl a.2), none] [] (sk_mm d)) (fun rec299 hrec299 a res hq  => t_X9_digest_299 hrec299 hq )
def q_X9_digest_291 (rec198 : (Int64 × Int32) → Option (Int64)) (d : sk_D) (w1 : Int64) (v3 : Int32) : Option (Int64) :=
  (rec198 (w1, (v3 + (1 : Int32))))
set_option maxRecDepth 100000 in
set_option maxHeartbeats 4000000 in
theorem t_X9_digest_291 {l : Launch} {rec198 : (Int64 × Int32) → Option (Int64)} {d : sk_D} {w1 : Int64} {v3 : Int32} (hrec198 : ∀ (a : (Int64 × Int32)) (res : Int64), rec198 a = some res → sk_G l (sk_rm 3 0 0) m_X9_digest sk_Ex0 (sk_Zm m_X9_digest (some (.inr (.inl res))) (sk_mm d)) 0 0 198 [some (.inr (.inr (some (44, 0)))), some (.inr (.inl a.1)), none, some (.inl a.2), none] [] (sk_mm d)) {res : Int64} (hq : q_X9_digest_291 rec198 d w1 v3 = some res) :
    sk_G l (sk_rm 3 0 0) m_X9_digest sk_Ex0 (sk_Zm m_X9_digest (some (.inr (.inl res))) (sk_mm d)) 0 0 291 [some (.inr (.inr (some (44, 0)))), some (.inr (.inl w1)), none, some (.inl v3), none] [] (sk_mm d) := by
  unfold q_X9_digest_291 at hq
  refine sg_iinc (v3 + (1 : Int32)) 294 [some (.inr (.inr (some (44, 0)))), some (.inr (.inl w1)), none, some (.inl (v3 + (1 : Int32))), none] (sk_td o_X9_digest 194 rfl) rfl rfl rfl rfl (Nat.le_of_ble_eq_true rfl) rfl ?_
  refine sg_goto 198 (sk_td o_X9_digest 195 rfl) (by decide) ?_
  exact hrec198 (w1, (v3 + (1 : Int32))) _ hq
def q_X9_digest_198 (rec198 : (Int64 × Int32) → Option (Int64)) (d : sk_D) (w1 : Int64) (v3 : Int32) : Option (Int64) :=
  if (4 : Int32) ≤ v3 then (l_X9_digest_299 d sk_fu (w1, (0 : Int32))) else if sk_bi v3 4 = true then if (d.1 53 0 v3.toNatClampNeg) = (1 : Int32) then if sk_bi v3 4 = true then (q_X9_sizeOf d v3).bind fun x3 => if sk_bi v3 4 = true then if sk_bi v3 4 = true then if sk_bi v3 4 = true then (q_X9_digest_291 rec198 d (((31 : Int64) * (((31 : Int64) * (((31 : Int64) * (((31 : Int64) * (((31 : Int64) * (((31 : Int64) * w1) + v3.toInt64)) + (d.1 54 0 v3.toNatClampNeg).toInt64)) + x3.toInt64)) + (d.1 57 0 v3.toNatClampNeg).toInt64)) + (d.1 71 0 v3.toNatClampNeg).toInt64)) + (d.1 72 0 v3.toNatClampNeg).toInt64) v3) else none else none else none else none else (q_X9_digest_291 rec198 d w1 v3) else none
set_option maxRecDepth 100000 in
set_option maxHeartbeats 4000000 in
theorem t_X9_digest_198 {l : Launch} {rec198 : (Int64 × Int32) → Option (Int64)} {d : sk_D} {w1 : Int64} {v3 : Int32} (hrec198 : ∀ (a : (Int64 × Int32)) (res : Int64), rec198 a = some res → sk_G l (sk_rm 3 0 0) m_X9_digest sk_Ex0 (sk_Zm m_X9_digest (some (.inr (.inl res))) (sk_mm d)) 0 0 198 [some (.inr (.inr (some (44, 0)))), some (.inr (.inl a.1)), none, some (.inl a.2), none] [] (sk_mm d)) {res : Int64} (hq : q_X9_digest_198 rec198 d w1 v3 = some res) :
    sk_G l (sk_rm 3 0 0) m_X9_digest sk_Ex0 (sk_Zm m_X9_digest (some (.inr (.inl res))) (sk_mm d)) 0 0 198 [some (.inr (.inr (some (44, 0)))), some (.inr (.inl w1)), none, some (.inl v3), none] [] (sk_mm d) := by
  unfold q_X9_digest_198 at hq
  refine sg_iload_n 199 (sk_td o_X9_digest 129 rfl) rfl rfl ?_
  refine sg_iconst (v := (4 : Int32)) 200 (sk_td o_X9_digest 130 rfl) rfl (by decide) ?_
  refine sg_ic_ge 297 203 (sk_td o_X9_digest 131 rfl) (by decide) rfl (fun hc => ?_) (fun hc => ?_)
  · rw [if_pos hc] at hq
    refine sg_iconst (v := (0 : Int32)) 298 (sk_td o_X9_digest 196 rfl) rfl (by decide) ?_
    refine sg_istore_n 299 [some (.inr (.inr (some (44, 0)))), some (.inr (.inl w1)), none, some (.inl (0 : Int32)), none] (sk_td o_X9_digest 197 rfl) rfl rfl (Nat.le_of_ble_eq_true rfl) rfl ?_
    exact lt_X9_digest_299 sk_fu (w1, (0 : Int32)) _ hq
  · rw [if_neg hc] at hq
    refine sg_aload_n 204 (sk_td o_X9_digest 132 rfl) rfl rfl ?_
    refine sm_getR (53, 0) 207 (sk_td o_X9_digest 133 rfl) rfl kf_X9_44 rfl rfl sz_44 rfl ?_
    refine sg_iload_n 208 (sk_td o_X9_digest 134 rfl) rfl rfl ?_
    obtain ⟨hb1, hq⟩ := sk_ifn hq
    refine sm_iald 209 (sk_td o_X9_digest 135 rfl) rfl rfl sz_53 hb1 ?_
    refine sg_iconst (v := (1 : Int32)) 210 (sk_td o_X9_digest 136 rfl) rfl (by decide) ?_
    refine sg_ic_ne 291 213 (sk_td o_X9_digest 137 rfl) (by decide) rfl (fun hc => ?_) (fun hc => ?_)
    · rw [if_neg hc] at hq
      exact t_X9_digest_291 hrec198 hq
    · rw [if_pos hc] at hq
      refine sg_ldc2 216 (sk_td o_X9_digest 138 rfl) rfl kc_X9_368 ?_
      refine sg_lload_n 217 (sk_td o_X9_digest 139 rfl) rfl rfl ?_
      refine sg_lmul 218 (sk_td o_X9_digest 140 rfl) rfl ?_
      refine sg_iload_n 219 (sk_td o_X9_digest 141 rfl) rfl rfl ?_
      refine sg_i2l 220 (sk_td o_X9_digest 142 rfl) rfl ?_
      refine sg_ladd 221 (sk_td o_X9_digest 143 rfl) rfl ?_
      refine sg_lstore_n 222 [some (.inr (.inr (some (44, 0)))), some (.inr (.inl (((31 : Int64) * w1) + v3.toInt64))), none, some (.inl v3), none] (sk_td o_X9_digest 144 rfl) rfl rfl (Nat.le_of_ble_eq_true rfl) rfl ?_
      refine sg_ldc2 225 (sk_td o_X9_digest 145 rfl) rfl kc_X9_368 ?_
      refine sg_lload_n 226 (sk_td o_X9_digest 146 rfl) rfl rfl ?_
      refine sg_lmul 227 (sk_td o_X9_digest 147 rfl) rfl ?_
      refine sg_aload_n 228 (sk_td o_X9_digest 148 rfl) rfl rfl ?_
      refine sm_getR (54, 0) 231 (sk_td o_X9_digest 149 rfl) rfl kf_X9_47 rfl rfl sz_44 rfl ?_
      refine sg_iload_n 232 (sk_td o_X9_digest 150 rfl) rfl rfl ?_
      obtain ⟨hb2, hq⟩ := sk_ifn hq
      refine sm_iald 233 (sk_td o_X9_digest 151 rfl) rfl rfl sz_54 hb2 ?_
      refine sg_i2l 234 (sk_td o_X9_digest 152 rfl) rfl ?_
      refine sg_ladd 235 (sk_td o_X9_digest 153 rfl) rfl ?_
      refine sg_lstore_n 236 [some (.inr (.inr (some (44, 0)))), some (.inr (.inl (((31 : Int64) * (((31 : Int64) * w1) + v3.toInt64)) + (d.1 54 0 v3.toNatClampNeg).toInt64))), none, some (.inl v3), none] (sk_td o_X9_digest 154 rfl) rfl rfl (Nat.le_of_ble_eq_true rfl) rfl ?_
      refine sg_ldc2 239 (sk_td o_X9_digest 155 rfl) rfl kc_X9_368 ?_
      refine sg_lload_n 240 (sk_td o_X9_digest 156 rfl) rfl rfl ?_
      refine sg_lmul 241 (sk_td o_X9_digest 157 rfl) rfl ?_
      refine sg_aload_n 242 (sk_td o_X9_digest 158 rfl) rfl rfl ?_
      refine sg_iload_n 243 (sk_td o_X9_digest 159 rfl) rfl rfl ?_
      obtain ⟨x3, hr_x3, hq⟩ := sk_bnd hq
      refine sm_callV1i 246 (s_X9_sizeOf hr_x3) (sk_td o_X9_digest 160 rfl) rfl lv_X9_224 rfl rfl rfl sz_44 (sk_rok (Nat.le_of_ble_eq_true rfl) (Nat.le_of_ble_eq_true rfl) rfl rfl) (Nat.le_of_ble_eq_true rfl) ?_
      refine sg_i2l 247 (sk_td o_X9_digest 161 rfl) rfl ?_
      refine sg_ladd 248 (sk_td o_X9_digest 162 rfl) rfl ?_
      refine sg_lstore_n 249 [some (.inr (.inr (some (44, 0)))), some (.inr (.inl (((31 : Int64) * (((31 : Int64) * (((31 : Int64) * w1) + v3.toInt64)) + (d.1 54 0 v3.toNatClampNeg).toInt64)) + x3.toInt64))), none, some (.inl v3), none] (sk_td o_X9_digest 163 rfl) rfl rfl (Nat.le_of_ble_eq_true rfl) rfl ?_
      refine sg_ldc2 252 (sk_td o_X9_digest 164 rfl) rfl kc_X9_368 ?_
      refine sg_lload_n 253 (sk_td o_X9_digest 165 rfl) rfl rfl ?_
      refine sg_lmul 254 (sk_td o_X9_digest 166 rfl) rfl ?_
      refine sg_aload_n 255 (sk_td o_X9_digest 167 rfl) rfl rfl ?_
      refine sm_getR (57, 0) 258 (sk_td o_X9_digest 168 rfl) rfl kf_X9_56 rfl rfl sz_44 rfl ?_
      refine sg_iload_n 259 (sk_td o_X9_digest 169 rfl) rfl rfl ?_
      obtain ⟨hb4, hq⟩ := sk_ifn hq
      refine sm_iald 260 (sk_td o_X9_digest 170 rfl) rfl rfl sz_57 hb4 ?_
      refine sg_i2l 261 (sk_td o_X9_digest 171 rfl) rfl ?_
      refine sg_ladd 262 (sk_td o_X9_digest 172 rfl) rfl ?_
      refine sg_lstore_n 263 [some (.inr (.inr (some (44, 0)))), some (.inr (.inl (((31 : Int64) * (((31 : Int64) * (((31 : Int64) * (((31 : Int64) * w1) + v3.toInt64)) + (d.1 54 0 v3.toNatClampNeg).toInt64)) + x3.toInt64)) + (d.1 57 0 v3.toNatClampNeg).toInt64))), none, some (.inl v3), none] (sk_td o_X9_digest 173 rfl) rfl rfl (Nat.le_of_ble_eq_true rfl) rfl ?_
      refine sg_ldc2 266 (sk_td o_X9_digest 174 rfl) rfl kc_X9_368 ?_
      refine sg_lload_n 267 (sk_td o_X9_digest 175 rfl) rfl rfl ?_
      refine sg_lmul 268 (sk_td o_X9_digest 176 rfl) rfl ?_
      refine sg_aload_n 269 (sk_td o_X9_digest 177 rfl) rfl rfl ?_
      refine sm_getR (71, 0) 272 (sk_td o_X9_digest 178 rfl) rfl kf_X9_98 rfl rfl sz_44 rfl ?_
      refine sg_iload_n 273 (sk_td o_X9_digest 179 rfl) rfl rfl ?_
      obtain ⟨hb5, hq⟩ := sk_ifn hq
      refine sm_iald 274 (sk_td o_X9_digest 180 rfl) rfl rfl sz_71 hb5 ?_
      refine sg_i2l 275 (sk_td o_X9_digest 181 rfl) rfl ?_
      refine sg_ladd 276 (sk_td o_X9_digest 182 rfl) rfl ?_
      refine sg_lstore_n 277 [some (.inr (.inr (some (44, 0)))), some (.inr (.inl (((31 : Int64) * (((31 : Int64) * (((31 : Int64) * (((31 : Int64) * (((31 : Int64) * w1) + v3.toInt64)) + (d.1 54 0 v3.toNatClampNeg).toInt64)) + x3.toInt64)) + (d.1 57 0 v3.toNatClampNeg).toInt64)) + (d.1 71 0 v3.toNatClampNeg).toInt64))), none, some (.inl v3), none] (sk_td o_X9_digest 183 rfl) rfl rfl (Nat.le_of_ble_eq_true rfl) rfl ?_
      refine sg_ldc2 280 (sk_td o_X9_digest 184 rfl) rfl kc_X9_368 ?_
      refine sg_lload_n 281 (sk_td o_X9_digest 185 rfl) rfl rfl ?_
      refine sg_lmul 282 (sk_td o_X9_digest 186 rfl) rfl ?_
      refine sg_aload_n 283 (sk_td o_X9_digest 187 rfl) rfl rfl ?_
      refine sm_getR (72, 0) 286 (sk_td o_X9_digest 188 rfl) rfl kf_X9_101 rfl rfl sz_44 rfl ?_
      refine sg_iload_n 287 (sk_td o_X9_digest 189 rfl) rfl rfl ?_
      obtain ⟨hb6, hq⟩ := sk_ifn hq
      refine sm_iald 288 (sk_td o_X9_digest 190 rfl) rfl rfl sz_72 hb6 ?_
      refine sg_i2l 289 (sk_td o_X9_digest 191 rfl) rfl ?_
      refine sg_ladd 290 (sk_td o_X9_digest 192 rfl) rfl ?_
      refine sg_lstore_n 291 [some (.inr (.inr (some (44, 0)))), some (.inr (.inl (((31 : Int64) * (((31 : Int64) * (((31 : Int64) * (((31 : Int64) * (((31 : Int64) * (((31 : Int64) * w1) + v3.toInt64)) + (d.1 54 0 v3.toNatClampNeg).toInt64)) + x3.toInt64)) + (d.1 57 0 v3.toNatClampNeg).toInt64)) + (d.1 71 0 v3.toNatClampNeg).toInt64)) + (d.1 72 0 v3.toNatClampNeg).toInt64))), none, some (.inl v3), none] (sk_td o_X9_digest 193 rfl) rfl rfl (Nat.le_of_ble_eq_true rfl) rfl ?_
      exact t_X9_digest_291 hrec198 hq
def l_X9_digest_198 (d : sk_D) (fl : Nat) (a : (Int64 × Int32)) : Option (Int64) := sk_it (fun rec198 a => q_X9_digest_198 rec198 d a.1 a.2) fl a
theorem lt_X9_digest_198 {l : Launch} {d : sk_D} : ∀ (fl : Nat) (a : (Int64 × Int32)) (res : Int64), l_X9_digest_198 d fl a = some res → sk_G l (sk_rm 3 0 0) m_X9_digest sk_Ex0 (sk_Zm m_X9_digest (some (.inr (.inl res))) (sk_mm d)) 0 0 198 [some (.inr (.inr (some (44, 0)))), some (.inr (.inl a.1)), none, some (.inl a.2), none] [] (sk_mm d) :=
  sk_it_ind (P := fun (a : (Int64 × Int32)) (res : Int64) => sk_G l (sk_rm 3 0 0) m_X9_digest sk_Ex0 (sk_Zm m_X9_digest (some (.inr (.inl res))) (sk_mm d)) 0 0 198 [some (.inr (.inr (some (44, 0)))), some (.inr (.inl a.1)), none, some (.inl a.2), none] [] (sk_mm d)) (fun rec198 hrec198 a res hq  => t_X9_digest_198 hrec198 hq )
def q_X9_digest_171 (rec171 : (Int64 × Int32) → Option (Int64)) (d : sk_D) (w1 : Int64) (v3 : Int32) : Option (Int64) :=
  if (8 : Int32) ≤ v3 then (l_X9_digest_198 d sk_fu (w1, (0 : Int32))) else (q_X9_spreadOf d v3).bind fun x1 => (rec171 ((((31 : Int64) * w1) + x1.toInt64), (v3 + (1 : Int32))))
set_option maxRecDepth 100000 in
set_option maxHeartbeats 4000000 in
theorem t_X9_digest_171 {l : Launch} {rec171 : (Int64 × Int32) → Option (Int64)} {d : sk_D} {w1 : Int64} {v3 : Int32} (hrec171 : ∀ (a : (Int64 × Int32)) (res : Int64), rec171 a = some res → sk_G l (sk_rm 3 0 0) m_X9_digest sk_Ex0 (sk_Zm m_X9_digest (some (.inr (.inl res))) (sk_mm d)) 0 0 171 [some (.inr (.inr (some (44, 0)))), some (.inr (.inl a.1)), none, some (.inl a.2), none] [] (sk_mm d)) {res : Int64} (hq : q_X9_digest_171 rec171 d w1 v3 = some res) :
    sk_G l (sk_rm 3 0 0) m_X9_digest sk_Ex0 (sk_Zm m_X9_digest (some (.inr (.inl res))) (sk_mm d)) 0 0 171 [some (.inr (.inr (some (44, 0)))), some (.inr (.inl w1)), none, some (.inl v3), none] [] (sk_mm d) := by
  unfold q_X9_digest_171 at hq
  refine sg_iload_n 172 (sk_td o_X9_digest 113 rfl) rfl rfl ?_
  refine sg_bipush (v := (8 : Int32)) 174 (sk_td o_X9_digest 114 rfl) rfl (by decide) ?_
  refine sg_ic_ge 196 177 (sk_td o_X9_digest 115 rfl) (by decide) rfl (fun hc => ?_) (fun hc => ?_)
  · rw [if_pos hc] at hq
    refine sg_iconst (v := (0 : Int32)) 197 (sk_td o_X9_digest 127 rfl) rfl (by decide) ?_
    refine sg_istore_n 198 [some (.inr (.inr (some (44, 0)))), some (.inr (.inl w1)), none, some (.inl (0 : Int32)), none] (sk_td o_X9_digest 128 rfl) rfl rfl (Nat.le_of_ble_eq_true rfl) rfl ?_
    exact lt_X9_digest_198 sk_fu (w1, (0 : Int32)) _ hq
  · rw [if_neg hc] at hq
    refine sg_ldc2 180 (sk_td o_X9_digest 116 rfl) rfl kc_X9_368 ?_
    refine sg_lload_n 181 (sk_td o_X9_digest 117 rfl) rfl rfl ?_
    refine sg_lmul 182 (sk_td o_X9_digest 118 rfl) rfl ?_
    refine sg_aload_n 183 (sk_td o_X9_digest 119 rfl) rfl rfl ?_
    refine sg_iload_n 184 (sk_td o_X9_digest 120 rfl) rfl rfl ?_
    obtain ⟨x1, hr_x1, hq⟩ := sk_bnd hq
    refine sm_callV1i 187 (s_X9_spreadOf hr_x1) (sk_td o_X9_digest 121 rfl) rfl lv_X9_200 rfl rfl rfl sz_44 (sk_rok (Nat.le_of_ble_eq_true rfl) (Nat.le_of_ble_eq_true rfl) rfl rfl) (Nat.le_of_ble_eq_true rfl) ?_
    refine sg_i2l 188 (sk_td o_X9_digest 122 rfl) rfl ?_
    refine sg_ladd 189 (sk_td o_X9_digest 123 rfl) rfl ?_
    refine sg_lstore_n 190 [some (.inr (.inr (some (44, 0)))), some (.inr (.inl (((31 : Int64) * w1) + x1.toInt64))), none, some (.inl v3), none] (sk_td o_X9_digest 124 rfl) rfl rfl (Nat.le_of_ble_eq_true rfl) rfl ?_
    refine sg_iinc (v3 + (1 : Int32)) 193 [some (.inr (.inr (some (44, 0)))), some (.inr (.inl (((31 : Int64) * w1) + x1.toInt64))), none, some (.inl (v3 + (1 : Int32))), none] (sk_td o_X9_digest 125 rfl) rfl rfl rfl rfl (Nat.le_of_ble_eq_true rfl) rfl ?_
    refine sg_goto 171 (sk_td o_X9_digest 126 rfl) (by decide) ?_
    exact hrec171 ((((31 : Int64) * w1) + x1.toInt64), (v3 + (1 : Int32))) _ hq
def l_X9_digest_171 (d : sk_D) (fl : Nat) (a : (Int64 × Int32)) : Option (Int64) := sk_it (fun rec171 a => q_X9_digest_171 rec171 d a.1 a.2) fl a
theorem lt_X9_digest_171 {l : Launch} {d : sk_D} : ∀ (fl : Nat) (a : (Int64 × Int32)) (res : Int64), l_X9_digest_171 d fl a = some res → sk_G l (sk_rm 3 0 0) m_X9_digest sk_Ex0 (sk_Zm m_X9_digest (some (.inr (.inl res))) (sk_mm d)) 0 0 171 [some (.inr (.inr (some (44, 0)))), some (.inr (.inl a.1)), none, some (.inl a.2), none] [] (sk_mm d) :=
  sk_it_ind (P := fun (a : (Int64 × Int32)) (res : Int64) => sk_G l (sk_rm 3 0 0) m_X9_digest sk_Ex0 (sk_Zm m_X9_digest (some (.inr (.inl res))) (sk_mm d)) 0 0 171 [some (.inr (.inr (some (44, 0)))), some (.inr (.inl a.1)), none, some (.inl a.2), none] [] (sk_mm d)) (fun rec171 hrec171 a res hq  => t_X9_digest_171 hrec171 hq )
def q_X9_digest_163 (rec48 : (Int64 × Int32) → Option (Int64)) (d : sk_D) (w1 : Int64) (v3 : Int32) : Option (Int64) :=
  (rec48 (w1, (v3 + (1 : Int32))))
set_option maxRecDepth 100000 in
set_option maxHeartbeats 4000000 in
theorem t_X9_digest_163 {l : Launch} {rec48 : (Int64 × Int32) → Option (Int64)} {d : sk_D} {w1 : Int64} {v3 : Int32} (hrec48 : ∀ (a : (Int64 × Int32)) (res : Int64), rec48 a = some res → sk_G l (sk_rm 3 0 0) m_X9_digest sk_Ex0 (sk_Zm m_X9_digest (some (.inr (.inl res))) (sk_mm d)) 0 0 48 [some (.inr (.inr (some (44, 0)))), some (.inr (.inl a.1)), none, some (.inl a.2), none] [] (sk_mm d)) {res : Int64} (hq : q_X9_digest_163 rec48 d w1 v3 = some res) :
    sk_G l (sk_rm 3 0 0) m_X9_digest sk_Ex0 (sk_Zm m_X9_digest (some (.inr (.inl res))) (sk_mm d)) 0 0 163 [some (.inr (.inr (some (44, 0)))), some (.inr (.inl w1)), none, some (.inl v3), none] [] (sk_mm d) := by
  unfold q_X9_digest_163 at hq
  refine sg_iinc (v3 + (1 : Int32)) 166 [some (.inr (.inr (some (44, 0)))), some (.inr (.inl w1)), none, some (.inl (v3 + (1 : Int32))), none] (sk_td o_X9_digest 109 rfl) rfl rfl rfl rfl (Nat.le_of_ble_eq_true rfl) rfl ?_
  refine sg_goto 48 (sk_td o_X9_digest 110 rfl) (by decide) ?_
  exact hrec48 (w1, (v3 + (1 : Int32))) _ hq
def q_X9_digest_132 (rec48 : (Int64 × Int32) → Option (Int64)) (rec132 : (Int64 × Int32 × Int32) → Option (Int64)) (d : sk_D) (w1 : Int64) (v3 : Int32) (v4 : Int32) : Option (Int64) :=
  if (4 : Int32) ≤ v4 then (q_X9_digest_163 rec48 d w1 v3) else if sk_bi (((4 : Int32) * v3) + v4) 80 = true then (rec132 ((((31 : Int64) * w1) + (d.1 50 0 (((4 : Int32) * v3) + v4).toNatClampNeg).toInt64), v3, (v4 + (1 : Int32)))) else none
set_option maxRecDepth 100000 in
set_option maxHeartbeats 4000000 in
theorem t_X9_digest_132 {l : Launch} {rec48 : (Int64 × Int32) → Option (Int64)} {rec132 : (Int64 × Int32 × Int32) → Option (Int64)} {d : sk_D} {w1 : Int64} {v3 : Int32} {v4 : Int32} (hrec48 : ∀ (a : (Int64 × Int32)) (res : Int64), rec48 a = some res → sk_G l (sk_rm 3 0 0) m_X9_digest sk_Ex0 (sk_Zm m_X9_digest (some (.inr (.inl res))) (sk_mm d)) 0 0 48 [some (.inr (.inr (some (44, 0)))), some (.inr (.inl a.1)), none, some (.inl a.2), none] [] (sk_mm d)) (hrec132 : ∀ (a : (Int64 × Int32 × Int32)) (res : Int64), rec132 a = some res → sk_G l (sk_rm 3 0 0) m_X9_digest sk_Ex0 (sk_Zm m_X9_digest (some (.inr (.inl res))) (sk_mm d)) 0 0 132 [some (.inr (.inr (some (44, 0)))), some (.inr (.inl a.1)), none, some (.inl a.2.1), some (.inl a.2.2)] [] (sk_mm d)) {res : Int64} (hq : q_X9_digest_132 rec48 rec132 d w1 v3 v4 = some res) :
    sk_G l (sk_rm 3 0 0) m_X9_digest sk_Ex0 (sk_Zm m_X9_digest (some (.inr (.inl res))) (sk_mm d)) 0 0 132 [some (.inr (.inr (some (44, 0)))), some (.inr (.inl w1)), none, some (.inl v3), some (.inl v4)] [] (sk_mm d) := by
  unfold q_X9_digest_132 at hq
  refine sg_iload 134 (sk_td o_X9_digest 90 rfl) rfl rfl ?_
  refine sg_iconst (v := (4 : Int32)) 135 (sk_td o_X9_digest 91 rfl) rfl (by decide) ?_
  refine sg_ic_ge 163 138 (sk_td o_X9_digest 92 rfl) (by decide) rfl (fun hc => ?_) (fun hc => ?_)
  · rw [if_pos hc] at hq
    refine sk_wk [true, true, true, true, false] (ls' := [some (.inr (.inr (some (44, 0)))), some (.inr (.inl w1)), none, some (.inl v3), none]) rfl ?_
    exact t_X9_digest_163 hrec48 hq
  · rw [if_neg hc] at hq
    refine sg_ldc2 141 (sk_td o_X9_digest 93 rfl) rfl kc_X9_368 ?_
    refine sg_lload_n 142 (sk_td o_X9_digest 94 rfl) rfl rfl ?_
    refine sg_lmul 143 (sk_td o_X9_digest 95 rfl) rfl ?_
    refine sg_aload_n 144 (sk_td o_X9_digest 96 rfl) rfl rfl ?_
    refine sm_getR (50, 0) 147 (sk_td o_X9_digest 97 rfl) rfl kf_X9_35 rfl rfl sz_44 rfl ?_
    refine sg_iconst (v := (4 : Int32)) 148 (sk_td o_X9_digest 98 rfl) rfl (by decide) ?_
    refine sg_iload_n 149 (sk_td o_X9_digest 99 rfl) rfl rfl ?_
    refine sg_imul 150 (sk_td o_X9_digest 100 rfl) rfl ?_
    refine sg_iload 152 (sk_td o_X9_digest 101 rfl) rfl rfl ?_
    refine sg_iadd 153 (sk_td o_X9_digest 102 rfl) rfl ?_
    obtain ⟨hb1, hq⟩ := sk_ifn hq
    refine sm_iald 154 (sk_td o_X9_digest 103 rfl) rfl rfl sz_50 hb1 ?_
    refine sg_i2l 155 (sk_td o_X9_digest 104 rfl) rfl ?_
    refine sg_ladd 156 (sk_td o_X9_digest 105 rfl) rfl ?_
    refine sg_lstore_n 157 [some (.inr (.inr (some (44, 0)))), some (.inr (.inl (((31 : Int64) * w1) + (d.1 50 0 (((4 : Int32) * v3) + v4).toNatClampNeg).toInt64))), none, some (.inl v3), some (.inl v4)] (sk_td o_X9_digest 106 rfl) rfl rfl (Nat.le_of_ble_eq_true rfl) rfl ?_
    refine sg_iinc (v4 + (1 : Int32)) 160 [some (.inr (.inr (some (44, 0)))), some (.inr (.inl (((31 : Int64) * w1) + (d.1 50 0 (((4 : Int32) * v3) + v4).toNatClampNeg).toInt64))), none, some (.inl v3), some (.inl (v4 + (1 : Int32)))] (sk_td o_X9_digest 107 rfl) rfl rfl rfl rfl (Nat.le_of_ble_eq_true rfl) rfl ?_
    refine sg_goto 132 (sk_td o_X9_digest 108 rfl) (by decide) ?_
    exact hrec132 ((((31 : Int64) * w1) + (d.1 50 0 (((4 : Int32) * v3) + v4).toNatClampNeg).toInt64), v3, (v4 + (1 : Int32))) _ hq
def l_X9_digest_132 (rec48 : (Int64 × Int32) → Option (Int64)) (d : sk_D) (fl : Nat) (a : (Int64 × Int32 × Int32)) : Option (Int64) := sk_it (fun rec132 a => q_X9_digest_132 rec48 rec132 d a.1 a.2.1 a.2.2) fl a
theorem lt_X9_digest_132 {l : Launch} {rec48 : (Int64 × Int32) → Option (Int64)} {d : sk_D} (hrec48 : ∀ (a : (Int64 × Int32)) (res : Int64), rec48 a = some res → sk_G l (sk_rm 3 0 0) m_X9_digest sk_Ex0 (sk_Zm m_X9_digest (some (.inr (.inl res))) (sk_mm d)) 0 0 48 [some (.inr (.inr (some (44, 0)))), some (.inr (.inl a.1)), none, some (.inl a.2), none] [] (sk_mm d)) : ∀ (fl : Nat) (a : (Int64 × Int32 × Int32)) (res : Int64), l_X9_digest_132 rec48 d fl a = some res → sk_G l (sk_rm 3 0 0) m_X9_digest sk_Ex0 (sk_Zm m_X9_digest (some (.inr (.inl res))) (sk_mm d)) 0 0 132 [some (.inr (.inr (some (44, 0)))), some (.inr (.inl a.1)), none, some (.inl a.2.1), some (.inl a.2.2)] [] (sk_mm d) :=
  sk_it_ind (P := fun (a : (Int64 × Int32 × Int32)) (res : Int64) => sk_G l (sk_rm 3 0 0) m_X9_digest sk_Ex0 (sk_Zm m_X9_digest (some (.inr (.inl res))) (sk_mm d)) 0 0 132 [some (.inr (.inr (some (44, 0)))), some (.inr (.inl a.1)), none, some (.inl a.2.1), some (.inl a.2.2)] [] (sk_mm d)) (fun rec132 hrec132 a res hq  => t_X9_digest_132 hrec48 hrec132 hq )
def q_X9_digest_48 (rec48 : (Int64 × Int32) → Option (Int64)) (d : sk_D) (w1 : Int64) (v3 : Int32) : Option (Int64) :=
  if (20 : Int32) ≤ v3 then (l_X9_digest_171 d sk_fu (w1, (0 : Int32))) else if sk_bi v3 20 = true then if (d.1 45 0 v3.toNatClampNeg) = (1 : Int32) then if sk_bi v3 20 = true then if sk_bi v3 20 = true then if sk_bi v3 20 = true then if sk_bi v3 20 = true then (l_X9_digest_132 rec48 d sk_fu ((((31 : Int64) * (((31 : Int64) * (((31 : Int64) * (((31 : Int64) * (((31 : Int64) * w1) + v3.toInt64)) + (d.1 46 0 v3.toNatClampNeg).toInt64)) + (d.1 47 0 v3.toNatClampNeg).toInt64)) + (d.1 48 0 v3.toNatClampNeg).toInt64)) + (d.1 49 0 v3.toNatClampNeg).toInt64), v3, (0 : Int32))) else none else none else none else none else (q_X9_digest_163 rec48 d w1 v3) else none
set_option maxRecDepth 100000 in
set_option maxHeartbeats 4000000 in
theorem t_X9_digest_48 {l : Launch} {rec48 : (Int64 × Int32) → Option (Int64)} {d : sk_D} {w1 : Int64} {v3 : Int32} (hrec48 : ∀ (a : (Int64 × Int32)) (res : Int64), rec48 a = some res → sk_G l (sk_rm 3 0 0) m_X9_digest sk_Ex0 (sk_Zm m_X9_digest (some (.inr (.inl res))) (sk_mm d)) 0 0 48 [some (.inr (.inr (some (44, 0)))), some (.inr (.inl a.1)), none, some (.inl a.2), none] [] (sk_mm d)) {res : Int64} (hq : q_X9_digest_48 rec48 d w1 v3 = some res) :
    sk_G l (sk_rm 3 0 0) m_X9_digest sk_Ex0 (sk_Zm m_X9_digest (some (.inr (.inl res))) (sk_mm d)) 0 0 48 [some (.inr (.inr (some (44, 0)))), some (.inr (.inl w1)), none, some (.inl v3), none] [] (sk_mm d) := by
  unfold q_X9_digest_48 at hq
  refine sg_iload_n 49 (sk_td o_X9_digest 32 rfl) rfl rfl ?_
  refine sg_bipush (v := (20 : Int32)) 51 (sk_td o_X9_digest 33 rfl) rfl (by decide) ?_
  refine sg_ic_ge 169 54 (sk_td o_X9_digest 34 rfl) (by decide) rfl (fun hc => ?_) (fun hc => ?_)
  · rw [if_pos hc] at hq
    refine sg_iconst (v := (0 : Int32)) 170 (sk_td o_X9_digest 111 rfl) rfl (by decide) ?_
    refine sg_istore_n 171 [some (.inr (.inr (some (44, 0)))), some (.inr (.inl w1)), none, some (.inl (0 : Int32)), none] (sk_td o_X9_digest 112 rfl) rfl rfl (Nat.le_of_ble_eq_true rfl) rfl ?_
    exact lt_X9_digest_171 sk_fu (w1, (0 : Int32)) _ hq
  · rw [if_neg hc] at hq
    refine sg_aload_n 55 (sk_td o_X9_digest 35 rfl) rfl rfl ?_
    refine sm_getR (45, 0) 58 (sk_td o_X9_digest 36 rfl) rfl kf_X9_19 rfl rfl sz_44 rfl ?_
    refine sg_iload_n 59 (sk_td o_X9_digest 37 rfl) rfl rfl ?_
    obtain ⟨hb1, hq⟩ := sk_ifn hq
    refine sm_iald 60 (sk_td o_X9_digest 38 rfl) rfl rfl sz_45 hb1 ?_
    refine sg_iconst (v := (1 : Int32)) 61 (sk_td o_X9_digest 39 rfl) rfl (by decide) ?_
    refine sg_ic_ne 163 64 (sk_td o_X9_digest 40 rfl) (by decide) rfl (fun hc => ?_) (fun hc => ?_)
    · rw [if_neg hc] at hq
      exact t_X9_digest_163 hrec48 hq
    · rw [if_pos hc] at hq
      refine sg_ldc2 67 (sk_td o_X9_digest 41 rfl) rfl kc_X9_368 ?_
      refine sg_lload_n 68 (sk_td o_X9_digest 42 rfl) rfl rfl ?_
      refine sg_lmul 69 (sk_td o_X9_digest 43 rfl) rfl ?_
      refine sg_iload_n 70 (sk_td o_X9_digest 44 rfl) rfl rfl ?_
      refine sg_i2l 71 (sk_td o_X9_digest 45 rfl) rfl ?_
      refine sg_ladd 72 (sk_td o_X9_digest 46 rfl) rfl ?_
      refine sg_lstore_n 73 [some (.inr (.inr (some (44, 0)))), some (.inr (.inl (((31 : Int64) * w1) + v3.toInt64))), none, some (.inl v3), none] (sk_td o_X9_digest 47 rfl) rfl rfl (Nat.le_of_ble_eq_true rfl) rfl ?_
      refine sg_ldc2 76 (sk_td o_X9_digest 48 rfl) rfl kc_X9_368 ?_
      refine sg_lload_n 77 (sk_td o_X9_digest 49 rfl) rfl rfl ?_
      refine sg_lmul 78 (sk_td o_X9_digest 50 rfl) rfl ?_
      refine sg_aload_n 79 (sk_td o_X9_digest 51 rfl) rfl rfl ?_
      refine sm_getR (46, 0) 82 (sk_td o_X9_digest 52 rfl) rfl kf_X9_23 rfl rfl sz_44 rfl ?_
      refine sg_iload_n 83 (sk_td o_X9_digest 53 rfl) rfl rfl ?_
      obtain ⟨hb2, hq⟩ := sk_ifn hq
      refine sm_iald 84 (sk_td o_X9_digest 54 rfl) rfl rfl sz_46 hb2 ?_
      refine sg_i2l 85 (sk_td o_X9_digest 55 rfl) rfl ?_
      refine sg_ladd 86 (sk_td o_X9_digest 56 rfl) rfl ?_
      refine sg_lstore_n 87 [some (.inr (.inr (some (44, 0)))), some (.inr (.inl (((31 : Int64) * (((31 : Int64) * w1) + v3.toInt64)) + (d.1 46 0 v3.toNatClampNeg).toInt64))), none, some (.inl v3), none] (sk_td o_X9_digest 57 rfl) rfl rfl (Nat.le_of_ble_eq_true rfl) rfl ?_
      refine sg_ldc2 90 (sk_td o_X9_digest 58 rfl) rfl kc_X9_368 ?_
      refine sg_lload_n 91 (sk_td o_X9_digest 59 rfl) rfl rfl ?_
      refine sg_lmul 92 (sk_td o_X9_digest 60 rfl) rfl ?_
      refine sg_aload_n 93 (sk_td o_X9_digest 61 rfl) rfl rfl ?_
      refine sm_getR (47, 0) 96 (sk_td o_X9_digest 62 rfl) rfl kf_X9_26 rfl rfl sz_44 rfl ?_
      refine sg_iload_n 97 (sk_td o_X9_digest 63 rfl) rfl rfl ?_
      obtain ⟨hb3, hq⟩ := sk_ifn hq
      refine sm_iald 98 (sk_td o_X9_digest 64 rfl) rfl rfl sz_47 hb3 ?_
      refine sg_i2l 99 (sk_td o_X9_digest 65 rfl) rfl ?_
      refine sg_ladd 100 (sk_td o_X9_digest 66 rfl) rfl ?_
      refine sg_lstore_n 101 [some (.inr (.inr (some (44, 0)))), some (.inr (.inl (((31 : Int64) * (((31 : Int64) * (((31 : Int64) * w1) + v3.toInt64)) + (d.1 46 0 v3.toNatClampNeg).toInt64)) + (d.1 47 0 v3.toNatClampNeg).toInt64))), none, some (.inl v3), none] (sk_td o_X9_digest 67 rfl) rfl rfl (Nat.le_of_ble_eq_true rfl) rfl ?_
      refine sg_ldc2 104 (sk_td o_X9_digest 68 rfl) rfl kc_X9_368 ?_
      refine sg_lload_n 105 (sk_td o_X9_digest 69 rfl) rfl rfl ?_
      refine sg_lmul 106 (sk_td o_X9_digest 70 rfl) rfl ?_
      refine sg_aload_n 107 (sk_td o_X9_digest 71 rfl) rfl rfl ?_
      refine sm_getR (48, 0) 110 (sk_td o_X9_digest 72 rfl) rfl kf_X9_29 rfl rfl sz_44 rfl ?_
      refine sg_iload_n 111 (sk_td o_X9_digest 73 rfl) rfl rfl ?_
      obtain ⟨hb4, hq⟩ := sk_ifn hq
      refine sm_iald 112 (sk_td o_X9_digest 74 rfl) rfl rfl sz_48 hb4 ?_
      refine sg_i2l 113 (sk_td o_X9_digest 75 rfl) rfl ?_
      refine sg_ladd 114 (sk_td o_X9_digest 76 rfl) rfl ?_
      refine sg_lstore_n 115 [some (.inr (.inr (some (44, 0)))), some (.inr (.inl (((31 : Int64) * (((31 : Int64) * (((31 : Int64) * (((31 : Int64) * w1) + v3.toInt64)) + (d.1 46 0 v3.toNatClampNeg).toInt64)) + (d.1 47 0 v3.toNatClampNeg).toInt64)) + (d.1 48 0 v3.toNatClampNeg).toInt64))), none, some (.inl v3), none] (sk_td o_X9_digest 77 rfl) rfl rfl (Nat.le_of_ble_eq_true rfl) rfl ?_
      refine sg_ldc2 118 (sk_td o_X9_digest 78 rfl) rfl kc_X9_368 ?_
      refine sg_lload_n 119 (sk_td o_X9_digest 79 rfl) rfl rfl ?_
      refine sg_lmul 120 (sk_td o_X9_digest 80 rfl) rfl ?_
      refine sg_aload_n 121 (sk_td o_X9_digest 81 rfl) rfl rfl ?_
      refine sm_getR (49, 0) 124 (sk_td o_X9_digest 82 rfl) rfl kf_X9_32 rfl rfl sz_44 rfl ?_
      refine sg_iload_n 125 (sk_td o_X9_digest 83 rfl) rfl rfl ?_
      obtain ⟨hb5, hq⟩ := sk_ifn hq
      refine sm_iald 126 (sk_td o_X9_digest 84 rfl) rfl rfl sz_49 hb5 ?_
      refine sg_i2l 127 (sk_td o_X9_digest 85 rfl) rfl ?_
      refine sg_ladd 128 (sk_td o_X9_digest 86 rfl) rfl ?_
      refine sg_lstore_n 129 [some (.inr (.inr (some (44, 0)))), some (.inr (.inl (((31 : Int64) * (((31 : Int64) * (((31 : Int64) * (((31 : Int64) * (((31 : Int64) * w1) + v3.toInt64)) + (d.1 46 0 v3.toNatClampNeg).toInt64)) + (d.1 47 0 v3.toNatClampNeg).toInt64)) + (d.1 48 0 v3.toNatClampNeg).toInt64)) + (d.1 49 0 v3.toNatClampNeg).toInt64))), none, some (.inl v3), none] (sk_td o_X9_digest 87 rfl) rfl rfl (Nat.le_of_ble_eq_true rfl) rfl ?_
      refine sg_iconst (v := (0 : Int32)) 130 (sk_td o_X9_digest 88 rfl) rfl (by decide) ?_
      refine sg_istore 132 [some (.inr (.inr (some (44, 0)))), some (.inr (.inl (((31 : Int64) * (((31 : Int64) * (((31 : Int64) * (((31 : Int64) * (((31 : Int64) * w1) + v3.toInt64)) + (d.1 46 0 v3.toNatClampNeg).toInt64)) + (d.1 47 0 v3.toNatClampNeg).toInt64)) + (d.1 48 0 v3.toNatClampNeg).toInt64)) + (d.1 49 0 v3.toNatClampNeg).toInt64))), none, some (.inl v3), some (.inl (0 : Int32))] (sk_td o_X9_digest 89 rfl) rfl rfl (Nat.le_of_ble_eq_true rfl) rfl ?_
      exact lt_X9_digest_132 hrec48 sk_fu ((((31 : Int64) * (((31 : Int64) * (((31 : Int64) * (((31 : Int64) * (((31 : Int64) * w1) + v3.toInt64)) + (d.1 46 0 v3.toNatClampNeg).toInt64)) + (d.1 47 0 v3.toNatClampNeg).toInt64)) + (d.1 48 0 v3.toNatClampNeg).toInt64)) + (d.1 49 0 v3.toNatClampNeg).toInt64), v3, (0 : Int32)) _ hq
def l_X9_digest_48 (d : sk_D) (fl : Nat) (a : (Int64 × Int32)) : Option (Int64) := sk_it (fun rec48 a => q_X9_digest_48 rec48 d a.1 a.2) fl a
theorem lt_X9_digest_48 {l : Launch} {d : sk_D} : ∀ (fl : Nat) (a : (Int64 × Int32)) (res : Int64), l_X9_digest_48 d fl a = some res → sk_G l (sk_rm 3 0 0) m_X9_digest sk_Ex0 (sk_Zm m_X9_digest (some (.inr (.inl res))) (sk_mm d)) 0 0 48 [some (.inr (.inr (some (44, 0)))), some (.inr (.inl a.1)), none, some (.inl a.2), none] [] (sk_mm d) :=
  sk_it_ind (P := fun (a : (Int64 × Int32)) (res : Int64) => sk_G l (sk_rm 3 0 0) m_X9_digest sk_Ex0 (sk_Zm m_X9_digest (some (.inr (.inl res))) (sk_mm d)) 0 0 48 [some (.inr (.inr (some (44, 0)))), some (.inr (.inl a.1)), none, some (.inl a.2), none] [] (sk_mm d)) (fun rec48 hrec48 a res hq  => t_X9_digest_48 hrec48 hq )
def q_X9_digest_0 (d : sk_D) : Option (Int64) :=
  (q_X9_pupilMany d).bind fun x1 => (q_X9_groupMany d).bind fun x2 => (q_X9_instructorMany d).bind fun x3 => (l_X9_digest_48 d sk_fu ((((31 : Int64) * (((31 : Int64) * (((31 : Int64) * ((1334643 : Int64) + (d.1 44 0 0).toInt64)) + x1.toInt64)) + x2.toInt64)) + x3.toInt64), (0 : Int32)))
set_option maxRecDepth 100000 in
set_option maxHeartbeats 4000000 in
theorem t_X9_digest_0 {l : Launch} {d : sk_D} {res : Int64} (hq : q_X9_digest_0 d = some res) :
    sk_G l (sk_rm 3 0 0) m_X9_digest sk_Ex0 (sk_Zm m_X9_digest (some (.inr (.inl res))) (sk_mm d)) 0 0 0 [some (.inr (.inr (some (44, 0)))), none, none, none, none] [] (sk_mm d) := by
  unfold q_X9_digest_0 at hq
  refine sg_ldc2 3 (sk_td o_X9_digest 0 rfl) rfl kc_X9_366 ?_
  refine sg_aload_n 4 (sk_td o_X9_digest 1 rfl) rfl rfl ?_
  refine sm_getI 7 (sk_td o_X9_digest 2 rfl) rfl kf_X9_209 rfl rfl sz_44 ?_
  refine sg_i2l 8 (sk_td o_X9_digest 3 rfl) rfl ?_
  refine sg_ladd 9 (sk_td o_X9_digest 4 rfl) rfl ?_
  refine sg_lstore_n 10 [some (.inr (.inr (some (44, 0)))), some (.inr (.inl ((1334643 : Int64) + (d.1 44 0 0).toInt64))), none, none, none] (sk_td o_X9_digest 5 rfl) rfl rfl (Nat.le_of_ble_eq_true rfl) rfl ?_
  refine sg_ldc2 13 (sk_td o_X9_digest 6 rfl) rfl kc_X9_368 ?_
  refine sg_lload_n 14 (sk_td o_X9_digest 7 rfl) rfl rfl ?_
  refine sg_lmul 15 (sk_td o_X9_digest 8 rfl) rfl ?_
  refine sg_aload_n 16 (sk_td o_X9_digest 9 rfl) rfl rfl ?_
  obtain ⟨x1, hr_x1, hq⟩ := sk_bnd hq
  refine sm_callV0i 19 (s_X9_pupilMany hr_x1) (sk_td o_X9_digest 10 rfl) rfl lv_X9_190 rfl rfl rfl sz_44 (sk_rok (Nat.le_of_ble_eq_true rfl) (Nat.le_of_ble_eq_true rfl) rfl rfl) (Nat.le_of_ble_eq_true rfl) ?_
  refine sg_i2l 20 (sk_td o_X9_digest 11 rfl) rfl ?_
  refine sg_ladd 21 (sk_td o_X9_digest 12 rfl) rfl ?_
  refine sg_lstore_n 22 [some (.inr (.inr (some (44, 0)))), some (.inr (.inl (((31 : Int64) * ((1334643 : Int64) + (d.1 44 0 0).toInt64)) + x1.toInt64))), none, none, none] (sk_td o_X9_digest 13 rfl) rfl rfl (Nat.le_of_ble_eq_true rfl) rfl ?_
  refine sg_ldc2 25 (sk_td o_X9_digest 14 rfl) rfl kc_X9_368 ?_
  refine sg_lload_n 26 (sk_td o_X9_digest 15 rfl) rfl rfl ?_
  refine sg_lmul 27 (sk_td o_X9_digest 16 rfl) rfl ?_
  refine sg_aload_n 28 (sk_td o_X9_digest 17 rfl) rfl rfl ?_
  obtain ⟨x2, hr_x2, hq⟩ := sk_bnd hq
  refine sm_callV0i 31 (s_X9_groupMany hr_x2) (sk_td o_X9_digest 18 rfl) rfl lv_X9_218 rfl rfl rfl sz_44 (sk_rok (Nat.le_of_ble_eq_true rfl) (Nat.le_of_ble_eq_true rfl) rfl rfl) (Nat.le_of_ble_eq_true rfl) ?_
  refine sg_i2l 32 (sk_td o_X9_digest 19 rfl) rfl ?_
  refine sg_ladd 33 (sk_td o_X9_digest 20 rfl) rfl ?_
  refine sg_lstore_n 34 [some (.inr (.inr (some (44, 0)))), some (.inr (.inl (((31 : Int64) * (((31 : Int64) * ((1334643 : Int64) + (d.1 44 0 0).toInt64)) + x1.toInt64)) + x2.toInt64))), none, none, none] (sk_td o_X9_digest 21 rfl) rfl rfl (Nat.le_of_ble_eq_true rfl) rfl ?_
  refine sg_ldc2 37 (sk_td o_X9_digest 22 rfl) rfl kc_X9_368 ?_
  refine sg_lload_n 38 (sk_td o_X9_digest 23 rfl) rfl rfl ?_
  refine sg_lmul 39 (sk_td o_X9_digest 24 rfl) rfl ?_
  refine sg_aload_n 40 (sk_td o_X9_digest 25 rfl) rfl rfl ?_
  obtain ⟨x3, hr_x3, hq⟩ := sk_bnd hq
  refine sm_callV0i 43 (s_X9_instructorMany hr_x3) (sk_td o_X9_digest 26 rfl) rfl lv_X9_264 rfl rfl rfl sz_44 (sk_rok (Nat.le_of_ble_eq_true rfl) (Nat.le_of_ble_eq_true rfl) rfl rfl) (Nat.le_of_ble_eq_true rfl) ?_
  refine sg_i2l 44 (sk_td o_X9_digest 27 rfl) rfl ?_
  refine sg_ladd 45 (sk_td o_X9_digest 28 rfl) rfl ?_
  refine sg_lstore_n 46 [some (.inr (.inr (some (44, 0)))), some (.inr (.inl (((31 : Int64) * (((31 : Int64) * (((31 : Int64) * ((1334643 : Int64) + (d.1 44 0 0).toInt64)) + x1.toInt64)) + x2.toInt64)) + x3.toInt64))), none, none, none] (sk_td o_X9_digest 29 rfl) rfl rfl (Nat.le_of_ble_eq_true rfl) rfl ?_
  refine sg_iconst (v := (0 : Int32)) 47 (sk_td o_X9_digest 30 rfl) rfl (by decide) ?_
  refine sg_istore_n 48 [some (.inr (.inr (some (44, 0)))), some (.inr (.inl (((31 : Int64) * (((31 : Int64) * (((31 : Int64) * ((1334643 : Int64) + (d.1 44 0 0).toInt64)) + x1.toInt64)) + x2.toInt64)) + x3.toInt64))), none, some (.inl (0 : Int32)), none] (sk_td o_X9_digest 31 rfl) rfl rfl (Nat.le_of_ble_eq_true rfl) rfl ?_
  exact lt_X9_digest_48 sk_fu ((((31 : Int64) * (((31 : Int64) * (((31 : Int64) * ((1334643 : Int64) + (d.1 44 0 0).toInt64)) + x1.toInt64)) + x2.toInt64)) + x3.toInt64), (0 : Int32)) _ hq
def q_X9_digest (d : sk_D) : Option (Int64) := q_X9_digest_0 d 
theorem s_X9_digest {l : Launch} {d : sk_D} {res : Int64} (hq : q_X9_digest d = some res) : sk_M l 3 m_X9_digest [.inr (.inr (some (44, 0)))] (sk_mm d) (some (.inr (.inl res))) (sk_mm d) :=
  sk_enter (by decide) (fun _ => Nat.le_of_ble_eq_true rfl) (Nat.le_of_ble_eq_true rfl) (t_X9_digest_0 hq )
