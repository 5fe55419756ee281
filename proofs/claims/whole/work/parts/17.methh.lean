/-! decompiled: X9_dismiss X9_instructors X9_isTeaching X9_canTeach X9_staffIn X9_costOf X9_staff X9_pay X9_earnings X9_hasLift X9_addLift X9_addStop X9_clearStops X9_setStart X9_takesPart X9_begin X9_leave -/
def q_X9_dismiss_50 (rec15 : (sk_D × Int32 × Int32 × Int32) → Option (Int32 × sk_D)) (d : sk_D) (v1 : Int32) (v2 : Int32) (v3 : Int32) : Option (Int32 × sk_D) :=
  (rec15 (d, v1, v2, (v3 + (1 : Int32))))
set_option maxRecDepth 100000 in
set_option maxHeartbeats 4000000 in
theorem t_X9_dismiss_50 {l : Launch} {rec15 : (sk_D × Int32 × Int32 × Int32) → Option (Int32 × sk_D)} {d : sk_D} {v1 : Int32} {v2 : Int32} {v3 : Int32} (hrec15 : ∀ (a : (sk_D × Int32 × Int32 × Int32)) (res : Int32 × sk_D), rec15 a = some res → sk_G l (sk_rm 3 0 0) m_X9_dismiss sk_Ex0 (sk_Zm m_X9_dismiss (some (.inl res.1)) (sk_mm res.2)) 0 0 15 [some (.inr (.inr (some (44, 0)))), some (.inl a.2.1), some (.inl a.2.2.1), some (.inl a.2.2.2)] [] (sk_mm a.1)) {res : Int32 × sk_D} (hq : q_X9_dismiss_50 rec15 d v1 v2 v3 = some res) :
    sk_G l (sk_rm 3 0 0) m_X9_dismiss sk_Ex0 (sk_Zm m_X9_dismiss (some (.inl res.1)) (sk_mm res.2)) 0 0 50 [some (.inr (.inr (some (44, 0)))), some (.inl v1), some (.inl v2), some (.inl v3)] [] (sk_mm d) := by
  unfold q_X9_dismiss_50 at hq
  refine sg_iinc (v3 + (1 : Int32)) 53 [some (.inr (.inr (some (44, 0)))), some (.inl v1), some (.inl v2), some (.inl (v3 + (1 : Int32)))] (sk_td o_X9_dismiss 32 rfl) rfl rfl rfl rfl (Nat.le_of_ble_eq_true rfl) rfl ?_
  refine sg_goto 15 (sk_td o_X9_dismiss 33 rfl) (by decide) ?_
  exact hrec15 (d, v1, v2, (v3 + (1 : Int32))) _ hq
def q_X9_dismiss_15 (rec15 : (sk_D × Int32 × Int32 × Int32) → Option (Int32 × sk_D)) (d : sk_D) (v1 : Int32) (v2 : Int32) (v3 : Int32) : Option (Int32 × sk_D) :=
  if (4 : Int32) ≤ v3 then if sk_bi v1 8 = true then some (v2, (sk_wi d 62 0 v1.toNatClampNeg (0 : Int32))) else none else if sk_bi v3 4 = true then if (d.1 53 0 v3.toNatClampNeg) = (1 : Int32) then if sk_bi v3 4 = true then if (d.1 57 0 v3.toNatClampNeg) = v1 then if sk_bi v3 4 = true then (q_X9_dismiss_50 rec15 (sk_wi d 57 0 v3.toNatClampNeg (-9 : Int32)) v1 v3 v3) else none else (q_X9_dismiss_50 rec15 d v1 v2 v3) else none else (q_X9_dismiss_50 rec15 d v1 v2 v3) else none
set_option maxRecDepth 100000 in
set_option maxHeartbeats 4000000 in
theorem t_X9_dismiss_15 {l : Launch} {rec15 : (sk_D × Int32 × Int32 × Int32) → Option (Int32 × sk_D)} {d : sk_D} {v1 : Int32} {v2 : Int32} {v3 : Int32} (hrec15 : ∀ (a : (sk_D × Int32 × Int32 × Int32)) (res : Int32 × sk_D), rec15 a = some res → sk_G l (sk_rm 3 0 0) m_X9_dismiss sk_Ex0 (sk_Zm m_X9_dismiss (some (.inl res.1)) (sk_mm res.2)) 0 0 15 [some (.inr (.inr (some (44, 0)))), some (.inl a.2.1), some (.inl a.2.2.1), some (.inl a.2.2.2)] [] (sk_mm a.1)) {res : Int32 × sk_D} (hq : q_X9_dismiss_15 rec15 d v1 v2 v3 = some res) :
    sk_G l (sk_rm 3 0 0) m_X9_dismiss sk_Ex0 (sk_Zm m_X9_dismiss (some (.inl res.1)) (sk_mm res.2)) 0 0 15 [some (.inr (.inr (some (44, 0)))), some (.inl v1), some (.inl v2), some (.inl v3)] [] (sk_mm d) := by
  unfold q_X9_dismiss_15 at hq
  refine sg_iload_n 16 (sk_td o_X9_dismiss 10 rfl) rfl rfl ?_
  refine sg_iconst (v := (4 : Int32)) 17 (sk_td o_X9_dismiss 11 rfl) rfl (by decide) ?_
  refine sg_ic_ge 56 20 (sk_td o_X9_dismiss 12 rfl) (by decide) rfl (fun hc => ?_) (fun hc => ?_)
  · rw [if_pos hc] at hq
    refine sg_aload_n 57 (sk_td o_X9_dismiss 34 rfl) rfl rfl ?_
    refine sm_getR (62, 0) 60 (sk_td o_X9_dismiss 35 rfl) rfl kf_X9_71 rfl rfl sz_44 rfl ?_
    refine sg_iload_n 61 (sk_td o_X9_dismiss 36 rfl) rfl rfl ?_
    refine sg_iconst (v := (0 : Int32)) 62 (sk_td o_X9_dismiss 37 rfl) rfl (by decide) ?_
    obtain ⟨hb1, hq⟩ := sk_ifn hq
    refine sm_iast 63 (sk_td o_X9_dismiss 38 rfl) rfl rfl sz_62 hb1 ?_
    refine sg_iload_n 64 (sk_td o_X9_dismiss 39 rfl) rfl rfl ?_
    obtain rfl := Option.some.inj hq
    exact sg_iret (sk_td o_X9_dismiss 40 rfl) rfl rfl
  · rw [if_neg hc] at hq
    refine sg_aload_n 21 (sk_td o_X9_dismiss 13 rfl) rfl rfl ?_
    refine sm_getR (53, 0) 24 (sk_td o_X9_dismiss 14 rfl) rfl kf_X9_44 rfl rfl sz_44 rfl ?_
    refine sg_iload_n 25 (sk_td o_X9_dismiss 15 rfl) rfl rfl ?_
    obtain ⟨hb2, hq⟩ := sk_ifn hq
    refine sm_iald 26 (sk_td o_X9_dismiss 16 rfl) rfl rfl sz_53 hb2 ?_
    refine sg_iconst (v := (1 : Int32)) 27 (sk_td o_X9_dismiss 17 rfl) rfl (by decide) ?_
    refine sg_ic_ne 50 30 (sk_td o_X9_dismiss 18 rfl) (by decide) rfl (fun hc => ?_) (fun hc => ?_)
    · rw [if_neg hc] at hq
      exact t_X9_dismiss_50 hrec15 hq
    · rw [if_pos hc] at hq
      refine sg_aload_n 31 (sk_td o_X9_dismiss 19 rfl) rfl rfl ?_
      refine sm_getR (57, 0) 34 (sk_td o_X9_dismiss 20 rfl) rfl kf_X9_56 rfl rfl sz_44 rfl ?_
      refine sg_iload_n 35 (sk_td o_X9_dismiss 21 rfl) rfl rfl ?_
      obtain ⟨hb3, hq⟩ := sk_ifn hq
      refine sm_iald 36 (sk_td o_X9_dismiss 22 rfl) rfl rfl sz_57 hb3 ?_
      refine sg_iload_n 37 (sk_td o_X9_dismiss 23 rfl) rfl rfl ?_
      refine sg_ic_ne 50 40 (sk_td o_X9_dismiss 24 rfl) (by decide) rfl (fun hc => ?_) (fun hc => ?_)
      · rw [if_neg hc] at hq
        exact t_X9_dismiss_50 hrec15 hq
      · rw [if_pos hc] at hq
        refine sg_aload_n 41 (sk_td o_X9_dismiss 25 rfl) rfl rfl ?_
        refine sm_getR (57, 0) 44 (sk_td o_X9_dismiss 26 rfl) rfl kf_X9_56 rfl rfl sz_44 rfl ?_
        refine sg_iload_n 45 (sk_td o_X9_dismiss 27 rfl) rfl rfl ?_
        refine sg_bipush (v := (-9 : Int32)) 47 (sk_td o_X9_dismiss 28 rfl) rfl (by decide) ?_
        obtain ⟨hb4, hq⟩ := sk_ifn hq
        refine sm_iast 48 (sk_td o_X9_dismiss 29 rfl) rfl rfl sz_57 hb4 ?_
        refine sg_iload_n 49 (sk_td o_X9_dismiss 30 rfl) rfl rfl ?_
        refine sg_istore_n 50 [some (.inr (.inr (some (44, 0)))), some (.inl v1), some (.inl v3), some (.inl v3)] (sk_td o_X9_dismiss 31 rfl) rfl rfl (Nat.le_of_ble_eq_true rfl) rfl ?_
        exact t_X9_dismiss_50 hrec15 hq
def l_X9_dismiss_15 (fl : Nat) (a : (sk_D × Int32 × Int32 × Int32)) : Option (Int32 × sk_D) := sk_it (fun rec15 a => q_X9_dismiss_15 rec15 a.1 a.2.1 a.2.2.1 a.2.2.2) fl a
theorem lt_X9_dismiss_15 {l : Launch} : ∀ (fl : Nat) (a : (sk_D × Int32 × Int32 × Int32)) (res : Int32 × sk_D), l_X9_dismiss_15 fl a = some res → sk_G l (sk_rm 3 0 0) m_X9_dismiss sk_Ex0 (sk_Zm m_X9_dismiss (some (.inl res.1)) (sk_mm res.2)) 0 0 15 [some (.inr (.inr (some (44, 0)))), some (.inl a.2.1), some (.inl a.2.2.1), some (.inl a.2.2.2)] [] (sk_mm a.1) :=
  sk_it_ind (P := fun (a : (sk_D × Int32 × Int32 × Int32)) (res : Int32 × sk_D) => sk_G l (sk_rm 3 0 0) m_X9_dismiss sk_Ex0 (sk_Zm m_X9_dismiss (some (.inl res.1)) (sk_mm res.2)) 0 0 15 [some (.inr (.inr (some (44, 0)))), some (.inl a.2.1), some (.inl a.2.2.1), some (.inl a.2.2.2)] [] (sk_mm a.1)) (fun rec15 hrec15 a res hq  => t_X9_dismiss_15 hrec15 hq )
def q_X9_dismiss_0 (d : sk_D) (v1 : Int32) : Option (Int32 × sk_D) :=
  (q_X9_hasInstructor d v1).bind fun x1 => if x1 = 0 then some ((-1 : Int32), d) else (l_X9_dismiss_15 sk_fu (d, v1, (-9 : Int32), (0 : Int32)))
set_option maxRecDepth 100000 in
set_option maxHeartbeats 4000000 in
theorem t_X9_dismiss_0 {l : Launch} {d : sk_D} {v1 : Int32} {res : Int32 × sk_D} (hq : q_X9_dismiss_0 d v1 = some res) :
    sk_G l (sk_rm 3 0 0) m_X9_dismiss sk_Ex0 (sk_Zm m_X9_dismiss (some (.inl res.1)) (sk_mm res.2)) 0 0 0 [some (.inr (.inr (some (44, 0)))), some (.inl v1), none, none] [] (sk_mm d) := by
  unfold q_X9_dismiss_0 at hq
  refine sg_aload_n 1 (sk_td o_X9_dismiss 0 rfl) rfl rfl ?_
  refine sg_iload_n 2 (sk_td o_X9_dismiss 1 rfl) rfl rfl ?_
  obtain ⟨x1, hr_x1, hq⟩ := sk_bnd hq
  refine sm_callV1i 5 (s_X9_hasInstructor hr_x1) (sk_td o_X9_dismiss 2 rfl) rfl lv_X9_267 rfl rfl rfl sz_44 (sk_rok (Nat.le_of_ble_eq_true rfl) (Nat.le_of_ble_eq_true rfl) rfl rfl) (Nat.le_of_ble_eq_true rfl) ?_
  refine sg_if_ne 10 8 (sk_td o_X9_dismiss 3 rfl) (by decide) rfl (fun hc => ?_) (fun hc => ?_)
  · rw [if_neg hc] at hq
    refine sg_bipush (v := (-9 : Int32)) 12 (sk_td o_X9_dismiss 6 rfl) rfl (by decide) ?_
    refine sg_istore_n 13 [some (.inr (.inr (some (44, 0)))), some (.inl v1), some (.inl (-9 : Int32)), none] (sk_td o_X9_dismiss 7 rfl) rfl rfl (Nat.le_of_ble_eq_true rfl) rfl ?_
    refine sg_iconst (v := (0 : Int32)) 14 (sk_td o_X9_dismiss 8 rfl) rfl (by decide) ?_
    refine sg_istore_n 15 [some (.inr (.inr (some (44, 0)))), some (.inl v1), some (.inl (-9 : Int32)), some (.inl (0 : Int32))] (sk_td o_X9_dismiss 9 rfl) rfl rfl (Nat.le_of_ble_eq_true rfl) rfl ?_
    exact lt_X9_dismiss_15 sk_fu (d, v1, (-9 : Int32), (0 : Int32)) _ hq
  · rw [if_pos hc] at hq
    refine sg_iconst (v := (-1 : Int32)) 9 (sk_td o_X9_dismiss 4 rfl) rfl (by decide) ?_
    obtain rfl := Option.some.inj hq
    exact sg_iret (sk_td o_X9_dismiss 5 rfl) rfl rfl
def q_X9_dismiss (d : sk_D) (v1 : Int32) : Option (Int32 × sk_D) := q_X9_dismiss_0 d v1 
theorem s_X9_dismiss {l : Launch} {d : sk_D} {v1 : Int32} {res : Int32 × sk_D} (hq : q_X9_dismiss d v1 = some res) : sk_M l 3 m_X9_dismiss [.inr (.inr (some (44, 0))), .inl v1] (sk_mm d) (some (.inl res.1)) (sk_mm res.2) :=
  sk_enter (by decide) (fun _ => Nat.le_of_ble_eq_true rfl) (Nat.le_of_ble_eq_true rfl) (t_X9_dismiss_0 hq )
def q_X9_instructors_0 (d : sk_D) : Option (Int32) :=
  (q_X9_instructorMany d).bind fun x1 => some x1
set_option maxRecDepth 100000 in
set_option maxHeartbeats 4000000 in
theorem t_X9_instructors_0 {l : Launch} {d : sk_D} {res : Int32} (hq : q_X9_instructors_0 d = some res) :
    sk_G l (sk_rm 2 0 0) m_X9_instructors sk_Ex0 (sk_Zm m_X9_instructors (some (.inl res)) (sk_mm d)) 0 0 0 [some (.inr (.inr (some (44, 0))))] [] (sk_mm d) := by
  unfold q_X9_instructors_0 at hq
  refine sg_aload_n 1 (sk_td o_X9_instructors 0 rfl) rfl rfl ?_
  obtain ⟨x1, hr_x1, hq⟩ := sk_bnd hq
  refine sm_callV0i 4 (s_X9_instructorMany hr_x1) (sk_td o_X9_instructors 1 rfl) rfl lv_X9_264 rfl rfl rfl sz_44 (sk_rok (Nat.le_of_ble_eq_true rfl) (Nat.le_of_ble_eq_true rfl) rfl rfl) (Nat.le_of_ble_eq_true rfl) ?_
  obtain rfl := Option.some.inj hq
  exact sg_iret (sk_td o_X9_instructors 2 rfl) rfl rfl
def q_X9_instructors (d : sk_D) : Option (Int32) := q_X9_instructors_0 d 
theorem s_X9_instructors {l : Launch} {d : sk_D} {res : Int32} (hq : q_X9_instructors d = some res) : sk_M l 2 m_X9_instructors [.inr (.inr (some (44, 0)))] (sk_mm d) (some (.inl res)) (sk_mm d) :=
  sk_enter (by decide) (fun _ => Nat.le_of_ble_eq_true rfl) (Nat.le_of_ble_eq_true rfl) (t_X9_instructors_0 hq )
def q_X9_isTeaching_0 (d : sk_D) (v1 : Int32) (v2 : Int32) : Option (Int32) :=
  if sk_bi v1 8 = true then if (d.1 62 0 v1.toNatClampNeg) = (1 : Int32) then if sk_bi v1 8 = true then if sk_bi v2 4 = true then if (((d.1 63 0 v1.toNatClampNeg) >>> ((d.1 55 0 v2.toNatClampNeg) &&& 31)) &&& (1 : Int32)) = (1 : Int32) then if sk_bi v2 4 = true then if sk_bi v1 8 = true then if sk_bi v1 8 = true then (q_X9_within d (d.1 54 0 v2.toNatClampNeg) (d.1 64 0 v1.toNatClampNeg) (d.1 65 0 v1.toNatClampNeg)).bind fun x7 => if x7 = 0 then some (0 : Int32) else some (1 : Int32) else none else none else none else some (0 : Int32) else none else none else some (0 : Int32) else none
set_option maxRecDepth 100000 in
set_option maxHeartbeats 4000000 in
theorem t_X9_isTeaching_0 {l : Launch} {d : sk_D} {v1 : Int32} {v2 : Int32} {res : Int32} (hq : q_X9_isTeaching_0 d v1 v2 = some res) :
    sk_G l (sk_rm 2 0 0) m_X9_isTeaching sk_Ex0 (sk_Zm m_X9_isTeaching (some (.inl res)) (sk_mm d)) 0 0 0 [some (.inr (.inr (some (44, 0)))), some (.inl v1), some (.inl v2)] [] (sk_mm d) := by
  unfold q_X9_isTeaching_0 at hq
  refine sg_aload_n 1 (sk_td o_X9_isTeaching 0 rfl) rfl rfl ?_
  refine sm_getR (62, 0) 4 (sk_td o_X9_isTeaching 1 rfl) rfl kf_X9_71 rfl rfl sz_44 rfl ?_
  refine sg_iload_n 5 (sk_td o_X9_isTeaching 2 rfl) rfl rfl ?_
  obtain ⟨hb1, hq⟩ := sk_ifn hq
  refine sm_iald 6 (sk_td o_X9_isTeaching 3 rfl) rfl rfl sz_62 hb1 ?_
  refine sg_iconst (v := (1 : Int32)) 7 (sk_td o_X9_isTeaching 4 rfl) rfl (by decide) ?_
  refine sg_ic_ne 57 10 (sk_td o_X9_isTeaching 5 rfl) (by decide) rfl (fun hc => ?_) (fun hc => ?_)
  · rw [if_neg hc] at hq
    refine sg_iconst (v := (0 : Int32)) 58 (sk_td o_X9_isTeaching 35 rfl) rfl (by decide) ?_
    obtain rfl := Option.some.inj hq
    exact sg_iret (sk_td o_X9_isTeaching 36 rfl) rfl (show narrow .boolean (.int (0 : Int32)) = .int (0 : Int32) by decide)
  · rw [if_pos hc] at hq
    refine sg_aload_n 11 (sk_td o_X9_isTeaching 6 rfl) rfl rfl ?_
    refine sm_getR (63, 0) 14 (sk_td o_X9_isTeaching 7 rfl) rfl kf_X9_74 rfl rfl sz_44 rfl ?_
    refine sg_iload_n 15 (sk_td o_X9_isTeaching 8 rfl) rfl rfl ?_
    obtain ⟨hb2, hq⟩ := sk_ifn hq
    refine sm_iald 16 (sk_td o_X9_isTeaching 9 rfl) rfl rfl sz_63 hb2 ?_
    refine sg_aload_n 17 (sk_td o_X9_isTeaching 10 rfl) rfl rfl ?_
    refine sm_getR (55, 0) 20 (sk_td o_X9_isTeaching 11 rfl) rfl kf_X9_50 rfl rfl sz_44 rfl ?_
    refine sg_iload_n 21 (sk_td o_X9_isTeaching 12 rfl) rfl rfl ?_
    obtain ⟨hb3, hq⟩ := sk_ifn hq
    refine sm_iald 22 (sk_td o_X9_isTeaching 13 rfl) rfl rfl sz_55 hb3 ?_
    refine sg_ishr 23 (sk_td o_X9_isTeaching 14 rfl) rfl ?_
    refine sg_iconst (v := (1 : Int32)) 24 (sk_td o_X9_isTeaching 15 rfl) rfl (by decide) ?_
    refine sg_iand 25 (sk_td o_X9_isTeaching 16 rfl) rfl ?_
    refine sg_iconst (v := (1 : Int32)) 26 (sk_td o_X9_isTeaching 17 rfl) rfl (by decide) ?_
    refine sg_ic_ne 57 29 (sk_td o_X9_isTeaching 18 rfl) (by decide) rfl (fun hc => ?_) (fun hc => ?_)
    · rw [if_neg hc] at hq
      refine sg_iconst (v := (0 : Int32)) 58 (sk_td o_X9_isTeaching 35 rfl) rfl (by decide) ?_
      obtain rfl := Option.some.inj hq
      exact sg_iret (sk_td o_X9_isTeaching 36 rfl) rfl (show narrow .boolean (.int (0 : Int32)) = .int (0 : Int32) by decide)
    · rw [if_pos hc] at hq
      refine sg_aload_n 30 (sk_td o_X9_isTeaching 19 rfl) rfl rfl ?_
      refine sm_getR (54, 0) 33 (sk_td o_X9_isTeaching 20 rfl) rfl kf_X9_47 rfl rfl sz_44 rfl ?_
      refine sg_iload_n 34 (sk_td o_X9_isTeaching 21 rfl) rfl rfl ?_
      obtain ⟨hb4, hq⟩ := sk_ifn hq
      refine sm_iald 35 (sk_td o_X9_isTeaching 22 rfl) rfl rfl sz_54 hb4 ?_
      refine sg_aload_n 36 (sk_td o_X9_isTeaching 23 rfl) rfl rfl ?_
      refine sm_getR (64, 0) 39 (sk_td o_X9_isTeaching 24 rfl) rfl kf_X9_77 rfl rfl sz_44 rfl ?_
      refine sg_iload_n 40 (sk_td o_X9_isTeaching 25 rfl) rfl rfl ?_
      obtain ⟨hb5, hq⟩ := sk_ifn hq
      refine sm_iald 41 (sk_td o_X9_isTeaching 26 rfl) rfl rfl sz_64 hb5 ?_
      refine sg_aload_n 42 (sk_td o_X9_isTeaching 27 rfl) rfl rfl ?_
      refine sm_getR (65, 0) 45 (sk_td o_X9_isTeaching 28 rfl) rfl kf_X9_80 rfl rfl sz_44 rfl ?_
      refine sg_iload_n 46 (sk_td o_X9_isTeaching 29 rfl) rfl rfl ?_
      obtain ⟨hb6, hq⟩ := sk_ifn hq
      refine sm_iald 47 (sk_td o_X9_isTeaching 30 rfl) rfl rfl sz_65 hb6 ?_
      obtain ⟨x7, hr_x7, hq⟩ := sk_bnd hq
      refine sm_callS3i 50 (s_X9_within hr_x7) (sk_td o_X9_isTeaching 31 rfl) rfl ls_X9_168 rfl (sk_rok (Nat.le_of_ble_eq_true rfl) (Nat.le_of_ble_eq_true rfl) rfl rfl) (Nat.le_of_ble_eq_true rfl) ?_
      refine sg_if_eq 57 53 (sk_td o_X9_isTeaching 32 rfl) (by decide) rfl (fun hc => ?_) (fun hc => ?_)
      · rw [if_pos hc] at hq
        refine sg_iconst (v := (0 : Int32)) 58 (sk_td o_X9_isTeaching 35 rfl) rfl (by decide) ?_
        obtain rfl := Option.some.inj hq
        exact sg_iret (sk_td o_X9_isTeaching 36 rfl) rfl (show narrow .boolean (.int (0 : Int32)) = .int (0 : Int32) by decide)
      · rw [if_neg hc] at hq
        refine sg_iconst (v := (1 : Int32)) 54 (sk_td o_X9_isTeaching 33 rfl) rfl (by decide) ?_
        refine sg_goto 58 (sk_td o_X9_isTeaching 34 rfl) (by decide) ?_
        obtain rfl := Option.some.inj hq
        exact sg_iret (sk_td o_X9_isTeaching 36 rfl) rfl (show narrow .boolean (.int (1 : Int32)) = .int (1 : Int32) by decide)
def q_X9_isTeaching (d : sk_D) (v1 : Int32) (v2 : Int32) : Option (Int32) := q_X9_isTeaching_0 d v1 v2 
theorem s_X9_isTeaching {l : Launch} {d : sk_D} {v1 : Int32} {v2 : Int32} {res : Int32} (hq : q_X9_isTeaching d v1 v2 = some res) : sk_M l 2 m_X9_isTeaching [.inr (.inr (some (44, 0))), .inl v1, .inl v2] (sk_mm d) (some (.inl res)) (sk_mm d) :=
  sk_enter (by decide) (fun _ => Nat.le_of_ble_eq_true rfl) (Nat.le_of_ble_eq_true rfl) (t_X9_isTeaching_0 hq )
def q_X9_canTeach_16 (d : sk_D) : Option (Int32) :=
  some (-1 : Int32)
set_option maxRecDepth 100000 in
set_option maxHeartbeats 4000000 in
theorem t_X9_canTeach_16 {l : Launch} {d : sk_D} {res : Int32} (hq : q_X9_canTeach_16 d = some res) :
    sk_G l (sk_rm 3 0 0) m_X9_canTeach sk_Ex0 (sk_Zm m_X9_canTeach (some (.inl res)) (sk_mm d)) 0 0 16 [none, none, none] [] (sk_mm d) := by
  unfold q_X9_canTeach_16 at hq
  refine sg_iconst (v := (-1 : Int32)) 17 (sk_td o_X9_canTeach 8 rfl) rfl (by decide) ?_
  refine sg_goto 34 (sk_td o_X9_canTeach 9 rfl) (by decide) ?_
  obtain rfl := Option.some.inj hq
  exact sg_iret (sk_td o_X9_canTeach 18 rfl) rfl rfl
def q_X9_canTeach_0 (d : sk_D) (v1 : Int32) (v2 : Int32) : Option (Int32) :=
  (q_X9_hasInstructor d v1).bind fun x1 => if x1 = 0 then (q_X9_canTeach_16 d ) else (q_X9_hasGroup d v2).bind fun x2 => if x2 = 0 then (q_X9_canTeach_16 d ) else (q_X9_isTeaching d v1 v2).bind fun x3 => if x3 = 0 then some (0 : Int32) else some (1 : Int32)
set_option maxRecDepth 100000 in
set_option maxHeartbeats 4000000 in
theorem t_X9_canTeach_0 {l : Launch} {d : sk_D} {v1 : Int32} {v2 : Int32} {res : Int32} (hq : q_X9_canTeach_0 d v1 v2 = some res) :
    sk_G l (sk_rm 3 0 0) m_X9_canTeach sk_Ex0 (sk_Zm m_X9_canTeach (some (.inl res)) (sk_mm d)) 0 0 0 [some (.inr (.inr (some (44, 0)))), some (.inl v1), some (.inl v2)] [] (sk_mm d) := by
  unfold q_X9_canTeach_0 at hq
  refine sg_aload_n 1 (sk_td o_X9_canTeach 0 rfl) rfl rfl ?_
  refine sg_iload_n 2 (sk_td o_X9_canTeach 1 rfl) rfl rfl ?_
  obtain ⟨x1, hr_x1, hq⟩ := sk_bnd hq
  refine sm_callV1i 5 (s_X9_hasInstructor hr_x1) (sk_td o_X9_canTeach 2 rfl) rfl lv_X9_267 rfl rfl rfl sz_44 (sk_rok (Nat.le_of_ble_eq_true rfl) (Nat.le_of_ble_eq_true rfl) rfl rfl) (Nat.le_of_ble_eq_true rfl) ?_
  refine sg_if_eq 16 8 (sk_td o_X9_canTeach 3 rfl) (by decide) rfl (fun hc => ?_) (fun hc => ?_)
  · rw [if_pos hc] at hq
    refine sk_wk [false, false, false] (ls' := [none, none, none]) rfl ?_
    exact t_X9_canTeach_16 hq
  · rw [if_neg hc] at hq
    refine sg_aload_n 9 (sk_td o_X9_canTeach 4 rfl) rfl rfl ?_
    refine sg_iload_n 10 (sk_td o_X9_canTeach 5 rfl) rfl rfl ?_
    obtain ⟨x2, hr_x2, hq⟩ := sk_bnd hq
    refine sm_callV1i 13 (s_X9_hasGroup hr_x2) (sk_td o_X9_canTeach 6 rfl) rfl lv_X9_227 rfl rfl rfl sz_44 (sk_rok (Nat.le_of_ble_eq_true rfl) (Nat.le_of_ble_eq_true rfl) rfl rfl) (Nat.le_of_ble_eq_true rfl) ?_
    refine sg_if_ne 20 16 (sk_td o_X9_canTeach 7 rfl) (by decide) rfl (fun hc => ?_) (fun hc => ?_)
    · rw [if_neg hc] at hq
      refine sg_aload_n 21 (sk_td o_X9_canTeach 10 rfl) rfl rfl ?_
      refine sg_iload_n 22 (sk_td o_X9_canTeach 11 rfl) rfl rfl ?_
      refine sg_iload_n 23 (sk_td o_X9_canTeach 12 rfl) rfl rfl ?_
      obtain ⟨x3, hr_x3, hq⟩ := sk_bnd hq
      refine sm_callV2i 26 (s_X9_isTeaching hr_x3) (sk_td o_X9_canTeach 13 rfl) rfl lv_X9_270 rfl rfl rfl sz_44 (sk_rok (Nat.le_of_ble_eq_true rfl) (Nat.le_of_ble_eq_true rfl) rfl rfl) (Nat.le_of_ble_eq_true rfl) ?_
      refine sg_if_eq 33 29 (sk_td o_X9_canTeach 14 rfl) (by decide) rfl (fun hc => ?_) (fun hc => ?_)
      · rw [if_pos hc] at hq
        refine sg_iconst (v := (0 : Int32)) 34 (sk_td o_X9_canTeach 17 rfl) rfl (by decide) ?_
        obtain rfl := Option.some.inj hq
        exact sg_iret (sk_td o_X9_canTeach 18 rfl) rfl rfl
      · rw [if_neg hc] at hq
        refine sg_iconst (v := (1 : Int32)) 30 (sk_td o_X9_canTeach 15 rfl) rfl (by decide) ?_
        refine sg_goto 34 (sk_td o_X9_canTeach 16 rfl) (by decide) ?_
        obtain rfl := Option.some.inj hq
        exact sg_iret (sk_td o_X9_canTeach 18 rfl) rfl rfl
    · rw [if_pos hc] at hq
      refine sk_wk [false, false, false] (ls' := [none, none, none]) rfl ?_
      exact t_X9_canTeach_16 hq
def q_X9_canTeach (d : sk_D) (v1 : Int32) (v2 : Int32) : Option (Int32) := q_X9_canTeach_0 d v1 v2 
theorem s_X9_canTeach {l : Launch} {d : sk_D} {v1 : Int32} {v2 : Int32} {res : Int32} (hq : q_X9_canTeach d v1 v2 = some res) : sk_M l 3 m_X9_canTeach [.inr (.inr (some (44, 0))), .inl v1, .inl v2] (sk_mm d) (some (.inl res)) (sk_mm d) :=
  sk_enter (by decide) (fun _ => Nat.le_of_ble_eq_true rfl) (Nat.le_of_ble_eq_true rfl) (t_X9_canTeach_0 hq )
def q_X9_staffIn_0 (d : sk_D) (v0 : Int32) (v1 : Int32) : Option (Int32) :=
  some ((v0 >>> (((3 : Int32) * ((3 : Int32) - v1)) &&& 31)) &&& (7 : Int32))
set_option maxRecDepth 100000 in
set_option maxHeartbeats 4000000 in
theorem t_X9_staffIn_0 {l : Launch} {d : sk_D} {v0 : Int32} {v1 : Int32} {res : Int32} (hq : q_X9_staffIn_0 d v0 v1 = some res) :
    sk_G l (sk_rm 1 0 0) m_X9_staffIn sk_Ex0 (sk_Zm m_X9_staffIn (some (.inl res)) (sk_mm d)) 0 0 0 [some (.inl v0), some (.inl v1)] [] (sk_mm d) := by
  unfold q_X9_staffIn_0 at hq
  refine sg_iload_n 1 (sk_td o_X9_staffIn 0 rfl) rfl rfl ?_
  refine sg_iconst (v := (3 : Int32)) 2 (sk_td o_X9_staffIn 1 rfl) rfl (by decide) ?_
  refine sg_iconst (v := (3 : Int32)) 3 (sk_td o_X9_staffIn 2 rfl) rfl (by decide) ?_
  refine sg_iload_n 4 (sk_td o_X9_staffIn 3 rfl) rfl rfl ?_
  refine sg_isub 5 (sk_td o_X9_staffIn 4 rfl) rfl ?_
  refine sg_imul 6 (sk_td o_X9_staffIn 5 rfl) rfl ?_
  refine sg_ishr 7 (sk_td o_X9_staffIn 6 rfl) rfl ?_
  refine sg_bipush (v := (7 : Int32)) 9 (sk_td o_X9_staffIn 7 rfl) rfl (by decide) ?_
  refine sg_iand 10 (sk_td o_X9_staffIn 8 rfl) rfl ?_
  obtain rfl := Option.some.inj hq
  exact sg_iret (sk_td o_X9_staffIn 9 rfl) rfl rfl
def q_X9_staffIn (d : sk_D) (v0 : Int32) (v1 : Int32) : Option (Int32) := q_X9_staffIn_0 d v0 v1 
theorem s_X9_staffIn {l : Launch} {d : sk_D} {v0 : Int32} {v1 : Int32} {res : Int32} (hq : q_X9_staffIn d v0 v1 = some res) : sk_M l 1 m_X9_staffIn [.inl v0, .inl v1] (sk_mm d) (some (.inl res)) (sk_mm d) :=
  sk_enter (by decide) (fun _ => Nat.le_of_ble_eq_true rfl) (Nat.le_of_ble_eq_true rfl) (t_X9_staffIn_0 hq )
def q_X9_costOf_103 (d : sk_D) (v2 : Int32) (v4 : Int32) : Option (Int32) :=
  if v4 = 0 then some (-1 : Int32) else some v2
set_option maxRecDepth 100000 in
set_option maxHeartbeats 4000000 in
theorem t_X9_costOf_103 {l : Launch} {d : sk_D} {v2 : Int32} {v4 : Int32} {res : Int32} (hq : q_X9_costOf_103 d v2 v4 = some res) :
    sk_G l (sk_rm 3 0 0) m_X9_costOf sk_Ex0 (sk_Zm m_X9_costOf (some (.inl res)) (sk_mm d)) 0 0 103 [none, none, some (.inl v2), none, some (.inl v4), none, none] [] (sk_mm d) := by
  unfold q_X9_costOf_103 at hq
  refine sg_iload 105 (sk_td o_X9_costOf 58 rfl) rfl rfl ?_
  refine sg_if_eq 112 108 (sk_td o_X9_costOf 59 rfl) (by decide) rfl (fun hc => ?_) (fun hc => ?_)
  · rw [if_pos hc] at hq
    refine sg_iconst (v := (-1 : Int32)) 113 (sk_td o_X9_costOf 62 rfl) rfl (by decide) ?_
    obtain rfl := Option.some.inj hq
    exact sg_iret (sk_td o_X9_costOf 63 rfl) rfl rfl
  · rw [if_neg hc] at hq
    refine sg_iload_n 109 (sk_td o_X9_costOf 60 rfl) rfl rfl ?_
    refine sg_goto 113 (sk_td o_X9_costOf 61 rfl) (by decide) ?_
    obtain rfl := Option.some.inj hq
    exact sg_iret (sk_td o_X9_costOf 63 rfl) rfl rfl
def q_X9_costOf_97 (rec10 : (Int32 × Int32 × Int32 × Int32 × Int32) → Option (Int32)) (d : sk_D) (v1 : Int32) (v2 : Int32) (v3 : Int32) (v4 : Int32) (v5 : Int32) : Option (Int32) :=
  (rec10 (v1, v2, v3, v4, (v5 + (1 : Int32))))
set_option maxRecDepth 100000 in
set_option maxHeartbeats 4000000 in
theorem t_X9_costOf_97 {l : Launch} {rec10 : (Int32 × Int32 × Int32 × Int32 × Int32) → Option (Int32)} {d : sk_D} {v1 : Int32} {v2 : Int32} {v3 : Int32} {v4 : Int32} {v5 : Int32} (hrec10 : ∀ (a : (Int32 × Int32 × Int32 × Int32 × Int32)) (res : Int32), rec10 a = some res → sk_G l (sk_rm 3 0 0) m_X9_costOf sk_Ex0 (sk_Zm m_X9_costOf (some (.inl res)) (sk_mm d)) 0 0 10 [some (.inr (.inr (some (44, 0)))), some (.inl a.1), some (.inl a.2.1), some (.inl a.2.2.1), some (.inl a.2.2.2.1), some (.inl a.2.2.2.2), none] [] (sk_mm d)) {res : Int32} (hq : q_X9_costOf_97 rec10 d v1 v2 v3 v4 v5 = some res) :
    sk_G l (sk_rm 3 0 0) m_X9_costOf sk_Ex0 (sk_Zm m_X9_costOf (some (.inl res)) (sk_mm d)) 0 0 97 [some (.inr (.inr (some (44, 0)))), some (.inl v1), some (.inl v2), some (.inl v3), some (.inl v4), some (.inl v5), none] [] (sk_mm d) := by
  unfold q_X9_costOf_97 at hq
  refine sg_iinc (v5 + (1 : Int32)) 100 [some (.inr (.inr (some (44, 0)))), some (.inl v1), some (.inl v2), some (.inl v3), some (.inl v4), some (.inl (v5 + (1 : Int32))), none] (sk_td o_X9_costOf 56 rfl) rfl rfl rfl rfl (Nat.le_of_ble_eq_true rfl) rfl ?_
  refine sg_goto 10 (sk_td o_X9_costOf 57 rfl) (by decide) ?_
  exact hrec10 (v1, v2, v3, v4, (v5 + (1 : Int32))) _ hq
def q_X9_costOf_95 (rec10 : (Int32 × Int32 × Int32 × Int32 × Int32) → Option (Int32)) (d : sk_D) (v1 : Int32) (v2 : Int32) (v3 : Int32) (v5 : Int32) (s0 : Int32) : Option (Int32) :=
  (q_X9_costOf_97 rec10 d v1 v2 v3 s0 v5)
set_option maxRecDepth 100000 in
set_option maxHeartbeats 4000000 in
theorem t_X9_costOf_95 {l : Launch} {rec10 : (Int32 × Int32 × Int32 × Int32 × Int32) → Option (Int32)} {d : sk_D} {v1 : Int32} {v2 : Int32} {v3 : Int32} {v5 : Int32} {s0 : Int32} (hrec10 : ∀ (a : (Int32 × Int32 × Int32 × Int32 × Int32)) (res : Int32), rec10 a = some res → sk_G l (sk_rm 3 0 0) m_X9_costOf sk_Ex0 (sk_Zm m_X9_costOf (some (.inl res)) (sk_mm d)) 0 0 10 [some (.inr (.inr (some (44, 0)))), some (.inl a.1), some (.inl a.2.1), some (.inl a.2.2.1), some (.inl a.2.2.2.1), some (.inl a.2.2.2.2), none] [] (sk_mm d)) {res : Int32} (hq : q_X9_costOf_95 rec10 d v1 v2 v3 v5 s0 = some res) :
    sk_G l (sk_rm 3 0 0) m_X9_costOf sk_Ex0 (sk_Zm m_X9_costOf (some (.inl res)) (sk_mm d)) 0 0 95 [some (.inr (.inr (some (44, 0)))), some (.inl v1), some (.inl v2), some (.inl v3), none, some (.inl v5), none] [.inl s0] (sk_mm d) := by
  unfold q_X9_costOf_95 at hq
  refine sg_istore 97 [some (.inr (.inr (some (44, 0)))), some (.inl v1), some (.inl v2), some (.inl v3), some (.inl s0), some (.inl v5), none] (sk_td o_X9_costOf 55 rfl) rfl rfl (Nat.le_of_ble_eq_true rfl) rfl ?_
  exact t_X9_costOf_97 hrec10 hq
def q_X9_costOf_63 (rec10 : (Int32 × Int32 × Int32 × Int32 × Int32) → Option (Int32)) (d : sk_D) (v1 : Int32) (v2 : Int32) (v3 : Int32) (v5 : Int32) (v6 : Int32) (s0 : Int32) : Option (Int32) :=
  if sk_bi v6 8 = true then (q_X9_costOf_97 rec10 d v1 (v2 + (d.1 66 0 v6.toNatClampNeg)) (v3 ||| ((1 : Int32) <<< (v6 &&& 31))) s0 v5) else none
set_option maxRecDepth 100000 in
set_option maxHeartbeats 4000000 in
theorem t_X9_costOf_63 {l : Launch} {rec10 : (Int32 × Int32 × Int32 × Int32 × Int32) → Option (Int32)} {d : sk_D} {v1 : Int32} {v2 : Int32} {v3 : Int32} {v5 : Int32} {v6 : Int32} {s0 : Int32} (hrec10 : ∀ (a : (Int32 × Int32 × Int32 × Int32 × Int32)) (res : Int32), rec10 a = some res → sk_G l (sk_rm 3 0 0) m_X9_costOf sk_Ex0 (sk_Zm m_X9_costOf (some (.inl res)) (sk_mm d)) 0 0 10 [some (.inr (.inr (some (44, 0)))), some (.inl a.1), some (.inl a.2.1), some (.inl a.2.2.1), some (.inl a.2.2.2.1), some (.inl a.2.2.2.2), none] [] (sk_mm d)) {res : Int32} (hq : q_X9_costOf_63 rec10 d v1 v2 v3 v5 v6 s0 = some res) :
    sk_G l (sk_rm 3 0 0) m_X9_costOf sk_Ex0 (sk_Zm m_X9_costOf (some (.inl res)) (sk_mm d)) 0 0 63 [some (.inr (.inr (some (44, 0)))), some (.inl v1), some (.inl v2), some (.inl v3), none, some (.inl v5), some (.inl v6)] [.inl s0] (sk_mm d) := by
  unfold q_X9_costOf_63 at hq
  refine sg_istore 65 [some (.inr (.inr (some (44, 0)))), some (.inl v1), some (.inl v2), some (.inl v3), some (.inl s0), some (.inl v5), some (.inl v6)] (sk_td o_X9_costOf 35 rfl) rfl rfl (Nat.le_of_ble_eq_true rfl) rfl ?_
  refine sg_iload_n 66 (sk_td o_X9_costOf 36 rfl) rfl rfl ?_
  refine sg_iconst (v := (1 : Int32)) 67 (sk_td o_X9_costOf 37 rfl) rfl (by decide) ?_
  refine sg_iload 69 (sk_td o_X9_costOf 38 rfl) rfl rfl ?_
  refine sg_ishl 70 (sk_td o_X9_costOf 39 rfl) rfl ?_
  refine sg_ior 71 (sk_td o_X9_costOf 40 rfl) rfl ?_
  refine sg_istore_n 72 [some (.inr (.inr (some (44, 0)))), some (.inl v1), some (.inl v2), some (.inl (v3 ||| ((1 : Int32) <<< (v6 &&& 31)))), some (.inl s0), some (.inl v5), some (.inl v6)] (sk_td o_X9_costOf 41 rfl) rfl rfl (Nat.le_of_ble_eq_true rfl) rfl ?_
  refine sg_iload_n 73 (sk_td o_X9_costOf 42 rfl) rfl rfl ?_
  refine sg_aload_n 74 (sk_td o_X9_costOf 43 rfl) rfl rfl ?_
  refine sm_getR (66, 0) 77 (sk_td o_X9_costOf 44 rfl) rfl kf_X9_83 rfl rfl sz_44 rfl ?_
  refine sg_iload 79 (sk_td o_X9_costOf 45 rfl) rfl rfl ?_
  obtain ⟨hb1, hq⟩ := sk_ifn hq
  refine sm_iald 80 (sk_td o_X9_costOf 46 rfl) rfl rfl sz_66 hb1 ?_
  refine sg_iadd 81 (sk_td o_X9_costOf 47 rfl) rfl ?_
  refine sg_istore_n 82 [some (.inr (.inr (some (44, 0)))), some (.inl v1), some (.inl (v2 + (d.1 66 0 v6.toNatClampNeg))), some (.inl (v3 ||| ((1 : Int32) <<< (v6 &&& 31)))), some (.inl s0), some (.inl v5), some (.inl v6)] (sk_td o_X9_costOf 48 rfl) rfl rfl (Nat.le_of_ble_eq_true rfl) rfl ?_
  refine sg_goto 97 (sk_td o_X9_costOf 49 rfl) (by decide) ?_
  refine sk_wk [true, true, true, true, true, true, false] (ls' := [some (.inr (.inr (some (44, 0)))), some (.inl v1), some (.inl (v2 + (d.1 66 0 v6.toNatClampNeg))), some (.inl (v3 ||| ((1 : Int32) <<< (v6 &&& 31)))), some (.inl s0), some (.inl v5), none]) rfl ?_
  exact t_X9_costOf_97 hrec10 hq
def q_X9_costOf_62 (rec10 : (Int32 × Int32 × Int32 × Int32 × Int32) → Option (Int32)) (d : sk_D) (v1 : Int32) (v2 : Int32) (v3 : Int32) (v5 : Int32) (v6 : Int32) : Option (Int32) :=
  (q_X9_costOf_63 rec10 d v1 v2 v3 v5 v6 (0 : Int32))
set_option maxRecDepth 100000 in
set_option maxHeartbeats 4000000 in
theorem t_X9_costOf_62 {l : Launch} {rec10 : (Int32 × Int32 × Int32 × Int32 × Int32) → Option (Int32)} {d : sk_D} {v1 : Int32} {v2 : Int32} {v3 : Int32} {v5 : Int32} {v6 : Int32} (hrec10 : ∀ (a : (Int32 × Int32 × Int32 × Int32 × Int32)) (res : Int32), rec10 a = some res → sk_G l (sk_rm 3 0 0) m_X9_costOf sk_Ex0 (sk_Zm m_X9_costOf (some (.inl res)) (sk_mm d)) 0 0 10 [some (.inr (.inr (some (44, 0)))), some (.inl a.1), some (.inl a.2.1), some (.inl a.2.2.1), some (.inl a.2.2.2.1), some (.inl a.2.2.2.2), none] [] (sk_mm d)) {res : Int32} (hq : q_X9_costOf_62 rec10 d v1 v2 v3 v5 v6 = some res) :
    sk_G l (sk_rm 3 0 0) m_X9_costOf sk_Ex0 (sk_Zm m_X9_costOf (some (.inl res)) (sk_mm d)) 0 0 62 [some (.inr (.inr (some (44, 0)))), some (.inl v1), some (.inl v2), some (.inl v3), none, some (.inl v5), some (.inl v6)] [] (sk_mm d) := by
  unfold q_X9_costOf_62 at hq
  refine sg_iconst (v := (0 : Int32)) 63 (sk_td o_X9_costOf 34 rfl) rfl (by decide) ?_
  exact t_X9_costOf_63 hrec10 hq
def q_X9_costOf_10 (rec10 : (Int32 × Int32 × Int32 × Int32 × Int32) → Option (Int32)) (d : sk_D) (v1 : Int32) (v2 : Int32) (v3 : Int32) (v4 : Int32) (v5 : Int32) : Option (Int32) :=
  if (4 : Int32) ≤ v5 then (q_X9_costOf_103 d v2 v4) else if v4 = 0 then (q_X9_costOf_103 d v2 v4) else (q_X9_staffIn d v1 v5).bind fun x1 => (q_X9_isActive d v5).bind fun x2 => if x2 = 0 then if x1 = 0 then (q_X9_costOf_95 rec10 d v1 v2 v3 v5 (1 : Int32)) else (q_X9_costOf_95 rec10 d v1 v2 v3 v5 (0 : Int32)) else (q_X9_isTeaching d x1 v5).bind fun x3 => if x3 = 0 then (q_X9_costOf_62 rec10 d v1 v2 v3 v5 x1) else if ((v3 >>> (x1 &&& 31)) &&& (1 : Int32)) = 0 then (q_X9_costOf_63 rec10 d v1 v2 v3 v5 x1 (1 : Int32)) else (q_X9_costOf_62 rec10 d v1 v2 v3 v5 x1)
set_option maxRecDepth 100000 in
set_option maxHeartbeats 4000000 in
theorem t_X9_costOf_10 {l : Launch} {rec10 : (Int32 × Int32 × Int32 × Int32 × Int32) → Option (Int32)} {d : sk_D} {v1 : Int32} {v2 : Int32} {v3 : Int32} {v4 : Int32} {v5 : Int32} (hrec10 : ∀ (a : (Int32 × Int32 × Int32 × Int32 × Int32)) (res : Int32), rec10 a = some res → sk_G l (sk_rm 3 0 0) m_X9_costOf sk_Ex0 (sk_Zm m_X9_costOf (some (.inl res)) (sk_mm d)) 0 0 10 [some (.inr (.inr (some (44, 0)))), some (.inl a.1), some (.inl a.2.1), some (.inl a.2.2.1), some (.inl a.2.2.2.1), some (.inl a.2.2.2.2), none] [] (sk_mm d)) {res : Int32} (hq : q_X9_costOf_10 rec10 d v1 v2 v3 v4 v5 = some res) :
    sk_G l (sk_rm 3 0 0) m_X9_costOf sk_Ex0 (sk_Zm m_X9_costOf (some (.inl res)) (sk_mm d)) 0 0 10 [some (.inr (.inr (some (44, 0)))), some (.inl v1), some (.inl v2), some (.inl v3), some (.inl v4), some (.inl v5), none] [] (sk_mm d) := by
  unfold q_X9_costOf_10 at hq
  refine sg_iload 12 (sk_td o_X9_costOf 8 rfl) rfl rfl ?_
  refine sg_iconst (v := (4 : Int32)) 13 (sk_td o_X9_costOf 9 rfl) rfl (by decide) ?_
  refine sg_ic_ge 103 16 (sk_td o_X9_costOf 10 rfl) (by decide) rfl (fun hc => ?_) (fun hc => ?_)
  · rw [if_pos hc] at hq
    refine sk_wk [false, false, true, false, true, false, true] (ls' := [none, none, some (.inl v2), none, some (.inl v4), none, none]) rfl ?_
    exact t_X9_costOf_103 hq
  · rw [if_neg hc] at hq
    refine sg_iload 18 (sk_td o_X9_costOf 11 rfl) rfl rfl ?_
    refine sg_if_eq 103 21 (sk_td o_X9_costOf 12 rfl) (by decide) rfl (fun hc => ?_) (fun hc => ?_)
    · rw [if_pos hc] at hq
      refine sk_wk [false, false, true, false, true, false, true] (ls' := [none, none, some (.inl v2), none, some (.inl v4), none, none]) rfl ?_
      exact t_X9_costOf_103 hq
    · rw [if_neg hc] at hq
      refine sg_iload_n 22 (sk_td o_X9_costOf 13 rfl) rfl rfl ?_
      refine sg_iload 24 (sk_td o_X9_costOf 14 rfl) rfl rfl ?_
      obtain ⟨x1, hr_x1, hq⟩ := sk_bnd hq
      refine sm_callS2i 27 (s_X9_staffIn hr_x1) (sk_td o_X9_costOf 15 rfl) rfl ls_X9_273 rfl (sk_rok (Nat.le_of_ble_eq_true rfl) (Nat.le_of_ble_eq_true rfl) rfl rfl) (Nat.le_of_ble_eq_true rfl) ?_
      refine sg_istore 29 [some (.inr (.inr (some (44, 0)))), some (.inl v1), some (.inl v2), some (.inl v3), some (.inl v4), some (.inl v5), some (.inl x1)] (sk_td o_X9_costOf 16 rfl) rfl rfl (Nat.le_of_ble_eq_true rfl) rfl ?_
      refine sg_aload_n 30 (sk_td o_X9_costOf 17 rfl) rfl rfl ?_
      refine sg_iload 32 (sk_td o_X9_costOf 18 rfl) rfl rfl ?_
      obtain ⟨x2, hr_x2, hq⟩ := sk_bnd hq
      refine sm_callV1i 35 (s_X9_isActive hr_x2) (sk_td o_X9_costOf 19 rfl) rfl lv_X9_277 rfl rfl rfl sz_44 (sk_rok (Nat.le_of_ble_eq_true rfl) (Nat.le_of_ble_eq_true rfl) rfl rfl) (Nat.le_of_ble_eq_true rfl) ?_
      refine sg_if_eq 85 38 (sk_td o_X9_costOf 20 rfl) (by decide) rfl (fun hc => ?_) (fun hc => ?_)
      · rw [if_pos hc] at hq
        refine sg_iload 87 (sk_td o_X9_costOf 50 rfl) rfl rfl ?_
        refine sg_if_ne 94 90 (sk_td o_X9_costOf 51 rfl) (by decide) rfl (fun hc => ?_) (fun hc => ?_)
        · rw [if_neg hc] at hq
          refine sg_iconst (v := (0 : Int32)) 95 (sk_td o_X9_costOf 54 rfl) rfl (by decide) ?_
          refine sk_wk [true, true, true, true, false, true, false] (ls' := [some (.inr (.inr (some (44, 0)))), some (.inl v1), some (.inl v2), some (.inl v3), none, some (.inl v5), none]) rfl ?_
          exact t_X9_costOf_95 hrec10 hq
        · rw [if_pos hc] at hq
          refine sg_iconst (v := (1 : Int32)) 91 (sk_td o_X9_costOf 52 rfl) rfl (by decide) ?_
          refine sg_goto 95 (sk_td o_X9_costOf 53 rfl) (by decide) ?_
          refine sk_wk [true, true, true, true, false, true, false] (ls' := [some (.inr (.inr (some (44, 0)))), some (.inl v1), some (.inl v2), some (.inl v3), none, some (.inl v5), none]) rfl ?_
          exact t_X9_costOf_95 hrec10 hq
      · rw [if_neg hc] at hq
        refine sg_aload_n 39 (sk_td o_X9_costOf 21 rfl) rfl rfl ?_
        refine sg_iload 41 (sk_td o_X9_costOf 22 rfl) rfl rfl ?_
        refine sg_iload 43 (sk_td o_X9_costOf 23 rfl) rfl rfl ?_
        obtain ⟨x3, hr_x3, hq⟩ := sk_bnd hq
        refine sm_callV2i 46 (s_X9_isTeaching hr_x3) (sk_td o_X9_costOf 24 rfl) rfl lv_X9_270 rfl rfl rfl sz_44 (sk_rok (Nat.le_of_ble_eq_true rfl) (Nat.le_of_ble_eq_true rfl) rfl rfl) (Nat.le_of_ble_eq_true rfl) ?_
        refine sg_if_eq 62 49 (sk_td o_X9_costOf 25 rfl) (by decide) rfl (fun hc => ?_) (fun hc => ?_)
        · rw [if_pos hc] at hq
          refine sk_wk [true, true, true, true, false, true, true] (ls' := [some (.inr (.inr (some (44, 0)))), some (.inl v1), some (.inl v2), some (.inl v3), none, some (.inl v5), some (.inl x1)]) rfl ?_
          exact t_X9_costOf_62 hrec10 hq
        · rw [if_neg hc] at hq
          refine sg_iload_n 50 (sk_td o_X9_costOf 26 rfl) rfl rfl ?_
          refine sg_iload 52 (sk_td o_X9_costOf 27 rfl) rfl rfl ?_
          refine sg_ishr 53 (sk_td o_X9_costOf 28 rfl) rfl ?_
          refine sg_iconst (v := (1 : Int32)) 54 (sk_td o_X9_costOf 29 rfl) rfl (by decide) ?_
          refine sg_iand 55 (sk_td o_X9_costOf 30 rfl) rfl ?_
          refine sg_if_ne 62 58 (sk_td o_X9_costOf 31 rfl) (by decide) rfl (fun hc => ?_) (fun hc => ?_)
          · rw [if_neg hc] at hq
            refine sk_wk [true, true, true, true, false, true, true] (ls' := [some (.inr (.inr (some (44, 0)))), some (.inl v1), some (.inl v2), some (.inl v3), none, some (.inl v5), some (.inl x1)]) rfl ?_
            exact t_X9_costOf_62 hrec10 hq
          · rw [if_pos hc] at hq
            refine sg_iconst (v := (1 : Int32)) 59 (sk_td o_X9_costOf 32 rfl) rfl (by decide) ?_
            refine sg_goto 63 (sk_td o_X9_costOf 33 rfl) (by decide) ?_
            refine sk_wk [true, true, true, true, false, true, true] (ls' := [some (.inr (.inr (some (44, 0)))), some (.inl v1), some (.inl v2), some (.inl v3), none, some (.inl v5), some (.inl x1)]) rfl ?_
            exact t_X9_costOf_63 hrec10 hq
def l_X9_costOf_10 (d : sk_D) (fl : Nat) (a : (Int32 × Int32 × Int32 × Int32 × Int32)) : Option (Int32) := sk_it (fun rec10 a => q_X9_costOf_10 rec10 d a.1 a.2.1 a.2.2.1 a.2.2.2.1 a.2.2.2.2) fl a
theorem lt_X9_costOf_10 {l : Launch} {d : sk_D} : ∀ (fl : Nat) (a : (Int32 × Int32 × Int32 × Int32 × Int32)) (res : Int32), l_X9_costOf_10 d fl a = some res → sk_G l (sk_rm 3 0 0) m_X9_costOf sk_Ex0 (sk_Zm m_X9_costOf (some (.inl res)) (sk_mm d)) 0 0 10 [some (.inr (.inr (some (44, 0)))), some (.inl a.1), some (.inl a.2.1), some (.inl a.2.2.1), some (.inl a.2.2.2.1), some (.inl a.2.2.2.2), none] [] (sk_mm d) :=
  sk_it_ind (P := fun (a : (Int32 × Int32 × Int32 × Int32 × Int32)) (res : Int32) => sk_G l (sk_rm 3 0 0) m_X9_costOf sk_Ex0 (sk_Zm m_X9_costOf (some (.inl res)) (sk_mm d)) 0 0 10 [some (.inr (.inr (some (44, 0)))), some (.inl a.1), some (.inl a.2.1), some (.inl a.2.2.1), some (.inl a.2.2.2.1), some (.inl a.2.2.2.2), none] [] (sk_mm d)) (fun rec10 hrec10 a res hq  => t_X9_costOf_10 hrec10 hq )
def q_X9_costOf_0 (d : sk_D) (v1 : Int32) : Option (Int32) :=
  (l_X9_costOf_10 d sk_fu (v1, (0 : Int32), (0 : Int32), (1 : Int32), (0 : Int32)))
set_option maxRecDepth 100000 in
set_option maxHeartbeats 4000000 in
theorem t_X9_costOf_0 {l : Launch} {d : sk_D} {v1 : Int32} {res : Int32} (hq : q_X9_costOf_0 d v1 = some res) :
    sk_G l (sk_rm 3 0 0) m_X9_costOf sk_Ex0 (sk_Zm m_X9_costOf (some (.inl res)) (sk_mm d)) 0 0 0 [some (.inr (.inr (some (44, 0)))), some (.inl v1), none, none, none, none, none] [] (sk_mm d) := by
  unfold q_X9_costOf_0 at hq
  refine sg_iconst (v := (0 : Int32)) 1 (sk_td o_X9_costOf 0 rfl) rfl (by decide) ?_
  refine sg_istore_n 2 [some (.inr (.inr (some (44, 0)))), some (.inl v1), some (.inl (0 : Int32)), none, none, none, none] (sk_td o_X9_costOf 1 rfl) rfl rfl (Nat.le_of_ble_eq_true rfl) rfl ?_
  refine sg_iconst (v := (0 : Int32)) 3 (sk_td o_X9_costOf 2 rfl) rfl (by decide) ?_
  refine sg_istore_n 4 [some (.inr (.inr (some (44, 0)))), some (.inl v1), some (.inl (0 : Int32)), some (.inl (0 : Int32)), none, none, none] (sk_td o_X9_costOf 3 rfl) rfl rfl (Nat.le_of_ble_eq_true rfl) rfl ?_
  refine sg_iconst (v := (1 : Int32)) 5 (sk_td o_X9_costOf 4 rfl) rfl (by decide) ?_
  refine sg_istore 7 [some (.inr (.inr (some (44, 0)))), some (.inl v1), some (.inl (0 : Int32)), some (.inl (0 : Int32)), some (.inl (1 : Int32)), none, none] (sk_td o_X9_costOf 5 rfl) rfl rfl (Nat.le_of_ble_eq_true rfl) rfl ?_
  refine sg_iconst (v := (0 : Int32)) 8 (sk_td o_X9_costOf 6 rfl) rfl (by decide) ?_
  refine sg_istore 10 [some (.inr (.inr (some (44, 0)))), some (.inl v1), some (.inl (0 : Int32)), some (.inl (0 : Int32)), some (.inl (1 : Int32)), some (.inl (0 : Int32)), none] (sk_td o_X9_costOf 7 rfl) rfl rfl (Nat.le_of_ble_eq_true rfl) rfl ?_
  exact lt_X9_costOf_10 sk_fu (v1, (0 : Int32), (0 : Int32), (1 : Int32), (0 : Int32)) _ hq
def q_X9_costOf (d : sk_D) (v1 : Int32) : Option (Int32) := q_X9_costOf_0 d v1 
theorem s_X9_costOf {l : Launch} {d : sk_D} {v1 : Int32} {res : Int32} (hq : q_X9_costOf d v1 = some res) : sk_M l 3 m_X9_costOf [.inr (.inr (some (44, 0))), .inl v1] (sk_mm d) (some (.inl res)) (sk_mm d) :=
  sk_enter (by decide) (fun _ => Nat.le_of_ble_eq_true rfl) (Nat.le_of_ble_eq_true rfl) (t_X9_costOf_0 hq )
def q_X9_staff_113 (rec85 : (sk_D × Int32 × Int32 × Int32) → Option (Int32 × sk_D)) (d : sk_D) (v1 : Int32) (v2 : Int32) (v3 : Int32) (s1 : Int32) (s2 : Int32) : Option (Int32 × sk_D) :=
  if sk_bi s1 4 = true then (rec85 ((sk_wi d 57 0 s1.toNatClampNeg s2), v1, v2, (v3 + (1 : Int32)))) else none
set_option maxRecDepth 100000 in
set_option maxHeartbeats 4000000 in
theorem t_X9_staff_113 {l : Launch} {rec85 : (sk_D × Int32 × Int32 × Int32) → Option (Int32 × sk_D)} {d : sk_D} {v1 : Int32} {v2 : Int32} {v3 : Int32} {s1 : Int32} {s2 : Int32} (hrec85 : ∀ (a : (sk_D × Int32 × Int32 × Int32)) (res : Int32 × sk_D), rec85 a = some res → sk_G l (sk_rm 4 0 0) m_X9_staff sk_Ex0 (sk_Zm m_X9_staff (some (.inl res.1)) (sk_mm res.2)) 0 0 85 [some (.inr (.inr (some (44, 0)))), some (.inl a.2.1), some (.inl a.2.2.1), some (.inl a.2.2.2), none, none] [] (sk_mm a.1)) {res : Int32 × sk_D} (hq : q_X9_staff_113 rec85 d v1 v2 v3 s1 s2 = some res) :
    sk_G l (sk_rm 4 0 0) m_X9_staff sk_Ex0 (sk_Zm m_X9_staff (some (.inl res.1)) (sk_mm res.2)) 0 0 113 [some (.inr (.inr (some (44, 0)))), some (.inl v1), some (.inl v2), some (.inl v3), none, none] [.inl s2, .inl s1, .inr (.inr (some (57, 0)))] (sk_mm d) := by
  unfold q_X9_staff_113 at hq
  obtain ⟨hb1, hq⟩ := sk_ifn hq
  refine sm_iast 114 (sk_td o_X9_staff 61 rfl) rfl rfl sz_57 hb1 ?_
  refine sg_iinc (v3 + (1 : Int32)) 117 [some (.inr (.inr (some (44, 0)))), some (.inl v1), some (.inl v2), some (.inl (v3 + (1 : Int32))), none, none] (sk_td o_X9_staff 62 rfl) rfl rfl rfl rfl (Nat.le_of_ble_eq_true rfl) rfl ?_
  refine sg_goto 85 (sk_td o_X9_staff 63 rfl) (by decide) ?_
  exact hrec85 ((sk_wi d 57 0 s1.toNatClampNeg s2), v1, v2, (v3 + (1 : Int32))) _ hq
def q_X9_staff_85 (rec85 : (sk_D × Int32 × Int32 × Int32) → Option (Int32 × sk_D)) (d : sk_D) (v1 : Int32) (v2 : Int32) (v3 : Int32) : Option (Int32 × sk_D) :=
  if (4 : Int32) ≤ v3 then some (v2, d) else (q_X9_isActive d v3).bind fun x1 => if x1 = 0 then (q_X9_staff_113 rec85 d v1 v2 v3 v3 (-9 : Int32)) else (q_X9_staffIn d v1 v3).bind fun x2 => (q_X9_staff_113 rec85 d v1 v2 v3 v3 x2)
set_option maxRecDepth 100000 in
set_option maxHeartbeats 4000000 in
theorem t_X9_staff_85 {l : Launch} {rec85 : (sk_D × Int32 × Int32 × Int32) → Option (Int32 × sk_D)} {d : sk_D} {v1 : Int32} {v2 : Int32} {v3 : Int32} (hrec85 : ∀ (a : (sk_D × Int32 × Int32 × Int32)) (res : Int32 × sk_D), rec85 a = some res → sk_G l (sk_rm 4 0 0) m_X9_staff sk_Ex0 (sk_Zm m_X9_staff (some (.inl res.1)) (sk_mm res.2)) 0 0 85 [some (.inr (.inr (some (44, 0)))), some (.inl a.2.1), some (.inl a.2.2.1), some (.inl a.2.2.2), none, none] [] (sk_mm a.1)) {res : Int32 × sk_D} (hq : q_X9_staff_85 rec85 d v1 v2 v3 = some res) :
    sk_G l (sk_rm 4 0 0) m_X9_staff sk_Ex0 (sk_Zm m_X9_staff (some (.inl res.1)) (sk_mm res.2)) 0 0 85 [some (.inr (.inr (some (44, 0)))), some (.inl v1), some (.inl v2), some (.inl v3), none, none] [] (sk_mm d) := by
  unfold q_X9_staff_85 at hq
  refine sg_iload_n 86 (sk_td o_X9_staff 46 rfl) rfl rfl ?_
  refine sg_iconst (v := (4 : Int32)) 87 (sk_td o_X9_staff 47 rfl) rfl (by decide) ?_
  refine sg_ic_ge 120 90 (sk_td o_X9_staff 48 rfl) (by decide) rfl (fun hc => ?_) (fun hc => ?_)
  · rw [if_pos hc] at hq
    refine sg_iload_n 121 (sk_td o_X9_staff 64 rfl) rfl rfl ?_
    obtain rfl := Option.some.inj hq
    exact sg_iret (sk_td o_X9_staff 65 rfl) rfl rfl
  · rw [if_neg hc] at hq
    refine sg_aload_n 91 (sk_td o_X9_staff 49 rfl) rfl rfl ?_
    refine sm_getR (57, 0) 94 (sk_td o_X9_staff 50 rfl) rfl kf_X9_56 rfl rfl sz_44 rfl ?_
    refine sg_iload_n 95 (sk_td o_X9_staff 51 rfl) rfl rfl ?_
    refine sg_aload_n 96 (sk_td o_X9_staff 52 rfl) rfl rfl ?_
    refine sg_iload_n 97 (sk_td o_X9_staff 53 rfl) rfl rfl ?_
    obtain ⟨x1, hr_x1, hq⟩ := sk_bnd hq
    refine sm_callV1i 100 (s_X9_isActive hr_x1) (sk_td o_X9_staff 54 rfl) rfl lv_X9_277 rfl rfl rfl sz_44 (sk_rok (Nat.le_of_ble_eq_true rfl) (Nat.le_of_ble_eq_true rfl) rfl rfl) (Nat.le_of_ble_eq_true rfl) ?_
    refine sg_if_eq 111 103 (sk_td o_X9_staff 55 rfl) (by decide) rfl (fun hc => ?_) (fun hc => ?_)
    · rw [if_pos hc] at hq
      refine sg_bipush (v := (-9 : Int32)) 113 (sk_td o_X9_staff 60 rfl) rfl (by decide) ?_
      exact t_X9_staff_113 hrec85 hq
    · rw [if_neg hc] at hq
      refine sg_iload_n 104 (sk_td o_X9_staff 56 rfl) rfl rfl ?_
      refine sg_iload_n 105 (sk_td o_X9_staff 57 rfl) rfl rfl ?_
      obtain ⟨x2, hr_x2, hq⟩ := sk_bnd hq
      refine sm_callS2i 108 (s_X9_staffIn hr_x2) (sk_td o_X9_staff 58 rfl) rfl ls_X9_273 rfl (sk_rok (Nat.le_of_ble_eq_true rfl) (Nat.le_of_ble_eq_true rfl) rfl rfl) (Nat.le_of_ble_eq_true rfl) ?_
      refine sg_goto 113 (sk_td o_X9_staff 59 rfl) (by decide) ?_
      exact t_X9_staff_113 hrec85 hq
def l_X9_staff_85 (fl : Nat) (a : (sk_D × Int32 × Int32 × Int32)) : Option (Int32 × sk_D) := sk_it (fun rec85 a => q_X9_staff_85 rec85 a.1 a.2.1 a.2.2.1 a.2.2.2) fl a
theorem lt_X9_staff_85 {l : Launch} : ∀ (fl : Nat) (a : (sk_D × Int32 × Int32 × Int32)) (res : Int32 × sk_D), l_X9_staff_85 fl a = some res → sk_G l (sk_rm 4 0 0) m_X9_staff sk_Ex0 (sk_Zm m_X9_staff (some (.inl res.1)) (sk_mm res.2)) 0 0 85 [some (.inr (.inr (some (44, 0)))), some (.inl a.2.1), some (.inl a.2.2.1), some (.inl a.2.2.2), none, none] [] (sk_mm a.1) :=
  sk_it_ind (P := fun (a : (sk_D × Int32 × Int32 × Int32)) (res : Int32 × sk_D) => sk_G l (sk_rm 4 0 0) m_X9_staff sk_Ex0 (sk_Zm m_X9_staff (some (.inl res.1)) (sk_mm res.2)) 0 0 85 [some (.inr (.inr (some (44, 0)))), some (.inl a.2.1), some (.inl a.2.2.1), some (.inl a.2.2.2), none, none] [] (sk_mm a.1)) (fun rec85 hrec85 a res hq  => t_X9_staff_85 hrec85 hq )
def q_X9_staff_67 (rec7 : (sk_D × Int32 × Int32 × Int32) → Option (Int32 × sk_D)) (d : sk_D) (v1 : Int32) (v3 : Int32) (s0 : Int32) : Option (Int32 × sk_D) :=
  (rec7 (d, v1, s0, (v3 + (1 : Int32))))
set_option maxRecDepth 100000 in
set_option maxHeartbeats 4000000 in
theorem t_X9_staff_67 {l : Launch} {rec7 : (sk_D × Int32 × Int32 × Int32) → Option (Int32 × sk_D)} {d : sk_D} {v1 : Int32} {v3 : Int32} {s0 : Int32} (hrec7 : ∀ (a : (sk_D × Int32 × Int32 × Int32)) (res : Int32 × sk_D), rec7 a = some res → sk_G l (sk_rm 4 0 0) m_X9_staff sk_Ex0 (sk_Zm m_X9_staff (some (.inl res.1)) (sk_mm res.2)) 0 0 7 [some (.inr (.inr (some (44, 0)))), some (.inl a.2.1), some (.inl a.2.2.1), some (.inl a.2.2.2), none, none] [] (sk_mm a.1)) {res : Int32 × sk_D} (hq : q_X9_staff_67 rec7 d v1 v3 s0 = some res) :
    sk_G l (sk_rm 4 0 0) m_X9_staff sk_Ex0 (sk_Zm m_X9_staff (some (.inl res.1)) (sk_mm res.2)) 0 0 67 [some (.inr (.inr (some (44, 0)))), some (.inl v1), none, some (.inl v3), none, none] [.inl s0] (sk_mm d) := by
  unfold q_X9_staff_67 at hq
  refine sg_istore_n 68 [some (.inr (.inr (some (44, 0)))), some (.inl v1), some (.inl s0), some (.inl v3), none, none] (sk_td o_X9_staff 36 rfl) rfl rfl (Nat.le_of_ble_eq_true rfl) rfl ?_
  refine sg_iinc (v3 + (1 : Int32)) 71 [some (.inr (.inr (some (44, 0)))), some (.inl v1), some (.inl s0), some (.inl (v3 + (1 : Int32))), none, none] (sk_td o_X9_staff 37 rfl) rfl rfl rfl rfl (Nat.le_of_ble_eq_true rfl) rfl ?_
  refine sg_goto 7 (sk_td o_X9_staff 38 rfl) (by decide) ?_
  exact hrec7 (d, v1, s0, (v3 + (1 : Int32))) _ hq
def q_X9_staff_55 (rec7 : (sk_D × Int32 × Int32 × Int32) → Option (Int32 × sk_D)) (d : sk_D) (v2 : Int32) (v3 : Int32) (v4 : Int32) (v5 : Int32) (s0 : Int32) : Option (Int32 × sk_D) :=
  if v5 = 0 then (q_X9_staff_67 rec7 d s0 v3 v2) else (q_X9_staff_67 rec7 d s0 v3 v4)
set_option maxRecDepth 100000 in
set_option maxHeartbeats 4000000 in
theorem t_X9_staff_55 {l : Launch} {rec7 : (sk_D × Int32 × Int32 × Int32) → Option (Int32 × sk_D)} {d : sk_D} {v2 : Int32} {v3 : Int32} {v4 : Int32} {v5 : Int32} {s0 : Int32} (hrec7 : ∀ (a : (sk_D × Int32 × Int32 × Int32)) (res : Int32 × sk_D), rec7 a = some res → sk_G l (sk_rm 4 0 0) m_X9_staff sk_Ex0 (sk_Zm m_X9_staff (some (.inl res.1)) (sk_mm res.2)) 0 0 7 [some (.inr (.inr (some (44, 0)))), some (.inl a.2.1), some (.inl a.2.2.1), some (.inl a.2.2.2), none, none] [] (sk_mm a.1)) {res : Int32 × sk_D} (hq : q_X9_staff_55 rec7 d v2 v3 v4 v5 s0 = some res) :
    sk_G l (sk_rm 4 0 0) m_X9_staff sk_Ex0 (sk_Zm m_X9_staff (some (.inl res.1)) (sk_mm res.2)) 0 0 55 [some (.inr (.inr (some (44, 0)))), none, some (.inl v2), some (.inl v3), some (.inl v4), some (.inl v5)] [.inl s0] (sk_mm d) := by
  unfold q_X9_staff_55 at hq
  refine sg_istore_n 56 [some (.inr (.inr (some (44, 0)))), some (.inl s0), some (.inl v2), some (.inl v3), some (.inl v4), some (.inl v5)] (sk_td o_X9_staff 30 rfl) rfl rfl (Nat.le_of_ble_eq_true rfl) rfl ?_
  refine sg_iload 58 (sk_td o_X9_staff 31 rfl) rfl rfl ?_
  refine sg_if_eq 66 61 (sk_td o_X9_staff 32 rfl) (by decide) rfl (fun hc => ?_) (fun hc => ?_)
  · rw [if_pos hc] at hq
    refine sg_iload_n 67 (sk_td o_X9_staff 35 rfl) rfl rfl ?_
    refine sk_wk [true, true, false, true, false, false] (ls' := [some (.inr (.inr (some (44, 0)))), some (.inl s0), none, some (.inl v3), none, none]) rfl ?_
    exact t_X9_staff_67 hrec7 hq
  · rw [if_neg hc] at hq
    refine sg_iload 63 (sk_td o_X9_staff 33 rfl) rfl rfl ?_
    refine sg_goto 67 (sk_td o_X9_staff 34 rfl) (by decide) ?_
    refine sk_wk [true, true, false, true, false, false] (ls' := [some (.inr (.inr (some (44, 0)))), some (.inl s0), none, some (.inl v3), none, none]) rfl ?_
    exact t_X9_staff_67 hrec7 hq
def q_X9_staff_43 (rec7 : (sk_D × Int32 × Int32 × Int32) → Option (Int32 × sk_D)) (d : sk_D) (v1 : Int32) (v2 : Int32) (v3 : Int32) (v4 : Int32) (s0 : Int32) : Option (Int32 × sk_D) :=
  if s0 = 0 then (q_X9_staff_55 rec7 d v2 v3 v4 s0 v1) else (q_X9_staff_55 rec7 d v2 v3 v4 s0 v3)
set_option maxRecDepth 100000 in
set_option maxHeartbeats 4000000 in
theorem t_X9_staff_43 {l : Launch} {rec7 : (sk_D × Int32 × Int32 × Int32) → Option (Int32 × sk_D)} {d : sk_D} {v1 : Int32} {v2 : Int32} {v3 : Int32} {v4 : Int32} {s0 : Int32} (hrec7 : ∀ (a : (sk_D × Int32 × Int32 × Int32)) (res : Int32 × sk_D), rec7 a = some res → sk_G l (sk_rm 4 0 0) m_X9_staff sk_Ex0 (sk_Zm m_X9_staff (some (.inl res.1)) (sk_mm res.2)) 0 0 7 [some (.inr (.inr (some (44, 0)))), some (.inl a.2.1), some (.inl a.2.2.1), some (.inl a.2.2.2), none, none] [] (sk_mm a.1)) {res : Int32 × sk_D} (hq : q_X9_staff_43 rec7 d v1 v2 v3 v4 s0 = some res) :
    sk_G l (sk_rm 4 0 0) m_X9_staff sk_Ex0 (sk_Zm m_X9_staff (some (.inl res.1)) (sk_mm res.2)) 0 0 43 [some (.inr (.inr (some (44, 0)))), some (.inl v1), some (.inl v2), some (.inl v3), some (.inl v4), none] [.inl s0] (sk_mm d) := by
  unfold q_X9_staff_43 at hq
  refine sg_istore 45 [some (.inr (.inr (some (44, 0)))), some (.inl v1), some (.inl v2), some (.inl v3), some (.inl v4), some (.inl s0)] (sk_td o_X9_staff 24 rfl) rfl rfl (Nat.le_of_ble_eq_true rfl) rfl ?_
  refine sg_iload 47 (sk_td o_X9_staff 25 rfl) rfl rfl ?_
  refine sg_if_eq 54 50 (sk_td o_X9_staff 26 rfl) (by decide) rfl (fun hc => ?_) (fun hc => ?_)
  · rw [if_pos hc] at hq
    refine sg_iload_n 55 (sk_td o_X9_staff 29 rfl) rfl rfl ?_
    refine sk_wk [true, false, true, true, true, true] (ls' := [some (.inr (.inr (some (44, 0)))), none, some (.inl v2), some (.inl v3), some (.inl v4), some (.inl s0)]) rfl ?_
    exact t_X9_staff_55 hrec7 hq
  · rw [if_neg hc] at hq
    refine sg_iload_n 51 (sk_td o_X9_staff 27 rfl) rfl rfl ?_
    refine sg_goto 55 (sk_td o_X9_staff 28 rfl) (by decide) ?_
    refine sk_wk [true, false, true, true, true, true] (ls' := [some (.inr (.inr (some (44, 0)))), none, some (.inl v2), some (.inl v3), some (.inl v4), some (.inl s0)]) rfl ?_
    exact t_X9_staff_55 hrec7 hq
def q_X9_staff_42 (rec7 : (sk_D × Int32 × Int32 × Int32) → Option (Int32 × sk_D)) (d : sk_D) (v1 : Int32) (v2 : Int32) (v3 : Int32) (v4 : Int32) : Option (Int32 × sk_D) :=
  (q_X9_staff_43 rec7 d v1 v2 v3 v4 (0 : Int32))
set_option maxRecDepth 100000 in
set_option maxHeartbeats 4000000 in
theorem t_X9_staff_42 {l : Launch} {rec7 : (sk_D × Int32 × Int32 × Int32) → Option (Int32 × sk_D)} {d : sk_D} {v1 : Int32} {v2 : Int32} {v3 : Int32} {v4 : Int32} (hrec7 : ∀ (a : (sk_D × Int32 × Int32 × Int32)) (res : Int32 × sk_D), rec7 a = some res → sk_G l (sk_rm 4 0 0) m_X9_staff sk_Ex0 (sk_Zm m_X9_staff (some (.inl res.1)) (sk_mm res.2)) 0 0 7 [some (.inr (.inr (some (44, 0)))), some (.inl a.2.1), some (.inl a.2.2.1), some (.inl a.2.2.2), none, none] [] (sk_mm a.1)) {res : Int32 × sk_D} (hq : q_X9_staff_42 rec7 d v1 v2 v3 v4 = some res) :
    sk_G l (sk_rm 4 0 0) m_X9_staff sk_Ex0 (sk_Zm m_X9_staff (some (.inl res.1)) (sk_mm res.2)) 0 0 42 [some (.inr (.inr (some (44, 0)))), some (.inl v1), some (.inl v2), some (.inl v3), some (.inl v4), none] [] (sk_mm d) := by
  unfold q_X9_staff_42 at hq
  refine sg_iconst (v := (0 : Int32)) 43 (sk_td o_X9_staff 23 rfl) rfl (by decide) ?_
  exact t_X9_staff_43 hrec7 hq
def q_X9_staff_38 (rec7 : (sk_D × Int32 × Int32 × Int32) → Option (Int32 × sk_D)) (d : sk_D) (v1 : Int32) (v2 : Int32) (v3 : Int32) (v4 : Int32) : Option (Int32 × sk_D) :=
  (q_X9_staff_43 rec7 d v1 v2 v3 v4 (1 : Int32))
set_option maxRecDepth 100000 in
set_option maxHeartbeats 4000000 in
theorem t_X9_staff_38 {l : Launch} {rec7 : (sk_D × Int32 × Int32 × Int32) → Option (Int32 × sk_D)} {d : sk_D} {v1 : Int32} {v2 : Int32} {v3 : Int32} {v4 : Int32} (hrec7 : ∀ (a : (sk_D × Int32 × Int32 × Int32)) (res : Int32 × sk_D), rec7 a = some res → sk_G l (sk_rm 4 0 0) m_X9_staff sk_Ex0 (sk_Zm m_X9_staff (some (.inl res.1)) (sk_mm res.2)) 0 0 7 [some (.inr (.inr (some (44, 0)))), some (.inl a.2.1), some (.inl a.2.2.1), some (.inl a.2.2.2), none, none] [] (sk_mm a.1)) {res : Int32 × sk_D} (hq : q_X9_staff_38 rec7 d v1 v2 v3 v4 = some res) :
    sk_G l (sk_rm 4 0 0) m_X9_staff sk_Ex0 (sk_Zm m_X9_staff (some (.inl res.1)) (sk_mm res.2)) 0 0 38 [some (.inr (.inr (some (44, 0)))), some (.inl v1), some (.inl v2), some (.inl v3), some (.inl v4), none] [] (sk_mm d) := by
  unfold q_X9_staff_38 at hq
  refine sg_iconst (v := (1 : Int32)) 39 (sk_td o_X9_staff 21 rfl) rfl (by decide) ?_
  refine sg_goto 43 (sk_td o_X9_staff 22 rfl) (by decide) ?_
  exact t_X9_staff_43 hrec7 hq
def q_X9_staff_7 (rec7 : (sk_D × Int32 × Int32 × Int32) → Option (Int32 × sk_D)) (d : sk_D) (v1 : Int32) (v2 : Int32) (v3 : Int32) : Option (Int32 × sk_D) :=
  if (4096 : Int32) ≤ v3 then if v1 = (-9 : Int32) then some ((-2 : Int32), d) else (l_X9_staff_85 sk_fu (d, v1, v2, (0 : Int32))) else (q_X9_costOf d v3).bind fun x1 => if x1 < 0 then (q_X9_staff_42 rec7 d v1 v2 v3 x1) else if v1 = (-9 : Int32) then (q_X9_staff_38 rec7 d v1 v2 v3 x1) else if v2 ≤ x1 then (q_X9_staff_42 rec7 d v1 v2 v3 x1) else (q_X9_staff_38 rec7 d v1 v2 v3 x1)
set_option maxRecDepth 100000 in
set_option maxHeartbeats 4000000 in
theorem t_X9_staff_7 {l : Launch} {rec7 : (sk_D × Int32 × Int32 × Int32) → Option (Int32 × sk_D)} {d : sk_D} {v1 : Int32} {v2 : Int32} {v3 : Int32} (hrec7 : ∀ (a : (sk_D × Int32 × Int32 × Int32)) (res : Int32 × sk_D), rec7 a = some res → sk_G l (sk_rm 4 0 0) m_X9_staff sk_Ex0 (sk_Zm m_X9_staff (some (.inl res.1)) (sk_mm res.2)) 0 0 7 [some (.inr (.inr (some (44, 0)))), some (.inl a.2.1), some (.inl a.2.2.1), some (.inl a.2.2.2), none, none] [] (sk_mm a.1)) {res : Int32 × sk_D} (hq : q_X9_staff_7 rec7 d v1 v2 v3 = some res) :
    sk_G l (sk_rm 4 0 0) m_X9_staff sk_Ex0 (sk_Zm m_X9_staff (some (.inl res.1)) (sk_mm res.2)) 0 0 7 [some (.inr (.inr (some (44, 0)))), some (.inl v1), some (.inl v2), some (.inl v3), none, none] [] (sk_mm d) := by
  unfold q_X9_staff_7 at hq
  refine sg_iload_n 8 (sk_td o_X9_staff 6 rfl) rfl rfl ?_
  refine sg_sipush (v := (4096 : Int32)) 11 (sk_td o_X9_staff 7 rfl) rfl (by decide) ?_
  refine sg_ic_ge 74 14 (sk_td o_X9_staff 8 rfl) (by decide) rfl (fun hc => ?_) (fun hc => ?_)
  · rw [if_pos hc] at hq
    refine sg_iload_n 75 (sk_td o_X9_staff 39 rfl) rfl rfl ?_
    refine sg_bipush (v := (-9 : Int32)) 77 (sk_td o_X9_staff 40 rfl) rfl (by decide) ?_
    refine sg_ic_ne 83 80 (sk_td o_X9_staff 41 rfl) (by decide) rfl (fun hc => ?_) (fun hc => ?_)
    · rw [if_neg hc] at hq
      refine sg_iconst (v := (0 : Int32)) 84 (sk_td o_X9_staff 44 rfl) rfl (by decide) ?_
      refine sg_istore_n 85 [some (.inr (.inr (some (44, 0)))), some (.inl v1), some (.inl v2), some (.inl (0 : Int32)), none, none] (sk_td o_X9_staff 45 rfl) rfl rfl (Nat.le_of_ble_eq_true rfl) rfl ?_
      exact lt_X9_staff_85 sk_fu (d, v1, v2, (0 : Int32)) _ hq
    · rw [if_pos hc] at hq
      refine sg_bipush (v := (-2 : Int32)) 82 (sk_td o_X9_staff 42 rfl) rfl (by decide) ?_
      obtain rfl := Option.some.inj hq
      exact sg_iret (sk_td o_X9_staff 43 rfl) rfl rfl
  · rw [if_neg hc] at hq
    refine sg_aload_n 15 (sk_td o_X9_staff 9 rfl) rfl rfl ?_
    refine sg_iload_n 16 (sk_td o_X9_staff 10 rfl) rfl rfl ?_
    obtain ⟨x1, hr_x1, hq⟩ := sk_bnd hq
    refine sm_callV1i 19 (s_X9_costOf hr_x1) (sk_td o_X9_staff 11 rfl) rfl lv_X9_280 rfl rfl rfl sz_44 (sk_rok (Nat.le_of_ble_eq_true rfl) (Nat.le_of_ble_eq_true rfl) rfl rfl) (Nat.le_of_ble_eq_true rfl) ?_
    refine sg_istore 21 [some (.inr (.inr (some (44, 0)))), some (.inl v1), some (.inl v2), some (.inl v3), some (.inl x1), none] (sk_td o_X9_staff 12 rfl) rfl rfl (Nat.le_of_ble_eq_true rfl) rfl ?_
    refine sg_iload 23 (sk_td o_X9_staff 13 rfl) rfl rfl ?_
    refine sg_if_lt 42 26 (sk_td o_X9_staff 14 rfl) (by decide) rfl (fun hc => ?_) (fun hc => ?_)
    · rw [if_pos hc] at hq
      exact t_X9_staff_42 hrec7 hq
    · rw [if_neg hc] at hq
      refine sg_iload_n 27 (sk_td o_X9_staff 15 rfl) rfl rfl ?_
      refine sg_bipush (v := (-9 : Int32)) 29 (sk_td o_X9_staff 16 rfl) rfl (by decide) ?_
      refine sg_ic_eq 38 32 (sk_td o_X9_staff 17 rfl) (by decide) rfl (fun hc => ?_) (fun hc => ?_)
      · rw [if_pos hc] at hq
        exact t_X9_staff_38 hrec7 hq
      · rw [if_neg hc] at hq
        refine sg_iload 34 (sk_td o_X9_staff 18 rfl) rfl rfl ?_
        refine sg_iload_n 35 (sk_td o_X9_staff 19 rfl) rfl rfl ?_
        refine sg_ic_ge 42 38 (sk_td o_X9_staff 20 rfl) (by decide) rfl (fun hc => ?_) (fun hc => ?_)
        · rw [if_pos hc] at hq
          exact t_X9_staff_42 hrec7 hq
        · rw [if_neg hc] at hq
          exact t_X9_staff_38 hrec7 hq
def l_X9_staff_7 (fl : Nat) (a : (sk_D × Int32 × Int32 × Int32)) : Option (Int32 × sk_D) := sk_it (fun rec7 a => q_X9_staff_7 rec7 a.1 a.2.1 a.2.2.1 a.2.2.2) fl a
theorem lt_X9_staff_7 {l : Launch} : ∀ (fl : Nat) (a : (sk_D × Int32 × Int32 × Int32)) (res : Int32 × sk_D), l_X9_staff_7 fl a = some res → sk_G l (sk_rm 4 0 0) m_X9_staff sk_Ex0 (sk_Zm m_X9_staff (some (.inl res.1)) (sk_mm res.2)) 0 0 7 [some (.inr (.inr (some (44, 0)))), some (.inl a.2.1), some (.inl a.2.2.1), some (.inl a.2.2.2), none, none] [] (sk_mm a.1) :=
  sk_it_ind (P := fun (a : (sk_D × Int32 × Int32 × Int32)) (res : Int32 × sk_D) => sk_G l (sk_rm 4 0 0) m_X9_staff sk_Ex0 (sk_Zm m_X9_staff (some (.inl res.1)) (sk_mm res.2)) 0 0 7 [some (.inr (.inr (some (44, 0)))), some (.inl a.2.1), some (.inl a.2.2.1), some (.inl a.2.2.2), none, none] [] (sk_mm a.1)) (fun rec7 hrec7 a res hq  => t_X9_staff_7 hrec7 hq )
def q_X9_staff_0 (d : sk_D) : Option (Int32 × sk_D) :=
  (l_X9_staff_7 sk_fu (d, (-9 : Int32), (-1 : Int32), (0 : Int32)))
set_option maxRecDepth 100000 in
set_option maxHeartbeats 4000000 in
theorem t_X9_staff_0 {l : Launch} {d : sk_D} {res : Int32 × sk_D} (hq : q_X9_staff_0 d = some res) :
    sk_G l (sk_rm 4 0 0) m_X9_staff sk_Ex0 (sk_Zm m_X9_staff (some (.inl res.1)) (sk_mm res.2)) 0 0 0 [some (.inr (.inr (some (44, 0)))), none, none, none, none, none] [] (sk_mm d) := by
  unfold q_X9_staff_0 at hq
  refine sg_bipush (v := (-9 : Int32)) 2 (sk_td o_X9_staff 0 rfl) rfl (by decide) ?_
  refine sg_istore_n 3 [some (.inr (.inr (some (44, 0)))), some (.inl (-9 : Int32)), none, none, none, none] (sk_td o_X9_staff 1 rfl) rfl rfl (Nat.le_of_ble_eq_true rfl) rfl ?_
  refine sg_iconst (v := (-1 : Int32)) 4 (sk_td o_X9_staff 2 rfl) rfl (by decide) ?_
  refine sg_istore_n 5 [some (.inr (.inr (some (44, 0)))), some (.inl (-9 : Int32)), some (.inl (-1 : Int32)), none, none, none] (sk_td o_X9_staff 3 rfl) rfl rfl (Nat.le_of_ble_eq_true rfl) rfl ?_
  refine sg_iconst (v := (0 : Int32)) 6 (sk_td o_X9_staff 4 rfl) rfl (by decide) ?_
  refine sg_istore_n 7 [some (.inr (.inr (some (44, 0)))), some (.inl (-9 : Int32)), some (.inl (-1 : Int32)), some (.inl (0 : Int32)), none, none] (sk_td o_X9_staff 5 rfl) rfl rfl (Nat.le_of_ble_eq_true rfl) rfl ?_
  exact lt_X9_staff_7 sk_fu (d, (-9 : Int32), (-1 : Int32), (0 : Int32)) _ hq
def q_X9_staff (d : sk_D) : Option (Int32 × sk_D) := q_X9_staff_0 d 
theorem s_X9_staff {l : Launch} {d : sk_D} {res : Int32 × sk_D} (hq : q_X9_staff d = some res) : sk_M l 4 m_X9_staff [.inr (.inr (some (44, 0)))] (sk_mm d) (some (.inl res.1)) (sk_mm res.2) :=
  sk_enter (by decide) (fun _ => Nat.le_of_ble_eq_true rfl) (Nat.le_of_ble_eq_true rfl) (t_X9_staff_0 hq )
def q_X9_pay_175 (d : sk_D) (v2 : Int32) (v3 : Int32) : Option (Int32 × sk_D) :=
  if v3 = 0 then some (v2, d) else some ((-3 : Int32), d)
set_option maxRecDepth 100000 in
set_option maxHeartbeats 4000000 in
theorem t_X9_pay_175 {l : Launch} {d : sk_D} {v2 : Int32} {v3 : Int32} {res : Int32 × sk_D} (hq : q_X9_pay_175 d v2 v3 = some res) :
    sk_G l (sk_rm 3 0 0) m_X9_pay sk_Ex0 (sk_Zm m_X9_pay (some (.inl res.1)) (sk_mm res.2)) 0 0 175 [none, none, some (.inl v2), some (.inl v3), none, none] [] (sk_mm d) := by
  unfold q_X9_pay_175 at hq
  refine sg_iload_n 176 (sk_td o_X9_pay 99 rfl) rfl rfl ?_
  refine sg_if_eq 184 179 (sk_td o_X9_pay 100 rfl) (by decide) rfl (fun hc => ?_) (fun hc => ?_)
  · rw [if_pos hc] at hq
    refine sg_iload_n 185 (sk_td o_X9_pay 103 rfl) rfl rfl ?_
    obtain rfl := Option.some.inj hq
    exact sg_iret (sk_td o_X9_pay 104 rfl) rfl rfl
  · rw [if_neg hc] at hq
    refine sg_bipush (v := (-3 : Int32)) 181 (sk_td o_X9_pay 101 rfl) rfl (by decide) ?_
    refine sg_goto 185 (sk_td o_X9_pay 102 rfl) (by decide) ?_
    obtain rfl := Option.some.inj hq
    exact sg_iret (sk_td o_X9_pay 104 rfl) rfl rfl
def q_X9_pay_169 (rec109 : (sk_D × Int32 × Int32 × Int32 × Int32) → Option (Int32 × sk_D)) (d : sk_D) (v1 : Int32) (v2 : Int32) (v3 : Int32) (v4 : Int32) : Option (Int32 × sk_D) :=
  (rec109 (d, v1, v2, v3, (v4 + (1 : Int32))))
set_option maxRecDepth 100000 in
set_option maxHeartbeats 4000000 in
theorem t_X9_pay_169 {l : Launch} {rec109 : (sk_D × Int32 × Int32 × Int32 × Int32) → Option (Int32 × sk_D)} {d : sk_D} {v1 : Int32} {v2 : Int32} {v3 : Int32} {v4 : Int32} (hrec109 : ∀ (a : (sk_D × Int32 × Int32 × Int32 × Int32)) (res : Int32 × sk_D), rec109 a = some res → sk_G l (sk_rm 3 0 0) m_X9_pay sk_Ex0 (sk_Zm m_X9_pay (some (.inl res.1)) (sk_mm res.2)) 0 0 109 [some (.inr (.inr (some (44, 0)))), some (.inl a.2.1), some (.inl a.2.2.1), some (.inl a.2.2.2.1), some (.inl a.2.2.2.2), none] [] (sk_mm a.1)) {res : Int32 × sk_D} (hq : q_X9_pay_169 rec109 d v1 v2 v3 v4 = some res) :
    sk_G l (sk_rm 3 0 0) m_X9_pay sk_Ex0 (sk_Zm m_X9_pay (some (.inl res.1)) (sk_mm res.2)) 0 0 169 [some (.inr (.inr (some (44, 0)))), some (.inl v1), some (.inl v2), some (.inl v3), some (.inl v4), none] [] (sk_mm d) := by
  unfold q_X9_pay_169 at hq
  refine sg_iinc (v4 + (1 : Int32)) 172 [some (.inr (.inr (some (44, 0)))), some (.inl v1), some (.inl v2), some (.inl v3), some (.inl (v4 + (1 : Int32))), none] (sk_td o_X9_pay 97 rfl) rfl rfl rfl rfl (Nat.le_of_ble_eq_true rfl) rfl ?_
  refine sg_goto 109 (sk_td o_X9_pay 98 rfl) (by decide) ?_
  exact hrec109 (d, v1, v2, v3, (v4 + (1 : Int32))) _ hq
def q_X9_pay_109 (rec109 : (sk_D × Int32 × Int32 × Int32 × Int32) → Option (Int32 × sk_D)) (d : sk_D) (v1 : Int32) (v2 : Int32) (v3 : Int32) (v4 : Int32) : Option (Int32 × sk_D) :=
  if (4 : Int32) ≤ v4 then (q_X9_pay_175 d v2 v3) else if v3 = 0 then (q_X9_isActive d v4).bind fun x1 => if x1 = 0 then (q_X9_pay_169 rec109 d v1 v2 v3 v4) else if sk_bi v4 4 = true then if (d.1 57 0 v4.toNatClampNeg) = (-9 : Int32) then (q_X9_pay_169 rec109 d v1 v2 v3 v4) else if sk_bi v4 4 = true then if sk_bi (d.1 57 0 v4.toNatClampNeg) 8 = true then if sk_bi v4 4 = true then if sk_bi (d.1 57 0 v4.toNatClampNeg) 8 = true then if sk_bi (d.1 57 0 v4.toNatClampNeg) 8 = true then (q_X9_pay_169 rec109 (sk_wi d 67 0 (d.1 57 0 v4.toNatClampNeg).toNatClampNeg ((d.1 67 0 (d.1 57 0 v4.toNatClampNeg).toNatClampNeg) + (v1 * (d.1 66 0 (d.1 57 0 v4.toNatClampNeg).toNatClampNeg)))) v1 v2 v3 v4) else none else none else none else none else none else none else (q_X9_pay_175 d v2 v3)
set_option maxRecDepth 100000 in
set_option maxHeartbeats 4000000 in
theorem t_X9_pay_109 {l : Launch} {rec109 : (sk_D × Int32 × Int32 × Int32 × Int32) → Option (Int32 × sk_D)} {d : sk_D} {v1 : Int32} {v2 : Int32} {v3 : Int32} {v4 : Int32} (hrec109 : ∀ (a : (sk_D × Int32 × Int32 × Int32 × Int32)) (res : Int32 × sk_D), rec109 a = some res → sk_G l (sk_rm 3 0 0) m_X9_pay sk_Ex0 (sk_Zm m_X9_pay (some (.inl res.1)) (sk_mm res.2)) 0 0 109 [some (.inr (.inr (some (44, 0)))), some (.inl a.2.1), some (.inl a.2.2.1), some (.inl a.2.2.2.1), some (.inl a.2.2.2.2), none] [] (sk_mm a.1)) {res : Int32 × sk_D} (hq : q_X9_pay_109 rec109 d v1 v2 v3 v4 = some res) :
    sk_G l (sk_rm 3 0 0) m_X9_pay sk_Ex0 (sk_Zm m_X9_pay (some (.inl res.1)) (sk_mm res.2)) 0 0 109 [some (.inr (.inr (some (44, 0)))), some (.inl v1), some (.inl v2), some (.inl v3), some (.inl v4), none] [] (sk_mm d) := by
  unfold q_X9_pay_109 at hq
  refine sg_iload 111 (sk_td o_X9_pay 63 rfl) rfl rfl ?_
  refine sg_iconst (v := (4 : Int32)) 112 (sk_td o_X9_pay 64 rfl) rfl (by decide) ?_
  refine sg_ic_ge 175 115 (sk_td o_X9_pay 65 rfl) (by decide) rfl (fun hc => ?_) (fun hc => ?_)
  · rw [if_pos hc] at hq
    refine sk_wk [false, false, true, true, false, true] (ls' := [none, none, some (.inl v2), some (.inl v3), none, none]) rfl ?_
    exact t_X9_pay_175 hq
  · rw [if_neg hc] at hq
    refine sg_iload_n 116 (sk_td o_X9_pay 66 rfl) rfl rfl ?_
    refine sg_if_ne 175 119 (sk_td o_X9_pay 67 rfl) (by decide) rfl (fun hc => ?_) (fun hc => ?_)
    · rw [if_neg hc] at hq
      refine sk_wk [false, false, true, true, false, true] (ls' := [none, none, some (.inl v2), some (.inl v3), none, none]) rfl ?_
      exact t_X9_pay_175 hq
    · rw [if_pos hc] at hq
      refine sg_aload_n 120 (sk_td o_X9_pay 68 rfl) rfl rfl ?_
      refine sg_iload 122 (sk_td o_X9_pay 69 rfl) rfl rfl ?_
      obtain ⟨x1, hr_x1, hq⟩ := sk_bnd hq
      refine sm_callV1i 125 (s_X9_isActive hr_x1) (sk_td o_X9_pay 70 rfl) rfl lv_X9_277 rfl rfl rfl sz_44 (sk_rok (Nat.le_of_ble_eq_true rfl) (Nat.le_of_ble_eq_true rfl) rfl rfl) (Nat.le_of_ble_eq_true rfl) ?_
      refine sg_if_eq 169 128 (sk_td o_X9_pay 71 rfl) (by decide) rfl (fun hc => ?_) (fun hc => ?_)
      · rw [if_pos hc] at hq
        exact t_X9_pay_169 hrec109 hq
      · rw [if_neg hc] at hq
        refine sg_aload_n 129 (sk_td o_X9_pay 72 rfl) rfl rfl ?_
        refine sm_getR (57, 0) 132 (sk_td o_X9_pay 73 rfl) rfl kf_X9_56 rfl rfl sz_44 rfl ?_
        refine sg_iload 134 (sk_td o_X9_pay 74 rfl) rfl rfl ?_
        obtain ⟨hb2, hq⟩ := sk_ifn hq
        refine sm_iald 135 (sk_td o_X9_pay 75 rfl) rfl rfl sz_57 hb2 ?_
        refine sg_bipush (v := (-9 : Int32)) 137 (sk_td o_X9_pay 76 rfl) rfl (by decide) ?_
        refine sg_ic_eq 169 140 (sk_td o_X9_pay 77 rfl) (by decide) rfl (fun hc => ?_) (fun hc => ?_)
        · rw [if_pos hc] at hq
          exact t_X9_pay_169 hrec109 hq
        · rw [if_neg hc] at hq
          refine sg_aload_n 141 (sk_td o_X9_pay 78 rfl) rfl rfl ?_
          refine sm_getR (67, 0) 144 (sk_td o_X9_pay 79 rfl) rfl kf_X9_86 rfl rfl sz_44 rfl ?_
          refine sg_aload_n 145 (sk_td o_X9_pay 80 rfl) rfl rfl ?_
          refine sm_getR (57, 0) 148 (sk_td o_X9_pay 81 rfl) rfl kf_X9_56 rfl rfl sz_44 rfl ?_
          refine sg_iload 150 (sk_td o_X9_pay 82 rfl) rfl rfl ?_
          obtain ⟨hb3, hq⟩ := sk_ifn hq
          refine sm_iald 151 (sk_td o_X9_pay 83 rfl) rfl rfl sz_57 hb3 ?_
          refine sg_dup2 152 (sk_td o_X9_pay 84 rfl) rfl ?_
          obtain ⟨hb4, hq⟩ := sk_ifn hq
          refine sm_iald 153 (sk_td o_X9_pay 85 rfl) rfl rfl sz_67 hb4 ?_
          refine sg_iload_n 154 (sk_td o_X9_pay 86 rfl) rfl rfl ?_
          refine sg_aload_n 155 (sk_td o_X9_pay 87 rfl) rfl rfl ?_
          refine sm_getR (66, 0) 158 (sk_td o_X9_pay 88 rfl) rfl kf_X9_83 rfl rfl sz_44 rfl ?_
          refine sg_aload_n 159 (sk_td o_X9_pay 89 rfl) rfl rfl ?_
          refine sm_getR (57, 0) 162 (sk_td o_X9_pay 90 rfl) rfl kf_X9_56 rfl rfl sz_44 rfl ?_
          refine sg_iload 164 (sk_td o_X9_pay 91 rfl) rfl rfl ?_
          obtain ⟨hb5, hq⟩ := sk_ifn hq
          refine sm_iald 165 (sk_td o_X9_pay 92 rfl) rfl rfl sz_57 hb5 ?_
          obtain ⟨hb6, hq⟩ := sk_ifn hq
          refine sm_iald 166 (sk_td o_X9_pay 93 rfl) rfl rfl sz_66 hb6 ?_
          refine sg_imul 167 (sk_td o_X9_pay 94 rfl) rfl ?_
          refine sg_iadd 168 (sk_td o_X9_pay 95 rfl) rfl ?_
          obtain ⟨hb7, hq⟩ := sk_ifn hq
          refine sm_iast 169 (sk_td o_X9_pay 96 rfl) rfl rfl sz_67 hb7 ?_
          exact t_X9_pay_169 hrec109 hq
def l_X9_pay_109 (fl : Nat) (a : (sk_D × Int32 × Int32 × Int32 × Int32)) : Option (Int32 × sk_D) := sk_it (fun rec109 a => q_X9_pay_109 rec109 a.1 a.2.1 a.2.2.1 a.2.2.2.1 a.2.2.2.2) fl a
theorem lt_X9_pay_109 {l : Launch} : ∀ (fl : Nat) (a : (sk_D × Int32 × Int32 × Int32 × Int32)) (res : Int32 × sk_D), l_X9_pay_109 fl a = some res → sk_G l (sk_rm 3 0 0) m_X9_pay sk_Ex0 (sk_Zm m_X9_pay (some (.inl res.1)) (sk_mm res.2)) 0 0 109 [some (.inr (.inr (some (44, 0)))), some (.inl a.2.1), some (.inl a.2.2.1), some (.inl a.2.2.2.1), some (.inl a.2.2.2.2), none] [] (sk_mm a.1) :=
  sk_it_ind (P := fun (a : (sk_D × Int32 × Int32 × Int32 × Int32)) (res : Int32 × sk_D) => sk_G l (sk_rm 3 0 0) m_X9_pay sk_Ex0 (sk_Zm m_X9_pay (some (.inl res.1)) (sk_mm res.2)) 0 0 109 [some (.inr (.inr (some (44, 0)))), some (.inl a.2.1), some (.inl a.2.2.1), some (.inl a.2.2.2.1), some (.inl a.2.2.2.2), none] [] (sk_mm a.1)) (fun rec109 hrec109 a res hq  => t_X9_pay_109 hrec109 hq )
def q_X9_pay_100 (rec19 : (sk_D × Int32 × Int32 × Int32 × Int32) → Option (Int32 × sk_D)) (d : sk_D) (v1 : Int32) (v2 : Int32) (v3 : Int32) (v4 : Int32) : Option (Int32 × sk_D) :=
  (rec19 (d, v1, v2, v3, (v4 + (1 : Int32))))
set_option maxRecDepth 100000 in
set_option maxHeartbeats 4000000 in
theorem t_X9_pay_100 {l : Launch} {rec19 : (sk_D × Int32 × Int32 × Int32 × Int32) → Option (Int32 × sk_D)} {d : sk_D} {v1 : Int32} {v2 : Int32} {v3 : Int32} {v4 : Int32} (hrec19 : ∀ (a : (sk_D × Int32 × Int32 × Int32 × Int32)) (res : Int32 × sk_D), rec19 a = some res → sk_G l (sk_rm 3 0 0) m_X9_pay sk_Ex0 (sk_Zm m_X9_pay (some (.inl res.1)) (sk_mm res.2)) 0 0 19 [some (.inr (.inr (some (44, 0)))), some (.inl a.2.1), some (.inl a.2.2.1), some (.inl a.2.2.2.1), some (.inl a.2.2.2.2), none] [] (sk_mm a.1)) {res : Int32 × sk_D} (hq : q_X9_pay_100 rec19 d v1 v2 v3 v4 = some res) :
    sk_G l (sk_rm 3 0 0) m_X9_pay sk_Ex0 (sk_Zm m_X9_pay (some (.inl res.1)) (sk_mm res.2)) 0 0 100 [some (.inr (.inr (some (44, 0)))), some (.inl v1), some (.inl v2), some (.inl v3), some (.inl v4), none] [] (sk_mm d) := by
  unfold q_X9_pay_100 at hq
  refine sg_iinc (v4 + (1 : Int32)) 103 [some (.inr (.inr (some (44, 0)))), some (.inl v1), some (.inl v2), some (.inl v3), some (.inl (v4 + (1 : Int32))), none] (sk_td o_X9_pay 59 rfl) rfl rfl rfl rfl (Nat.le_of_ble_eq_true rfl) rfl ?_
  refine sg_goto 19 (sk_td o_X9_pay 60 rfl) (by decide) ?_
  exact hrec19 (d, v1, v2, v3, (v4 + (1 : Int32))) _ hq
def q_X9_pay_99 (rec19 : (sk_D × Int32 × Int32 × Int32 × Int32) → Option (Int32 × sk_D)) (d : sk_D) (v1 : Int32) (v2 : Int32) (v4 : Int32) (s0 : Int32) : Option (Int32 × sk_D) :=
  (q_X9_pay_100 rec19 d v1 v2 s0 v4)
set_option maxRecDepth 100000 in
set_option maxHeartbeats 4000000 in
theorem t_X9_pay_99 {l : Launch} {rec19 : (sk_D × Int32 × Int32 × Int32 × Int32) → Option (Int32 × sk_D)} {d : sk_D} {v1 : Int32} {v2 : Int32} {v4 : Int32} {s0 : Int32} (hrec19 : ∀ (a : (sk_D × Int32 × Int32 × Int32 × Int32)) (res : Int32 × sk_D), rec19 a = some res → sk_G l (sk_rm 3 0 0) m_X9_pay sk_Ex0 (sk_Zm m_X9_pay (some (.inl res.1)) (sk_mm res.2)) 0 0 19 [some (.inr (.inr (some (44, 0)))), some (.inl a.2.1), some (.inl a.2.2.1), some (.inl a.2.2.2.1), some (.inl a.2.2.2.2), none] [] (sk_mm a.1)) {res : Int32 × sk_D} (hq : q_X9_pay_99 rec19 d v1 v2 v4 s0 = some res) :
    sk_G l (sk_rm 3 0 0) m_X9_pay sk_Ex0 (sk_Zm m_X9_pay (some (.inl res.1)) (sk_mm res.2)) 0 0 99 [some (.inr (.inr (some (44, 0)))), some (.inl v1), some (.inl v2), none, some (.inl v4), none] [.inl s0] (sk_mm d) := by
  unfold q_X9_pay_99 at hq
  refine sg_istore_n 100 [some (.inr (.inr (some (44, 0)))), some (.inl v1), some (.inl v2), some (.inl s0), some (.inl v4), none] (sk_td o_X9_pay 58 rfl) rfl rfl (Nat.le_of_ble_eq_true rfl) rfl ?_
  exact t_X9_pay_100 hrec19 hq
def q_X9_pay_94 (rec19 : (sk_D × Int32 × Int32 × Int32 × Int32) → Option (Int32 × sk_D)) (d : sk_D) (v1 : Int32) (v2 : Int32) (v4 : Int32) : Option (Int32 × sk_D) :=
  (q_X9_pay_99 rec19 d v1 v2 v4 (1 : Int32))
set_option maxRecDepth 100000 in
set_option maxHeartbeats 4000000 in
theorem t_X9_pay_94 {l : Launch} {rec19 : (sk_D × Int32 × Int32 × Int32 × Int32) → Option (Int32 × sk_D)} {d : sk_D} {v1 : Int32} {v2 : Int32} {v4 : Int32} (hrec19 : ∀ (a : (sk_D × Int32 × Int32 × Int32 × Int32)) (res : Int32 × sk_D), rec19 a = some res → sk_G l (sk_rm 3 0 0) m_X9_pay sk_Ex0 (sk_Zm m_X9_pay (some (.inl res.1)) (sk_mm res.2)) 0 0 19 [some (.inr (.inr (some (44, 0)))), some (.inl a.2.1), some (.inl a.2.2.1), some (.inl a.2.2.2.1), some (.inl a.2.2.2.2), none] [] (sk_mm a.1)) {res : Int32 × sk_D} (hq : q_X9_pay_94 rec19 d v1 v2 v4 = some res) :
    sk_G l (sk_rm 3 0 0) m_X9_pay sk_Ex0 (sk_Zm m_X9_pay (some (.inl res.1)) (sk_mm res.2)) 0 0 94 [some (.inr (.inr (some (44, 0)))), some (.inl v1), some (.inl v2), none, some (.inl v4), none] [] (sk_mm d) := by
  unfold q_X9_pay_94 at hq
  refine sg_iconst (v := (1 : Int32)) 95 (sk_td o_X9_pay 55 rfl) rfl (by decide) ?_
  refine sg_goto 99 (sk_td o_X9_pay 56 rfl) (by decide) ?_
  exact t_X9_pay_99 hrec19 hq
def q_X9_pay_19 (rec19 : (sk_D × Int32 × Int32 × Int32 × Int32) → Option (Int32 × sk_D)) (d : sk_D) (v1 : Int32) (v2 : Int32) (v3 : Int32) (v4 : Int32) : Option (Int32 × sk_D) :=
  if (4 : Int32) ≤ v4 then (l_X9_pay_109 sk_fu (d, v1, v2, v3, (0 : Int32))) else (q_X9_isActive d v4).bind fun x1 => if x1 = 0 then (q_X9_pay_100 rec19 d v1 v2 v3 v4) else if sk_bi v4 4 = true then if (d.1 57 0 v4.toNatClampNeg) = (-9 : Int32) then (q_X9_pay_100 rec19 d v1 v2 v3 v4) else if sk_bi v4 4 = true then if sk_bi (d.1 57 0 v4.toNatClampNeg) 8 = true then if v3 = 0 then if sk_bi (d.1 57 0 v4.toNatClampNeg) 8 = true then if sk_bi (d.1 57 0 v4.toNatClampNeg) 8 = true then if (d.1 67 0 (d.1 57 0 v4.toNatClampNeg).toNatClampNeg) ≤ ((2147483647 : Int32) - (v1 * (d.1 66 0 (d.1 57 0 v4.toNatClampNeg).toNatClampNeg))) then (q_X9_pay_99 rec19 d v1 (v2 + (v1 * (d.1 66 0 (d.1 57 0 v4.toNatClampNeg).toNatClampNeg))) v4 (0 : Int32)) else (q_X9_pay_94 rec19 d v1 (v2 + (v1 * (d.1 66 0 (d.1 57 0 v4.toNatClampNeg).toNatClampNeg))) v4) else none else none else (q_X9_pay_94 rec19 d v1 (v2 + (v1 * (d.1 66 0 (d.1 57 0 v4.toNatClampNeg).toNatClampNeg))) v4) else none else none else none
set_option maxRecDepth 100000 in
set_option maxHeartbeats 4000000 in
theorem t_X9_pay_19 {l : Launch} {rec19 : (sk_D × Int32 × Int32 × Int32 × Int32) → Option (Int32 × sk_D)} {d : sk_D} {v1 : Int32} {v2 : Int32} {v3 : Int32} {v4 : Int32} (hrec19 : ∀ (a : (sk_D × Int32 × Int32 × Int32 × Int32)) (res : Int32 × sk_D), rec19 a = some res → sk_G l (sk_rm 3 0 0) m_X9_pay sk_Ex0 (sk_Zm m_X9_pay (some (.inl res.1)) (sk_mm res.2)) 0 0 19 [some (.inr (.inr (some (44, 0)))), some (.inl a.2.1), some (.inl a.2.2.1), some (.inl a.2.2.2.1), some (.inl a.2.2.2.2), none] [] (sk_mm a.1)) {res : Int32 × sk_D} (hq : q_X9_pay_19 rec19 d v1 v2 v3 v4 = some res) :
    sk_G l (sk_rm 3 0 0) m_X9_pay sk_Ex0 (sk_Zm m_X9_pay (some (.inl res.1)) (sk_mm res.2)) 0 0 19 [some (.inr (.inr (some (44, 0)))), some (.inl v1), some (.inl v2), some (.inl v3), some (.inl v4), none] [] (sk_mm d) := by
  unfold q_X9_pay_19 at hq
  refine sg_iload 21 (sk_td o_X9_pay 13 rfl) rfl rfl ?_
  refine sg_iconst (v := (4 : Int32)) 22 (sk_td o_X9_pay 14 rfl) rfl (by decide) ?_
  refine sg_ic_ge 106 25 (sk_td o_X9_pay 15 rfl) (by decide) rfl (fun hc => ?_) (fun hc => ?_)
  · rw [if_pos hc] at hq
    refine sg_iconst (v := (0 : Int32)) 107 (sk_td o_X9_pay 61 rfl) rfl (by decide) ?_
    refine sg_istore 109 [some (.inr (.inr (some (44, 0)))), some (.inl v1), some (.inl v2), some (.inl v3), some (.inl (0 : Int32)), none] (sk_td o_X9_pay 62 rfl) rfl rfl (Nat.le_of_ble_eq_true rfl) rfl ?_
    exact lt_X9_pay_109 sk_fu (d, v1, v2, v3, (0 : Int32)) _ hq
  · rw [if_neg hc] at hq
    refine sg_aload_n 26 (sk_td o_X9_pay 16 rfl) rfl rfl ?_
    refine sg_iload 28 (sk_td o_X9_pay 17 rfl) rfl rfl ?_
    obtain ⟨x1, hr_x1, hq⟩ := sk_bnd hq
    refine sm_callV1i 31 (s_X9_isActive hr_x1) (sk_td o_X9_pay 18 rfl) rfl lv_X9_277 rfl rfl rfl sz_44 (sk_rok (Nat.le_of_ble_eq_true rfl) (Nat.le_of_ble_eq_true rfl) rfl rfl) (Nat.le_of_ble_eq_true rfl) ?_
    refine sg_if_eq 100 34 (sk_td o_X9_pay 19 rfl) (by decide) rfl (fun hc => ?_) (fun hc => ?_)
    · rw [if_pos hc] at hq
      exact t_X9_pay_100 hrec19 hq
    · rw [if_neg hc] at hq
      refine sg_aload_n 35 (sk_td o_X9_pay 20 rfl) rfl rfl ?_
      refine sm_getR (57, 0) 38 (sk_td o_X9_pay 21 rfl) rfl kf_X9_56 rfl rfl sz_44 rfl ?_
      refine sg_iload 40 (sk_td o_X9_pay 22 rfl) rfl rfl ?_
      obtain ⟨hb2, hq⟩ := sk_ifn hq
      refine sm_iald 41 (sk_td o_X9_pay 23 rfl) rfl rfl sz_57 hb2 ?_
      refine sg_bipush (v := (-9 : Int32)) 43 (sk_td o_X9_pay 24 rfl) rfl (by decide) ?_
      refine sg_ic_eq 100 46 (sk_td o_X9_pay 25 rfl) (by decide) rfl (fun hc => ?_) (fun hc => ?_)
      · rw [if_pos hc] at hq
        exact t_X9_pay_100 hrec19 hq
      · rw [if_neg hc] at hq
        refine sg_aload_n 47 (sk_td o_X9_pay 26 rfl) rfl rfl ?_
        refine sm_getR (57, 0) 50 (sk_td o_X9_pay 27 rfl) rfl kf_X9_56 rfl rfl sz_44 rfl ?_
        refine sg_iload 52 (sk_td o_X9_pay 28 rfl) rfl rfl ?_
        obtain ⟨hb3, hq⟩ := sk_ifn hq
        refine sm_iald 53 (sk_td o_X9_pay 29 rfl) rfl rfl sz_57 hb3 ?_
        refine sg_istore 55 [some (.inr (.inr (some (44, 0)))), some (.inl v1), some (.inl v2), some (.inl v3), some (.inl v4), some (.inl (d.1 57 0 v4.toNatClampNeg))] (sk_td o_X9_pay 30 rfl) rfl rfl (Nat.le_of_ble_eq_true rfl) rfl ?_
        refine sg_iload_n 56 (sk_td o_X9_pay 31 rfl) rfl rfl ?_
        refine sg_iload_n 57 (sk_td o_X9_pay 32 rfl) rfl rfl ?_
        refine sg_aload_n 58 (sk_td o_X9_pay 33 rfl) rfl rfl ?_
        refine sm_getR (66, 0) 61 (sk_td o_X9_pay 34 rfl) rfl kf_X9_83 rfl rfl sz_44 rfl ?_
        refine sg_iload 63 (sk_td o_X9_pay 35 rfl) rfl rfl ?_
        obtain ⟨hb4, hq⟩ := sk_ifn hq
        refine sm_iald 64 (sk_td o_X9_pay 36 rfl) rfl rfl sz_66 hb4 ?_
        refine sg_imul 65 (sk_td o_X9_pay 37 rfl) rfl ?_
        refine sg_iadd 66 (sk_td o_X9_pay 38 rfl) rfl ?_
        refine sg_istore_n 67 [some (.inr (.inr (some (44, 0)))), some (.inl v1), some (.inl (v2 + (v1 * (d.1 66 0 (d.1 57 0 v4.toNatClampNeg).toNatClampNeg)))), some (.inl v3), some (.inl v4), some (.inl (d.1 57 0 v4.toNatClampNeg))] (sk_td o_X9_pay 39 rfl) rfl rfl (Nat.le_of_ble_eq_true rfl) rfl ?_
        refine sg_iload_n 68 (sk_td o_X9_pay 40 rfl) rfl rfl ?_
        refine sg_if_ne 94 71 (sk_td o_X9_pay 41 rfl) (by decide) rfl (fun hc => ?_) (fun hc => ?_)
        · rw [if_neg hc] at hq
          refine sk_wk [true, true, true, false, true, false] (ls' := [some (.inr (.inr (some (44, 0)))), some (.inl v1), some (.inl (v2 + (v1 * (d.1 66 0 (d.1 57 0 v4.toNatClampNeg).toNatClampNeg)))), none, some (.inl v4), none]) rfl ?_
          exact t_X9_pay_94 hrec19 hq
        · rw [if_pos hc] at hq
          refine sg_aload_n 72 (sk_td o_X9_pay 42 rfl) rfl rfl ?_
          refine sm_getR (67, 0) 75 (sk_td o_X9_pay 43 rfl) rfl kf_X9_86 rfl rfl sz_44 rfl ?_
          refine sg_iload 77 (sk_td o_X9_pay 44 rfl) rfl rfl ?_
          obtain ⟨hb5, hq⟩ := sk_ifn hq
          refine sm_iald 78 (sk_td o_X9_pay 45 rfl) rfl rfl sz_67 hb5 ?_
          refine sg_ldcw 81 (sk_td o_X9_pay 46 rfl) rfl kc_X9_283 ?_
          refine sg_iload_n 82 (sk_td o_X9_pay 47 rfl) rfl rfl ?_
          refine sg_aload_n 83 (sk_td o_X9_pay 48 rfl) rfl rfl ?_
          refine sm_getR (66, 0) 86 (sk_td o_X9_pay 49 rfl) rfl kf_X9_83 rfl rfl sz_44 rfl ?_
          refine sg_iload 88 (sk_td o_X9_pay 50 rfl) rfl rfl ?_
          obtain ⟨hb6, hq⟩ := sk_ifn hq
          refine sm_iald 89 (sk_td o_X9_pay 51 rfl) rfl rfl sz_66 hb6 ?_
          refine sg_imul 90 (sk_td o_X9_pay 52 rfl) rfl ?_
          refine sg_isub 91 (sk_td o_X9_pay 53 rfl) rfl ?_
          refine sg_ic_le 98 94 (sk_td o_X9_pay 54 rfl) (by decide) rfl (fun hc => ?_) (fun hc => ?_)
          · rw [if_pos hc] at hq
            refine sg_iconst (v := (0 : Int32)) 99 (sk_td o_X9_pay 57 rfl) rfl (by decide) ?_
            refine sk_wk [true, true, true, false, true, false] (ls' := [some (.inr (.inr (some (44, 0)))), some (.inl v1), some (.inl (v2 + (v1 * (d.1 66 0 (d.1 57 0 v4.toNatClampNeg).toNatClampNeg)))), none, some (.inl v4), none]) rfl ?_
            exact t_X9_pay_99 hrec19 hq
          · rw [if_neg hc] at hq
            refine sk_wk [true, true, true, false, true, false] (ls' := [some (.inr (.inr (some (44, 0)))), some (.inl v1), some (.inl (v2 + (v1 * (d.1 66 0 (d.1 57 0 v4.toNatClampNeg).toNatClampNeg)))), none, some (.inl v4), none]) rfl ?_
            exact t_X9_pay_94 hrec19 hq
def l_X9_pay_19 (fl : Nat) (a : (sk_D × Int32 × Int32 × Int32 × Int32)) : Option (Int32 × sk_D) := sk_it (fun rec19 a => q_X9_pay_19 rec19 a.1 a.2.1 a.2.2.1 a.2.2.2.1 a.2.2.2.2) fl a
theorem lt_X9_pay_19 {l : Launch} : ∀ (fl : Nat) (a : (sk_D × Int32 × Int32 × Int32 × Int32)) (res : Int32 × sk_D), l_X9_pay_19 fl a = some res → sk_G l (sk_rm 3 0 0) m_X9_pay sk_Ex0 (sk_Zm m_X9_pay (some (.inl res.1)) (sk_mm res.2)) 0 0 19 [some (.inr (.inr (some (44, 0)))), some (.inl a.2.1), some (.inl a.2.2.1), some (.inl a.2.2.2.1), some (.inl a.2.2.2.2), none] [] (sk_mm a.1) :=
  sk_it_ind (P := fun (a : (sk_D × Int32 × Int32 × Int32 × Int32)) (res : Int32 × sk_D) => sk_G l (sk_rm 3 0 0) m_X9_pay sk_Ex0 (sk_Zm m_X9_pay (some (.inl res.1)) (sk_mm res.2)) 0 0 19 [some (.inr (.inr (some (44, 0)))), some (.inl a.2.1), some (.inl a.2.2.1), some (.inl a.2.2.2.1), some (.inl a.2.2.2.2), none] [] (sk_mm a.1)) (fun rec19 hrec19 a res hq  => t_X9_pay_19 hrec19 hq )
def q_X9_pay_0 (d : sk_D) (v1 : Int32) : Option (Int32 × sk_D) :=
  (q_X9_within d v1 (1 : Int32) (100 : Int32)).bind fun x1 => if x1 = 0 then some ((-1 : Int32), d) else (l_X9_pay_19 sk_fu (d, v1, (0 : Int32), (0 : Int32), (0 : Int32)))
set_option maxRecDepth 100000 in
set_option maxHeartbeats 4000000 in
theorem t_X9_pay_0 {l : Launch} {d : sk_D} {v1 : Int32} {res : Int32 × sk_D} (hq : q_X9_pay_0 d v1 = some res) :
    sk_G l (sk_rm 3 0 0) m_X9_pay sk_Ex0 (sk_Zm m_X9_pay (some (.inl res.1)) (sk_mm res.2)) 0 0 0 [some (.inr (.inr (some (44, 0)))), some (.inl v1), none, none, none, none] [] (sk_mm d) := by
  unfold q_X9_pay_0 at hq
  refine sg_iload_n 1 (sk_td o_X9_pay 0 rfl) rfl rfl ?_
  refine sg_iconst (v := (1 : Int32)) 2 (sk_td o_X9_pay 1 rfl) rfl (by decide) ?_
  refine sg_bipush (v := (100 : Int32)) 4 (sk_td o_X9_pay 2 rfl) rfl (by decide) ?_
  obtain ⟨x1, hr_x1, hq⟩ := sk_bnd hq
  refine sm_callS3i 7 (s_X9_within hr_x1) (sk_td o_X9_pay 3 rfl) rfl ls_X9_168 rfl (sk_rok (Nat.le_of_ble_eq_true rfl) (Nat.le_of_ble_eq_true rfl) rfl rfl) (Nat.le_of_ble_eq_true rfl) ?_
  refine sg_if_ne 12 10 (sk_td o_X9_pay 4 rfl) (by decide) rfl (fun hc => ?_) (fun hc => ?_)
  · rw [if_neg hc] at hq
    refine sg_iconst (v := (0 : Int32)) 13 (sk_td o_X9_pay 7 rfl) rfl (by decide) ?_
    refine sg_istore_n 14 [some (.inr (.inr (some (44, 0)))), some (.inl v1), some (.inl (0 : Int32)), none, none, none] (sk_td o_X9_pay 8 rfl) rfl rfl (Nat.le_of_ble_eq_true rfl) rfl ?_
    refine sg_iconst (v := (0 : Int32)) 15 (sk_td o_X9_pay 9 rfl) rfl (by decide) ?_
    refine sg_istore_n 16 [some (.inr (.inr (some (44, 0)))), some (.inl v1), some (.inl (0 : Int32)), some (.inl (0 : Int32)), none, none] (sk_td o_X9_pay 10 rfl) rfl rfl (Nat.le_of_ble_eq_true rfl) rfl ?_
    refine sg_iconst (v := (0 : Int32)) 17 (sk_td o_X9_pay 11 rfl) rfl (by decide) ?_
    refine sg_istore 19 [some (.inr (.inr (some (44, 0)))), some (.inl v1), some (.inl (0 : Int32)), some (.inl (0 : Int32)), some (.inl (0 : Int32)), none] (sk_td o_X9_pay 12 rfl) rfl rfl (Nat.le_of_ble_eq_true rfl) rfl ?_
    exact lt_X9_pay_19 sk_fu (d, v1, (0 : Int32), (0 : Int32), (0 : Int32)) _ hq
  · rw [if_pos hc] at hq
    refine sg_iconst (v := (-1 : Int32)) 11 (sk_td o_X9_pay 5 rfl) rfl (by decide) ?_
    obtain rfl := Option.some.inj hq
    exact sg_iret (sk_td o_X9_pay 6 rfl) rfl rfl
def q_X9_pay (d : sk_D) (v1 : Int32) : Option (Int32 × sk_D) := q_X9_pay_0 d v1 
theorem s_X9_pay {l : Launch} {d : sk_D} {v1 : Int32} {res : Int32 × sk_D} (hq : q_X9_pay d v1 = some res) : sk_M l 3 m_X9_pay [.inr (.inr (some (44, 0))), .inl v1] (sk_mm d) (some (.inl res.1)) (sk_mm res.2) :=
  sk_enter (by decide) (fun _ => Nat.le_of_ble_eq_true rfl) (Nat.le_of_ble_eq_true rfl) (t_X9_pay_0 hq )
def q_X9_earnings_0 (d : sk_D) (v1 : Int32) : Option (Int32) :=
  (q_X9_hasInstructor d v1).bind fun x1 => if x1 = 0 then some (-1 : Int32) else if sk_bi v1 8 = true then some (d.1 67 0 v1.toNatClampNeg) else none
set_option maxRecDepth 100000 in
set_option maxHeartbeats 4000000 in
theorem t_X9_earnings_0 {l : Launch} {d : sk_D} {v1 : Int32} {res : Int32} (hq : q_X9_earnings_0 d v1 = some res) :
    sk_G l (sk_rm 3 0 0) m_X9_earnings sk_Ex0 (sk_Zm m_X9_earnings (some (.inl res)) (sk_mm d)) 0 0 0 [some (.inr (.inr (some (44, 0)))), some (.inl v1)] [] (sk_mm d) := by
  unfold q_X9_earnings_0 at hq
  refine sg_aload_n 1 (sk_td o_X9_earnings 0 rfl) rfl rfl ?_
  refine sg_iload_n 2 (sk_td o_X9_earnings 1 rfl) rfl rfl ?_
  obtain ⟨x1, hr_x1, hq⟩ := sk_bnd hq
  refine sm_callV1i 5 (s_X9_hasInstructor hr_x1) (sk_td o_X9_earnings 2 rfl) rfl lv_X9_267 rfl rfl rfl sz_44 (sk_rok (Nat.le_of_ble_eq_true rfl) (Nat.le_of_ble_eq_true rfl) rfl rfl) (Nat.le_of_ble_eq_true rfl) ?_
  refine sg_if_eq 17 8 (sk_td o_X9_earnings 3 rfl) (by decide) rfl (fun hc => ?_) (fun hc => ?_)
  · rw [if_pos hc] at hq
    refine sg_iconst (v := (-1 : Int32)) 18 (sk_td o_X9_earnings 9 rfl) rfl (by decide) ?_
    obtain rfl := Option.some.inj hq
    exact sg_iret (sk_td o_X9_earnings 10 rfl) rfl rfl
  · rw [if_neg hc] at hq
    refine sg_aload_n 9 (sk_td o_X9_earnings 4 rfl) rfl rfl ?_
    refine sm_getR (67, 0) 12 (sk_td o_X9_earnings 5 rfl) rfl kf_X9_86 rfl rfl sz_44 rfl ?_
    refine sg_iload_n 13 (sk_td o_X9_earnings 6 rfl) rfl rfl ?_
    obtain ⟨hb2, hq⟩ := sk_ifn hq
    refine sm_iald 14 (sk_td o_X9_earnings 7 rfl) rfl rfl sz_67 hb2 ?_
    refine sg_goto 18 (sk_td o_X9_earnings 8 rfl) (by decide) ?_
    obtain rfl := Option.some.inj hq
    exact sg_iret (sk_td o_X9_earnings 10 rfl) rfl rfl
def q_X9_earnings (d : sk_D) (v1 : Int32) : Option (Int32) := q_X9_earnings_0 d v1 
theorem s_X9_earnings {l : Launch} {d : sk_D} {v1 : Int32} {res : Int32} (hq : q_X9_earnings d v1 = some res) : sk_M l 3 m_X9_earnings [.inr (.inr (some (44, 0))), .inl v1] (sk_mm d) (some (.inl res)) (sk_mm d) :=
  sk_enter (by decide) (fun _ => Nat.le_of_ble_eq_true rfl) (Nat.le_of_ble_eq_true rfl) (t_X9_earnings_0 hq )
def q_X9_hasLift_0 (d : sk_D) (v1 : Int32) : Option (Int32) :=
  (q_X9_within d v1 (0 : Int32) ((d.1 44 0 27) - (1 : Int32))).bind fun x1 => if sk_nb x1 = true then some x1 else none
set_option maxRecDepth 100000 in
set_option maxHeartbeats 4000000 in
theorem t_X9_hasLift_0 {l : Launch} {d : sk_D} {v1 : Int32} {res : Int32} (hq : q_X9_hasLift_0 d v1 = some res) :
    sk_G l (sk_rm 2 0 0) m_X9_hasLift sk_Ex0 (sk_Zm m_X9_hasLift (some (.inl res)) (sk_mm d)) 0 0 0 [some (.inr (.inr (some (44, 0)))), some (.inl v1)] [] (sk_mm d) := by
  unfold q_X9_hasLift_0 at hq
  refine sg_iload_n 1 (sk_td o_X9_hasLift 0 rfl) rfl rfl ?_
  refine sg_iconst (v := (0 : Int32)) 2 (sk_td o_X9_hasLift 1 rfl) rfl (by decide) ?_
  refine sg_aload_n 3 (sk_td o_X9_hasLift 2 rfl) rfl rfl ?_
  refine sm_getI 6 (sk_td o_X9_hasLift 3 rfl) rfl kf_X9_284 rfl rfl sz_44 ?_
  refine sg_iconst (v := (1 : Int32)) 7 (sk_td o_X9_hasLift 4 rfl) rfl (by decide) ?_
  refine sg_isub 8 (sk_td o_X9_hasLift 5 rfl) rfl ?_
  obtain ⟨x1, hr_x1, hq⟩ := sk_bnd hq
  refine sm_callS3i 11 (s_X9_within hr_x1) (sk_td o_X9_hasLift 6 rfl) rfl ls_X9_168 rfl (sk_rok (Nat.le_of_ble_eq_true rfl) (Nat.le_of_ble_eq_true rfl) rfl rfl) (Nat.le_of_ble_eq_true rfl) ?_
  obtain ⟨hn2, hq⟩ := sk_ifn hq
  obtain rfl := Option.some.inj hq
  exact sg_iret (sk_td o_X9_hasLift 7 rfl) rfl (sk_nb.z hn2)
def q_X9_hasLift (d : sk_D) (v1 : Int32) : Option (Int32) := q_X9_hasLift_0 d v1 
theorem s_X9_hasLift {l : Launch} {d : sk_D} {v1 : Int32} {res : Int32} (hq : q_X9_hasLift d v1 = some res) : sk_M l 2 m_X9_hasLift [.inr (.inr (some (44, 0))), .inl v1] (sk_mm d) (some (.inl res)) (sk_mm d) :=
  sk_enter (by decide) (fun _ => Nat.le_of_ble_eq_true rfl) (Nat.le_of_ble_eq_true rfl) (t_X9_hasLift_0 hq )
def q_X9_addLift_84 (d : sk_D) : Option (Int32 × sk_D) :=
  some (((d.1 44 0 27) - (1 : Int32)), d)
set_option maxRecDepth 100000 in
set_option maxHeartbeats 4000000 in
theorem t_X9_addLift_84 {l : Launch} {d : sk_D} {res : Int32 × sk_D} (hq : q_X9_addLift_84 d = some res) :
    sk_G l (sk_rm 2 0 0) m_X9_addLift sk_Ex0 (sk_Zm m_X9_addLift (some (.inl res.1)) (sk_mm res.2)) 0 0 84 [none, none, none, none] [.inr (.inr (some (44, 0)))] (sk_mm d) := by
  unfold q_X9_addLift_84 at hq
  refine sm_getI 87 (sk_td o_X9_addLift 48 rfl) rfl kf_X9_284 rfl rfl sz_44 ?_
  refine sg_iconst (v := (1 : Int32)) 88 (sk_td o_X9_addLift 49 rfl) rfl (by decide) ?_
  refine sg_isub 89 (sk_td o_X9_addLift 50 rfl) rfl ?_
  obtain rfl := Option.some.inj hq
  exact sg_iret (sk_td o_X9_addLift 51 rfl) rfl rfl
def q_X9_addLift_75 (d : sk_D) : Option (Int32 × sk_D) :=
  (q_X9_addLift_84 (sk_wi d 44 0 27 ((d.1 44 0 27) + (1 : Int32))))
set_option maxRecDepth 100000 in
set_option maxHeartbeats 4000000 in
theorem t_X9_addLift_75 {l : Launch} {d : sk_D} {res : Int32 × sk_D} (hq : q_X9_addLift_75 d = some res) :
    sk_G l (sk_rm 2 0 0) m_X9_addLift sk_Ex0 (sk_Zm m_X9_addLift (some (.inl res.1)) (sk_mm res.2)) 0 0 75 [some (.inr (.inr (some (44, 0)))), none, none, none] [.inr (.inr (some (44, 0))), .inr (.inr (some (44, 0)))] (sk_mm d) := by
  unfold q_X9_addLift_75 at hq
  refine sm_getI 78 (sk_td o_X9_addLift 43 rfl) rfl kf_X9_284 rfl rfl sz_44 ?_
  refine sg_iconst (v := (1 : Int32)) 79 (sk_td o_X9_addLift 44 rfl) rfl (by decide) ?_
  refine sg_iadd 80 (sk_td o_X9_addLift 45 rfl) rfl ?_
  refine sm_putI 83 (sk_td o_X9_addLift 46 rfl) rfl kp_X9_284 rfl rfl sz_44 ?_
  refine sg_aload_n 84 (sk_td o_X9_addLift 47 rfl) rfl rfl ?_
  refine sk_wk [false, true, true, true] (ls' := [none, none, none, none]) rfl ?_
  exact t_X9_addLift_84 hq
def q_X9_addLift_68 (d : sk_D) (v3 : Int32) : Option (Int32 × sk_D) :=
  if sk_bi (d.1 44 0 27) 3 = true then (q_X9_addLift_75 (sk_wi d 70 0 (d.1 44 0 27).toNatClampNeg v3)) else none
set_option maxRecDepth 100000 in
set_option maxHeartbeats 4000000 in
theorem t_X9_addLift_68 {l : Launch} {d : sk_D} {v3 : Int32} {res : Int32 × sk_D} (hq : q_X9_addLift_68 d v3 = some res) :
    sk_G l (sk_rm 2 0 0) m_X9_addLift sk_Ex0 (sk_Zm m_X9_addLift (some (.inl res.1)) (sk_mm res.2)) 0 0 68 [some (.inr (.inr (some (44, 0)))), none, none, some (.inl v3)] [.inr (.inr (some (44, 0))), .inr (.inr (some (70, 0)))] (sk_mm d) := by
  unfold q_X9_addLift_68 at hq
  refine sm_getI 71 (sk_td o_X9_addLift 38 rfl) rfl kf_X9_284 rfl rfl sz_44 ?_
  refine sg_iload_n 72 (sk_td o_X9_addLift 39 rfl) rfl rfl ?_
  obtain ⟨hb1, hq⟩ := sk_ifn hq
  refine sm_iast 73 (sk_td o_X9_addLift 40 rfl) rfl rfl sz_70 hb1 ?_
  refine sg_aload_n 74 (sk_td o_X9_addLift 41 rfl) rfl rfl ?_
  refine sg_dupR 75 (sk_td o_X9_addLift 42 rfl) rfl ?_
  refine sk_wk [true, true, true, false] (ls' := [some (.inr (.inr (some (44, 0)))), none, none, none]) rfl ?_
  exact t_X9_addLift_75 hq
def q_X9_addLift_58 (d : sk_D) (v2 : Int32) (v3 : Int32) : Option (Int32 × sk_D) :=
  if sk_bi (d.1 44 0 27) 3 = true then (q_X9_addLift_68 (sk_wi d 69 0 (d.1 44 0 27).toNatClampNeg v2) v3) else none
set_option maxRecDepth 100000 in
set_option maxHeartbeats 4000000 in
theorem t_X9_addLift_58 {l : Launch} {d : sk_D} {v2 : Int32} {v3 : Int32} {res : Int32 × sk_D} (hq : q_X9_addLift_58 d v2 v3 = some res) :
    sk_G l (sk_rm 2 0 0) m_X9_addLift sk_Ex0 (sk_Zm m_X9_addLift (some (.inl res.1)) (sk_mm res.2)) 0 0 58 [some (.inr (.inr (some (44, 0)))), none, some (.inl v2), some (.inl v3)] [.inr (.inr (some (44, 0))), .inr (.inr (some (69, 0)))] (sk_mm d) := by
  unfold q_X9_addLift_58 at hq
  refine sm_getI 61 (sk_td o_X9_addLift 32 rfl) rfl kf_X9_284 rfl rfl sz_44 ?_
  refine sg_iload_n 62 (sk_td o_X9_addLift 33 rfl) rfl rfl ?_
  obtain ⟨hb1, hq⟩ := sk_ifn hq
  refine sm_iast 63 (sk_td o_X9_addLift 34 rfl) rfl rfl sz_69 hb1 ?_
  refine sg_aload_n 64 (sk_td o_X9_addLift 35 rfl) rfl rfl ?_
  refine sm_getR (70, 0) 67 (sk_td o_X9_addLift 36 rfl) rfl kf_X9_95 rfl rfl sz_44 rfl ?_
  refine sg_aload_n 68 (sk_td o_X9_addLift 37 rfl) rfl rfl ?_
  refine sk_wk [true, true, false, true] (ls' := [some (.inr (.inr (some (44, 0)))), none, none, some (.inl v3)]) rfl ?_
  exact t_X9_addLift_68 hq
def q_X9_addLift_0 (d : sk_D) (v1 : Int32) (v2 : Int32) (v3 : Int32) : Option (Int32 × sk_D) :=
  (q_X9_within d v1 (1 : Int32) (8 : Int32)).bind fun x1 => if x1 = 0 then some ((-1 : Int32), d) else (q_X9_within d v2 (1 : Int32) (10 : Int32)).bind fun x2 => if x2 = 0 then some ((-1 : Int32), d) else (q_X9_within d v3 (1 : Int32) (20 : Int32)).bind fun x3 => if x3 = 0 then some ((-1 : Int32), d) else if (d.1 44 0 27) = (3 : Int32) then some ((-3 : Int32), d) else if sk_bi (d.1 44 0 27) 3 = true then (q_X9_addLift_58 (sk_wi d 68 0 (d.1 44 0 27).toNatClampNeg v1) v2 v3) else none
set_option maxRecDepth 100000 in
set_option maxHeartbeats 4000000 in
theorem t_X9_addLift_0 {l : Launch} {d : sk_D} {v1 : Int32} {v2 : Int32} {v3 : Int32} {res : Int32 × sk_D} (hq : q_X9_addLift_0 d v1 v2 v3 = some res) :
    sk_G l (sk_rm 2 0 0) m_X9_addLift sk_Ex0 (sk_Zm m_X9_addLift (some (.inl res.1)) (sk_mm res.2)) 0 0 0 [some (.inr (.inr (some (44, 0)))), some (.inl v1), some (.inl v2), some (.inl v3)] [] (sk_mm d) := by
  unfold q_X9_addLift_0 at hq
  refine sg_iload_n 1 (sk_td o_X9_addLift 0 rfl) rfl rfl ?_
  refine sg_iconst (v := (1 : Int32)) 2 (sk_td o_X9_addLift 1 rfl) rfl (by decide) ?_
  refine sg_bipush (v := (8 : Int32)) 4 (sk_td o_X9_addLift 2 rfl) rfl (by decide) ?_
  obtain ⟨x1, hr_x1, hq⟩ := sk_bnd hq
  refine sm_callS3i 7 (s_X9_within hr_x1) (sk_td o_X9_addLift 3 rfl) rfl ls_X9_168 rfl (sk_rok (Nat.le_of_ble_eq_true rfl) (Nat.le_of_ble_eq_true rfl) rfl rfl) (Nat.le_of_ble_eq_true rfl) ?_
  refine sg_if_eq 30 10 (sk_td o_X9_addLift 4 rfl) (by decide) rfl (fun hc => ?_) (fun hc => ?_)
  · rw [if_pos hc] at hq
    refine sg_iconst (v := (-1 : Int32)) 31 (sk_td o_X9_addLift 15 rfl) rfl (by decide) ?_
    obtain rfl := Option.some.inj hq
    exact sg_iret (sk_td o_X9_addLift 16 rfl) rfl rfl
  · rw [if_neg hc] at hq
    refine sg_iload_n 11 (sk_td o_X9_addLift 5 rfl) rfl rfl ?_
    refine sg_iconst (v := (1 : Int32)) 12 (sk_td o_X9_addLift 6 rfl) rfl (by decide) ?_
    refine sg_bipush (v := (10 : Int32)) 14 (sk_td o_X9_addLift 7 rfl) rfl (by decide) ?_
    obtain ⟨x2, hr_x2, hq⟩ := sk_bnd hq
    refine sm_callS3i 17 (s_X9_within hr_x2) (sk_td o_X9_addLift 8 rfl) rfl ls_X9_168 rfl (sk_rok (Nat.le_of_ble_eq_true rfl) (Nat.le_of_ble_eq_true rfl) rfl rfl) (Nat.le_of_ble_eq_true rfl) ?_
    refine sg_if_eq 30 20 (sk_td o_X9_addLift 9 rfl) (by decide) rfl (fun hc => ?_) (fun hc => ?_)
    · rw [if_pos hc] at hq
      refine sg_iconst (v := (-1 : Int32)) 31 (sk_td o_X9_addLift 15 rfl) rfl (by decide) ?_
      obtain rfl := Option.some.inj hq
      exact sg_iret (sk_td o_X9_addLift 16 rfl) rfl rfl
    · rw [if_neg hc] at hq
      refine sg_iload_n 21 (sk_td o_X9_addLift 10 rfl) rfl rfl ?_
      refine sg_iconst (v := (1 : Int32)) 22 (sk_td o_X9_addLift 11 rfl) rfl (by decide) ?_
      refine sg_bipush (v := (20 : Int32)) 24 (sk_td o_X9_addLift 12 rfl) rfl (by decide) ?_
      obtain ⟨x3, hr_x3, hq⟩ := sk_bnd hq
      refine sm_callS3i 27 (s_X9_within hr_x3) (sk_td o_X9_addLift 13 rfl) rfl ls_X9_168 rfl (sk_rok (Nat.le_of_ble_eq_true rfl) (Nat.le_of_ble_eq_true rfl) rfl rfl) (Nat.le_of_ble_eq_true rfl) ?_
      refine sg_if_ne 32 30 (sk_td o_X9_addLift 14 rfl) (by decide) rfl (fun hc => ?_) (fun hc => ?_)
      · rw [if_neg hc] at hq
        refine sg_aload_n 33 (sk_td o_X9_addLift 17 rfl) rfl rfl ?_
        refine sm_getI 36 (sk_td o_X9_addLift 18 rfl) rfl kf_X9_284 rfl rfl sz_44 ?_
        refine sg_iconst (v := (3 : Int32)) 37 (sk_td o_X9_addLift 19 rfl) rfl (by decide) ?_
        refine sg_ic_ne 43 40 (sk_td o_X9_addLift 20 rfl) (by decide) rfl (fun hc => ?_) (fun hc => ?_)
        · rw [if_neg hc] at hq
          refine sg_aload_n 44 (sk_td o_X9_addLift 23 rfl) rfl rfl ?_
          refine sm_getR (68, 0) 47 (sk_td o_X9_addLift 24 rfl) rfl kf_X9_89 rfl rfl sz_44 rfl ?_
          refine sg_aload_n 48 (sk_td o_X9_addLift 25 rfl) rfl rfl ?_
          refine sm_getI 51 (sk_td o_X9_addLift 26 rfl) rfl kf_X9_284 rfl rfl sz_44 ?_
          refine sg_iload_n 52 (sk_td o_X9_addLift 27 rfl) rfl rfl ?_
          obtain ⟨hb4, hq⟩ := sk_ifn hq
          refine sm_iast 53 (sk_td o_X9_addLift 28 rfl) rfl rfl sz_68 hb4 ?_
          refine sg_aload_n 54 (sk_td o_X9_addLift 29 rfl) rfl rfl ?_
          refine sm_getR (69, 0) 57 (sk_td o_X9_addLift 30 rfl) rfl kf_X9_92 rfl rfl sz_44 rfl ?_
          refine sg_aload_n 58 (sk_td o_X9_addLift 31 rfl) rfl rfl ?_
          refine sk_wk [true, false, true, true] (ls' := [some (.inr (.inr (some (44, 0)))), none, some (.inl v2), some (.inl v3)]) rfl ?_
          exact t_X9_addLift_58 hq
        · rw [if_pos hc] at hq
          refine sg_bipush (v := (-3 : Int32)) 42 (sk_td o_X9_addLift 21 rfl) rfl (by decide) ?_
          obtain rfl := Option.some.inj hq
          exact sg_iret (sk_td o_X9_addLift 22 rfl) rfl rfl
      · rw [if_pos hc] at hq
        refine sg_iconst (v := (-1 : Int32)) 31 (sk_td o_X9_addLift 15 rfl) rfl (by decide) ?_
        obtain rfl := Option.some.inj hq
        exact sg_iret (sk_td o_X9_addLift 16 rfl) rfl rfl
def q_X9_addLift (d : sk_D) (v1 : Int32) (v2 : Int32) (v3 : Int32) : Option (Int32 × sk_D) := q_X9_addLift_0 d v1 v2 v3 
theorem s_X9_addLift {l : Launch} {d : sk_D} {v1 : Int32} {v2 : Int32} {v3 : Int32} {res : Int32 × sk_D} (hq : q_X9_addLift d v1 v2 v3 = some res) : sk_M l 2 m_X9_addLift [.inr (.inr (some (44, 0))), .inl v1, .inl v2, .inl v3] (sk_mm d) (some (.inl res.1)) (sk_mm res.2) :=
  sk_enter (by decide) (fun _ => Nat.le_of_ble_eq_true rfl) (Nat.le_of_ble_eq_true rfl) (t_X9_addLift_0 hq )
def q_X9_addStop_88 (d : sk_D) (s1 : Int32) : Option (Int32 × sk_D) :=
  if sk_bi s1 4 = true then some ((d.1 59 0 s1.toNatClampNeg), d) else none
set_option maxRecDepth 100000 in
set_option maxHeartbeats 4000000 in
theorem t_X9_addStop_88 {l : Launch} {d : sk_D} {s1 : Int32} {res : Int32 × sk_D} (hq : q_X9_addStop_88 d s1 = some res) :
    sk_G l (sk_rm 3 0 0) m_X9_addStop sk_Ex0 (sk_Zm m_X9_addStop (some (.inl res.1)) (sk_mm res.2)) 0 0 88 [none, none, none, none] [.inl s1, .inr (.inr (some (59, 0)))] (sk_mm d) := by
  unfold q_X9_addStop_88 at hq
  obtain ⟨hb1, hq⟩ := sk_ifn hq
  refine sm_iald 89 (sk_td o_X9_addStop 58 rfl) rfl rfl sz_59 hb1 ?_
  obtain rfl := Option.some.inj hq
  exact sg_iret (sk_td o_X9_addStop 59 rfl) rfl rfl
def q_X9_addStop_79 (d : sk_D) (v1 : Int32) (s1 : Int32) (s3 : Int32) : Option (Int32 × sk_D) :=
  if sk_bi s3 4 = true then if sk_bi s1 4 = true then (q_X9_addStop_88 (sk_wi d 59 0 s1.toNatClampNeg ((d.1 59 0 s3.toNatClampNeg) + (1 : Int32))) v1) else none else none
set_option maxRecDepth 100000 in
set_option maxHeartbeats 4000000 in
theorem t_X9_addStop_79 {l : Launch} {d : sk_D} {v1 : Int32} {s1 : Int32} {s3 : Int32} {res : Int32 × sk_D} (hq : q_X9_addStop_79 d v1 s1 s3 = some res) :
    sk_G l (sk_rm 3 0 0) m_X9_addStop sk_Ex0 (sk_Zm m_X9_addStop (some (.inl res.1)) (sk_mm res.2)) 0 0 79 [some (.inr (.inr (some (44, 0)))), some (.inl v1), none, none] [.inl s3, .inr (.inr (some (59, 0))), .inl s1, .inr (.inr (some (59, 0)))] (sk_mm d) := by
  unfold q_X9_addStop_79 at hq
  obtain ⟨hb1, hq⟩ := sk_ifn hq
  refine sm_iald 80 (sk_td o_X9_addStop 51 rfl) rfl rfl sz_59 hb1 ?_
  refine sg_iconst (v := (1 : Int32)) 81 (sk_td o_X9_addStop 52 rfl) rfl (by decide) ?_
  refine sg_iadd 82 (sk_td o_X9_addStop 53 rfl) rfl ?_
  obtain ⟨hb2, hq⟩ := sk_ifn hq
  refine sm_iast 83 (sk_td o_X9_addStop 54 rfl) rfl rfl sz_59 hb2 ?_
  refine sg_aload_n 84 (sk_td o_X9_addStop 55 rfl) rfl rfl ?_
  refine sm_getR (59, 0) 87 (sk_td o_X9_addStop 56 rfl) rfl kf_X9_62 rfl rfl sz_44 rfl ?_
  refine sg_iload_n 88 (sk_td o_X9_addStop 57 rfl) rfl rfl ?_
  refine sk_wk [false, false, true, true] (ls' := [none, none, none, none]) rfl ?_
  exact t_X9_addStop_88 hq
def q_X9_addStop_69 (d : sk_D) (v1 : Int32) (v3 : Int32) (s1 : Int32) (s3 : Int32) : Option (Int32 × sk_D) :=
  if sk_bi s3 4 = true then if sk_bi (s1 + (d.1 59 0 s3.toNatClampNeg)) 16 = true then (q_X9_addStop_79 (sk_wi d 61 0 (s1 + (d.1 59 0 s3.toNatClampNeg)).toNatClampNeg v3) v1 v1 v1) else none else none
set_option maxRecDepth 100000 in
set_option maxHeartbeats 4000000 in
theorem t_X9_addStop_69 {l : Launch} {d : sk_D} {v1 : Int32} {v3 : Int32} {s1 : Int32} {s3 : Int32} {res : Int32 × sk_D} (hq : q_X9_addStop_69 d v1 v3 s1 s3 = some res) :
    sk_G l (sk_rm 3 0 0) m_X9_addStop sk_Ex0 (sk_Zm m_X9_addStop (some (.inl res.1)) (sk_mm res.2)) 0 0 69 [some (.inr (.inr (some (44, 0)))), some (.inl v1), none, some (.inl v3)] [.inl s3, .inr (.inr (some (59, 0))), .inl s1, .inr (.inr (some (61, 0)))] (sk_mm d) := by
  unfold q_X9_addStop_69 at hq
  obtain ⟨hb1, hq⟩ := sk_ifn hq
  refine sm_iald 70 (sk_td o_X9_addStop 43 rfl) rfl rfl sz_59 hb1 ?_
  refine sg_iadd 71 (sk_td o_X9_addStop 44 rfl) rfl ?_
  refine sg_iload_n 72 (sk_td o_X9_addStop 45 rfl) rfl rfl ?_
  obtain ⟨hb2, hq⟩ := sk_ifn hq
  refine sm_iast 73 (sk_td o_X9_addStop 46 rfl) rfl rfl sz_61 hb2 ?_
  refine sg_aload_n 74 (sk_td o_X9_addStop 47 rfl) rfl rfl ?_
  refine sm_getR (59, 0) 77 (sk_td o_X9_addStop 48 rfl) rfl kf_X9_62 rfl rfl sz_44 rfl ?_
  refine sg_iload_n 78 (sk_td o_X9_addStop 49 rfl) rfl rfl ?_
  refine sg_dup2 79 (sk_td o_X9_addStop 50 rfl) rfl ?_
  refine sk_wk [true, true, true, false] (ls' := [some (.inr (.inr (some (44, 0)))), some (.inl v1), none, none]) rfl ?_
  exact t_X9_addStop_79 hq
def q_X9_addStop_0 (d : sk_D) (v1 : Int32) (v2 : Int32) (v3 : Int32) : Option (Int32 × sk_D) :=
  (q_X9_hasGroup d v1).bind fun x1 => if x1 = 0 then some ((-1 : Int32), d) else (q_X9_hasLift d v2).bind fun x2 => if x2 = 0 then some ((-1 : Int32), d) else (q_X9_within d v3 (1 : Int32) (20 : Int32)).bind fun x3 => if x3 = 0 then some ((-1 : Int32), d) else if sk_bi v1 4 = true then if (d.1 59 0 v1.toNatClampNeg) = (4 : Int32) then some ((-3 : Int32), d) else if sk_bi v1 4 = true then if sk_bi (((4 : Int32) * v1) + (d.1 59 0 v1.toNatClampNeg)) 16 = true then (q_X9_addStop_69 (sk_wi d 60 0 (((4 : Int32) * v1) + (d.1 59 0 v1.toNatClampNeg)).toNatClampNeg v2) v1 v3 ((4 : Int32) * v1) v1) else none else none else none
set_option maxRecDepth 100000 in
set_option maxHeartbeats 4000000 in
theorem t_X9_addStop_0 {l : Launch} {d : sk_D} {v1 : Int32} {v2 : Int32} {v3 : Int32} {res : Int32 × sk_D} (hq : q_X9_addStop_0 d v1 v2 v3 = some res) :
    sk_G l (sk_rm 3 0 0) m_X9_addStop sk_Ex0 (sk_Zm m_X9_addStop (some (.inl res.1)) (sk_mm res.2)) 0 0 0 [some (.inr (.inr (some (44, 0)))), some (.inl v1), some (.inl v2), some (.inl v3)] [] (sk_mm d) := by
  unfold q_X9_addStop_0 at hq
  refine sg_aload_n 1 (sk_td o_X9_addStop 0 rfl) rfl rfl ?_
  refine sg_iload_n 2 (sk_td o_X9_addStop 1 rfl) rfl rfl ?_
  obtain ⟨x1, hr_x1, hq⟩ := sk_bnd hq
  refine sm_callV1i 5 (s_X9_hasGroup hr_x1) (sk_td o_X9_addStop 2 rfl) rfl lv_X9_227 rfl rfl rfl sz_44 (sk_rok (Nat.le_of_ble_eq_true rfl) (Nat.le_of_ble_eq_true rfl) rfl rfl) (Nat.le_of_ble_eq_true rfl) ?_
  refine sg_if_eq 26 8 (sk_td o_X9_addStop 3 rfl) (by decide) rfl (fun hc => ?_) (fun hc => ?_)
  · rw [if_pos hc] at hq
    refine sg_iconst (v := (-1 : Int32)) 27 (sk_td o_X9_addStop 13 rfl) rfl (by decide) ?_
    obtain rfl := Option.some.inj hq
    exact sg_iret (sk_td o_X9_addStop 14 rfl) rfl rfl
  · rw [if_neg hc] at hq
    refine sg_aload_n 9 (sk_td o_X9_addStop 4 rfl) rfl rfl ?_
    refine sg_iload_n 10 (sk_td o_X9_addStop 5 rfl) rfl rfl ?_
    obtain ⟨x2, hr_x2, hq⟩ := sk_bnd hq
    refine sm_callV1i 13 (s_X9_hasLift hr_x2) (sk_td o_X9_addStop 6 rfl) rfl lv_X9_287 rfl rfl rfl sz_44 (sk_rok (Nat.le_of_ble_eq_true rfl) (Nat.le_of_ble_eq_true rfl) rfl rfl) (Nat.le_of_ble_eq_true rfl) ?_
    refine sg_if_eq 26 16 (sk_td o_X9_addStop 7 rfl) (by decide) rfl (fun hc => ?_) (fun hc => ?_)
    · rw [if_pos hc] at hq
      refine sg_iconst (v := (-1 : Int32)) 27 (sk_td o_X9_addStop 13 rfl) rfl (by decide) ?_
      obtain rfl := Option.some.inj hq
      exact sg_iret (sk_td o_X9_addStop 14 rfl) rfl rfl
    · rw [if_neg hc] at hq
      refine sg_iload_n 17 (sk_td o_X9_addStop 8 rfl) rfl rfl ?_
      refine sg_iconst (v := (1 : Int32)) 18 (sk_td o_X9_addStop 9 rfl) rfl (by decide) ?_
      refine sg_bipush (v := (20 : Int32)) 20 (sk_td o_X9_addStop 10 rfl) rfl (by decide) ?_
      obtain ⟨x3, hr_x3, hq⟩ := sk_bnd hq
      refine sm_callS3i 23 (s_X9_within hr_x3) (sk_td o_X9_addStop 11 rfl) rfl ls_X9_168 rfl (sk_rok (Nat.le_of_ble_eq_true rfl) (Nat.le_of_ble_eq_true rfl) rfl rfl) (Nat.le_of_ble_eq_true rfl) ?_
      refine sg_if_ne 28 26 (sk_td o_X9_addStop 12 rfl) (by decide) rfl (fun hc => ?_) (fun hc => ?_)
      · rw [if_neg hc] at hq
        refine sg_aload_n 29 (sk_td o_X9_addStop 15 rfl) rfl rfl ?_
        refine sm_getR (59, 0) 32 (sk_td o_X9_addStop 16 rfl) rfl kf_X9_62 rfl rfl sz_44 rfl ?_
        refine sg_iload_n 33 (sk_td o_X9_addStop 17 rfl) rfl rfl ?_
        obtain ⟨hb4, hq⟩ := sk_ifn hq
        refine sm_iald 34 (sk_td o_X9_addStop 18 rfl) rfl rfl sz_59 hb4 ?_
        refine sg_iconst (v := (4 : Int32)) 35 (sk_td o_X9_addStop 19 rfl) rfl (by decide) ?_
        refine sg_ic_ne 41 38 (sk_td o_X9_addStop 20 rfl) (by decide) rfl (fun hc => ?_) (fun hc => ?_)
        · rw [if_neg hc] at hq
          refine sg_aload_n 42 (sk_td o_X9_addStop 23 rfl) rfl rfl ?_
          refine sm_getR (60, 0) 45 (sk_td o_X9_addStop 24 rfl) rfl kf_X9_65 rfl rfl sz_44 rfl ?_
          refine sg_iconst (v := (4 : Int32)) 46 (sk_td o_X9_addStop 25 rfl) rfl (by decide) ?_
          refine sg_iload_n 47 (sk_td o_X9_addStop 26 rfl) rfl rfl ?_
          refine sg_imul 48 (sk_td o_X9_addStop 27 rfl) rfl ?_
          refine sg_aload_n 49 (sk_td o_X9_addStop 28 rfl) rfl rfl ?_
          refine sm_getR (59, 0) 52 (sk_td o_X9_addStop 29 rfl) rfl kf_X9_62 rfl rfl sz_44 rfl ?_
          refine sg_iload_n 53 (sk_td o_X9_addStop 30 rfl) rfl rfl ?_
          obtain ⟨hb5, hq⟩ := sk_ifn hq
          refine sm_iald 54 (sk_td o_X9_addStop 31 rfl) rfl rfl sz_59 hb5 ?_
          refine sg_iadd 55 (sk_td o_X9_addStop 32 rfl) rfl ?_
          refine sg_iload_n 56 (sk_td o_X9_addStop 33 rfl) rfl rfl ?_
          obtain ⟨hb6, hq⟩ := sk_ifn hq
          refine sm_iast 57 (sk_td o_X9_addStop 34 rfl) rfl rfl sz_60 hb6 ?_
          refine sg_aload_n 58 (sk_td o_X9_addStop 35 rfl) rfl rfl ?_
          refine sm_getR (61, 0) 61 (sk_td o_X9_addStop 36 rfl) rfl kf_X9_68 rfl rfl sz_44 rfl ?_
          refine sg_iconst (v := (4 : Int32)) 62 (sk_td o_X9_addStop 37 rfl) rfl (by decide) ?_
          refine sg_iload_n 63 (sk_td o_X9_addStop 38 rfl) rfl rfl ?_
          refine sg_imul 64 (sk_td o_X9_addStop 39 rfl) rfl ?_
          refine sg_aload_n 65 (sk_td o_X9_addStop 40 rfl) rfl rfl ?_
          refine sm_getR (59, 0) 68 (sk_td o_X9_addStop 41 rfl) rfl kf_X9_62 rfl rfl sz_44 rfl ?_
          refine sg_iload_n 69 (sk_td o_X9_addStop 42 rfl) rfl rfl ?_
          refine sk_wk [true, true, false, true] (ls' := [some (.inr (.inr (some (44, 0)))), some (.inl v1), none, some (.inl v3)]) rfl ?_
          exact t_X9_addStop_69 hq
        · rw [if_pos hc] at hq
          refine sg_bipush (v := (-3 : Int32)) 40 (sk_td o_X9_addStop 21 rfl) rfl (by decide) ?_
          obtain rfl := Option.some.inj hq
          exact sg_iret (sk_td o_X9_addStop 22 rfl) rfl rfl
      · rw [if_pos hc] at hq
        refine sg_iconst (v := (-1 : Int32)) 27 (sk_td o_X9_addStop 13 rfl) rfl (by decide) ?_
        obtain rfl := Option.some.inj hq
        exact sg_iret (sk_td o_X9_addStop 14 rfl) rfl rfl
def q_X9_addStop (d : sk_D) (v1 : Int32) (v2 : Int32) (v3 : Int32) : Option (Int32 × sk_D) := q_X9_addStop_0 d v1 v2 v3 
theorem s_X9_addStop {l : Launch} {d : sk_D} {v1 : Int32} {v2 : Int32} {v3 : Int32} {res : Int32 × sk_D} (hq : q_X9_addStop d v1 v2 v3 = some res) : sk_M l 3 m_X9_addStop [.inr (.inr (some (44, 0))), .inl v1, .inl v2, .inl v3] (sk_mm d) (some (.inl res.1)) (sk_mm res.2) :=
  sk_enter (by decide) (fun _ => Nat.le_of_ble_eq_true rfl) (Nat.le_of_ble_eq_true rfl) (t_X9_addStop_0 hq )
def q_X9_clearStops_0 (d : sk_D) (v1 : Int32) : Option (Int32 × sk_D) :=
  (q_X9_hasGroup d v1).bind fun x1 => if x1 = 0 then some ((-1 : Int32), d) else if sk_bi v1 4 = true then if sk_bi v1 4 = true then some ((d.1 59 0 v1.toNatClampNeg), (sk_wi d 59 0 v1.toNatClampNeg (0 : Int32))) else none else none
set_option maxRecDepth 100000 in
set_option maxHeartbeats 4000000 in
theorem t_X9_clearStops_0 {l : Launch} {d : sk_D} {v1 : Int32} {res : Int32 × sk_D} (hq : q_X9_clearStops_0 d v1 = some res) :
    sk_G l (sk_rm 3 0 0) m_X9_clearStops sk_Ex0 (sk_Zm m_X9_clearStops (some (.inl res.1)) (sk_mm res.2)) 0 0 0 [some (.inr (.inr (some (44, 0)))), some (.inl v1), none] [] (sk_mm d) := by
  unfold q_X9_clearStops_0 at hq
  refine sg_aload_n 1 (sk_td o_X9_clearStops 0 rfl) rfl rfl ?_
  refine sg_iload_n 2 (sk_td o_X9_clearStops 1 rfl) rfl rfl ?_
  obtain ⟨x1, hr_x1, hq⟩ := sk_bnd hq
  refine sm_callV1i 5 (s_X9_hasGroup hr_x1) (sk_td o_X9_clearStops 2 rfl) rfl lv_X9_227 rfl rfl rfl sz_44 (sk_rok (Nat.le_of_ble_eq_true rfl) (Nat.le_of_ble_eq_true rfl) rfl rfl) (Nat.le_of_ble_eq_true rfl) ?_
  refine sg_if_ne 10 8 (sk_td o_X9_clearStops 3 rfl) (by decide) rfl (fun hc => ?_) (fun hc => ?_)
  · rw [if_neg hc] at hq
    refine sg_aload_n 11 (sk_td o_X9_clearStops 6 rfl) rfl rfl ?_
    refine sm_getR (59, 0) 14 (sk_td o_X9_clearStops 7 rfl) rfl kf_X9_62 rfl rfl sz_44 rfl ?_
    refine sg_iload_n 15 (sk_td o_X9_clearStops 8 rfl) rfl rfl ?_
    obtain ⟨hb2, hq⟩ := sk_ifn hq
    refine sm_iald 16 (sk_td o_X9_clearStops 9 rfl) rfl rfl sz_59 hb2 ?_
    refine sg_istore_n 17 [some (.inr (.inr (some (44, 0)))), some (.inl v1), some (.inl (d.1 59 0 v1.toNatClampNeg))] (sk_td o_X9_clearStops 10 rfl) rfl rfl (Nat.le_of_ble_eq_true rfl) rfl ?_
    refine sg_aload_n 18 (sk_td o_X9_clearStops 11 rfl) rfl rfl ?_
    refine sm_getR (59, 0) 21 (sk_td o_X9_clearStops 12 rfl) rfl kf_X9_62 rfl rfl sz_44 rfl ?_
    refine sg_iload_n 22 (sk_td o_X9_clearStops 13 rfl) rfl rfl ?_
    refine sg_iconst (v := (0 : Int32)) 23 (sk_td o_X9_clearStops 14 rfl) rfl (by decide) ?_
    obtain ⟨hb3, hq⟩ := sk_ifn hq
    refine sm_iast 24 (sk_td o_X9_clearStops 15 rfl) rfl rfl sz_59 hb3 ?_
    refine sg_iload_n 25 (sk_td o_X9_clearStops 16 rfl) rfl rfl ?_
    obtain rfl := Option.some.inj hq
    exact sg_iret (sk_td o_X9_clearStops 17 rfl) rfl rfl
  · rw [if_pos hc] at hq
    refine sg_iconst (v := (-1 : Int32)) 9 (sk_td o_X9_clearStops 4 rfl) rfl (by decide) ?_
    obtain rfl := Option.some.inj hq
    exact sg_iret (sk_td o_X9_clearStops 5 rfl) rfl rfl
def q_X9_clearStops (d : sk_D) (v1 : Int32) : Option (Int32 × sk_D) := q_X9_clearStops_0 d v1 
theorem s_X9_clearStops {l : Launch} {d : sk_D} {v1 : Int32} {res : Int32 × sk_D} (hq : q_X9_clearStops d v1 = some res) : sk_M l 3 m_X9_clearStops [.inr (.inr (some (44, 0))), .inl v1] (sk_mm d) (some (.inl res.1)) (sk_mm res.2) :=
  sk_enter (by decide) (fun _ => Nat.le_of_ble_eq_true rfl) (Nat.le_of_ble_eq_true rfl) (t_X9_clearStops_0 hq )
def q_X9_setStart_0 (d : sk_D) (v1 : Int32) (v2 : Int32) : Option (Int32 × sk_D) :=
  (q_X9_hasGroup d v1).bind fun x1 => if x1 = 0 then some ((-1 : Int32), d) else (q_X9_within d v2 (0 : Int32) (60 : Int32)).bind fun x2 => if x2 = 0 then some ((-1 : Int32), d) else if sk_bi v1 4 = true then if sk_bi v1 4 = true then some ((d.1 58 0 v1.toNatClampNeg), (sk_wi d 58 0 v1.toNatClampNeg v2)) else none else none
set_option maxRecDepth 100000 in
set_option maxHeartbeats 4000000 in
theorem t_X9_setStart_0 {l : Launch} {d : sk_D} {v1 : Int32} {v2 : Int32} {res : Int32 × sk_D} (hq : q_X9_setStart_0 d v1 v2 = some res) :
    sk_G l (sk_rm 3 0 0) m_X9_setStart sk_Ex0 (sk_Zm m_X9_setStart (some (.inl res.1)) (sk_mm res.2)) 0 0 0 [some (.inr (.inr (some (44, 0)))), some (.inl v1), some (.inl v2), none] [] (sk_mm d) := by
  unfold q_X9_setStart_0 at hq
  refine sg_aload_n 1 (sk_td o_X9_setStart 0 rfl) rfl rfl ?_
  refine sg_iload_n 2 (sk_td o_X9_setStart 1 rfl) rfl rfl ?_
  obtain ⟨x1, hr_x1, hq⟩ := sk_bnd hq
  refine sm_callV1i 5 (s_X9_hasGroup hr_x1) (sk_td o_X9_setStart 2 rfl) rfl lv_X9_227 rfl rfl rfl sz_44 (sk_rok (Nat.le_of_ble_eq_true rfl) (Nat.le_of_ble_eq_true rfl) rfl rfl) (Nat.le_of_ble_eq_true rfl) ?_
  refine sg_if_eq 18 8 (sk_td o_X9_setStart 3 rfl) (by decide) rfl (fun hc => ?_) (fun hc => ?_)
  · rw [if_pos hc] at hq
    refine sg_iconst (v := (-1 : Int32)) 19 (sk_td o_X9_setStart 9 rfl) rfl (by decide) ?_
    obtain rfl := Option.some.inj hq
    exact sg_iret (sk_td o_X9_setStart 10 rfl) rfl rfl
  · rw [if_neg hc] at hq
    refine sg_iload_n 9 (sk_td o_X9_setStart 4 rfl) rfl rfl ?_
    refine sg_iconst (v := (0 : Int32)) 10 (sk_td o_X9_setStart 5 rfl) rfl (by decide) ?_
    refine sg_bipush (v := (60 : Int32)) 12 (sk_td o_X9_setStart 6 rfl) rfl (by decide) ?_
    obtain ⟨x2, hr_x2, hq⟩ := sk_bnd hq
    refine sm_callS3i 15 (s_X9_within hr_x2) (sk_td o_X9_setStart 7 rfl) rfl ls_X9_168 rfl (sk_rok (Nat.le_of_ble_eq_true rfl) (Nat.le_of_ble_eq_true rfl) rfl rfl) (Nat.le_of_ble_eq_true rfl) ?_
    refine sg_if_ne 20 18 (sk_td o_X9_setStart 8 rfl) (by decide) rfl (fun hc => ?_) (fun hc => ?_)
    · rw [if_neg hc] at hq
      refine sg_aload_n 21 (sk_td o_X9_setStart 11 rfl) rfl rfl ?_
      refine sm_getR (58, 0) 24 (sk_td o_X9_setStart 12 rfl) rfl kf_X9_59 rfl rfl sz_44 rfl ?_
      refine sg_iload_n 25 (sk_td o_X9_setStart 13 rfl) rfl rfl ?_
      obtain ⟨hb3, hq⟩ := sk_ifn hq
      refine sm_iald 26 (sk_td o_X9_setStart 14 rfl) rfl rfl sz_58 hb3 ?_
      refine sg_istore_n 27 [some (.inr (.inr (some (44, 0)))), some (.inl v1), some (.inl v2), some (.inl (d.1 58 0 v1.toNatClampNeg))] (sk_td o_X9_setStart 15 rfl) rfl rfl (Nat.le_of_ble_eq_true rfl) rfl ?_
      refine sg_aload_n 28 (sk_td o_X9_setStart 16 rfl) rfl rfl ?_
      refine sm_getR (58, 0) 31 (sk_td o_X9_setStart 17 rfl) rfl kf_X9_59 rfl rfl sz_44 rfl ?_
      refine sg_iload_n 32 (sk_td o_X9_setStart 18 rfl) rfl rfl ?_
      refine sg_iload_n 33 (sk_td o_X9_setStart 19 rfl) rfl rfl ?_
      obtain ⟨hb4, hq⟩ := sk_ifn hq
      refine sm_iast 34 (sk_td o_X9_setStart 20 rfl) rfl rfl sz_58 hb4 ?_
      refine sg_iload_n 35 (sk_td o_X9_setStart 21 rfl) rfl rfl ?_
      obtain rfl := Option.some.inj hq
      exact sg_iret (sk_td o_X9_setStart 22 rfl) rfl rfl
    · rw [if_pos hc] at hq
      refine sg_iconst (v := (-1 : Int32)) 19 (sk_td o_X9_setStart 9 rfl) rfl (by decide) ?_
      obtain rfl := Option.some.inj hq
      exact sg_iret (sk_td o_X9_setStart 10 rfl) rfl rfl
def q_X9_setStart (d : sk_D) (v1 : Int32) (v2 : Int32) : Option (Int32 × sk_D) := q_X9_setStart_0 d v1 v2 
theorem s_X9_setStart {l : Launch} {d : sk_D} {v1 : Int32} {v2 : Int32} {res : Int32 × sk_D} (hq : q_X9_setStart d v1 v2 = some res) : sk_M l 3 m_X9_setStart [.inr (.inr (some (44, 0))), .inl v1, .inl v2] (sk_mm d) (some (.inl res.1)) (sk_mm res.2) :=
  sk_enter (by decide) (fun _ => Nat.le_of_ble_eq_true rfl) (Nat.le_of_ble_eq_true rfl) (t_X9_setStart_0 hq )
def q_X9_takesPart_0 (d : sk_D) (v1 : Int32) : Option (Int32) :=
  (q_X9_isActive d v1).bind fun x1 => if x1 = 0 then some (0 : Int32) else if sk_bi v1 4 = true then if (d.1 59 0 v1.toNatClampNeg) ≤ 0 then some (0 : Int32) else some (1 : Int32) else none
set_option maxRecDepth 100000 in
set_option maxHeartbeats 4000000 in
theorem t_X9_takesPart_0 {l : Launch} {d : sk_D} {v1 : Int32} {res : Int32} (hq : q_X9_takesPart_0 d v1 = some res) :
    sk_G l (sk_rm 3 0 0) m_X9_takesPart sk_Ex0 (sk_Zm m_X9_takesPart (some (.inl res)) (sk_mm d)) 0 0 0 [some (.inr (.inr (some (44, 0)))), some (.inl v1)] [] (sk_mm d) := by
  unfold q_X9_takesPart_0 at hq
  refine sg_aload_n 1 (sk_td o_X9_takesPart 0 rfl) rfl rfl ?_
  refine sg_iload_n 2 (sk_td o_X9_takesPart 1 rfl) rfl rfl ?_
  obtain ⟨x1, hr_x1, hq⟩ := sk_bnd hq
  refine sm_callV1i 5 (s_X9_isActive hr_x1) (sk_td o_X9_takesPart 2 rfl) rfl lv_X9_277 rfl rfl rfl sz_44 (sk_rok (Nat.le_of_ble_eq_true rfl) (Nat.le_of_ble_eq_true rfl) rfl rfl) (Nat.le_of_ble_eq_true rfl) ?_
  refine sg_if_eq 21 8 (sk_td o_X9_takesPart 3 rfl) (by decide) rfl (fun hc => ?_) (fun hc => ?_)
  · rw [if_pos hc] at hq
    refine sg_iconst (v := (0 : Int32)) 22 (sk_td o_X9_takesPart 11 rfl) rfl (by decide) ?_
    obtain rfl := Option.some.inj hq
    exact sg_iret (sk_td o_X9_takesPart 12 rfl) rfl (show narrow .boolean (.int (0 : Int32)) = .int (0 : Int32) by decide)
  · rw [if_neg hc] at hq
    refine sg_aload_n 9 (sk_td o_X9_takesPart 4 rfl) rfl rfl ?_
    refine sm_getR (59, 0) 12 (sk_td o_X9_takesPart 5 rfl) rfl kf_X9_62 rfl rfl sz_44 rfl ?_
    refine sg_iload_n 13 (sk_td o_X9_takesPart 6 rfl) rfl rfl ?_
    obtain ⟨hb2, hq⟩ := sk_ifn hq
    refine sm_iald 14 (sk_td o_X9_takesPart 7 rfl) rfl rfl sz_59 hb2 ?_
    refine sg_if_le 21 17 (sk_td o_X9_takesPart 8 rfl) (by decide) rfl (fun hc => ?_) (fun hc => ?_)
    · rw [if_pos hc] at hq
      refine sg_iconst (v := (0 : Int32)) 22 (sk_td o_X9_takesPart 11 rfl) rfl (by decide) ?_
      obtain rfl := Option.some.inj hq
      exact sg_iret (sk_td o_X9_takesPart 12 rfl) rfl (show narrow .boolean (.int (0 : Int32)) = .int (0 : Int32) by decide)
    · rw [if_neg hc] at hq
      refine sg_iconst (v := (1 : Int32)) 18 (sk_td o_X9_takesPart 9 rfl) rfl (by decide) ?_
      refine sg_goto 22 (sk_td o_X9_takesPart 10 rfl) (by decide) ?_
      obtain rfl := Option.some.inj hq
      exact sg_iret (sk_td o_X9_takesPart 12 rfl) rfl (show narrow .boolean (.int (1 : Int32)) = .int (1 : Int32) by decide)
def q_X9_takesPart (d : sk_D) (v1 : Int32) : Option (Int32) := q_X9_takesPart_0 d v1 
theorem s_X9_takesPart {l : Launch} {d : sk_D} {v1 : Int32} {res : Int32} (hq : q_X9_takesPart d v1 = some res) : sk_M l 3 m_X9_takesPart [.inr (.inr (some (44, 0))), .inl v1] (sk_mm d) (some (.inl res)) (sk_mm d) :=
  sk_enter (by decide) (fun _ => Nat.le_of_ble_eq_true rfl) (Nat.le_of_ble_eq_true rfl) (t_X9_takesPart_0 hq )
def q_X9_begin_108 (rec108 : (sk_D × Int32) → Option (sk_D)) (d : sk_D) (v1 : Int32) : Option (sk_D) :=
  if (3 : Int32) ≤ v1 then some d else if sk_bi v1 3 = true then if sk_bi v1 3 = true then if sk_bi v1 3 = true then (rec108 ((sk_wi (sk_wi (sk_wi d 89 0 v1.toNatClampNeg (0 : Int32)) 92 0 v1.toNatClampNeg (0 : Int32)) 93 0 v1.toNatClampNeg (0 : Int32)), (v1 + (1 : Int32)))) else none else none else none
set_option maxRecDepth 100000 in
set_option maxHeartbeats 4000000 in
theorem t_X9_begin_108 {l : Launch} {rec108 : (sk_D × Int32) → Option (sk_D)} {d : sk_D} {v1 : Int32} (hrec108 : ∀ (a : (sk_D × Int32)) (res : sk_D), rec108 a = some res → sk_G l (sk_rm 4 0 0) m_X9_begin sk_Ex0 (sk_Zm m_X9_begin none (sk_mm res)) 0 0 108 [some (.inr (.inr (some (44, 0)))), some (.inl a.2), none] [] (sk_mm a.1)) {res : sk_D} (hq : q_X9_begin_108 rec108 d v1 = some res) :
    sk_G l (sk_rm 4 0 0) m_X9_begin sk_Ex0 (sk_Zm m_X9_begin none (sk_mm res)) 0 0 108 [some (.inr (.inr (some (44, 0)))), some (.inl v1), none] [] (sk_mm d) := by
  unfold q_X9_begin_108 at hq
  refine sg_iload_n 109 (sk_td o_X9_begin 68 rfl) rfl rfl ?_
  refine sg_iconst (v := (3 : Int32)) 110 (sk_td o_X9_begin 69 rfl) rfl (by decide) ?_
  refine sg_ic_ge 140 113 (sk_td o_X9_begin 70 rfl) (by decide) rfl (fun hc => ?_) (fun hc => ?_)
  · rw [if_pos hc] at hq
    obtain rfl := Option.some.inj hq
    exact sg_vret (sk_td o_X9_begin 88 rfl) rfl
  · rw [if_neg hc] at hq
    refine sg_aload_n 114 (sk_td o_X9_begin 71 rfl) rfl rfl ?_
    refine sm_getR (89, 0) 117 (sk_td o_X9_begin 72 rfl) rfl kf_X9_153 rfl rfl sz_44 rfl ?_
    refine sg_iload_n 118 (sk_td o_X9_begin 73 rfl) rfl rfl ?_
    refine sg_iconst (v := (0 : Int32)) 119 (sk_td o_X9_begin 74 rfl) rfl (by decide) ?_
    obtain ⟨hb1, hq⟩ := sk_ifn hq
    refine sm_iast 120 (sk_td o_X9_begin 75 rfl) rfl rfl sz_89 hb1 ?_
    refine sg_aload_n 121 (sk_td o_X9_begin 76 rfl) rfl rfl ?_
    refine sm_getR (92, 0) 124 (sk_td o_X9_begin 77 rfl) rfl kf_X9_162 rfl rfl sz_44 rfl ?_
    refine sg_iload_n 125 (sk_td o_X9_begin 78 rfl) rfl rfl ?_
    refine sg_iconst (v := (0 : Int32)) 126 (sk_td o_X9_begin 79 rfl) rfl (by decide) ?_
    obtain ⟨hb2, hq⟩ := sk_ifn hq
    refine sm_iast 127 (sk_td o_X9_begin 80 rfl) rfl rfl sz_92 hb2 ?_
    refine sg_aload_n 128 (sk_td o_X9_begin 81 rfl) rfl rfl ?_
    refine sm_getR (93, 0) 131 (sk_td o_X9_begin 82 rfl) rfl kf_X9_165 rfl rfl sz_44 rfl ?_
    refine sg_iload_n 132 (sk_td o_X9_begin 83 rfl) rfl rfl ?_
    refine sg_iconst (v := (0 : Int32)) 133 (sk_td o_X9_begin 84 rfl) rfl (by decide) ?_
    obtain ⟨hb3, hq⟩ := sk_ifn hq
    refine sm_iast 134 (sk_td o_X9_begin 85 rfl) rfl rfl sz_93 hb3 ?_
    refine sg_iinc (v1 + (1 : Int32)) 137 [some (.inr (.inr (some (44, 0)))), some (.inl (v1 + (1 : Int32))), none] (sk_td o_X9_begin 86 rfl) rfl rfl rfl rfl (Nat.le_of_ble_eq_true rfl) rfl ?_
    refine sg_goto 108 (sk_td o_X9_begin 87 rfl) (by decide) ?_
    exact hrec108 ((sk_wi (sk_wi (sk_wi d 89 0 v1.toNatClampNeg (0 : Int32)) 92 0 v1.toNatClampNeg (0 : Int32)) 93 0 v1.toNatClampNeg (0 : Int32)), (v1 + (1 : Int32))) _ hq
def l_X9_begin_108 (fl : Nat) (a : (sk_D × Int32)) : Option (sk_D) := sk_it (fun rec108 a => q_X9_begin_108 rec108 a.1 a.2) fl a
theorem lt_X9_begin_108 {l : Launch} : ∀ (fl : Nat) (a : (sk_D × Int32)) (res : sk_D), l_X9_begin_108 fl a = some res → sk_G l (sk_rm 4 0 0) m_X9_begin sk_Ex0 (sk_Zm m_X9_begin none (sk_mm res)) 0 0 108 [some (.inr (.inr (some (44, 0)))), some (.inl a.2), none] [] (sk_mm a.1) :=
  sk_it_ind (P := fun (a : (sk_D × Int32)) (res : sk_D) => sk_G l (sk_rm 4 0 0) m_X9_begin sk_Ex0 (sk_Zm m_X9_begin none (sk_mm res)) 0 0 108 [some (.inr (.inr (some (44, 0)))), some (.inl a.2), none] [] (sk_mm a.1)) (fun rec108 hrec108 a res hq  => t_X9_begin_108 hrec108 hq )
def q_X9_begin_76 (rec2 : (sk_D × Int32) → Option (sk_D)) (d : sk_D) (v1 : Int32) (s1 : Int32) (s2 : Int32) : Option (sk_D) :=
  if sk_bi s1 4 = true then if sk_bi v1 4 = true then if sk_bi v1 4 = true then if sk_bi v1 4 = true then (rec2 ((sk_wi (sk_wi (sk_wi (sk_wi d 86 0 s1.toNatClampNeg s2) 87 0 v1.toNatClampNeg ((4 : Int32) * v1)) 90 0 v1.toNatClampNeg (0 : Int32)) 91 0 v1.toNatClampNeg (0 : Int32)), (v1 + (1 : Int32)))) else none else none else none else none
set_option maxRecDepth 100000 in
set_option maxHeartbeats 4000000 in
theorem t_X9_begin_76 {l : Launch} {rec2 : (sk_D × Int32) → Option (sk_D)} {d : sk_D} {v1 : Int32} {s1 : Int32} {s2 : Int32} (hrec2 : ∀ (a : (sk_D × Int32)) (res : sk_D), rec2 a = some res → sk_G l (sk_rm 4 0 0) m_X9_begin sk_Ex0 (sk_Zm m_X9_begin none (sk_mm res)) 0 0 2 [some (.inr (.inr (some (44, 0)))), some (.inl a.2), none] [] (sk_mm a.1)) {res : sk_D} (hq : q_X9_begin_76 rec2 d v1 s1 s2 = some res) :
    sk_G l (sk_rm 4 0 0) m_X9_begin sk_Ex0 (sk_Zm m_X9_begin none (sk_mm res)) 0 0 76 [some (.inr (.inr (some (44, 0)))), some (.inl v1), none] [.inl s2, .inl s1, .inr (.inr (some (86, 0)))] (sk_mm d) := by
  unfold q_X9_begin_76 at hq
  obtain ⟨hb1, hq⟩ := sk_ifn hq
  refine sm_iast 77 (sk_td o_X9_begin 46 rfl) rfl rfl sz_86 hb1 ?_
  refine sg_aload_n 78 (sk_td o_X9_begin 47 rfl) rfl rfl ?_
  refine sm_getR (87, 0) 81 (sk_td o_X9_begin 48 rfl) rfl kf_X9_147 rfl rfl sz_44 rfl ?_
  refine sg_iload_n 82 (sk_td o_X9_begin 49 rfl) rfl rfl ?_
  refine sg_iconst (v := (4 : Int32)) 83 (sk_td o_X9_begin 50 rfl) rfl (by decide) ?_
  refine sg_iload_n 84 (sk_td o_X9_begin 51 rfl) rfl rfl ?_
  refine sg_imul 85 (sk_td o_X9_begin 52 rfl) rfl ?_
  obtain ⟨hb2, hq⟩ := sk_ifn hq
  refine sm_iast 86 (sk_td o_X9_begin 53 rfl) rfl rfl sz_87 hb2 ?_
  refine sg_aload_n 87 (sk_td o_X9_begin 54 rfl) rfl rfl ?_
  refine sm_getR (90, 0) 90 (sk_td o_X9_begin 55 rfl) rfl kf_X9_156 rfl rfl sz_44 rfl ?_
  refine sg_iload_n 91 (sk_td o_X9_begin 56 rfl) rfl rfl ?_
  refine sg_iconst (v := (0 : Int32)) 92 (sk_td o_X9_begin 57 rfl) rfl (by decide) ?_
  obtain ⟨hb3, hq⟩ := sk_ifn hq
  refine sm_iast 93 (sk_td o_X9_begin 58 rfl) rfl rfl sz_90 hb3 ?_
  refine sg_aload_n 94 (sk_td o_X9_begin 59 rfl) rfl rfl ?_
  refine sm_getR (91, 0) 97 (sk_td o_X9_begin 60 rfl) rfl kf_X9_159 rfl rfl sz_44 rfl ?_
  refine sg_iload_n 98 (sk_td o_X9_begin 61 rfl) rfl rfl ?_
  refine sg_iconst (v := (0 : Int32)) 99 (sk_td o_X9_begin 62 rfl) rfl (by decide) ?_
  obtain ⟨hb4, hq⟩ := sk_ifn hq
  refine sm_iast 100 (sk_td o_X9_begin 63 rfl) rfl rfl sz_91 hb4 ?_
  refine sg_iinc (v1 + (1 : Int32)) 103 [some (.inr (.inr (some (44, 0)))), some (.inl (v1 + (1 : Int32))), none] (sk_td o_X9_begin 64 rfl) rfl rfl rfl rfl (Nat.le_of_ble_eq_true rfl) rfl ?_
  refine sg_goto 2 (sk_td o_X9_begin 65 rfl) (by decide) ?_
  exact hrec2 ((sk_wi (sk_wi (sk_wi (sk_wi d 86 0 s1.toNatClampNeg s2) 87 0 v1.toNatClampNeg ((4 : Int32) * v1)) 90 0 v1.toNatClampNeg (0 : Int32)) 91 0 v1.toNatClampNeg (0 : Int32)), (v1 + (1 : Int32))) _ hq
def q_X9_begin_70 (rec2 : (sk_D × Int32) → Option (sk_D)) (d : sk_D) (v1 : Int32) (s1 : Int32) (s3 : Int32) : Option (sk_D) :=
  if sk_bi s3 4 = true then (q_X9_begin_76 rec2 d v1 s1 (d.1 58 0 s3.toNatClampNeg)) else none
set_option maxRecDepth 100000 in
set_option maxHeartbeats 4000000 in
theorem t_X9_begin_70 {l : Launch} {rec2 : (sk_D × Int32) → Option (sk_D)} {d : sk_D} {v1 : Int32} {s1 : Int32} {s3 : Int32} (hrec2 : ∀ (a : (sk_D × Int32)) (res : sk_D), rec2 a = some res → sk_G l (sk_rm 4 0 0) m_X9_begin sk_Ex0 (sk_Zm m_X9_begin none (sk_mm res)) 0 0 2 [some (.inr (.inr (some (44, 0)))), some (.inl a.2), none] [] (sk_mm a.1)) {res : sk_D} (hq : q_X9_begin_70 rec2 d v1 s1 s3 = some res) :
    sk_G l (sk_rm 4 0 0) m_X9_begin sk_Ex0 (sk_Zm m_X9_begin none (sk_mm res)) 0 0 70 [some (.inr (.inr (some (44, 0)))), some (.inl v1), none] [.inl s3, .inr (.inr (some (58, 0))), .inl s1, .inr (.inr (some (86, 0)))] (sk_mm d) := by
  unfold q_X9_begin_70 at hq
  obtain ⟨hb1, hq⟩ := sk_ifn hq
  refine sm_iald 71 (sk_td o_X9_begin 43 rfl) rfl rfl sz_58 hb1 ?_
  refine sg_goto 76 (sk_td o_X9_begin 44 rfl) (by decide) ?_
  exact t_X9_begin_76 hrec2 hq
def q_X9_begin_48 (rec2 : (sk_D × Int32) → Option (sk_D)) (d : sk_D) (v1 : Int32) (v2 : Int32) (s1 : Int32) (s2 : Int32) : Option (sk_D) :=
  if sk_bi s1 4 = true then if sk_bi v1 4 = true then if v2 = 0 then (q_X9_begin_76 rec2 (sk_wi (sk_wi d 84 0 s1.toNatClampNeg s2) 85 0 v1.toNatClampNeg (0 : Int32)) v1 v1 (-9 : Int32)) else (q_X9_begin_70 rec2 (sk_wi (sk_wi d 84 0 s1.toNatClampNeg s2) 85 0 v1.toNatClampNeg (0 : Int32)) v1 v1 v1) else none else none
set_option maxRecDepth 100000 in
set_option maxHeartbeats 4000000 in
theorem t_X9_begin_48 {l : Launch} {rec2 : (sk_D × Int32) → Option (sk_D)} {d : sk_D} {v1 : Int32} {v2 : Int32} {s1 : Int32} {s2 : Int32} (hrec2 : ∀ (a : (sk_D × Int32)) (res : sk_D), rec2 a = some res → sk_G l (sk_rm 4 0 0) m_X9_begin sk_Ex0 (sk_Zm m_X9_begin none (sk_mm res)) 0 0 2 [some (.inr (.inr (some (44, 0)))), some (.inl a.2), none] [] (sk_mm a.1)) {res : sk_D} (hq : q_X9_begin_48 rec2 d v1 v2 s1 s2 = some res) :
    sk_G l (sk_rm 4 0 0) m_X9_begin sk_Ex0 (sk_Zm m_X9_begin none (sk_mm res)) 0 0 48 [some (.inr (.inr (some (44, 0)))), some (.inl v1), some (.inl v2)] [.inl s2, .inl s1, .inr (.inr (some (84, 0)))] (sk_mm d) := by
  unfold q_X9_begin_48 at hq
  obtain ⟨hb1, hq⟩ := sk_ifn hq
  refine sm_iast 49 (sk_td o_X9_begin 29 rfl) rfl rfl sz_84 hb1 ?_
  refine sg_aload_n 50 (sk_td o_X9_begin 30 rfl) rfl rfl ?_
  refine sm_getR (85, 0) 53 (sk_td o_X9_begin 31 rfl) rfl kf_X9_141 rfl rfl sz_44 rfl ?_
  refine sg_iload_n 54 (sk_td o_X9_begin 32 rfl) rfl rfl ?_
  refine sg_iconst (v := (0 : Int32)) 55 (sk_td o_X9_begin 33 rfl) rfl (by decide) ?_
  obtain ⟨hb2, hq⟩ := sk_ifn hq
  refine sm_iast 56 (sk_td o_X9_begin 34 rfl) rfl rfl sz_85 hb2 ?_
  refine sg_aload_n 57 (sk_td o_X9_begin 35 rfl) rfl rfl ?_
  refine sm_getR (86, 0) 60 (sk_td o_X9_begin 36 rfl) rfl kf_X9_144 rfl rfl sz_44 rfl ?_
  refine sg_iload_n 61 (sk_td o_X9_begin 37 rfl) rfl rfl ?_
  refine sg_iload_n 62 (sk_td o_X9_begin 38 rfl) rfl rfl ?_
  refine sg_if_eq 74 65 (sk_td o_X9_begin 39 rfl) (by decide) rfl (fun hc => ?_) (fun hc => ?_)
  · rw [if_pos hc] at hq
    refine sg_bipush (v := (-9 : Int32)) 76 (sk_td o_X9_begin 45 rfl) rfl (by decide) ?_
    refine sk_wk [true, true, false] (ls' := [some (.inr (.inr (some (44, 0)))), some (.inl v1), none]) rfl ?_
    exact t_X9_begin_76 hrec2 hq
  · rw [if_neg hc] at hq
    refine sg_aload_n 66 (sk_td o_X9_begin 40 rfl) rfl rfl ?_
    refine sm_getR (58, 0) 69 (sk_td o_X9_begin 41 rfl) rfl kf_X9_59 rfl rfl sz_44 rfl ?_
    refine sg_iload_n 70 (sk_td o_X9_begin 42 rfl) rfl rfl ?_
    refine sk_wk [true, true, false] (ls' := [some (.inr (.inr (some (44, 0)))), some (.inl v1), none]) rfl ?_
    exact t_X9_begin_70 hrec2 hq
def q_X9_begin_43 (rec2 : (sk_D × Int32) → Option (sk_D)) (d : sk_D) (v1 : Int32) (v2 : Int32) (s1 : Int32) (s2 : Int32) (s3 : Int32) : Option (sk_D) :=
  (q_X9_begin_48 rec2 d v1 v2 s1 (s2 + s3))
set_option maxRecDepth 100000 in
set_option maxHeartbeats 4000000 in
theorem t_X9_begin_43 {l : Launch} {rec2 : (sk_D × Int32) → Option (sk_D)} {d : sk_D} {v1 : Int32} {v2 : Int32} {s1 : Int32} {s2 : Int32} {s3 : Int32} (hrec2 : ∀ (a : (sk_D × Int32)) (res : sk_D), rec2 a = some res → sk_G l (sk_rm 4 0 0) m_X9_begin sk_Ex0 (sk_Zm m_X9_begin none (sk_mm res)) 0 0 2 [some (.inr (.inr (some (44, 0)))), some (.inl a.2), none] [] (sk_mm a.1)) {res : sk_D} (hq : q_X9_begin_43 rec2 d v1 v2 s1 s2 s3 = some res) :
    sk_G l (sk_rm 4 0 0) m_X9_begin sk_Ex0 (sk_Zm m_X9_begin none (sk_mm res)) 0 0 43 [some (.inr (.inr (some (44, 0)))), some (.inl v1), some (.inl v2)] [.inl s3, .inl s2, .inl s1, .inr (.inr (some (84, 0)))] (sk_mm d) := by
  unfold q_X9_begin_43 at hq
  refine sg_iadd 44 (sk_td o_X9_begin 26 rfl) rfl ?_
  refine sg_goto 48 (sk_td o_X9_begin 27 rfl) (by decide) ?_
  exact t_X9_begin_48 hrec2 hq
def q_X9_begin_2 (rec2 : (sk_D × Int32) → Option (sk_D)) (d : sk_D) (v1 : Int32) : Option (sk_D) :=
  if (4 : Int32) ≤ v1 then (l_X9_begin_108 sk_fu (d, (0 : Int32))) else (q_X9_takesPart d v1).bind fun x1 => if x1 = 0 then (q_X9_begin_48 rec2 d v1 x1 v1 (0 : Int32)) else (q_X9_sizeOf d v1).bind fun x2 => if sk_bi v1 4 = true then if (d.1 57 0 v1.toNatClampNeg) = (-9 : Int32) then (q_X9_begin_43 rec2 d v1 x1 v1 x2 (0 : Int32)) else (q_X9_begin_43 rec2 d v1 x1 v1 x2 (1 : Int32)) else none
set_option maxRecDepth 100000 in
set_option maxHeartbeats 4000000 in
theorem t_X9_begin_2 {l : Launch} {rec2 : (sk_D × Int32) → Option (sk_D)} {d : sk_D} {v1 : Int32} (hrec2 : ∀ (a : (sk_D × Int32)) (res : sk_D), rec2 a = some res → sk_G l (sk_rm 4 0 0) m_X9_begin sk_Ex0 (sk_Zm m_X9_begin none (sk_mm res)) 0 0 2 [some (.inr (.inr (some (44, 0)))), some (.inl a.2), none] [] (sk_mm a.1)) {res : sk_D} (hq : q_X9_begin_2 rec2 d v1 = some res) :
    sk_G l (sk_rm 4 0 0) m_X9_begin sk_Ex0 (sk_Zm m_X9_begin none (sk_mm res)) 0 0 2 [some (.inr (.inr (some (44, 0)))), some (.inl v1), none] [] (sk_mm d) := by
  unfold q_X9_begin_2 at hq
  refine sg_iload_n 3 (sk_td o_X9_begin 2 rfl) rfl rfl ?_
  refine sg_iconst (v := (4 : Int32)) 4 (sk_td o_X9_begin 3 rfl) rfl (by decide) ?_
  refine sg_ic_ge 106 7 (sk_td o_X9_begin 4 rfl) (by decide) rfl (fun hc => ?_) (fun hc => ?_)
  · rw [if_pos hc] at hq
    refine sg_iconst (v := (0 : Int32)) 107 (sk_td o_X9_begin 66 rfl) rfl (by decide) ?_
    refine sg_istore_n 108 [some (.inr (.inr (some (44, 0)))), some (.inl (0 : Int32)), none] (sk_td o_X9_begin 67 rfl) rfl rfl (Nat.le_of_ble_eq_true rfl) rfl ?_
    exact lt_X9_begin_108 sk_fu (d, (0 : Int32)) _ hq
  · rw [if_neg hc] at hq
    refine sg_aload_n 8 (sk_td o_X9_begin 5 rfl) rfl rfl ?_
    refine sg_iload_n 9 (sk_td o_X9_begin 6 rfl) rfl rfl ?_
    obtain ⟨x1, hr_x1, hq⟩ := sk_bnd hq
    refine sm_callV1i 12 (s_X9_takesPart hr_x1) (sk_td o_X9_begin 7 rfl) rfl lv_X9_290 rfl rfl rfl sz_44 (sk_rok (Nat.le_of_ble_eq_true rfl) (Nat.le_of_ble_eq_true rfl) rfl rfl) (Nat.le_of_ble_eq_true rfl) ?_
    refine sg_istore_n 13 [some (.inr (.inr (some (44, 0)))), some (.inl v1), some (.inl x1)] (sk_td o_X9_begin 8 rfl) rfl rfl (Nat.le_of_ble_eq_true rfl) rfl ?_
    refine sg_aload_n 14 (sk_td o_X9_begin 9 rfl) rfl rfl ?_
    refine sm_getR (84, 0) 17 (sk_td o_X9_begin 10 rfl) rfl kf_X9_138 rfl rfl sz_44 rfl ?_
    refine sg_iload_n 18 (sk_td o_X9_begin 11 rfl) rfl rfl ?_
    refine sg_iload_n 19 (sk_td o_X9_begin 12 rfl) rfl rfl ?_
    refine sg_if_eq 47 22 (sk_td o_X9_begin 13 rfl) (by decide) rfl (fun hc => ?_) (fun hc => ?_)
    · rw [if_pos hc] at hq
      refine sg_iconst (v := (0 : Int32)) 48 (sk_td o_X9_begin 28 rfl) rfl (by decide) ?_
      exact t_X9_begin_48 hrec2 hq
    · rw [if_neg hc] at hq
      refine sg_aload_n 23 (sk_td o_X9_begin 14 rfl) rfl rfl ?_
      refine sg_iload_n 24 (sk_td o_X9_begin 15 rfl) rfl rfl ?_
      obtain ⟨x2, hr_x2, hq⟩ := sk_bnd hq
      refine sm_callV1i 27 (s_X9_sizeOf hr_x2) (sk_td o_X9_begin 16 rfl) rfl lv_X9_224 rfl rfl rfl sz_44 (sk_rok (Nat.le_of_ble_eq_true rfl) (Nat.le_of_ble_eq_true rfl) rfl rfl) (Nat.le_of_ble_eq_true rfl) ?_
      refine sg_aload_n 28 (sk_td o_X9_begin 17 rfl) rfl rfl ?_
      refine sm_getR (57, 0) 31 (sk_td o_X9_begin 18 rfl) rfl kf_X9_56 rfl rfl sz_44 rfl ?_
      refine sg_iload_n 32 (sk_td o_X9_begin 19 rfl) rfl rfl ?_
      obtain ⟨hb3, hq⟩ := sk_ifn hq
      refine sm_iald 33 (sk_td o_X9_begin 20 rfl) rfl rfl sz_57 hb3 ?_
      refine sg_bipush (v := (-9 : Int32)) 35 (sk_td o_X9_begin 21 rfl) rfl (by decide) ?_
      refine sg_ic_ne 42 38 (sk_td o_X9_begin 22 rfl) (by decide) rfl (fun hc => ?_) (fun hc => ?_)
      · rw [if_neg hc] at hq
        refine sg_iconst (v := (1 : Int32)) 43 (sk_td o_X9_begin 25 rfl) rfl (by decide) ?_
        exact t_X9_begin_43 hrec2 hq
      · rw [if_pos hc] at hq
        refine sg_iconst (v := (0 : Int32)) 39 (sk_td o_X9_begin 23 rfl) rfl (by decide) ?_
        refine sg_goto 43 (sk_td o_X9_begin 24 rfl) (by decide) ?_
        exact t_X9_begin_43 hrec2 hq
def l_X9_begin_2 (fl : Nat) (a : (sk_D × Int32)) : Option (sk_D) := sk_it (fun rec2 a => q_X9_begin_2 rec2 a.1 a.2) fl a
theorem lt_X9_begin_2 {l : Launch} : ∀ (fl : Nat) (a : (sk_D × Int32)) (res : sk_D), l_X9_begin_2 fl a = some res → sk_G l (sk_rm 4 0 0) m_X9_begin sk_Ex0 (sk_Zm m_X9_begin none (sk_mm res)) 0 0 2 [some (.inr (.inr (some (44, 0)))), some (.inl a.2), none] [] (sk_mm a.1) :=
  sk_it_ind (P := fun (a : (sk_D × Int32)) (res : sk_D) => sk_G l (sk_rm 4 0 0) m_X9_begin sk_Ex0 (sk_Zm m_X9_begin none (sk_mm res)) 0 0 2 [some (.inr (.inr (some (44, 0)))), some (.inl a.2), none] [] (sk_mm a.1)) (fun rec2 hrec2 a res hq  => t_X9_begin_2 hrec2 hq )
def q_X9_begin_0 (d : sk_D) : Option (sk_D) :=
  (l_X9_begin_2 sk_fu (d, (0 : Int32)))
set_option maxRecDepth 100000 in
set_option maxHeartbeats 4000000 in
theorem t_X9_begin_0 {l : Launch} {d : sk_D} {res : sk_D} (hq : q_X9_begin_0 d = some res) :
    sk_G l (sk_rm 4 0 0) m_X9_begin sk_Ex0 (sk_Zm m_X9_begin none (sk_mm res)) 0 0 0 [some (.inr (.inr (some (44, 0)))), none, none] [] (sk_mm d) := by
  unfold q_X9_begin_0 at hq
  refine sg_iconst (v := (0 : Int32)) 1 (sk_td o_X9_begin 0 rfl) rfl (by decide) ?_
  refine sg_istore_n 2 [some (.inr (.inr (some (44, 0)))), some (.inl (0 : Int32)), none] (sk_td o_X9_begin 1 rfl) rfl rfl (Nat.le_of_ble_eq_true rfl) rfl ?_
  exact lt_X9_begin_2 sk_fu (d, (0 : Int32)) _ hq
def q_X9_begin (d : sk_D) : Option (sk_D) := q_X9_begin_0 d 
theorem s_X9_begin {l : Launch} {d : sk_D} {res : sk_D} (hq : q_X9_begin d = some res) : sk_M l 4 m_X9_begin [.inr (.inr (some (44, 0)))] (sk_mm d) none (sk_mm res) :=
  sk_enter (by decide) (fun _ => Nat.le_of_ble_eq_true rfl) (Nat.le_of_ble_eq_true rfl) (t_X9_begin_0 hq )
def q_X9_leave_139 (d : sk_D) (s1 : Int32) (s2 : Int32) : Option (sk_D) :=
  if sk_bi s1 4 = true then some (sk_wi d 87 0 s1.toNatClampNeg s2) else none
set_option maxRecDepth 100000 in
set_option maxHeartbeats 4000000 in
theorem t_X9_leave_139 {l : Launch} {d : sk_D} {s1 : Int32} {s2 : Int32} {res : sk_D} (hq : q_X9_leave_139 d s1 s2 = some res) :
    sk_G l (sk_rm 1 0 0) m_X9_leave sk_Ex0 (sk_Zm m_X9_leave none (sk_mm res)) 0 0 139 [none, none, none, none, none] [.inl s2, .inl s1, .inr (.inr (some (87, 0)))] (sk_mm d) := by
  unfold q_X9_leave_139 at hq
  obtain ⟨hb1, hq⟩ := sk_ifn hq
  refine sm_iast 140 (sk_td o_X9_leave 97 rfl) rfl rfl sz_87 hb1 ?_
  obtain rfl := Option.some.inj hq
  exact sg_vret (sk_td o_X9_leave 98 rfl) rfl
def q_X9_leave_109 (d : sk_D) (v3 : Int32) (s1 : Int32) (s3 : Int32) : Option (sk_D) :=
  if sk_bi s3 4 = true then if sk_bi v3 4 = true then if ((d.1 87 0 s3.toNatClampNeg) + (1 : Int32)) = (((4 : Int32) * v3) + (d.1 59 0 v3.toNatClampNeg)) then (q_X9_leave_139 d s1 ((4 : Int32) * v3)) else if sk_bi v3 4 = true then (q_X9_leave_139 d s1 ((d.1 87 0 v3.toNatClampNeg) + (1 : Int32))) else none else none else none
set_option maxRecDepth 100000 in
set_option maxHeartbeats 4000000 in
theorem t_X9_leave_109 {l : Launch} {d : sk_D} {v3 : Int32} {s1 : Int32} {s3 : Int32} {res : sk_D} (hq : q_X9_leave_109 d v3 s1 s3 = some res) :
    sk_G l (sk_rm 1 0 0) m_X9_leave sk_Ex0 (sk_Zm m_X9_leave none (sk_mm res)) 0 0 109 [some (.inr (.inr (some (44, 0)))), none, none, some (.inl v3), none] [.inl s3, .inr (.inr (some (87, 0))), .inl s1, .inr (.inr (some (87, 0)))] (sk_mm d) := by
  unfold q_X9_leave_109 at hq
  obtain ⟨hb1, hq⟩ := sk_ifn hq
  refine sm_iald 110 (sk_td o_X9_leave 75 rfl) rfl rfl sz_87 hb1 ?_
  refine sg_iconst (v := (1 : Int32)) 111 (sk_td o_X9_leave 76 rfl) rfl (by decide) ?_
  refine sg_iadd 112 (sk_td o_X9_leave 77 rfl) rfl ?_
  refine sg_iconst (v := (4 : Int32)) 113 (sk_td o_X9_leave 78 rfl) rfl (by decide) ?_
  refine sg_iload_n 114 (sk_td o_X9_leave 79 rfl) rfl rfl ?_
  refine sg_imul 115 (sk_td o_X9_leave 80 rfl) rfl ?_
  refine sg_aload_n 116 (sk_td o_X9_leave 81 rfl) rfl rfl ?_
  refine sm_getR (59, 0) 119 (sk_td o_X9_leave 82 rfl) rfl kf_X9_62 rfl rfl sz_44 rfl ?_
  refine sg_iload_n 120 (sk_td o_X9_leave 83 rfl) rfl rfl ?_
  obtain ⟨hb2, hq⟩ := sk_ifn hq
  refine sm_iald 121 (sk_td o_X9_leave 84 rfl) rfl rfl sz_59 hb2 ?_
  refine sg_iadd 122 (sk_td o_X9_leave 85 rfl) rfl ?_
  refine sg_ic_ne 131 125 (sk_td o_X9_leave 86 rfl) (by decide) rfl (fun hc => ?_) (fun hc => ?_)
  · rw [if_neg hc] at hq
    refine sg_aload_n 132 (sk_td o_X9_leave 91 rfl) rfl rfl ?_
    refine sm_getR (87, 0) 135 (sk_td o_X9_leave 92 rfl) rfl kf_X9_147 rfl rfl sz_44 rfl ?_
    refine sg_iload_n 136 (sk_td o_X9_leave 93 rfl) rfl rfl ?_
    obtain ⟨hb3, hq⟩ := sk_ifn hq
    refine sm_iald 137 (sk_td o_X9_leave 94 rfl) rfl rfl sz_87 hb3 ?_
    refine sg_iconst (v := (1 : Int32)) 138 (sk_td o_X9_leave 95 rfl) rfl (by decide) ?_
    refine sg_iadd 139 (sk_td o_X9_leave 96 rfl) rfl ?_
    refine sk_wk [false, true, true, false, true] (ls' := [none, none, none, none, none]) rfl ?_
    exact t_X9_leave_139 hq
  · rw [if_pos hc] at hq
    refine sg_iconst (v := (4 : Int32)) 126 (sk_td o_X9_leave 87 rfl) rfl (by decide) ?_
    refine sg_iload_n 127 (sk_td o_X9_leave 88 rfl) rfl rfl ?_
    refine sg_imul 128 (sk_td o_X9_leave 89 rfl) rfl ?_
    refine sg_goto 139 (sk_td o_X9_leave 90 rfl) (by decide) ?_
    refine sk_wk [false, true, true, false, true] (ls' := [none, none, none, none, none]) rfl ?_
    exact t_X9_leave_139 hq
def q_X9_leave_84 (d : sk_D) (v3 : Int32) (s1 : Int32) (s2 : Int32) (s4 : Int32) : Option (sk_D) :=
  if sk_bi s4 3 = true then if sk_bi v3 4 = true then if sk_bi (d.1 87 0 v3.toNatClampNeg) 16 = true then if sk_bi s1 4 = true then (q_X9_leave_109 (sk_wi d 86 0 s1.toNatClampNeg ((s2 + (d.1 70 0 s4.toNatClampNeg)) + (d.1 61 0 (d.1 87 0 v3.toNatClampNeg).toNatClampNeg))) v3 v3 v3) else none else none else none else none
set_option maxRecDepth 100000 in
set_option maxHeartbeats 4000000 in
theorem t_X9_leave_84 {l : Launch} {d : sk_D} {v3 : Int32} {s1 : Int32} {s2 : Int32} {s4 : Int32} {res : sk_D} (hq : q_X9_leave_84 d v3 s1 s2 s4 = some res) :
    sk_G l (sk_rm 1 0 0) m_X9_leave sk_Ex0 (sk_Zm m_X9_leave none (sk_mm res)) 0 0 84 [some (.inr (.inr (some (44, 0)))), none, none, some (.inl v3), none] [.inl s4, .inr (.inr (some (70, 0))), .inl s2, .inl s1, .inr (.inr (some (86, 0)))] (sk_mm d) := by
  unfold q_X9_leave_84 at hq
  obtain ⟨hb1, hq⟩ := sk_ifn hq
  refine sm_iald 85 (sk_td o_X9_leave 58 rfl) rfl rfl sz_70 hb1 ?_
  refine sg_iadd 86 (sk_td o_X9_leave 59 rfl) rfl ?_
  refine sg_aload_n 87 (sk_td o_X9_leave 60 rfl) rfl rfl ?_
  refine sm_getR (61, 0) 90 (sk_td o_X9_leave 61 rfl) rfl kf_X9_68 rfl rfl sz_44 rfl ?_
  refine sg_aload_n 91 (sk_td o_X9_leave 62 rfl) rfl rfl ?_
  refine sm_getR (87, 0) 94 (sk_td o_X9_leave 63 rfl) rfl kf_X9_147 rfl rfl sz_44 rfl ?_
  refine sg_iload_n 95 (sk_td o_X9_leave 64 rfl) rfl rfl ?_
  obtain ⟨hb2, hq⟩ := sk_ifn hq
  refine sm_iald 96 (sk_td o_X9_leave 65 rfl) rfl rfl sz_87 hb2 ?_
  obtain ⟨hb3, hq⟩ := sk_ifn hq
  refine sm_iald 97 (sk_td o_X9_leave 66 rfl) rfl rfl sz_61 hb3 ?_
  refine sg_iadd 98 (sk_td o_X9_leave 67 rfl) rfl ?_
  obtain ⟨hb4, hq⟩ := sk_ifn hq
  refine sm_iast 99 (sk_td o_X9_leave 68 rfl) rfl rfl sz_86 hb4 ?_
  refine sg_aload_n 100 (sk_td o_X9_leave 69 rfl) rfl rfl ?_
  refine sm_getR (87, 0) 103 (sk_td o_X9_leave 70 rfl) rfl kf_X9_147 rfl rfl sz_44 rfl ?_
  refine sg_iload_n 104 (sk_td o_X9_leave 71 rfl) rfl rfl ?_
  refine sg_aload_n 105 (sk_td o_X9_leave 72 rfl) rfl rfl ?_
  refine sm_getR (87, 0) 108 (sk_td o_X9_leave 73 rfl) rfl kf_X9_147 rfl rfl sz_44 rfl ?_
  refine sg_iload_n 109 (sk_td o_X9_leave 74 rfl) rfl rfl ?_
  exact t_X9_leave_109 hq
def q_X9_leave_69 (d : sk_D) (v1 : Int32) (v2 : Int32) (v3 : Int32) (s1 : Int32) (s3 : Int32) : Option (sk_D) :=
  if sk_bi s3 4 = true then if sk_bi s1 4 = true then (q_X9_leave_84 (sk_wi d 91 0 s1.toNatClampNeg ((d.1 91 0 s3.toNatClampNeg) + (1 : Int32))) v3 v3 v2 v1) else none else none
set_option maxRecDepth 100000 in
set_option maxHeartbeats 4000000 in
theorem t_X9_leave_69 {l : Launch} {d : sk_D} {v1 : Int32} {v2 : Int32} {v3 : Int32} {s1 : Int32} {s3 : Int32} {res : sk_D} (hq : q_X9_leave_69 d v1 v2 v3 s1 s3 = some res) :
    sk_G l (sk_rm 1 0 0) m_X9_leave sk_Ex0 (sk_Zm m_X9_leave none (sk_mm res)) 0 0 69 [some (.inr (.inr (some (44, 0)))), some (.inl v1), some (.inl v2), some (.inl v3), none] [.inl s3, .inr (.inr (some (91, 0))), .inl s1, .inr (.inr (some (91, 0)))] (sk_mm d) := by
  unfold q_X9_leave_69 at hq
  obtain ⟨hb1, hq⟩ := sk_ifn hq
  refine sm_iald 70 (sk_td o_X9_leave 47 rfl) rfl rfl sz_91 hb1 ?_
  refine sg_iconst (v := (1 : Int32)) 71 (sk_td o_X9_leave 48 rfl) rfl (by decide) ?_
  refine sg_iadd 72 (sk_td o_X9_leave 49 rfl) rfl ?_
  obtain ⟨hb2, hq⟩ := sk_ifn hq
  refine sm_iast 73 (sk_td o_X9_leave 50 rfl) rfl rfl sz_91 hb2 ?_
  refine sg_aload_n 74 (sk_td o_X9_leave 51 rfl) rfl rfl ?_
  refine sm_getR (86, 0) 77 (sk_td o_X9_leave 52 rfl) rfl kf_X9_144 rfl rfl sz_44 rfl ?_
  refine sg_iload_n 78 (sk_td o_X9_leave 53 rfl) rfl rfl ?_
  refine sg_iload_n 79 (sk_td o_X9_leave 54 rfl) rfl rfl ?_
  refine sg_aload_n 80 (sk_td o_X9_leave 55 rfl) rfl rfl ?_
  refine sm_getR (70, 0) 83 (sk_td o_X9_leave 56 rfl) rfl kf_X9_95 rfl rfl sz_44 rfl ?_
  refine sg_iload_n 84 (sk_td o_X9_leave 57 rfl) rfl rfl ?_
  refine sk_wk [true, false, false, true, true] (ls' := [some (.inr (.inr (some (44, 0)))), none, none, some (.inl v3), none]) rfl ?_
  exact t_X9_leave_84 hq
def q_X9_leave_12 (rec12 : (sk_D × Int32 × Int32 × Int32 × Int32) → Option (sk_D)) (d : sk_D) (v1 : Int32) (v2 : Int32) (v3 : Int32) (v4 : Int32) : Option (sk_D) :=
  if sk_bi v1 3 = true then if (d.1 89 0 v1.toNatClampNeg) ≤ v4 then if sk_bi v1 3 = true then if sk_bi v1 3 = true then (q_X9_leave_69 (sk_wi d 89 0 v1.toNatClampNeg ((d.1 89 0 v1.toNatClampNeg) - (1 : Int32))) v1 v2 v3 v3 v3) else none else none else if sk_bi (((4 : Int32) * v1) + v4) 12 = true then if sk_bi ((((4 : Int32) * v1) + v4) - (1 : Int32)) 12 = true then (rec12 ((sk_wi d 88 0 ((((4 : Int32) * v1) + v4) - (1 : Int32)).toNatClampNeg (d.1 88 0 (((4 : Int32) * v1) + v4).toNatClampNeg)), v1, v2, v3, (v4 + (1 : Int32)))) else none else none else none
set_option maxRecDepth 100000 in
set_option maxHeartbeats 4000000 in
theorem t_X9_leave_12 {l : Launch} {rec12 : (sk_D × Int32 × Int32 × Int32 × Int32) → Option (sk_D)} {d : sk_D} {v1 : Int32} {v2 : Int32} {v3 : Int32} {v4 : Int32} (hrec12 : ∀ (a : (sk_D × Int32 × Int32 × Int32 × Int32)) (res : sk_D), rec12 a = some res → sk_G l (sk_rm 1 0 0) m_X9_leave sk_Ex0 (sk_Zm m_X9_leave none (sk_mm res)) 0 0 12 [some (.inr (.inr (some (44, 0)))), some (.inl a.2.1), some (.inl a.2.2.1), some (.inl a.2.2.2.1), some (.inl a.2.2.2.2)] [] (sk_mm a.1)) {res : sk_D} (hq : q_X9_leave_12 rec12 d v1 v2 v3 v4 = some res) :
    sk_G l (sk_rm 1 0 0) m_X9_leave sk_Ex0 (sk_Zm m_X9_leave none (sk_mm res)) 0 0 12 [some (.inr (.inr (some (44, 0)))), some (.inl v1), some (.inl v2), some (.inl v3), some (.inl v4)] [] (sk_mm d) := by
  unfold q_X9_leave_12 at hq
  refine sg_iload 14 (sk_td o_X9_leave 9 rfl) rfl rfl ?_
  refine sg_aload_n 15 (sk_td o_X9_leave 10 rfl) rfl rfl ?_
  refine sm_getR (89, 0) 18 (sk_td o_X9_leave 11 rfl) rfl kf_X9_153 rfl rfl sz_44 rfl ?_
  refine sg_iload_n 19 (sk_td o_X9_leave 12 rfl) rfl rfl ?_
  obtain ⟨hb1, hq⟩ := sk_ifn hq
  refine sm_iald 20 (sk_td o_X9_leave 13 rfl) rfl rfl sz_89 hb1 ?_
  refine sg_ic_ge 53 23 (sk_td o_X9_leave 14 rfl) (by decide) rfl (fun hc => ?_) (fun hc => ?_)
  · rw [if_pos hc] at hq
    refine sg_aload_n 54 (sk_td o_X9_leave 35 rfl) rfl rfl ?_
    refine sm_getR (89, 0) 57 (sk_td o_X9_leave 36 rfl) rfl kf_X9_153 rfl rfl sz_44 rfl ?_
    refine sg_iload_n 58 (sk_td o_X9_leave 37 rfl) rfl rfl ?_
    refine sg_dup2 59 (sk_td o_X9_leave 38 rfl) rfl ?_
    obtain ⟨hb2, hq⟩ := sk_ifn hq
    refine sm_iald 60 (sk_td o_X9_leave 39 rfl) rfl rfl sz_89 hb2 ?_
    refine sg_iconst (v := (1 : Int32)) 61 (sk_td o_X9_leave 40 rfl) rfl (by decide) ?_
    refine sg_isub 62 (sk_td o_X9_leave 41 rfl) rfl ?_
    obtain ⟨hb3, hq⟩ := sk_ifn hq
    refine sm_iast 63 (sk_td o_X9_leave 42 rfl) rfl rfl sz_89 hb3 ?_
    refine sg_aload_n 64 (sk_td o_X9_leave 43 rfl) rfl rfl ?_
    refine sm_getR (91, 0) 67 (sk_td o_X9_leave 44 rfl) rfl kf_X9_159 rfl rfl sz_44 rfl ?_
    refine sg_iload_n 68 (sk_td o_X9_leave 45 rfl) rfl rfl ?_
    refine sg_dup2 69 (sk_td o_X9_leave 46 rfl) rfl ?_
    refine sk_wk [true, true, true, true, false] (ls' := [some (.inr (.inr (some (44, 0)))), some (.inl v1), some (.inl v2), some (.inl v3), none]) rfl ?_
    exact t_X9_leave_69 hq
  · rw [if_neg hc] at hq
    refine sg_aload_n 24 (sk_td o_X9_leave 15 rfl) rfl rfl ?_
    refine sm_getR (88, 0) 27 (sk_td o_X9_leave 16 rfl) rfl kf_X9_150 rfl rfl sz_44 rfl ?_
    refine sg_iconst (v := (4 : Int32)) 28 (sk_td o_X9_leave 17 rfl) rfl (by decide) ?_
    refine sg_iload_n 29 (sk_td o_X9_leave 18 rfl) rfl rfl ?_
    refine sg_imul 30 (sk_td o_X9_leave 19 rfl) rfl ?_
    refine sg_iload 32 (sk_td o_X9_leave 20 rfl) rfl rfl ?_
    refine sg_iadd 33 (sk_td o_X9_leave 21 rfl) rfl ?_
    refine sg_iconst (v := (1 : Int32)) 34 (sk_td o_X9_leave 22 rfl) rfl (by decide) ?_
    refine sg_isub 35 (sk_td o_X9_leave 23 rfl) rfl ?_
    refine sg_aload_n 36 (sk_td o_X9_leave 24 rfl) rfl rfl ?_
    refine sm_getR (88, 0) 39 (sk_td o_X9_leave 25 rfl) rfl kf_X9_150 rfl rfl sz_44 rfl ?_
    refine sg_iconst (v := (4 : Int32)) 40 (sk_td o_X9_leave 26 rfl) rfl (by decide) ?_
    refine sg_iload_n 41 (sk_td o_X9_leave 27 rfl) rfl rfl ?_
    refine sg_imul 42 (sk_td o_X9_leave 28 rfl) rfl ?_
    refine sg_iload 44 (sk_td o_X9_leave 29 rfl) rfl rfl ?_
    refine sg_iadd 45 (sk_td o_X9_leave 30 rfl) rfl ?_
    obtain ⟨hb4, hq⟩ := sk_ifn hq
    refine sm_iald 46 (sk_td o_X9_leave 31 rfl) rfl rfl sz_88 hb4 ?_
    obtain ⟨hb5, hq⟩ := sk_ifn hq
    refine sm_iast 47 (sk_td o_X9_leave 32 rfl) rfl rfl sz_88 hb5 ?_
    refine sg_iinc (v4 + (1 : Int32)) 50 [some (.inr (.inr (some (44, 0)))), some (.inl v1), some (.inl v2), some (.inl v3), some (.inl (v4 + (1 : Int32)))] (sk_td o_X9_leave 33 rfl) rfl rfl rfl rfl (Nat.le_of_ble_eq_true rfl) rfl ?_
    refine sg_goto 12 (sk_td o_X9_leave 34 rfl) (by decide) ?_
    exact hrec12 ((sk_wi d 88 0 ((((4 : Int32) * v1) + v4) - (1 : Int32)).toNatClampNeg (d.1 88 0 (((4 : Int32) * v1) + v4).toNatClampNeg)), v1, v2, v3, (v4 + (1 : Int32))) _ hq
def l_X9_leave_12 (fl : Nat) (a : (sk_D × Int32 × Int32 × Int32 × Int32)) : Option (sk_D) := sk_it (fun rec12 a => q_X9_leave_12 rec12 a.1 a.2.1 a.2.2.1 a.2.2.2.1 a.2.2.2.2) fl a
theorem lt_X9_leave_12 {l : Launch} : ∀ (fl : Nat) (a : (sk_D × Int32 × Int32 × Int32 × Int32)) (res : sk_D), l_X9_leave_12 fl a = some res → sk_G l (sk_rm 1 0 0) m_X9_leave sk_Ex0 (sk_Zm m_X9_leave none (sk_mm res)) 0 0 12 [some (.inr (.inr (some (44, 0)))), some (.inl a.2.1), some (.inl a.2.2.1), some (.inl a.2.2.2.1), some (.inl a.2.2.2.2)] [] (sk_mm a.1) :=
  sk_it_ind (P := fun (a : (sk_D × Int32 × Int32 × Int32 × Int32)) (res : sk_D) => sk_G l (sk_rm 1 0 0) m_X9_leave sk_Ex0 (sk_Zm m_X9_leave none (sk_mm res)) 0 0 12 [some (.inr (.inr (some (44, 0)))), some (.inl a.2.1), some (.inl a.2.2.1), some (.inl a.2.2.2.1), some (.inl a.2.2.2.2)] [] (sk_mm a.1)) (fun rec12 hrec12 a res hq  => t_X9_leave_12 hrec12 hq )
def q_X9_leave_0 (d : sk_D) (v1 : Int32) (v2 : Int32) : Option (sk_D) :=
  if sk_bi ((4 : Int32) * v1) 12 = true then (l_X9_leave_12 sk_fu (d, v1, v2, (d.1 88 0 ((4 : Int32) * v1).toNatClampNeg), (1 : Int32))) else none
set_option maxRecDepth 100000 in
set_option maxHeartbeats 4000000 in
theorem t_X9_leave_0 {l : Launch} {d : sk_D} {v1 : Int32} {v2 : Int32} {res : sk_D} (hq : q_X9_leave_0 d v1 v2 = some res) :
    sk_G l (sk_rm 1 0 0) m_X9_leave sk_Ex0 (sk_Zm m_X9_leave none (sk_mm res)) 0 0 0 [some (.inr (.inr (some (44, 0)))), some (.inl v1), some (.inl v2), none, none] [] (sk_mm d) := by
  unfold q_X9_leave_0 at hq
  refine sg_aload_n 1 (sk_td o_X9_leave 0 rfl) rfl rfl ?_
  refine sm_getR (88, 0) 4 (sk_td o_X9_leave 1 rfl) rfl kf_X9_150 rfl rfl sz_44 rfl ?_
  refine sg_iconst (v := (4 : Int32)) 5 (sk_td o_X9_leave 2 rfl) rfl (by decide) ?_
  refine sg_iload_n 6 (sk_td o_X9_leave 3 rfl) rfl rfl ?_
  refine sg_imul 7 (sk_td o_X9_leave 4 rfl) rfl ?_
  obtain ⟨hb1, hq⟩ := sk_ifn hq
  refine sm_iald 8 (sk_td o_X9_leave 5 rfl) rfl rfl sz_88 hb1 ?_
  refine sg_istore_n 9 [some (.inr (.inr (some (44, 0)))), some (.inl v1), some (.inl v2), some (.inl (d.1 88 0 ((4 : Int32) * v1).toNatClampNeg)), none] (sk_td o_X9_leave 6 rfl) rfl rfl (Nat.le_of_ble_eq_true rfl) rfl ?_
  refine sg_iconst (v := (1 : Int32)) 10 (sk_td o_X9_leave 7 rfl) rfl (by decide) ?_
  refine sg_istore 12 [some (.inr (.inr (some (44, 0)))), some (.inl v1), some (.inl v2), some (.inl (d.1 88 0 ((4 : Int32) * v1).toNatClampNeg)), some (.inl (1 : Int32))] (sk_td o_X9_leave 8 rfl) rfl rfl (Nat.le_of_ble_eq_true rfl) rfl ?_
  exact lt_X9_leave_12 sk_fu (d, v1, v2, (d.1 88 0 ((4 : Int32) * v1).toNatClampNeg), (1 : Int32)) _ hq
def q_X9_leave (d : sk_D) (v1 : Int32) (v2 : Int32) : Option (sk_D) := q_X9_leave_0 d v1 v2 
theorem s_X9_leave {l : Launch} {d : sk_D} {v1 : Int32} {v2 : Int32} {res : sk_D} (hq : q_X9_leave d v1 v2 = some res) : sk_M l 1 m_X9_leave [.inr (.inr (some (44, 0))), .inl v1, .inl v2] (sk_mm d) none (sk_mm res) :=
  sk_enter (by decide) (fun _ => Nat.le_of_ble_eq_true rfl) (Nat.le_of_ble_eq_true rfl) (t_X9_leave_0 hq )
