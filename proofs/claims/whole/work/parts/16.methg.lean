/-! decompiled: X9_size X9_instructor X9_power X9_planGroups X9_addOut X9_findUnits X9_mayGet X9_worthOf X9_plan X9_assign X9_placedMany X9_placed X9_outMany X9_outOfLevel X9_extraPlaced X9_splitGain X9_hasInstructor X9_instructorMany X9_hire -/
def q_X9_size_0 (d : sk_D) (v1 : Int32) : Option (Int32) :=
  (q_X9_hasGroup d v1).bind fun x1 => if x1 = 0 then some (-1 : Int32) else (q_X9_sizeOf d v1).bind fun x2 => some x2
set_option maxRecDepth 100000 in
set_option maxHeartbeats 4000000 in
theorem t_X9_size_0 {l : Launch} {d : sk_D} {v1 : Int32} {res : Int32} (hq : q_X9_size_0 d v1 = some res) :
    sk_G l (sk_rm 3 0 0) m_X9_size sk_Ex0 (sk_Zm m_X9_size (some (.inl res)) (sk_mm d)) 0 0 0 [some (.inr (.inr (some (44, 0)))), some (.inl v1)] [] (sk_mm d) := by
  unfold q_X9_size_0 at hq
  refine sg_aload_n 1 (sk_td o_X9_size 0 rfl) rfl rfl ?_
  refine sg_iload_n 2 (sk_td o_X9_size 1 rfl) rfl rfl ?_
  obtain ⟨x1, hr_x1, hq⟩ := sk_bnd hq
  refine sm_callV1i 5 (s_X9_hasGroup hr_x1) (sk_td o_X9_size 2 rfl) rfl lv_X9_227 rfl rfl rfl sz_44 (sk_rok (Nat.le_of_ble_eq_true rfl) (Nat.le_of_ble_eq_true rfl) rfl rfl) (Nat.le_of_ble_eq_true rfl) ?_
  refine sg_if_eq 16 8 (sk_td o_X9_size 3 rfl) (by decide) rfl (fun hc => ?_) (fun hc => ?_)
  · rw [if_pos hc] at hq
    refine sg_iconst (v := (-1 : Int32)) 17 (sk_td o_X9_size 8 rfl) rfl (by decide) ?_
    obtain rfl := Option.some.inj hq
    exact sg_iret (sk_td o_X9_size 9 rfl) rfl rfl
  · rw [if_neg hc] at hq
    refine sg_aload_n 9 (sk_td o_X9_size 4 rfl) rfl rfl ?_
    refine sg_iload_n 10 (sk_td o_X9_size 5 rfl) rfl rfl ?_
    obtain ⟨x2, hr_x2, hq⟩ := sk_bnd hq
    refine sm_callV1i 13 (s_X9_sizeOf hr_x2) (sk_td o_X9_size 6 rfl) rfl lv_X9_224 rfl rfl rfl sz_44 (sk_rok (Nat.le_of_ble_eq_true rfl) (Nat.le_of_ble_eq_true rfl) rfl rfl) (Nat.le_of_ble_eq_true rfl) ?_
    refine sg_goto 17 (sk_td o_X9_size 7 rfl) (by decide) ?_
    obtain rfl := Option.some.inj hq
    exact sg_iret (sk_td o_X9_size 9 rfl) rfl rfl
def q_X9_size (d : sk_D) (v1 : Int32) : Option (Int32) := q_X9_size_0 d v1 
theorem s_X9_size {l : Launch} {d : sk_D} {v1 : Int32} {res : Int32} (hq : q_X9_size d v1 = some res) : sk_M l 3 m_X9_size [.inr (.inr (some (44, 0))), .inl v1] (sk_mm d) (some (.inl res)) (sk_mm d) :=
  sk_enter (by decide) (fun _ => Nat.le_of_ble_eq_true rfl) (Nat.le_of_ble_eq_true rfl) (t_X9_size_0 hq )
def q_X9_instructor_0 (d : sk_D) (v1 : Int32) : Option (Int32) :=
  (q_X9_hasGroup d v1).bind fun x1 => if x1 = 0 then some (-1 : Int32) else if sk_bi v1 4 = true then some (d.1 57 0 v1.toNatClampNeg) else none
set_option maxRecDepth 100000 in
set_option maxHeartbeats 4000000 in
theorem t_X9_instructor_0 {l : Launch} {d : sk_D} {v1 : Int32} {res : Int32} (hq : q_X9_instructor_0 d v1 = some res) :
    sk_G l (sk_rm 3 0 0) m_X9_instructor sk_Ex0 (sk_Zm m_X9_instructor (some (.inl res)) (sk_mm d)) 0 0 0 [some (.inr (.inr (some (44, 0)))), some (.inl v1)] [] (sk_mm d) := by
  unfold q_X9_instructor_0 at hq
  refine sg_aload_n 1 (sk_td o_X9_instructor 0 rfl) rfl rfl ?_
  refine sg_iload_n 2 (sk_td o_X9_instructor 1 rfl) rfl rfl ?_
  obtain ⟨x1, hr_x1, hq⟩ := sk_bnd hq
  refine sm_callV1i 5 (s_X9_hasGroup hr_x1) (sk_td o_X9_instructor 2 rfl) rfl lv_X9_227 rfl rfl rfl sz_44 (sk_rok (Nat.le_of_ble_eq_true rfl) (Nat.le_of_ble_eq_true rfl) rfl rfl) (Nat.le_of_ble_eq_true rfl) ?_
  refine sg_if_eq 17 8 (sk_td o_X9_instructor 3 rfl) (by decide) rfl (fun hc => ?_) (fun hc => ?_)
  · rw [if_pos hc] at hq
    refine sg_iconst (v := (-1 : Int32)) 18 (sk_td o_X9_instructor 9 rfl) rfl (by decide) ?_
    obtain rfl := Option.some.inj hq
    exact sg_iret (sk_td o_X9_instructor 10 rfl) rfl rfl
  · rw [if_neg hc] at hq
    refine sg_aload_n 9 (sk_td o_X9_instructor 4 rfl) rfl rfl ?_
    refine sm_getR (57, 0) 12 (sk_td o_X9_instructor 5 rfl) rfl kf_X9_56 rfl rfl sz_44 rfl ?_
    refine sg_iload_n 13 (sk_td o_X9_instructor 6 rfl) rfl rfl ?_
    obtain ⟨hb2, hq⟩ := sk_ifn hq
    refine sm_iald 14 (sk_td o_X9_instructor 7 rfl) rfl rfl sz_57 hb2 ?_
    refine sg_goto 18 (sk_td o_X9_instructor 8 rfl) (by decide) ?_
    obtain rfl := Option.some.inj hq
    exact sg_iret (sk_td o_X9_instructor 10 rfl) rfl rfl
def q_X9_instructor (d : sk_D) (v1 : Int32) : Option (Int32) := q_X9_instructor_0 d v1 
theorem s_X9_instructor {l : Launch} {d : sk_D} {v1 : Int32} {res : Int32} (hq : q_X9_instructor d v1 = some res) : sk_M l 3 m_X9_instructor [.inr (.inr (some (44, 0))), .inl v1] (sk_mm d) (some (.inl res)) (sk_mm d) :=
  sk_enter (by decide) (fun _ => Nat.le_of_ble_eq_true rfl) (Nat.le_of_ble_eq_true rfl) (t_X9_instructor_0 hq )
def q_X9_power_0 (d : sk_D) (v0 : Int32) : Option (Int32) :=
  if v0 = 0 then some (1 : Int32) else if v0 = (1 : Int32) then some (7 : Int32) else if v0 = (2 : Int32) then some (49 : Int32) else some (343 : Int32)
set_option maxRecDepth 100000 in
set_option maxHeartbeats 4000000 in
theorem t_X9_power_0 {l : Launch} {d : sk_D} {v0 : Int32} {res : Int32} (hq : q_X9_power_0 d v0 = some res) :
    sk_G l (sk_rm 1 0 0) m_X9_power sk_Ex0 (sk_Zm m_X9_power (some (.inl res)) (sk_mm d)) 0 0 0 [some (.inl v0)] [] (sk_mm d) := by
  unfold q_X9_power_0 at hq
  refine sg_iload_n 1 (sk_td o_X9_power 0 rfl) rfl rfl ?_
  refine sg_if_ne 8 4 (sk_td o_X9_power 1 rfl) (by decide) rfl (fun hc => ?_) (fun hc => ?_)
  · rw [if_neg hc] at hq
    refine sg_iload_n 9 (sk_td o_X9_power 4 rfl) rfl rfl ?_
    refine sg_iconst (v := (1 : Int32)) 10 (sk_td o_X9_power 5 rfl) rfl (by decide) ?_
    refine sg_ic_ne 18 13 (sk_td o_X9_power 6 rfl) (by decide) rfl (fun hc => ?_) (fun hc => ?_)
    · rw [if_neg hc] at hq
      refine sg_iload_n 19 (sk_td o_X9_power 9 rfl) rfl rfl ?_
      refine sg_iconst (v := (2 : Int32)) 20 (sk_td o_X9_power 10 rfl) rfl (by decide) ?_
      refine sg_ic_ne 28 23 (sk_td o_X9_power 11 rfl) (by decide) rfl (fun hc => ?_) (fun hc => ?_)
      · rw [if_neg hc] at hq
        refine sg_sipush (v := (343 : Int32)) 31 (sk_td o_X9_power 14 rfl) rfl (by decide) ?_
        obtain rfl := Option.some.inj hq
        exact sg_iret (sk_td o_X9_power 15 rfl) rfl rfl
      · rw [if_pos hc] at hq
        refine sg_bipush (v := (49 : Int32)) 25 (sk_td o_X9_power 12 rfl) rfl (by decide) ?_
        refine sg_goto 31 (sk_td o_X9_power 13 rfl) (by decide) ?_
        obtain rfl := Option.some.inj hq
        exact sg_iret (sk_td o_X9_power 15 rfl) rfl rfl
    · rw [if_pos hc] at hq
      refine sg_bipush (v := (7 : Int32)) 15 (sk_td o_X9_power 7 rfl) rfl (by decide) ?_
      refine sg_goto 31 (sk_td o_X9_power 8 rfl) (by decide) ?_
      obtain rfl := Option.some.inj hq
      exact sg_iret (sk_td o_X9_power 15 rfl) rfl rfl
  · rw [if_pos hc] at hq
    refine sg_iconst (v := (1 : Int32)) 5 (sk_td o_X9_power 2 rfl) rfl (by decide) ?_
    refine sg_goto 31 (sk_td o_X9_power 3 rfl) (by decide) ?_
    obtain rfl := Option.some.inj hq
    exact sg_iret (sk_td o_X9_power 15 rfl) rfl rfl
def q_X9_power (d : sk_D) (v0 : Int32) : Option (Int32) := q_X9_power_0 d v0 
theorem s_X9_power {l : Launch} {d : sk_D} {v0 : Int32} {res : Int32} (hq : q_X9_power d v0 = some res) : sk_M l 1 m_X9_power [.inl v0] (sk_mm d) (some (.inl res)) (sk_mm d) :=
  sk_enter (by decide) (fun _ => Nat.le_of_ble_eq_true rfl) (Nat.le_of_ble_eq_true rfl) (t_X9_power_0 hq )
def q_X9_planGroups_56 (rec2 : (sk_D × Int32) → Option (sk_D)) (d : sk_D) (v1 : Int32) (s1 : Int32) (s2 : Int32) : Option (sk_D) :=
  if sk_bi s1 4 = true then (rec2 ((sk_wi d 82 0 s1.toNatClampNeg s2), (v1 + (1 : Int32)))) else none
set_option maxRecDepth 100000 in
set_option maxHeartbeats 4000000 in
theorem t_X9_planGroups_56 {l : Launch} {rec2 : (sk_D × Int32) → Option (sk_D)} {d : sk_D} {v1 : Int32} {s1 : Int32} {s2 : Int32} (hrec2 : ∀ (a : (sk_D × Int32)) (res : sk_D), rec2 a = some res → sk_G l (sk_rm 1 0 0) m_X9_planGroups sk_Ex0 (sk_Zm m_X9_planGroups none (sk_mm res)) 0 0 2 [some (.inr (.inr (some (44, 0)))), some (.inl a.2)] [] (sk_mm a.1)) {res : sk_D} (hq : q_X9_planGroups_56 rec2 d v1 s1 s2 = some res) :
    sk_G l (sk_rm 1 0 0) m_X9_planGroups sk_Ex0 (sk_Zm m_X9_planGroups none (sk_mm res)) 0 0 56 [some (.inr (.inr (some (44, 0)))), some (.inl v1)] [.inl s2, .inl s1, .inr (.inr (some (82, 0)))] (sk_mm d) := by
  unfold q_X9_planGroups_56 at hq
  obtain ⟨hb1, hq⟩ := sk_ifn hq
  refine sm_iast 57 (sk_td o_X9_planGroups 36 rfl) rfl rfl sz_82 hb1 ?_
  refine sg_iinc (v1 + (1 : Int32)) 60 [some (.inr (.inr (some (44, 0)))), some (.inl (v1 + (1 : Int32)))] (sk_td o_X9_planGroups 37 rfl) rfl rfl rfl rfl (Nat.le_of_ble_eq_true rfl) rfl ?_
  refine sg_goto 2 (sk_td o_X9_planGroups 38 rfl) (by decide) ?_
  exact hrec2 ((sk_wi d 82 0 s1.toNatClampNeg s2), (v1 + (1 : Int32))) _ hq
def q_X9_planGroups_41 (rec2 : (sk_D × Int32) → Option (sk_D)) (d : sk_D) (v1 : Int32) (s1 : Int32) (s3 : Int32) : Option (sk_D) :=
  if sk_bi s3 4 = true then if (d.1 53 0 s3.toNatClampNeg) = (1 : Int32) then if sk_bi v1 4 = true then (q_X9_planGroups_56 rec2 d v1 s1 (d.1 56 0 v1.toNatClampNeg)) else none else (q_X9_planGroups_56 rec2 d v1 s1 (0 : Int32)) else none
set_option maxRecDepth 100000 in
set_option maxHeartbeats 4000000 in
theorem t_X9_planGroups_41 {l : Launch} {rec2 : (sk_D × Int32) → Option (sk_D)} {d : sk_D} {v1 : Int32} {s1 : Int32} {s3 : Int32} (hrec2 : ∀ (a : (sk_D × Int32)) (res : sk_D), rec2 a = some res → sk_G l (sk_rm 1 0 0) m_X9_planGroups sk_Ex0 (sk_Zm m_X9_planGroups none (sk_mm res)) 0 0 2 [some (.inr (.inr (some (44, 0)))), some (.inl a.2)] [] (sk_mm a.1)) {res : sk_D} (hq : q_X9_planGroups_41 rec2 d v1 s1 s3 = some res) :
    sk_G l (sk_rm 1 0 0) m_X9_planGroups sk_Ex0 (sk_Zm m_X9_planGroups none (sk_mm res)) 0 0 41 [some (.inr (.inr (some (44, 0)))), some (.inl v1)] [.inl s3, .inr (.inr (some (53, 0))), .inl s1, .inr (.inr (some (82, 0)))] (sk_mm d) := by
  unfold q_X9_planGroups_41 at hq
  obtain ⟨hb1, hq⟩ := sk_ifn hq
  refine sm_iald 42 (sk_td o_X9_planGroups 27 rfl) rfl rfl sz_53 hb1 ?_
  refine sg_iconst (v := (1 : Int32)) 43 (sk_td o_X9_planGroups 28 rfl) rfl (by decide) ?_
  refine sg_ic_ne 55 46 (sk_td o_X9_planGroups 29 rfl) (by decide) rfl (fun hc => ?_) (fun hc => ?_)
  · rw [if_neg hc] at hq
    refine sg_iconst (v := (0 : Int32)) 56 (sk_td o_X9_planGroups 35 rfl) rfl (by decide) ?_
    exact t_X9_planGroups_56 hrec2 hq
  · rw [if_pos hc] at hq
    refine sg_aload_n 47 (sk_td o_X9_planGroups 30 rfl) rfl rfl ?_
    refine sm_getR (56, 0) 50 (sk_td o_X9_planGroups 31 rfl) rfl kf_X9_53 rfl rfl sz_44 rfl ?_
    refine sg_iload_n 51 (sk_td o_X9_planGroups 32 rfl) rfl rfl ?_
    obtain ⟨hb2, hq⟩ := sk_ifn hq
    refine sm_iald 52 (sk_td o_X9_planGroups 33 rfl) rfl rfl sz_56 hb2 ?_
    refine sg_goto 56 (sk_td o_X9_planGroups 34 rfl) (by decide) ?_
    exact t_X9_planGroups_56 hrec2 hq
def q_X9_planGroups_29 (rec2 : (sk_D × Int32) → Option (sk_D)) (d : sk_D) (v1 : Int32) (s1 : Int32) (s3 : Int32) : Option (sk_D) :=
  if sk_bi s3 4 = true then if sk_bi s1 4 = true then (q_X9_planGroups_41 rec2 (sk_wi d 81 0 s1.toNatClampNeg (d.1 55 0 s3.toNatClampNeg)) v1 v1 v1) else none else none
set_option maxRecDepth 100000 in
set_option maxHeartbeats 4000000 in
theorem t_X9_planGroups_29 {l : Launch} {rec2 : (sk_D × Int32) → Option (sk_D)} {d : sk_D} {v1 : Int32} {s1 : Int32} {s3 : Int32} (hrec2 : ∀ (a : (sk_D × Int32)) (res : sk_D), rec2 a = some res → sk_G l (sk_rm 1 0 0) m_X9_planGroups sk_Ex0 (sk_Zm m_X9_planGroups none (sk_mm res)) 0 0 2 [some (.inr (.inr (some (44, 0)))), some (.inl a.2)] [] (sk_mm a.1)) {res : sk_D} (hq : q_X9_planGroups_29 rec2 d v1 s1 s3 = some res) :
    sk_G l (sk_rm 1 0 0) m_X9_planGroups sk_Ex0 (sk_Zm m_X9_planGroups none (sk_mm res)) 0 0 29 [some (.inr (.inr (some (44, 0)))), some (.inl v1)] [.inl s3, .inr (.inr (some (55, 0))), .inl s1, .inr (.inr (some (81, 0)))] (sk_mm d) := by
  unfold q_X9_planGroups_29 at hq
  obtain ⟨hb1, hq⟩ := sk_ifn hq
  refine sm_iald 30 (sk_td o_X9_planGroups 19 rfl) rfl rfl sz_55 hb1 ?_
  obtain ⟨hb2, hq⟩ := sk_ifn hq
  refine sm_iast 31 (sk_td o_X9_planGroups 20 rfl) rfl rfl sz_81 hb2 ?_
  refine sg_aload_n 32 (sk_td o_X9_planGroups 21 rfl) rfl rfl ?_
  refine sm_getR (82, 0) 35 (sk_td o_X9_planGroups 22 rfl) rfl kf_X9_132 rfl rfl sz_44 rfl ?_
  refine sg_iload_n 36 (sk_td o_X9_planGroups 23 rfl) rfl rfl ?_
  refine sg_aload_n 37 (sk_td o_X9_planGroups 24 rfl) rfl rfl ?_
  refine sm_getR (53, 0) 40 (sk_td o_X9_planGroups 25 rfl) rfl kf_X9_44 rfl rfl sz_44 rfl ?_
  refine sg_iload_n 41 (sk_td o_X9_planGroups 26 rfl) rfl rfl ?_
  exact t_X9_planGroups_41 hrec2 hq
def q_X9_planGroups_2 (rec2 : (sk_D × Int32) → Option (sk_D)) (d : sk_D) (v1 : Int32) : Option (sk_D) :=
  if (4 : Int32) ≤ v1 then some d else if sk_bi v1 4 = true then if sk_bi v1 4 = true then (q_X9_planGroups_29 rec2 (sk_wi d 80 0 v1.toNatClampNeg (d.1 54 0 v1.toNatClampNeg)) v1 v1 v1) else none else none
set_option maxRecDepth 100000 in
set_option maxHeartbeats 4000000 in
theorem t_X9_planGroups_2 {l : Launch} {rec2 : (sk_D × Int32) → Option (sk_D)} {d : sk_D} {v1 : Int32} (hrec2 : ∀ (a : (sk_D × Int32)) (res : sk_D), rec2 a = some res → sk_G l (sk_rm 1 0 0) m_X9_planGroups sk_Ex0 (sk_Zm m_X9_planGroups none (sk_mm res)) 0 0 2 [some (.inr (.inr (some (44, 0)))), some (.inl a.2)] [] (sk_mm a.1)) {res : sk_D} (hq : q_X9_planGroups_2 rec2 d v1 = some res) :
    sk_G l (sk_rm 1 0 0) m_X9_planGroups sk_Ex0 (sk_Zm m_X9_planGroups none (sk_mm res)) 0 0 2 [some (.inr (.inr (some (44, 0)))), some (.inl v1)] [] (sk_mm d) := by
  unfold q_X9_planGroups_2 at hq
  refine sg_iload_n 3 (sk_td o_X9_planGroups 2 rfl) rfl rfl ?_
  refine sg_iconst (v := (4 : Int32)) 4 (sk_td o_X9_planGroups 3 rfl) rfl (by decide) ?_
  refine sg_ic_ge 63 7 (sk_td o_X9_planGroups 4 rfl) (by decide) rfl (fun hc => ?_) (fun hc => ?_)
  · rw [if_pos hc] at hq
    obtain rfl := Option.some.inj hq
    exact sg_vret (sk_td o_X9_planGroups 39 rfl) rfl
  · rw [if_neg hc] at hq
    refine sg_aload_n 8 (sk_td o_X9_planGroups 5 rfl) rfl rfl ?_
    refine sm_getR (80, 0) 11 (sk_td o_X9_planGroups 6 rfl) rfl kf_X9_126 rfl rfl sz_44 rfl ?_
    refine sg_iload_n 12 (sk_td o_X9_planGroups 7 rfl) rfl rfl ?_
    refine sg_aload_n 13 (sk_td o_X9_planGroups 8 rfl) rfl rfl ?_
    refine sm_getR (54, 0) 16 (sk_td o_X9_planGroups 9 rfl) rfl kf_X9_47 rfl rfl sz_44 rfl ?_
    refine sg_iload_n 17 (sk_td o_X9_planGroups 10 rfl) rfl rfl ?_
    obtain ⟨hb1, hq⟩ := sk_ifn hq
    refine sm_iald 18 (sk_td o_X9_planGroups 11 rfl) rfl rfl sz_54 hb1 ?_
    obtain ⟨hb2, hq⟩ := sk_ifn hq
    refine sm_iast 19 (sk_td o_X9_planGroups 12 rfl) rfl rfl sz_80 hb2 ?_
    refine sg_aload_n 20 (sk_td o_X9_planGroups 13 rfl) rfl rfl ?_
    refine sm_getR (81, 0) 23 (sk_td o_X9_planGroups 14 rfl) rfl kf_X9_129 rfl rfl sz_44 rfl ?_
    refine sg_iload_n 24 (sk_td o_X9_planGroups 15 rfl) rfl rfl ?_
    refine sg_aload_n 25 (sk_td o_X9_planGroups 16 rfl) rfl rfl ?_
    refine sm_getR (55, 0) 28 (sk_td o_X9_planGroups 17 rfl) rfl kf_X9_50 rfl rfl sz_44 rfl ?_
    refine sg_iload_n 29 (sk_td o_X9_planGroups 18 rfl) rfl rfl ?_
    exact t_X9_planGroups_29 hrec2 hq
def l_X9_planGroups_2 (fl : Nat) (a : (sk_D × Int32)) : Option (sk_D) := sk_it (fun rec2 a => q_X9_planGroups_2 rec2 a.1 a.2) fl a
theorem lt_X9_planGroups_2 {l : Launch} : ∀ (fl : Nat) (a : (sk_D × Int32)) (res : sk_D), l_X9_planGroups_2 fl a = some res → sk_G l (sk_rm 1 0 0) m_X9_planGroups sk_Ex0 (sk_Zm m_X9_planGroups none (sk_mm res)) 0 0 2 [some (.inr (.inr (some (44, 0)))), some (.inl a.2)] [] (sk_mm a.1) :=
  sk_it_ind (P := fun (a : (sk_D × Int32)) (res : sk_D) => sk_G l (sk_rm 1 0 0) m_X9_planGroups sk_Ex0 (sk_Zm m_X9_planGroups none (sk_mm res)) 0 0 2 [some (.inr (.inr (some (44, 0)))), some (.inl a.2)] [] (sk_mm a.1)) (fun rec2 hrec2 a res hq  => t_X9_planGroups_2 hrec2 hq )
def q_X9_planGroups_0 (d : sk_D) : Option (sk_D) :=
  (l_X9_planGroups_2 sk_fu (d, (0 : Int32)))
set_option maxRecDepth 100000 in
set_option maxHeartbeats 4000000 in
theorem t_X9_planGroups_0 {l : Launch} {d : sk_D} {res : sk_D} (hq : q_X9_planGroups_0 d = some res) :
    sk_G l (sk_rm 1 0 0) m_X9_planGroups sk_Ex0 (sk_Zm m_X9_planGroups none (sk_mm res)) 0 0 0 [some (.inr (.inr (some (44, 0)))), none] [] (sk_mm d) := by
  unfold q_X9_planGroups_0 at hq
  refine sg_iconst (v := (0 : Int32)) 1 (sk_td o_X9_planGroups 0 rfl) rfl (by decide) ?_
  refine sg_istore_n 2 [some (.inr (.inr (some (44, 0)))), some (.inl (0 : Int32))] (sk_td o_X9_planGroups 1 rfl) rfl rfl (Nat.le_of_ble_eq_true rfl) rfl ?_
  exact lt_X9_planGroups_2 sk_fu (d, (0 : Int32)) _ hq
def q_X9_planGroups (d : sk_D) : Option (sk_D) := q_X9_planGroups_0 d 
theorem s_X9_planGroups {l : Launch} {d : sk_D} {res : sk_D} (hq : q_X9_planGroups d = some res) : sk_M l 1 m_X9_planGroups [.inr (.inr (some (44, 0)))] (sk_mm d) none (sk_mm res) :=
  sk_enter (by decide) (fun _ => Nat.le_of_ble_eq_true rfl) (Nat.le_of_ble_eq_true rfl) (t_X9_planGroups_0 hq )
def q_X9_addOut_69 (d : sk_D) (s1 : Int32) (s2 : Int32) (s3 : Int32) : Option (sk_D) :=
  if sk_bi s1 80 = true then some (sk_wi d 78 0 s1.toNatClampNeg (s2 + s3)) else none
set_option maxRecDepth 100000 in
set_option maxHeartbeats 4000000 in
theorem t_X9_addOut_69 {l : Launch} {d : sk_D} {s1 : Int32} {s2 : Int32} {s3 : Int32} {res : sk_D} (hq : q_X9_addOut_69 d s1 s2 s3 = some res) :
    sk_G l (sk_rm 3 0 0) m_X9_addOut sk_Ex0 (sk_Zm m_X9_addOut none (sk_mm res)) 0 0 69 [none, none, none, none] [.inl s3, .inl s2, .inl s1, .inr (.inr (some (78, 0)))] (sk_mm d) := by
  unfold q_X9_addOut_69 at hq
  refine sg_iadd 70 (sk_td o_X9_addOut 41 rfl) rfl ?_
  obtain ⟨hb1, hq⟩ := sk_ifn hq
  refine sm_iast 71 (sk_td o_X9_addOut 42 rfl) rfl rfl sz_78 hb1 ?_
  obtain rfl := Option.some.inj hq
  exact sg_vret (sk_td o_X9_addOut 43 rfl) rfl
def q_X9_addOut_0 (d : sk_D) (v1 : Int32) (v2 : Int32) (v3 : Int32) : Option (sk_D) :=
  if sk_bi v3 4 = true then if sk_bi v3 4 = true then (q_X9_isFitting d v2 (d.1 80 0 v3.toNatClampNeg) (d.1 81 0 v3.toNatClampNeg)).bind fun x3 => if x3 = 0 then if sk_bi v1 80 = true then some (sk_wi d 78 0 v1.toNatClampNeg (-9 : Int32)) else none else if sk_bi v1 80 = true then if (d.1 78 0 v1.toNatClampNeg) = (-9 : Int32) then some d else if sk_bi v1 80 = true then if sk_bi v2 20 = true then if sk_bi v3 4 = true then if (d.1 46 0 v2.toNatClampNeg) = (d.1 80 0 v3.toNatClampNeg) then (q_X9_addOut_69 d v1 (d.1 78 0 v1.toNatClampNeg) (0 : Int32)) else (q_X9_addOut_69 d v1 (d.1 78 0 v1.toNatClampNeg) (1 : Int32)) else none else none else none else none else none else none
set_option maxRecDepth 100000 in
set_option maxHeartbeats 4000000 in
theorem t_X9_addOut_0 {l : Launch} {d : sk_D} {v1 : Int32} {v2 : Int32} {v3 : Int32} {res : sk_D} (hq : q_X9_addOut_0 d v1 v2 v3 = some res) :
    sk_G l (sk_rm 3 0 0) m_X9_addOut sk_Ex0 (sk_Zm m_X9_addOut none (sk_mm res)) 0 0 0 [some (.inr (.inr (some (44, 0)))), some (.inl v1), some (.inl v2), some (.inl v3)] [] (sk_mm d) := by
  unfold q_X9_addOut_0 at hq
  refine sg_aload_n 1 (sk_td o_X9_addOut 0 rfl) rfl rfl ?_
  refine sg_iload_n 2 (sk_td o_X9_addOut 1 rfl) rfl rfl ?_
  refine sg_aload_n 3 (sk_td o_X9_addOut 2 rfl) rfl rfl ?_
  refine sm_getR (80, 0) 6 (sk_td o_X9_addOut 3 rfl) rfl kf_X9_126 rfl rfl sz_44 rfl ?_
  refine sg_iload_n 7 (sk_td o_X9_addOut 4 rfl) rfl rfl ?_
  obtain ⟨hb1, hq⟩ := sk_ifn hq
  refine sm_iald 8 (sk_td o_X9_addOut 5 rfl) rfl rfl sz_80 hb1 ?_
  refine sg_aload_n 9 (sk_td o_X9_addOut 6 rfl) rfl rfl ?_
  refine sm_getR (81, 0) 12 (sk_td o_X9_addOut 7 rfl) rfl kf_X9_129 rfl rfl sz_44 rfl ?_
  refine sg_iload_n 13 (sk_td o_X9_addOut 8 rfl) rfl rfl ?_
  obtain ⟨hb2, hq⟩ := sk_ifn hq
  refine sm_iald 14 (sk_td o_X9_addOut 9 rfl) rfl rfl sz_81 hb2 ?_
  obtain ⟨x3, hr_x3, hq⟩ := sk_bnd hq
  refine sm_callV3i 17 (s_X9_isFitting hr_x3) (sk_td o_X9_addOut 10 rfl) rfl lv_X9_212 rfl rfl rfl sz_44 (sk_rok (Nat.le_of_ble_eq_true rfl) (Nat.le_of_ble_eq_true rfl) rfl rfl) (Nat.le_of_ble_eq_true rfl) ?_
  refine sg_if_ne 31 20 (sk_td o_X9_addOut 11 rfl) (by decide) rfl (fun hc => ?_) (fun hc => ?_)
  · rw [if_neg hc] at hq
    refine sg_aload_n 32 (sk_td o_X9_addOut 18 rfl) rfl rfl ?_
    refine sm_getR (78, 0) 35 (sk_td o_X9_addOut 19 rfl) rfl kf_X9_119 rfl rfl sz_44 rfl ?_
    refine sg_iload_n 36 (sk_td o_X9_addOut 20 rfl) rfl rfl ?_
    obtain ⟨hb4, hq⟩ := sk_ifn hq
    refine sm_iald 37 (sk_td o_X9_addOut 21 rfl) rfl rfl sz_78 hb4 ?_
    refine sg_bipush (v := (-9 : Int32)) 39 (sk_td o_X9_addOut 22 rfl) rfl (by decide) ?_
    refine sg_ic_eq 71 42 (sk_td o_X9_addOut 23 rfl) (by decide) rfl (fun hc => ?_) (fun hc => ?_)
    · rw [if_pos hc] at hq
      obtain rfl := Option.some.inj hq
      exact sg_vret (sk_td o_X9_addOut 43 rfl) rfl
    · rw [if_neg hc] at hq
      refine sg_aload_n 43 (sk_td o_X9_addOut 24 rfl) rfl rfl ?_
      refine sm_getR (78, 0) 46 (sk_td o_X9_addOut 25 rfl) rfl kf_X9_119 rfl rfl sz_44 rfl ?_
      refine sg_iload_n 47 (sk_td o_X9_addOut 26 rfl) rfl rfl ?_
      refine sg_dup2 48 (sk_td o_X9_addOut 27 rfl) rfl ?_
      obtain ⟨hb5, hq⟩ := sk_ifn hq
      refine sm_iald 49 (sk_td o_X9_addOut 28 rfl) rfl rfl sz_78 hb5 ?_
      refine sg_aload_n 50 (sk_td o_X9_addOut 29 rfl) rfl rfl ?_
      refine sm_getR (46, 0) 53 (sk_td o_X9_addOut 30 rfl) rfl kf_X9_23 rfl rfl sz_44 rfl ?_
      refine sg_iload_n 54 (sk_td o_X9_addOut 31 rfl) rfl rfl ?_
      obtain ⟨hb6, hq⟩ := sk_ifn hq
      refine sm_iald 55 (sk_td o_X9_addOut 32 rfl) rfl rfl sz_46 hb6 ?_
      refine sg_aload_n 56 (sk_td o_X9_addOut 33 rfl) rfl rfl ?_
      refine sm_getR (80, 0) 59 (sk_td o_X9_addOut 34 rfl) rfl kf_X9_126 rfl rfl sz_44 rfl ?_
      refine sg_iload_n 60 (sk_td o_X9_addOut 35 rfl) rfl rfl ?_
      obtain ⟨hb7, hq⟩ := sk_ifn hq
      refine sm_iald 61 (sk_td o_X9_addOut 36 rfl) rfl rfl sz_80 hb7 ?_
      refine sg_ic_ne 68 64 (sk_td o_X9_addOut 37 rfl) (by decide) rfl (fun hc => ?_) (fun hc => ?_)
      · rw [if_neg hc] at hq
        refine sg_iconst (v := (1 : Int32)) 69 (sk_td o_X9_addOut 40 rfl) rfl (by decide) ?_
        refine sk_wk [false, false, false, false] (ls' := [none, none, none, none]) rfl ?_
        exact t_X9_addOut_69 hq
      · rw [if_pos hc] at hq
        refine sg_iconst (v := (0 : Int32)) 65 (sk_td o_X9_addOut 38 rfl) rfl (by decide) ?_
        refine sg_goto 69 (sk_td o_X9_addOut 39 rfl) (by decide) ?_
        refine sk_wk [false, false, false, false] (ls' := [none, none, none, none]) rfl ?_
        exact t_X9_addOut_69 hq
  · rw [if_pos hc] at hq
    refine sg_aload_n 21 (sk_td o_X9_addOut 12 rfl) rfl rfl ?_
    refine sm_getR (78, 0) 24 (sk_td o_X9_addOut 13 rfl) rfl kf_X9_119 rfl rfl sz_44 rfl ?_
    refine sg_iload_n 25 (sk_td o_X9_addOut 14 rfl) rfl rfl ?_
    refine sg_bipush (v := (-9 : Int32)) 27 (sk_td o_X9_addOut 15 rfl) rfl (by decide) ?_
    obtain ⟨hb8, hq⟩ := sk_ifn hq
    refine sm_iast 28 (sk_td o_X9_addOut 16 rfl) rfl rfl sz_78 hb8 ?_
    refine sg_goto 71 (sk_td o_X9_addOut 17 rfl) (by decide) ?_
    obtain rfl := Option.some.inj hq
    exact sg_vret (sk_td o_X9_addOut 43 rfl) rfl
def q_X9_addOut (d : sk_D) (v1 : Int32) (v2 : Int32) (v3 : Int32) : Option (sk_D) := q_X9_addOut_0 d v1 v2 v3 
theorem s_X9_addOut {l : Launch} {d : sk_D} {v1 : Int32} {v2 : Int32} {v3 : Int32} {res : sk_D} (hq : q_X9_addOut d v1 v2 v3 = some res) : sk_M l 3 m_X9_addOut [.inr (.inr (some (44, 0))), .inl v1, .inl v2, .inl v3] (sk_mm d) none (sk_mm res) :=
  sk_enter (by decide) (fun _ => Nat.le_of_ble_eq_true rfl) (Nat.le_of_ble_eq_true rfl) (t_X9_addOut_0 hq )
def q_X9_findUnits_225 (rec7 : (sk_D × Int32 × Int32) → Option (sk_D)) (d : sk_D) (v1 : Int32) (v2 : Int32) : Option (sk_D) :=
  (rec7 (d, v1, (v2 + (1 : Int32))))
set_option maxRecDepth 100000 in
set_option maxHeartbeats 4000000 in
theorem t_X9_findUnits_225 {l : Launch} {rec7 : (sk_D × Int32 × Int32) → Option (sk_D)} {d : sk_D} {v1 : Int32} {v2 : Int32} (hrec7 : ∀ (a : (sk_D × Int32 × Int32)) (res : sk_D), rec7 a = some res → sk_G l (sk_rm 4 0 0) m_X9_findUnits sk_Ex0 (sk_Zm m_X9_findUnits none (sk_mm res)) 0 0 7 [some (.inr (.inr (some (44, 0)))), some (.inl a.2.1), some (.inl a.2.2), none, none, none, none] [] (sk_mm a.1)) {res : sk_D} (hq : q_X9_findUnits_225 rec7 d v1 v2 = some res) :
    sk_G l (sk_rm 4 0 0) m_X9_findUnits sk_Ex0 (sk_Zm m_X9_findUnits none (sk_mm res)) 0 0 225 [some (.inr (.inr (some (44, 0)))), some (.inl v1), some (.inl v2), none, none, none, none] [] (sk_mm d) := by
  unfold q_X9_findUnits_225 at hq
  refine sg_iinc (v2 + (1 : Int32)) 228 [some (.inr (.inr (some (44, 0)))), some (.inl v1), some (.inl (v2 + (1 : Int32))), none, none, none, none] (sk_td o_X9_findUnits 127 rfl) rfl rfl rfl rfl (Nat.le_of_ble_eq_true rfl) rfl ?_
  refine sg_goto 7 (sk_td o_X9_findUnits 128 rfl) (by decide) ?_
  exact hrec7 (d, v1, (v2 + (1 : Int32))) _ hq
def q_X9_findUnits_199 (rec7 : (sk_D × Int32 × Int32) → Option (sk_D)) (rec199 : (sk_D × Int32 × Int32 × Int32 × Int32) → Option (sk_D)) (d : sk_D) (v1 : Int32) (v2 : Int32) (v5 : Int32) (v6 : Int32) : Option (sk_D) :=
  if (4 : Int32) ≤ v6 then (q_X9_findUnits_225 rec7 d v1 v2) else (q_X9_addOut d (((4 : Int32) * v5) + v6) v2 v6).bind fun x1 => (rec199 (x1, v1, v2, v5, (v6 + (1 : Int32))))
set_option maxRecDepth 100000 in
set_option maxHeartbeats 4000000 in
theorem t_X9_findUnits_199 {l : Launch} {rec7 : (sk_D × Int32 × Int32) → Option (sk_D)} {rec199 : (sk_D × Int32 × Int32 × Int32 × Int32) → Option (sk_D)} {d : sk_D} {v1 : Int32} {v2 : Int32} {v5 : Int32} {v6 : Int32} (hrec7 : ∀ (a : (sk_D × Int32 × Int32)) (res : sk_D), rec7 a = some res → sk_G l (sk_rm 4 0 0) m_X9_findUnits sk_Ex0 (sk_Zm m_X9_findUnits none (sk_mm res)) 0 0 7 [some (.inr (.inr (some (44, 0)))), some (.inl a.2.1), some (.inl a.2.2), none, none, none, none] [] (sk_mm a.1)) (hrec199 : ∀ (a : (sk_D × Int32 × Int32 × Int32 × Int32)) (res : sk_D), rec199 a = some res → sk_G l (sk_rm 4 0 0) m_X9_findUnits sk_Ex0 (sk_Zm m_X9_findUnits none (sk_mm res)) 0 0 199 [some (.inr (.inr (some (44, 0)))), some (.inl a.2.1), some (.inl a.2.2.1), none, none, some (.inl a.2.2.2.1), some (.inl a.2.2.2.2)] [] (sk_mm a.1)) {res : sk_D} (hq : q_X9_findUnits_199 rec7 rec199 d v1 v2 v5 v6 = some res) :
    sk_G l (sk_rm 4 0 0) m_X9_findUnits sk_Ex0 (sk_Zm m_X9_findUnits none (sk_mm res)) 0 0 199 [some (.inr (.inr (some (44, 0)))), some (.inl v1), some (.inl v2), none, none, some (.inl v5), some (.inl v6)] [] (sk_mm d) := by
  unfold q_X9_findUnits_199 at hq
  refine sg_iload 201 (sk_td o_X9_findUnits 113 rfl) rfl rfl ?_
  refine sg_iconst (v := (4 : Int32)) 202 (sk_td o_X9_findUnits 114 rfl) rfl (by decide) ?_
  refine sg_ic_ge 225 205 (sk_td o_X9_findUnits 115 rfl) (by decide) rfl (fun hc => ?_) (fun hc => ?_)
  · rw [if_pos hc] at hq
    refine sk_wk [true, true, true, true, true, false, false] (ls' := [some (.inr (.inr (some (44, 0)))), some (.inl v1), some (.inl v2), none, none, none, none]) rfl ?_
    exact t_X9_findUnits_225 hrec7 hq
  · rw [if_neg hc] at hq
    refine sg_aload_n 206 (sk_td o_X9_findUnits 116 rfl) rfl rfl ?_
    refine sg_iconst (v := (4 : Int32)) 207 (sk_td o_X9_findUnits 117 rfl) rfl (by decide) ?_
    refine sg_iload 209 (sk_td o_X9_findUnits 118 rfl) rfl rfl ?_
    refine sg_imul 210 (sk_td o_X9_findUnits 119 rfl) rfl ?_
    refine sg_iload 212 (sk_td o_X9_findUnits 120 rfl) rfl rfl ?_
    refine sg_iadd 213 (sk_td o_X9_findUnits 121 rfl) rfl ?_
    refine sg_iload_n 214 (sk_td o_X9_findUnits 122 rfl) rfl rfl ?_
    refine sg_iload 216 (sk_td o_X9_findUnits 123 rfl) rfl rfl ?_
    obtain ⟨x1, hr_x1, hq⟩ := sk_bnd hq
    refine sm_callV3v 219 (s_X9_addOut hr_x1) (sk_td o_X9_findUnits 124 rfl) rfl lv_X9_233 rfl rfl rfl sz_44 (sk_rok (Nat.le_of_ble_eq_true rfl) (Nat.le_of_ble_eq_true rfl) rfl rfl) (Nat.le_of_ble_eq_true rfl) ?_
    refine sg_iinc (v6 + (1 : Int32)) 222 [some (.inr (.inr (some (44, 0)))), some (.inl v1), some (.inl v2), none, none, some (.inl v5), some (.inl (v6 + (1 : Int32)))] (sk_td o_X9_findUnits 125 rfl) rfl rfl rfl rfl (Nat.le_of_ble_eq_true rfl) rfl ?_
    refine sg_goto 199 (sk_td o_X9_findUnits 126 rfl) (by decide) ?_
    exact hrec199 (x1, v1, v2, v5, (v6 + (1 : Int32))) _ hq
def l_X9_findUnits_199 (rec7 : (sk_D × Int32 × Int32) → Option (sk_D)) (fl : Nat) (a : (sk_D × Int32 × Int32 × Int32 × Int32)) : Option (sk_D) := sk_it (fun rec199 a => q_X9_findUnits_199 rec7 rec199 a.1 a.2.1 a.2.2.1 a.2.2.2.1 a.2.2.2.2) fl a
theorem lt_X9_findUnits_199 {l : Launch} {rec7 : (sk_D × Int32 × Int32) → Option (sk_D)} (hrec7 : ∀ (a : (sk_D × Int32 × Int32)) (res : sk_D), rec7 a = some res → sk_G l (sk_rm 4 0 0) m_X9_findUnits sk_Ex0 (sk_Zm m_X9_findUnits none (sk_mm res)) 0 0 7 [some (.inr (.inr (some (44, 0)))), some (.inl a.2.1), some (.inl a.2.2), none, none, none, none] [] (sk_mm a.1)) : ∀ (fl : Nat) (a : (sk_D × Int32 × Int32 × Int32 × Int32)) (res : sk_D), l_X9_findUnits_199 rec7 fl a = some res → sk_G l (sk_rm 4 0 0) m_X9_findUnits sk_Ex0 (sk_Zm m_X9_findUnits none (sk_mm res)) 0 0 199 [some (.inr (.inr (some (44, 0)))), some (.inl a.2.1), some (.inl a.2.2.1), none, none, some (.inl a.2.2.2.1), some (.inl a.2.2.2.2)] [] (sk_mm a.1) :=
  sk_it_ind (P := fun (a : (sk_D × Int32 × Int32 × Int32 × Int32)) (res : sk_D) => sk_G l (sk_rm 4 0 0) m_X9_findUnits sk_Ex0 (sk_Zm m_X9_findUnits none (sk_mm res)) 0 0 199 [some (.inr (.inr (some (44, 0)))), some (.inl a.2.1), some (.inl a.2.2.1), none, none, some (.inl a.2.2.2.1), some (.inl a.2.2.2.2)] [] (sk_mm a.1)) (fun rec199 hrec199 a res hq  => t_X9_findUnits_199 hrec7 hrec199 hq )
def q_X9_findUnits_192 (rec7 : (sk_D × Int32 × Int32) → Option (sk_D)) (d : sk_D) (v1 : Int32) (v2 : Int32) (v5 : Int32) (s1 : Int32) (s3 : Int32) : Option (sk_D) :=
  if sk_bi s3 20 = true then if sk_bi s1 20 = true then (l_X9_findUnits_199 rec7 sk_fu ((sk_wi d 76 0 s1.toNatClampNeg ((d.1 76 0 s3.toNatClampNeg) + (1 : Int32))), v1, v2, v5, (0 : Int32))) else none else none
set_option maxRecDepth 100000 in
set_option maxHeartbeats 4000000 in
theorem t_X9_findUnits_192 {l : Launch} {rec7 : (sk_D × Int32 × Int32) → Option (sk_D)} {d : sk_D} {v1 : Int32} {v2 : Int32} {v5 : Int32} {s1 : Int32} {s3 : Int32} (hrec7 : ∀ (a : (sk_D × Int32 × Int32)) (res : sk_D), rec7 a = some res → sk_G l (sk_rm 4 0 0) m_X9_findUnits sk_Ex0 (sk_Zm m_X9_findUnits none (sk_mm res)) 0 0 7 [some (.inr (.inr (some (44, 0)))), some (.inl a.2.1), some (.inl a.2.2), none, none, none, none] [] (sk_mm a.1)) {res : sk_D} (hq : q_X9_findUnits_192 rec7 d v1 v2 v5 s1 s3 = some res) :
    sk_G l (sk_rm 4 0 0) m_X9_findUnits sk_Ex0 (sk_Zm m_X9_findUnits none (sk_mm res)) 0 0 192 [some (.inr (.inr (some (44, 0)))), some (.inl v1), some (.inl v2), none, none, some (.inl v5), none] [.inl s3, .inr (.inr (some (76, 0))), .inl s1, .inr (.inr (some (76, 0)))] (sk_mm d) := by
  unfold q_X9_findUnits_192 at hq
  obtain ⟨hb1, hq⟩ := sk_ifn hq
  refine sm_iald 193 (sk_td o_X9_findUnits 107 rfl) rfl rfl sz_76 hb1 ?_
  refine sg_iconst (v := (1 : Int32)) 194 (sk_td o_X9_findUnits 108 rfl) rfl (by decide) ?_
  refine sg_iadd 195 (sk_td o_X9_findUnits 109 rfl) rfl ?_
  obtain ⟨hb2, hq⟩ := sk_ifn hq
  refine sm_iast 196 (sk_td o_X9_findUnits 110 rfl) rfl rfl sz_76 hb2 ?_
  refine sg_iconst (v := (0 : Int32)) 197 (sk_td o_X9_findUnits 111 rfl) rfl (by decide) ?_
  refine sg_istore 199 [some (.inr (.inr (some (44, 0)))), some (.inl v1), some (.inl v2), none, none, some (.inl v5), some (.inl (0 : Int32))] (sk_td o_X9_findUnits 112 rfl) rfl rfl (Nat.le_of_ble_eq_true rfl) rfl ?_
  exact lt_X9_findUnits_199 hrec7 sk_fu ((sk_wi d 76 0 s1.toNatClampNeg ((d.1 76 0 s3.toNatClampNeg) + (1 : Int32))), v1, v2, v5, (0 : Int32)) _ hq
def q_X9_findUnits_177 (rec7 : (sk_D × Int32 × Int32) → Option (sk_D)) (d : sk_D) (v1 : Int32) (v2 : Int32) (v5 : Int32) : Option (sk_D) :=
  if sk_bi v2 20 = true then (q_X9_findUnits_192 rec7 (sk_wi d 77 0 v2.toNatClampNeg v5) v1 v2 v5 v5 v5) else none
set_option maxRecDepth 100000 in
set_option maxHeartbeats 4000000 in
theorem t_X9_findUnits_177 {l : Launch} {rec7 : (sk_D × Int32 × Int32) → Option (sk_D)} {d : sk_D} {v1 : Int32} {v2 : Int32} {v5 : Int32} (hrec7 : ∀ (a : (sk_D × Int32 × Int32)) (res : sk_D), rec7 a = some res → sk_G l (sk_rm 4 0 0) m_X9_findUnits sk_Ex0 (sk_Zm m_X9_findUnits none (sk_mm res)) 0 0 7 [some (.inr (.inr (some (44, 0)))), some (.inl a.2.1), some (.inl a.2.2), none, none, none, none] [] (sk_mm a.1)) {res : sk_D} (hq : q_X9_findUnits_177 rec7 d v1 v2 v5 = some res) :
    sk_G l (sk_rm 4 0 0) m_X9_findUnits sk_Ex0 (sk_Zm m_X9_findUnits none (sk_mm res)) 0 0 177 [some (.inr (.inr (some (44, 0)))), some (.inl v1), some (.inl v2), none, none, some (.inl v5), none] [] (sk_mm d) := by
  unfold q_X9_findUnits_177 at hq
  refine sg_aload_n 178 (sk_td o_X9_findUnits 98 rfl) rfl rfl ?_
  refine sm_getR (77, 0) 181 (sk_td o_X9_findUnits 99 rfl) rfl kf_X9_116 rfl rfl sz_44 rfl ?_
  refine sg_iload_n 182 (sk_td o_X9_findUnits 100 rfl) rfl rfl ?_
  refine sg_iload 184 (sk_td o_X9_findUnits 101 rfl) rfl rfl ?_
  obtain ⟨hb1, hq⟩ := sk_ifn hq
  refine sm_iast 185 (sk_td o_X9_findUnits 102 rfl) rfl rfl sz_77 hb1 ?_
  refine sg_aload_n 186 (sk_td o_X9_findUnits 103 rfl) rfl rfl ?_
  refine sm_getR (76, 0) 189 (sk_td o_X9_findUnits 104 rfl) rfl kf_X9_113 rfl rfl sz_44 rfl ?_
  refine sg_iload 191 (sk_td o_X9_findUnits 105 rfl) rfl rfl ?_
  refine sg_dup2 192 (sk_td o_X9_findUnits 106 rfl) rfl ?_
  exact t_X9_findUnits_192 hrec7 hq
def q_X9_findUnits_140 (rec7 : (sk_D × Int32 × Int32) → Option (sk_D)) (rec140 : (sk_D × Int32 × Int32 × Int32 × Int32) → Option (sk_D)) (d : sk_D) (v1 : Int32) (v2 : Int32) (v5 : Int32) (v6 : Int32) : Option (sk_D) :=
  if (4 : Int32) ≤ v6 then (q_X9_findUnits_177 rec7 (sk_wi d 44 0 37 ((d.1 44 0 37) + (1 : Int32))) v1 v2 v5) else if sk_bi (((4 : Int32) * (d.1 44 0 37)) + v6) 80 = true then (rec140 ((sk_wi d 78 0 (((4 : Int32) * (d.1 44 0 37)) + v6).toNatClampNeg (0 : Int32)), v1, v2, v5, (v6 + (1 : Int32)))) else none
set_option maxRecDepth 100000 in
set_option maxHeartbeats 4000000 in
theorem t_X9_findUnits_140 {l : Launch} {rec7 : (sk_D × Int32 × Int32) → Option (sk_D)} {rec140 : (sk_D × Int32 × Int32 × Int32 × Int32) → Option (sk_D)} {d : sk_D} {v1 : Int32} {v2 : Int32} {v5 : Int32} {v6 : Int32} (hrec7 : ∀ (a : (sk_D × Int32 × Int32)) (res : sk_D), rec7 a = some res → sk_G l (sk_rm 4 0 0) m_X9_findUnits sk_Ex0 (sk_Zm m_X9_findUnits none (sk_mm res)) 0 0 7 [some (.inr (.inr (some (44, 0)))), some (.inl a.2.1), some (.inl a.2.2), none, none, none, none] [] (sk_mm a.1)) (hrec140 : ∀ (a : (sk_D × Int32 × Int32 × Int32 × Int32)) (res : sk_D), rec140 a = some res → sk_G l (sk_rm 4 0 0) m_X9_findUnits sk_Ex0 (sk_Zm m_X9_findUnits none (sk_mm res)) 0 0 140 [some (.inr (.inr (some (44, 0)))), some (.inl a.2.1), some (.inl a.2.2.1), none, none, some (.inl a.2.2.2.1), some (.inl a.2.2.2.2)] [] (sk_mm a.1)) {res : sk_D} (hq : q_X9_findUnits_140 rec7 rec140 d v1 v2 v5 v6 = some res) :
    sk_G l (sk_rm 4 0 0) m_X9_findUnits sk_Ex0 (sk_Zm m_X9_findUnits none (sk_mm res)) 0 0 140 [some (.inr (.inr (some (44, 0)))), some (.inl v1), some (.inl v2), none, none, some (.inl v5), some (.inl v6)] [] (sk_mm d) := by
  unfold q_X9_findUnits_140 at hq
  refine sg_iload 142 (sk_td o_X9_findUnits 77 rfl) rfl rfl ?_
  refine sg_iconst (v := (4 : Int32)) 143 (sk_td o_X9_findUnits 78 rfl) rfl (by decide) ?_
  refine sg_ic_ge 167 146 (sk_td o_X9_findUnits 79 rfl) (by decide) rfl (fun hc => ?_) (fun hc => ?_)
  · rw [if_pos hc] at hq
    refine sg_aload_n 168 (sk_td o_X9_findUnits 92 rfl) rfl rfl ?_
    refine sg_dupR 169 (sk_td o_X9_findUnits 93 rfl) rfl ?_
    refine sm_getI 172 (sk_td o_X9_findUnits 94 rfl) rfl kf_X9_230 rfl rfl sz_44 ?_
    refine sg_iconst (v := (1 : Int32)) 173 (sk_td o_X9_findUnits 95 rfl) rfl (by decide) ?_
    refine sg_iadd 174 (sk_td o_X9_findUnits 96 rfl) rfl ?_
    refine sm_putI 177 (sk_td o_X9_findUnits 97 rfl) rfl kp_X9_230 rfl rfl sz_44 ?_
    refine sk_wk [true, true, true, true, true, true, false] (ls' := [some (.inr (.inr (some (44, 0)))), some (.inl v1), some (.inl v2), none, none, some (.inl v5), none]) rfl ?_
    exact t_X9_findUnits_177 hrec7 hq
  · rw [if_neg hc] at hq
    refine sg_aload_n 147 (sk_td o_X9_findUnits 80 rfl) rfl rfl ?_
    refine sm_getR (78, 0) 150 (sk_td o_X9_findUnits 81 rfl) rfl kf_X9_119 rfl rfl sz_44 rfl ?_
    refine sg_iconst (v := (4 : Int32)) 151 (sk_td o_X9_findUnits 82 rfl) rfl (by decide) ?_
    refine sg_aload_n 152 (sk_td o_X9_findUnits 83 rfl) rfl rfl ?_
    refine sm_getI 155 (sk_td o_X9_findUnits 84 rfl) rfl kf_X9_230 rfl rfl sz_44 ?_
    refine sg_imul 156 (sk_td o_X9_findUnits 85 rfl) rfl ?_
    refine sg_iload 158 (sk_td o_X9_findUnits 86 rfl) rfl rfl ?_
    refine sg_iadd 159 (sk_td o_X9_findUnits 87 rfl) rfl ?_
    refine sg_iconst (v := (0 : Int32)) 160 (sk_td o_X9_findUnits 88 rfl) rfl (by decide) ?_
    obtain ⟨hb1, hq⟩ := sk_ifn hq
    refine sm_iast 161 (sk_td o_X9_findUnits 89 rfl) rfl rfl sz_78 hb1 ?_
    refine sg_iinc (v6 + (1 : Int32)) 164 [some (.inr (.inr (some (44, 0)))), some (.inl v1), some (.inl v2), none, none, some (.inl v5), some (.inl (v6 + (1 : Int32)))] (sk_td o_X9_findUnits 90 rfl) rfl rfl rfl rfl (Nat.le_of_ble_eq_true rfl) rfl ?_
    refine sg_goto 140 (sk_td o_X9_findUnits 91 rfl) (by decide) ?_
    exact hrec140 ((sk_wi d 78 0 (((4 : Int32) * (d.1 44 0 37)) + v6).toNatClampNeg (0 : Int32)), v1, v2, v5, (v6 + (1 : Int32))) _ hq
def l_X9_findUnits_140 (rec7 : (sk_D × Int32 × Int32) → Option (sk_D)) (fl : Nat) (a : (sk_D × Int32 × Int32 × Int32 × Int32)) : Option (sk_D) := sk_it (fun rec140 a => q_X9_findUnits_140 rec7 rec140 a.1 a.2.1 a.2.2.1 a.2.2.2.1 a.2.2.2.2) fl a
theorem lt_X9_findUnits_140 {l : Launch} {rec7 : (sk_D × Int32 × Int32) → Option (sk_D)} (hrec7 : ∀ (a : (sk_D × Int32 × Int32)) (res : sk_D), rec7 a = some res → sk_G l (sk_rm 4 0 0) m_X9_findUnits sk_Ex0 (sk_Zm m_X9_findUnits none (sk_mm res)) 0 0 7 [some (.inr (.inr (some (44, 0)))), some (.inl a.2.1), some (.inl a.2.2), none, none, none, none] [] (sk_mm a.1)) : ∀ (fl : Nat) (a : (sk_D × Int32 × Int32 × Int32 × Int32)) (res : sk_D), l_X9_findUnits_140 rec7 fl a = some res → sk_G l (sk_rm 4 0 0) m_X9_findUnits sk_Ex0 (sk_Zm m_X9_findUnits none (sk_mm res)) 0 0 140 [some (.inr (.inr (some (44, 0)))), some (.inl a.2.1), some (.inl a.2.2.1), none, none, some (.inl a.2.2.2.1), some (.inl a.2.2.2.2)] [] (sk_mm a.1) :=
  sk_it_ind (P := fun (a : (sk_D × Int32 × Int32 × Int32 × Int32)) (res : sk_D) => sk_G l (sk_rm 4 0 0) m_X9_findUnits sk_Ex0 (sk_Zm m_X9_findUnits none (sk_mm res)) 0 0 140 [some (.inr (.inr (some (44, 0)))), some (.inl a.2.1), some (.inl a.2.2.1), none, none, some (.inl a.2.2.2.1), some (.inl a.2.2.2.2)] [] (sk_mm a.1)) (fun rec140 hrec140 a res hq  => t_X9_findUnits_140 hrec7 hrec140 hq )
def q_X9_findUnits_108 (rec7 : (sk_D × Int32 × Int32) → Option (sk_D)) (d : sk_D) (v1 : Int32) (v2 : Int32) (v5 : Int32) : Option (sk_D) :=
  if sk_bi v2 20 = true then if (d.1 45 0 v2.toNatClampNeg) = (1 : Int32) then if v5 = (d.1 44 0 37) then if sk_bi (d.1 44 0 37) 20 = true then (l_X9_findUnits_140 rec7 sk_fu ((sk_wi d 76 0 (d.1 44 0 37).toNatClampNeg (0 : Int32)), v1, v2, v5, (0 : Int32))) else none else (q_X9_findUnits_177 rec7 d v1 v2 v5) else (q_X9_findUnits_225 rec7 d v1 v2) else none
set_option maxRecDepth 100000 in
set_option maxHeartbeats 4000000 in
theorem t_X9_findUnits_108 {l : Launch} {rec7 : (sk_D × Int32 × Int32) → Option (sk_D)} {d : sk_D} {v1 : Int32} {v2 : Int32} {v5 : Int32} (hrec7 : ∀ (a : (sk_D × Int32 × Int32)) (res : sk_D), rec7 a = some res → sk_G l (sk_rm 4 0 0) m_X9_findUnits sk_Ex0 (sk_Zm m_X9_findUnits none (sk_mm res)) 0 0 7 [some (.inr (.inr (some (44, 0)))), some (.inl a.2.1), some (.inl a.2.2), none, none, none, none] [] (sk_mm a.1)) {res : sk_D} (hq : q_X9_findUnits_108 rec7 d v1 v2 v5 = some res) :
    sk_G l (sk_rm 4 0 0) m_X9_findUnits sk_Ex0 (sk_Zm m_X9_findUnits none (sk_mm res)) 0 0 108 [some (.inr (.inr (some (44, 0)))), some (.inl v1), some (.inl v2), none, none, some (.inl v5), none] [] (sk_mm d) := by
  unfold q_X9_findUnits_108 at hq
  refine sg_aload_n 109 (sk_td o_X9_findUnits 59 rfl) rfl rfl ?_
  refine sm_getR (45, 0) 112 (sk_td o_X9_findUnits 60 rfl) rfl kf_X9_19 rfl rfl sz_44 rfl ?_
  refine sg_iload_n 113 (sk_td o_X9_findUnits 61 rfl) rfl rfl ?_
  obtain ⟨hb1, hq⟩ := sk_ifn hq
  refine sm_iald 114 (sk_td o_X9_findUnits 62 rfl) rfl rfl sz_45 hb1 ?_
  refine sg_iconst (v := (1 : Int32)) 115 (sk_td o_X9_findUnits 63 rfl) rfl (by decide) ?_
  refine sg_ic_ne 225 118 (sk_td o_X9_findUnits 64 rfl) (by decide) rfl (fun hc => ?_) (fun hc => ?_)
  · rw [if_neg hc] at hq
    refine sk_wk [true, true, true, true, true, false, true] (ls' := [some (.inr (.inr (some (44, 0)))), some (.inl v1), some (.inl v2), none, none, none, none]) rfl ?_
    exact t_X9_findUnits_225 hrec7 hq
  · rw [if_pos hc] at hq
    refine sg_iload 120 (sk_td o_X9_findUnits 65 rfl) rfl rfl ?_
    refine sg_aload_n 121 (sk_td o_X9_findUnits 66 rfl) rfl rfl ?_
    refine sm_getI 124 (sk_td o_X9_findUnits 67 rfl) rfl kf_X9_230 rfl rfl sz_44 ?_
    refine sg_ic_ne 177 127 (sk_td o_X9_findUnits 68 rfl) (by decide) rfl (fun hc => ?_) (fun hc => ?_)
    · rw [if_neg hc] at hq
      exact t_X9_findUnits_177 hrec7 hq
    · rw [if_pos hc] at hq
      refine sg_aload_n 128 (sk_td o_X9_findUnits 69 rfl) rfl rfl ?_
      refine sm_getR (76, 0) 131 (sk_td o_X9_findUnits 70 rfl) rfl kf_X9_113 rfl rfl sz_44 rfl ?_
      refine sg_aload_n 132 (sk_td o_X9_findUnits 71 rfl) rfl rfl ?_
      refine sm_getI 135 (sk_td o_X9_findUnits 72 rfl) rfl kf_X9_230 rfl rfl sz_44 ?_
      refine sg_iconst (v := (0 : Int32)) 136 (sk_td o_X9_findUnits 73 rfl) rfl (by decide) ?_
      obtain ⟨hb2, hq⟩ := sk_ifn hq
      refine sm_iast 137 (sk_td o_X9_findUnits 74 rfl) rfl rfl sz_76 hb2 ?_
      refine sg_iconst (v := (0 : Int32)) 138 (sk_td o_X9_findUnits 75 rfl) rfl (by decide) ?_
      refine sg_istore 140 [some (.inr (.inr (some (44, 0)))), some (.inl v1), some (.inl v2), none, none, some (.inl v5), some (.inl (0 : Int32))] (sk_td o_X9_findUnits 76 rfl) rfl rfl (Nat.le_of_ble_eq_true rfl) rfl ?_
      exact lt_X9_findUnits_140 hrec7 sk_fu ((sk_wi d 76 0 (d.1 44 0 37).toNatClampNeg (0 : Int32)), v1, v2, v5, (0 : Int32)) _ hq
def q_X9_findUnits_100 (rec7 : (sk_D × Int32 × Int32) → Option (sk_D)) (rec67 : (sk_D × Int32 × Int32 × Int32 × Int32 × Int32 × Int32) → Option (sk_D)) (d : sk_D) (v1 : Int32) (v2 : Int32) (v3 : Int32) (v4 : Int32) (v6 : Int32) (s0 : Int32) : Option (sk_D) :=
  (rec67 (d, v1, v2, v3, v4, s0, (v6 + (1 : Int32))))
set_option maxRecDepth 100000 in
set_option maxHeartbeats 4000000 in
theorem t_X9_findUnits_100 {l : Launch} {rec7 : (sk_D × Int32 × Int32) → Option (sk_D)} {rec67 : (sk_D × Int32 × Int32 × Int32 × Int32 × Int32 × Int32) → Option (sk_D)} {d : sk_D} {v1 : Int32} {v2 : Int32} {v3 : Int32} {v4 : Int32} {v6 : Int32} {s0 : Int32} (hrec7 : ∀ (a : (sk_D × Int32 × Int32)) (res : sk_D), rec7 a = some res → sk_G l (sk_rm 4 0 0) m_X9_findUnits sk_Ex0 (sk_Zm m_X9_findUnits none (sk_mm res)) 0 0 7 [some (.inr (.inr (some (44, 0)))), some (.inl a.2.1), some (.inl a.2.2), none, none, none, none] [] (sk_mm a.1)) (hrec67 : ∀ (a : (sk_D × Int32 × Int32 × Int32 × Int32 × Int32 × Int32)) (res : sk_D), rec67 a = some res → sk_G l (sk_rm 4 0 0) m_X9_findUnits sk_Ex0 (sk_Zm m_X9_findUnits none (sk_mm res)) 0 0 67 [some (.inr (.inr (some (44, 0)))), some (.inl a.2.1), some (.inl a.2.2.1), some (.inl a.2.2.2.1), some (.inl a.2.2.2.2.1), some (.inl a.2.2.2.2.2.1), some (.inl a.2.2.2.2.2.2)] [] (sk_mm a.1)) {res : sk_D} (hq : q_X9_findUnits_100 rec7 rec67 d v1 v2 v3 v4 v6 s0 = some res) :
    sk_G l (sk_rm 4 0 0) m_X9_findUnits sk_Ex0 (sk_Zm m_X9_findUnits none (sk_mm res)) 0 0 100 [some (.inr (.inr (some (44, 0)))), some (.inl v1), some (.inl v2), some (.inl v3), some (.inl v4), none, some (.inl v6)] [.inl s0] (sk_mm d) := by
  unfold q_X9_findUnits_100 at hq
  refine sg_istore 102 [some (.inr (.inr (some (44, 0)))), some (.inl v1), some (.inl v2), some (.inl v3), some (.inl v4), some (.inl s0), some (.inl v6)] (sk_td o_X9_findUnits 56 rfl) rfl rfl (Nat.le_of_ble_eq_true rfl) rfl ?_
  refine sg_iinc (v6 + (1 : Int32)) 105 [some (.inr (.inr (some (44, 0)))), some (.inl v1), some (.inl v2), some (.inl v3), some (.inl v4), some (.inl s0), some (.inl (v6 + (1 : Int32)))] (sk_td o_X9_findUnits 57 rfl) rfl rfl rfl rfl (Nat.le_of_ble_eq_true rfl) rfl ?_
  refine sg_goto 67 (sk_td o_X9_findUnits 58 rfl) (by decide) ?_
  exact hrec67 (d, v1, v2, v3, v4, s0, (v6 + (1 : Int32))) _ hq
def q_X9_findUnits_67 (rec7 : (sk_D × Int32 × Int32) → Option (sk_D)) (rec67 : (sk_D × Int32 × Int32 × Int32 × Int32 × Int32 × Int32) → Option (sk_D)) (d : sk_D) (v1 : Int32) (v2 : Int32) (v3 : Int32) (v4 : Int32) (v5 : Int32) (v6 : Int32) : Option (sk_D) :=
  if v2 ≤ v6 then (q_X9_findUnits_108 rec7 d v1 v2 v5) else if v4 = 0 then (q_X9_findUnits_108 rec7 d v1 v2 v5) else (q_X9_isOf d v6 v3).bind fun x1 => if x1 = 0 then (q_X9_findUnits_100 rec7 rec67 d v1 v2 v3 v4 v6 v5) else if sk_bi v6 20 = true then (q_X9_findUnits_100 rec7 rec67 d v1 v2 v3 v4 v6 (d.1 77 0 v6.toNatClampNeg)) else none
set_option maxRecDepth 100000 in
set_option maxHeartbeats 4000000 in
theorem t_X9_findUnits_67 {l : Launch} {rec7 : (sk_D × Int32 × Int32) → Option (sk_D)} {rec67 : (sk_D × Int32 × Int32 × Int32 × Int32 × Int32 × Int32) → Option (sk_D)} {d : sk_D} {v1 : Int32} {v2 : Int32} {v3 : Int32} {v4 : Int32} {v5 : Int32} {v6 : Int32} (hrec7 : ∀ (a : (sk_D × Int32 × Int32)) (res : sk_D), rec7 a = some res → sk_G l (sk_rm 4 0 0) m_X9_findUnits sk_Ex0 (sk_Zm m_X9_findUnits none (sk_mm res)) 0 0 7 [some (.inr (.inr (some (44, 0)))), some (.inl a.2.1), some (.inl a.2.2), none, none, none, none] [] (sk_mm a.1)) (hrec67 : ∀ (a : (sk_D × Int32 × Int32 × Int32 × Int32 × Int32 × Int32)) (res : sk_D), rec67 a = some res → sk_G l (sk_rm 4 0 0) m_X9_findUnits sk_Ex0 (sk_Zm m_X9_findUnits none (sk_mm res)) 0 0 67 [some (.inr (.inr (some (44, 0)))), some (.inl a.2.1), some (.inl a.2.2.1), some (.inl a.2.2.2.1), some (.inl a.2.2.2.2.1), some (.inl a.2.2.2.2.2.1), some (.inl a.2.2.2.2.2.2)] [] (sk_mm a.1)) {res : sk_D} (hq : q_X9_findUnits_67 rec7 rec67 d v1 v2 v3 v4 v5 v6 = some res) :
    sk_G l (sk_rm 4 0 0) m_X9_findUnits sk_Ex0 (sk_Zm m_X9_findUnits none (sk_mm res)) 0 0 67 [some (.inr (.inr (some (44, 0)))), some (.inl v1), some (.inl v2), some (.inl v3), some (.inl v4), some (.inl v5), some (.inl v6)] [] (sk_mm d) := by
  unfold q_X9_findUnits_67 at hq
  refine sg_iload 69 (sk_td o_X9_findUnits 40 rfl) rfl rfl ?_
  refine sg_iload_n 70 (sk_td o_X9_findUnits 41 rfl) rfl rfl ?_
  refine sg_ic_ge 108 73 (sk_td o_X9_findUnits 42 rfl) (by decide) rfl (fun hc => ?_) (fun hc => ?_)
  · rw [if_pos hc] at hq
    refine sk_wk [true, true, true, false, false, true, false] (ls' := [some (.inr (.inr (some (44, 0)))), some (.inl v1), some (.inl v2), none, none, some (.inl v5), none]) rfl ?_
    exact t_X9_findUnits_108 hrec7 hq
  · rw [if_neg hc] at hq
    refine sg_iload 75 (sk_td o_X9_findUnits 43 rfl) rfl rfl ?_
    refine sg_if_eq 108 78 (sk_td o_X9_findUnits 44 rfl) (by decide) rfl (fun hc => ?_) (fun hc => ?_)
    · rw [if_pos hc] at hq
      refine sk_wk [true, true, true, false, false, true, false] (ls' := [some (.inr (.inr (some (44, 0)))), some (.inl v1), some (.inl v2), none, none, some (.inl v5), none]) rfl ?_
      exact t_X9_findUnits_108 hrec7 hq
    · rw [if_neg hc] at hq
      refine sg_aload_n 79 (sk_td o_X9_findUnits 45 rfl) rfl rfl ?_
      refine sg_iload 81 (sk_td o_X9_findUnits 46 rfl) rfl rfl ?_
      refine sg_iload_n 82 (sk_td o_X9_findUnits 47 rfl) rfl rfl ?_
      obtain ⟨x1, hr_x1, hq⟩ := sk_bnd hq
      refine sm_callV2i 85 (s_X9_isOf hr_x1) (sk_td o_X9_findUnits 48 rfl) rfl lv_X9_172 rfl rfl rfl sz_44 (sk_rok (Nat.le_of_ble_eq_true rfl) (Nat.le_of_ble_eq_true rfl) rfl rfl) (Nat.le_of_ble_eq_true rfl) ?_
      refine sg_if_eq 98 88 (sk_td o_X9_findUnits 49 rfl) (by decide) rfl (fun hc => ?_) (fun hc => ?_)
      · rw [if_pos hc] at hq
        refine sg_iload 100 (sk_td o_X9_findUnits 55 rfl) rfl rfl ?_
        refine sk_wk [true, true, true, true, true, false, true] (ls' := [some (.inr (.inr (some (44, 0)))), some (.inl v1), some (.inl v2), some (.inl v3), some (.inl v4), none, some (.inl v6)]) rfl ?_
        exact t_X9_findUnits_100 hrec7 hrec67 hq
      · rw [if_neg hc] at hq
        refine sg_aload_n 89 (sk_td o_X9_findUnits 50 rfl) rfl rfl ?_
        refine sm_getR (77, 0) 92 (sk_td o_X9_findUnits 51 rfl) rfl kf_X9_116 rfl rfl sz_44 rfl ?_
        refine sg_iload 94 (sk_td o_X9_findUnits 52 rfl) rfl rfl ?_
        obtain ⟨hb2, hq⟩ := sk_ifn hq
        refine sm_iald 95 (sk_td o_X9_findUnits 53 rfl) rfl rfl sz_77 hb2 ?_
        refine sg_goto 100 (sk_td o_X9_findUnits 54 rfl) (by decide) ?_
        refine sk_wk [true, true, true, true, true, false, true] (ls' := [some (.inr (.inr (some (44, 0)))), some (.inl v1), some (.inl v2), some (.inl v3), some (.inl v4), none, some (.inl v6)]) rfl ?_
        exact t_X9_findUnits_100 hrec7 hrec67 hq
def l_X9_findUnits_67 (rec7 : (sk_D × Int32 × Int32) → Option (sk_D)) (fl : Nat) (a : (sk_D × Int32 × Int32 × Int32 × Int32 × Int32 × Int32)) : Option (sk_D) := sk_it (fun rec67 a => q_X9_findUnits_67 rec7 rec67 a.1 a.2.1 a.2.2.1 a.2.2.2.1 a.2.2.2.2.1 a.2.2.2.2.2.1 a.2.2.2.2.2.2) fl a
theorem lt_X9_findUnits_67 {l : Launch} {rec7 : (sk_D × Int32 × Int32) → Option (sk_D)} (hrec7 : ∀ (a : (sk_D × Int32 × Int32)) (res : sk_D), rec7 a = some res → sk_G l (sk_rm 4 0 0) m_X9_findUnits sk_Ex0 (sk_Zm m_X9_findUnits none (sk_mm res)) 0 0 7 [some (.inr (.inr (some (44, 0)))), some (.inl a.2.1), some (.inl a.2.2), none, none, none, none] [] (sk_mm a.1)) : ∀ (fl : Nat) (a : (sk_D × Int32 × Int32 × Int32 × Int32 × Int32 × Int32)) (res : sk_D), l_X9_findUnits_67 rec7 fl a = some res → sk_G l (sk_rm 4 0 0) m_X9_findUnits sk_Ex0 (sk_Zm m_X9_findUnits none (sk_mm res)) 0 0 67 [some (.inr (.inr (some (44, 0)))), some (.inl a.2.1), some (.inl a.2.2.1), some (.inl a.2.2.2.1), some (.inl a.2.2.2.2.1), some (.inl a.2.2.2.2.2.1), some (.inl a.2.2.2.2.2.2)] [] (sk_mm a.1) :=
  sk_it_ind (P := fun (a : (sk_D × Int32 × Int32 × Int32 × Int32 × Int32 × Int32)) (res : sk_D) => sk_G l (sk_rm 4 0 0) m_X9_findUnits sk_Ex0 (sk_Zm m_X9_findUnits none (sk_mm res)) 0 0 67 [some (.inr (.inr (some (44, 0)))), some (.inl a.2.1), some (.inl a.2.2.1), some (.inl a.2.2.2.1), some (.inl a.2.2.2.2.1), some (.inl a.2.2.2.2.2.1), some (.inl a.2.2.2.2.2.2)] [] (sk_mm a.1)) (fun rec67 hrec67 a res hq  => t_X9_findUnits_67 hrec7 hrec67 hq )
def q_X9_findUnits_56 (rec7 : (sk_D × Int32 × Int32) → Option (sk_D)) (d : sk_D) (v1 : Int32) (v2 : Int32) (v3 : Int32) (s0 : Int32) : Option (sk_D) :=
  (l_X9_findUnits_67 rec7 sk_fu (d, v1, v2, v3, s0, (d.1 44 0 37), (0 : Int32)))
set_option maxRecDepth 100000 in
set_option maxHeartbeats 4000000 in
theorem t_X9_findUnits_56 {l : Launch} {rec7 : (sk_D × Int32 × Int32) → Option (sk_D)} {d : sk_D} {v1 : Int32} {v2 : Int32} {v3 : Int32} {s0 : Int32} (hrec7 : ∀ (a : (sk_D × Int32 × Int32)) (res : sk_D), rec7 a = some res → sk_G l (sk_rm 4 0 0) m_X9_findUnits sk_Ex0 (sk_Zm m_X9_findUnits none (sk_mm res)) 0 0 7 [some (.inr (.inr (some (44, 0)))), some (.inl a.2.1), some (.inl a.2.2), none, none, none, none] [] (sk_mm a.1)) {res : sk_D} (hq : q_X9_findUnits_56 rec7 d v1 v2 v3 s0 = some res) :
    sk_G l (sk_rm 4 0 0) m_X9_findUnits sk_Ex0 (sk_Zm m_X9_findUnits none (sk_mm res)) 0 0 56 [some (.inr (.inr (some (44, 0)))), some (.inl v1), some (.inl v2), some (.inl v3), none, none, none] [.inl s0] (sk_mm d) := by
  unfold q_X9_findUnits_56 at hq
  refine sg_istore 58 [some (.inr (.inr (some (44, 0)))), some (.inl v1), some (.inl v2), some (.inl v3), some (.inl s0), none, none] (sk_td o_X9_findUnits 34 rfl) rfl rfl (Nat.le_of_ble_eq_true rfl) rfl ?_
  refine sg_aload_n 59 (sk_td o_X9_findUnits 35 rfl) rfl rfl ?_
  refine sm_getI 62 (sk_td o_X9_findUnits 36 rfl) rfl kf_X9_230 rfl rfl sz_44 ?_
  refine sg_istore 64 [some (.inr (.inr (some (44, 0)))), some (.inl v1), some (.inl v2), some (.inl v3), some (.inl s0), some (.inl (d.1 44 0 37)), none] (sk_td o_X9_findUnits 37 rfl) rfl rfl (Nat.le_of_ble_eq_true rfl) rfl ?_
  refine sg_iconst (v := (0 : Int32)) 65 (sk_td o_X9_findUnits 38 rfl) rfl (by decide) ?_
  refine sg_istore 67 [some (.inr (.inr (some (44, 0)))), some (.inl v1), some (.inl v2), some (.inl v3), some (.inl s0), some (.inl (d.1 44 0 37)), some (.inl (0 : Int32))] (sk_td o_X9_findUnits 39 rfl) rfl rfl (Nat.le_of_ble_eq_true rfl) rfl ?_
  exact lt_X9_findUnits_67 hrec7 sk_fu (d, v1, v2, v3, s0, (d.1 44 0 37), (0 : Int32)) _ hq
def q_X9_findUnits_55 (rec7 : (sk_D × Int32 × Int32) → Option (sk_D)) (d : sk_D) (v1 : Int32) (v2 : Int32) (v3 : Int32) : Option (sk_D) :=
  (q_X9_findUnits_56 rec7 d v1 v2 v3 (0 : Int32))
set_option maxRecDepth 100000 in
set_option maxHeartbeats 4000000 in
theorem t_X9_findUnits_55 {l : Launch} {rec7 : (sk_D × Int32 × Int32) → Option (sk_D)} {d : sk_D} {v1 : Int32} {v2 : Int32} {v3 : Int32} (hrec7 : ∀ (a : (sk_D × Int32 × Int32)) (res : sk_D), rec7 a = some res → sk_G l (sk_rm 4 0 0) m_X9_findUnits sk_Ex0 (sk_Zm m_X9_findUnits none (sk_mm res)) 0 0 7 [some (.inr (.inr (some (44, 0)))), some (.inl a.2.1), some (.inl a.2.2), none, none, none, none] [] (sk_mm a.1)) {res : sk_D} (hq : q_X9_findUnits_55 rec7 d v1 v2 v3 = some res) :
    sk_G l (sk_rm 4 0 0) m_X9_findUnits sk_Ex0 (sk_Zm m_X9_findUnits none (sk_mm res)) 0 0 55 [some (.inr (.inr (some (44, 0)))), some (.inl v1), some (.inl v2), some (.inl v3), none, none, none] [] (sk_mm d) := by
  unfold q_X9_findUnits_55 at hq
  refine sg_iconst (v := (0 : Int32)) 56 (sk_td o_X9_findUnits 33 rfl) rfl (by decide) ?_
  exact t_X9_findUnits_56 hrec7 hq
def q_X9_findUnits_7 (rec7 : (sk_D × Int32 × Int32) → Option (sk_D)) (d : sk_D) (v1 : Int32) (v2 : Int32) : Option (sk_D) :=
  if (20 : Int32) ≤ v2 then some d else if sk_bi v2 20 = true then if sk_bi v2 20 = true then if (d.1 45 0 v2.toNatClampNeg) = (1 : Int32) then if (d.1 48 0 v2.toNatClampNeg) = (-9 : Int32) then (q_X9_findUnits_55 rec7 d v1 v2 (d.1 48 0 v2.toNatClampNeg)) else if (d.1 48 0 v2.toNatClampNeg) = v1 then (q_X9_findUnits_55 rec7 d v1 v2 (d.1 48 0 v2.toNatClampNeg)) else if sk_bi (d.1 48 0 v2.toNatClampNeg) 8 = true then if (d.1 52 0 (d.1 48 0 v2.toNatClampNeg).toNatClampNeg) = (1 : Int32) then (q_X9_findUnits_56 rec7 d v1 v2 (d.1 48 0 v2.toNatClampNeg) (1 : Int32)) else (q_X9_findUnits_55 rec7 d v1 v2 (d.1 48 0 v2.toNatClampNeg)) else none else (q_X9_findUnits_55 rec7 d v1 v2 (d.1 48 0 v2.toNatClampNeg)) else none else none
set_option maxRecDepth 100000 in
set_option maxHeartbeats 4000000 in
theorem t_X9_findUnits_7 {l : Launch} {rec7 : (sk_D × Int32 × Int32) → Option (sk_D)} {d : sk_D} {v1 : Int32} {v2 : Int32} (hrec7 : ∀ (a : (sk_D × Int32 × Int32)) (res : sk_D), rec7 a = some res → sk_G l (sk_rm 4 0 0) m_X9_findUnits sk_Ex0 (sk_Zm m_X9_findUnits none (sk_mm res)) 0 0 7 [some (.inr (.inr (some (44, 0)))), some (.inl a.2.1), some (.inl a.2.2), none, none, none, none] [] (sk_mm a.1)) {res : sk_D} (hq : q_X9_findUnits_7 rec7 d v1 v2 = some res) :
    sk_G l (sk_rm 4 0 0) m_X9_findUnits sk_Ex0 (sk_Zm m_X9_findUnits none (sk_mm res)) 0 0 7 [some (.inr (.inr (some (44, 0)))), some (.inl v1), some (.inl v2), none, none, none, none] [] (sk_mm d) := by
  unfold q_X9_findUnits_7 at hq
  refine sg_iload_n 8 (sk_td o_X9_findUnits 5 rfl) rfl rfl ?_
  refine sg_bipush (v := (20 : Int32)) 10 (sk_td o_X9_findUnits 6 rfl) rfl (by decide) ?_
  refine sg_ic_ge 231 13 (sk_td o_X9_findUnits 7 rfl) (by decide) rfl (fun hc => ?_) (fun hc => ?_)
  · rw [if_pos hc] at hq
    obtain rfl := Option.some.inj hq
    exact sg_vret (sk_td o_X9_findUnits 129 rfl) rfl
  · rw [if_neg hc] at hq
    refine sg_aload_n 14 (sk_td o_X9_findUnits 8 rfl) rfl rfl ?_
    refine sm_getR (48, 0) 17 (sk_td o_X9_findUnits 9 rfl) rfl kf_X9_29 rfl rfl sz_44 rfl ?_
    refine sg_iload_n 18 (sk_td o_X9_findUnits 10 rfl) rfl rfl ?_
    obtain ⟨hb1, hq⟩ := sk_ifn hq
    refine sm_iald 19 (sk_td o_X9_findUnits 11 rfl) rfl rfl sz_48 hb1 ?_
    refine sg_istore_n 20 [some (.inr (.inr (some (44, 0)))), some (.inl v1), some (.inl v2), some (.inl (d.1 48 0 v2.toNatClampNeg)), none, none, none] (sk_td o_X9_findUnits 12 rfl) rfl rfl (Nat.le_of_ble_eq_true rfl) rfl ?_
    refine sg_aload_n 21 (sk_td o_X9_findUnits 13 rfl) rfl rfl ?_
    refine sm_getR (45, 0) 24 (sk_td o_X9_findUnits 14 rfl) rfl kf_X9_19 rfl rfl sz_44 rfl ?_
    refine sg_iload_n 25 (sk_td o_X9_findUnits 15 rfl) rfl rfl ?_
    obtain ⟨hb2, hq⟩ := sk_ifn hq
    refine sm_iald 26 (sk_td o_X9_findUnits 16 rfl) rfl rfl sz_45 hb2 ?_
    refine sg_iconst (v := (1 : Int32)) 27 (sk_td o_X9_findUnits 17 rfl) rfl (by decide) ?_
    refine sg_ic_ne 55 30 (sk_td o_X9_findUnits 18 rfl) (by decide) rfl (fun hc => ?_) (fun hc => ?_)
    · rw [if_neg hc] at hq
      exact t_X9_findUnits_55 hrec7 hq
    · rw [if_pos hc] at hq
      refine sg_iload_n 31 (sk_td o_X9_findUnits 19 rfl) rfl rfl ?_
      refine sg_bipush (v := (-9 : Int32)) 33 (sk_td o_X9_findUnits 20 rfl) rfl (by decide) ?_
      refine sg_ic_eq 55 36 (sk_td o_X9_findUnits 21 rfl) (by decide) rfl (fun hc => ?_) (fun hc => ?_)
      · rw [if_pos hc] at hq
        exact t_X9_findUnits_55 hrec7 hq
      · rw [if_neg hc] at hq
        refine sg_iload_n 37 (sk_td o_X9_findUnits 22 rfl) rfl rfl ?_
        refine sg_iload_n 38 (sk_td o_X9_findUnits 23 rfl) rfl rfl ?_
        refine sg_ic_eq 55 41 (sk_td o_X9_findUnits 24 rfl) (by decide) rfl (fun hc => ?_) (fun hc => ?_)
        · rw [if_pos hc] at hq
          exact t_X9_findUnits_55 hrec7 hq
        · rw [if_neg hc] at hq
          refine sg_aload_n 42 (sk_td o_X9_findUnits 25 rfl) rfl rfl ?_
          refine sm_getR (52, 0) 45 (sk_td o_X9_findUnits 26 rfl) rfl kf_X9_41 rfl rfl sz_44 rfl ?_
          refine sg_iload_n 46 (sk_td o_X9_findUnits 27 rfl) rfl rfl ?_
          obtain ⟨hb3, hq⟩ := sk_ifn hq
          refine sm_iald 47 (sk_td o_X9_findUnits 28 rfl) rfl rfl sz_52 hb3 ?_
          refine sg_iconst (v := (1 : Int32)) 48 (sk_td o_X9_findUnits 29 rfl) rfl (by decide) ?_
          refine sg_ic_ne 55 51 (sk_td o_X9_findUnits 30 rfl) (by decide) rfl (fun hc => ?_) (fun hc => ?_)
          · rw [if_neg hc] at hq
            exact t_X9_findUnits_55 hrec7 hq
          · rw [if_pos hc] at hq
            refine sg_iconst (v := (1 : Int32)) 52 (sk_td o_X9_findUnits 31 rfl) rfl (by decide) ?_
            refine sg_goto 56 (sk_td o_X9_findUnits 32 rfl) (by decide) ?_
            exact t_X9_findUnits_56 hrec7 hq
def l_X9_findUnits_7 (fl : Nat) (a : (sk_D × Int32 × Int32)) : Option (sk_D) := sk_it (fun rec7 a => q_X9_findUnits_7 rec7 a.1 a.2.1 a.2.2) fl a
theorem lt_X9_findUnits_7 {l : Launch} : ∀ (fl : Nat) (a : (sk_D × Int32 × Int32)) (res : sk_D), l_X9_findUnits_7 fl a = some res → sk_G l (sk_rm 4 0 0) m_X9_findUnits sk_Ex0 (sk_Zm m_X9_findUnits none (sk_mm res)) 0 0 7 [some (.inr (.inr (some (44, 0)))), some (.inl a.2.1), some (.inl a.2.2), none, none, none, none] [] (sk_mm a.1) :=
  sk_it_ind (P := fun (a : (sk_D × Int32 × Int32)) (res : sk_D) => sk_G l (sk_rm 4 0 0) m_X9_findUnits sk_Ex0 (sk_Zm m_X9_findUnits none (sk_mm res)) 0 0 7 [some (.inr (.inr (some (44, 0)))), some (.inl a.2.1), some (.inl a.2.2), none, none, none, none] [] (sk_mm a.1)) (fun rec7 hrec7 a res hq  => t_X9_findUnits_7 hrec7 hq )
def q_X9_findUnits_0 (d : sk_D) (v1 : Int32) : Option (sk_D) :=
  (l_X9_findUnits_7 sk_fu ((sk_wi d 44 0 37 (0 : Int32)), v1, (0 : Int32)))
set_option maxRecDepth 100000 in
set_option maxHeartbeats 4000000 in
theorem t_X9_findUnits_0 {l : Launch} {d : sk_D} {v1 : Int32} {res : sk_D} (hq : q_X9_findUnits_0 d v1 = some res) :
    sk_G l (sk_rm 4 0 0) m_X9_findUnits sk_Ex0 (sk_Zm m_X9_findUnits none (sk_mm res)) 0 0 0 [some (.inr (.inr (some (44, 0)))), some (.inl v1), none, none, none, none, none] [] (sk_mm d) := by
  unfold q_X9_findUnits_0 at hq
  refine sg_aload_n 1 (sk_td o_X9_findUnits 0 rfl) rfl rfl ?_
  refine sg_iconst (v := (0 : Int32)) 2 (sk_td o_X9_findUnits 1 rfl) rfl (by decide) ?_
  refine sm_putI 5 (sk_td o_X9_findUnits 2 rfl) rfl kp_X9_230 rfl rfl sz_44 ?_
  refine sg_iconst (v := (0 : Int32)) 6 (sk_td o_X9_findUnits 3 rfl) rfl (by decide) ?_
  refine sg_istore_n 7 [some (.inr (.inr (some (44, 0)))), some (.inl v1), some (.inl (0 : Int32)), none, none, none, none] (sk_td o_X9_findUnits 4 rfl) rfl rfl (Nat.le_of_ble_eq_true rfl) rfl ?_
  exact lt_X9_findUnits_7 sk_fu ((sk_wi d 44 0 37 (0 : Int32)), v1, (0 : Int32)) _ hq
def q_X9_findUnits (d : sk_D) (v1 : Int32) : Option (sk_D) := q_X9_findUnits_0 d v1 
theorem s_X9_findUnits {l : Launch} {d : sk_D} {v1 : Int32} {res : sk_D} (hq : q_X9_findUnits d v1 = some res) : sk_M l 4 m_X9_findUnits [.inr (.inr (some (44, 0))), .inl v1] (sk_mm d) none (sk_mm res) :=
  sk_enter (by decide) (fun _ => Nat.le_of_ble_eq_true rfl) (Nat.le_of_ble_eq_true rfl) (t_X9_findUnits_0 hq )
def q_X9_mayGet_0 (d : sk_D) (v1 : Int32) (v2 : Int32) (v3 : Int32) : Option (Int32) :=
  if sk_bi (((4 : Int32) * v1) + v2) 80 = true then if (d.1 78 0 (((4 : Int32) * v1) + v2).toNatClampNeg) = (-9 : Int32) then some (0 : Int32) else (q_X9_power d v2).bind fun x2 => if ¬ (x2 = 0) then if sk_bi v1 20 = true then if ((v3 / x2) - (v3 / x2) / (7 : Int32) * (7 : Int32)) < (d.1 76 0 v1.toNatClampNeg) then some (0 : Int32) else some (1 : Int32) else none else none else none
set_option maxRecDepth 100000 in
set_option maxHeartbeats 4000000 in
theorem t_X9_mayGet_0 {l : Launch} {d : sk_D} {v1 : Int32} {v2 : Int32} {v3 : Int32} {res : Int32} (hq : q_X9_mayGet_0 d v1 v2 v3 = some res) :
    sk_G l (sk_rm 2 0 0) m_X9_mayGet sk_Ex0 (sk_Zm m_X9_mayGet (some (.inl res)) (sk_mm d)) 0 0 0 [some (.inr (.inr (some (44, 0)))), some (.inl v1), some (.inl v2), some (.inl v3)] [] (sk_mm d) := by
  unfold q_X9_mayGet_0 at hq
  refine sg_aload_n 1 (sk_td o_X9_mayGet 0 rfl) rfl rfl ?_
  refine sm_getR (78, 0) 4 (sk_td o_X9_mayGet 1 rfl) rfl kf_X9_119 rfl rfl sz_44 rfl ?_
  refine sg_iconst (v := (4 : Int32)) 5 (sk_td o_X9_mayGet 2 rfl) rfl (by decide) ?_
  refine sg_iload_n 6 (sk_td o_X9_mayGet 3 rfl) rfl rfl ?_
  refine sg_imul 7 (sk_td o_X9_mayGet 4 rfl) rfl ?_
  refine sg_iload_n 8 (sk_td o_X9_mayGet 5 rfl) rfl rfl ?_
  refine sg_iadd 9 (sk_td o_X9_mayGet 6 rfl) rfl ?_
  obtain ⟨hb1, hq⟩ := sk_ifn hq
  refine sm_iald 10 (sk_td o_X9_mayGet 7 rfl) rfl rfl sz_78 hb1 ?_
  refine sg_bipush (v := (-9 : Int32)) 12 (sk_td o_X9_mayGet 8 rfl) rfl (by decide) ?_
  refine sg_ic_eq 37 15 (sk_td o_X9_mayGet 9 rfl) (by decide) rfl (fun hc => ?_) (fun hc => ?_)
  · rw [if_pos hc] at hq
    refine sg_iconst (v := (0 : Int32)) 38 (sk_td o_X9_mayGet 23 rfl) rfl (by decide) ?_
    obtain rfl := Option.some.inj hq
    exact sg_iret (sk_td o_X9_mayGet 24 rfl) rfl (show narrow .boolean (.int (0 : Int32)) = .int (0 : Int32) by decide)
  · rw [if_neg hc] at hq
    refine sg_iload_n 16 (sk_td o_X9_mayGet 10 rfl) rfl rfl ?_
    refine sg_iload_n 17 (sk_td o_X9_mayGet 11 rfl) rfl rfl ?_
    obtain ⟨x2, hr_x2, hq⟩ := sk_bnd hq
    refine sm_callS1i 20 (s_X9_power hr_x2) (sk_td o_X9_mayGet 12 rfl) rfl ls_X9_237 rfl (sk_rok (Nat.le_of_ble_eq_true rfl) (Nat.le_of_ble_eq_true rfl) rfl rfl) (Nat.le_of_ble_eq_true rfl) ?_
    obtain ⟨hz3, hq⟩ := sk_ifn hq
    refine sg_idiv 21 (sk_td o_X9_mayGet 13 rfl) rfl hz3 ?_
    refine sg_bipush (v := (7 : Int32)) 23 (sk_td o_X9_mayGet 14 rfl) rfl (by decide) ?_
    refine sg_irem 24 (sk_td o_X9_mayGet 15 rfl) rfl (by decide) ?_
    refine sg_aload_n 25 (sk_td o_X9_mayGet 16 rfl) rfl rfl ?_
    refine sm_getR (76, 0) 28 (sk_td o_X9_mayGet 17 rfl) rfl kf_X9_113 rfl rfl sz_44 rfl ?_
    refine sg_iload_n 29 (sk_td o_X9_mayGet 18 rfl) rfl rfl ?_
    obtain ⟨hb4, hq⟩ := sk_ifn hq
    refine sm_iald 30 (sk_td o_X9_mayGet 19 rfl) rfl rfl sz_76 hb4 ?_
    refine sg_ic_lt 37 33 (sk_td o_X9_mayGet 20 rfl) (by decide) rfl (fun hc => ?_) (fun hc => ?_)
    · rw [if_pos hc] at hq
      refine sg_iconst (v := (0 : Int32)) 38 (sk_td o_X9_mayGet 23 rfl) rfl (by decide) ?_
      obtain rfl := Option.some.inj hq
      exact sg_iret (sk_td o_X9_mayGet 24 rfl) rfl (show narrow .boolean (.int (0 : Int32)) = .int (0 : Int32) by decide)
    · rw [if_neg hc] at hq
      refine sg_iconst (v := (1 : Int32)) 34 (sk_td o_X9_mayGet 21 rfl) rfl (by decide) ?_
      refine sg_goto 38 (sk_td o_X9_mayGet 22 rfl) (by decide) ?_
      obtain rfl := Option.some.inj hq
      exact sg_iret (sk_td o_X9_mayGet 24 rfl) rfl (show narrow .boolean (.int (1 : Int32)) = .int (1 : Int32) by decide)
def q_X9_mayGet (d : sk_D) (v1 : Int32) (v2 : Int32) (v3 : Int32) : Option (Int32) := q_X9_mayGet_0 d v1 v2 v3 
theorem s_X9_mayGet {l : Launch} {d : sk_D} {v1 : Int32} {v2 : Int32} {v3 : Int32} {res : Int32} (hq : q_X9_mayGet d v1 v2 v3 = some res) : sk_M l 2 m_X9_mayGet [.inr (.inr (some (44, 0))), .inl v1, .inl v2, .inl v3] (sk_mm d) (some (.inl res)) (sk_mm d) :=
  sk_enter (by decide) (fun _ => Nat.le_of_ble_eq_true rfl) (Nat.le_of_ble_eq_true rfl) (t_X9_mayGet_0 hq )
def q_X9_worthOf_0 (d : sk_D) (v1 : Int32) (v2 : Int32) (v3 : Int32) : Option (Int32) :=
  if sk_bi v1 20 = true then (q_X9_power d v2).bind fun x2 => if sk_bi v1 20 = true then if sk_bi (((4 : Int32) * v1) + v2) 80 = true then if sk_bi (((2401 : Int32) * (v1 + (1 : Int32))) + (v3 - ((d.1 76 0 v1.toNatClampNeg) * x2))) 50421 = true then some ((((100 : Int32) * (d.1 76 0 v1.toNatClampNeg)) - (d.1 78 0 (((4 : Int32) * v1) + v2).toNatClampNeg)) + (d.1 79 0 (((2401 : Int32) * (v1 + (1 : Int32))) + (v3 - ((d.1 76 0 v1.toNatClampNeg) * x2))).toNatClampNeg)) else none else none else none else none
set_option maxRecDepth 100000 in
set_option maxHeartbeats 4000000 in
theorem t_X9_worthOf_0 {l : Launch} {d : sk_D} {v1 : Int32} {v2 : Int32} {v3 : Int32} {res : Int32} (hq : q_X9_worthOf_0 d v1 v2 v3 = some res) :
    sk_G l (sk_rm 2 0 0) m_X9_worthOf sk_Ex0 (sk_Zm m_X9_worthOf (some (.inl res)) (sk_mm d)) 0 0 0 [some (.inr (.inr (some (44, 0)))), some (.inl v1), some (.inl v2), some (.inl v3), none] [] (sk_mm d) := by
  unfold q_X9_worthOf_0 at hq
  refine sg_iload_n 1 (sk_td o_X9_worthOf 0 rfl) rfl rfl ?_
  refine sg_aload_n 2 (sk_td o_X9_worthOf 1 rfl) rfl rfl ?_
  refine sm_getR (76, 0) 5 (sk_td o_X9_worthOf 2 rfl) rfl kf_X9_113 rfl rfl sz_44 rfl ?_
  refine sg_iload_n 6 (sk_td o_X9_worthOf 3 rfl) rfl rfl ?_
  obtain ⟨hb1, hq⟩ := sk_ifn hq
  refine sm_iald 7 (sk_td o_X9_worthOf 4 rfl) rfl rfl sz_76 hb1 ?_
  refine sg_iload_n 8 (sk_td o_X9_worthOf 5 rfl) rfl rfl ?_
  obtain ⟨x2, hr_x2, hq⟩ := sk_bnd hq
  refine sm_callS1i 11 (s_X9_power hr_x2) (sk_td o_X9_worthOf 6 rfl) rfl ls_X9_237 rfl (sk_rok (Nat.le_of_ble_eq_true rfl) (Nat.le_of_ble_eq_true rfl) rfl rfl) (Nat.le_of_ble_eq_true rfl) ?_
  refine sg_imul 12 (sk_td o_X9_worthOf 7 rfl) rfl ?_
  refine sg_isub 13 (sk_td o_X9_worthOf 8 rfl) rfl ?_
  refine sg_istore 15 [some (.inr (.inr (some (44, 0)))), some (.inl v1), some (.inl v2), some (.inl v3), some (.inl (v3 - ((d.1 76 0 v1.toNatClampNeg) * x2)))] (sk_td o_X9_worthOf 9 rfl) rfl rfl (Nat.le_of_ble_eq_true rfl) rfl ?_
  refine sg_bipush (v := (100 : Int32)) 17 (sk_td o_X9_worthOf 10 rfl) rfl (by decide) ?_
  refine sg_aload_n 18 (sk_td o_X9_worthOf 11 rfl) rfl rfl ?_
  refine sm_getR (76, 0) 21 (sk_td o_X9_worthOf 12 rfl) rfl kf_X9_113 rfl rfl sz_44 rfl ?_
  refine sg_iload_n 22 (sk_td o_X9_worthOf 13 rfl) rfl rfl ?_
  obtain ⟨hb3, hq⟩ := sk_ifn hq
  refine sm_iald 23 (sk_td o_X9_worthOf 14 rfl) rfl rfl sz_76 hb3 ?_
  refine sg_imul 24 (sk_td o_X9_worthOf 15 rfl) rfl ?_
  refine sg_aload_n 25 (sk_td o_X9_worthOf 16 rfl) rfl rfl ?_
  refine sm_getR (78, 0) 28 (sk_td o_X9_worthOf 17 rfl) rfl kf_X9_119 rfl rfl sz_44 rfl ?_
  refine sg_iconst (v := (4 : Int32)) 29 (sk_td o_X9_worthOf 18 rfl) rfl (by decide) ?_
  refine sg_iload_n 30 (sk_td o_X9_worthOf 19 rfl) rfl rfl ?_
  refine sg_imul 31 (sk_td o_X9_worthOf 20 rfl) rfl ?_
  refine sg_iload_n 32 (sk_td o_X9_worthOf 21 rfl) rfl rfl ?_
  refine sg_iadd 33 (sk_td o_X9_worthOf 22 rfl) rfl ?_
  obtain ⟨hb4, hq⟩ := sk_ifn hq
  refine sm_iald 34 (sk_td o_X9_worthOf 23 rfl) rfl rfl sz_78 hb4 ?_
  refine sg_isub 35 (sk_td o_X9_worthOf 24 rfl) rfl ?_
  refine sg_aload_n 36 (sk_td o_X9_worthOf 25 rfl) rfl rfl ?_
  refine sm_getR (79, 0) 39 (sk_td o_X9_worthOf 26 rfl) rfl kf_X9_123 rfl rfl sz_44 rfl ?_
  refine sg_sipush (v := (2401 : Int32)) 42 (sk_td o_X9_worthOf 27 rfl) rfl (by decide) ?_
  refine sg_iload_n 43 (sk_td o_X9_worthOf 28 rfl) rfl rfl ?_
  refine sg_iconst (v := (1 : Int32)) 44 (sk_td o_X9_worthOf 29 rfl) rfl (by decide) ?_
  refine sg_iadd 45 (sk_td o_X9_worthOf 30 rfl) rfl ?_
  refine sg_imul 46 (sk_td o_X9_worthOf 31 rfl) rfl ?_
  refine sg_iload 48 (sk_td o_X9_worthOf 32 rfl) rfl rfl ?_
  refine sg_iadd 49 (sk_td o_X9_worthOf 33 rfl) rfl ?_
  obtain ⟨hb5, hq⟩ := sk_ifn hq
  refine sm_iald 50 (sk_td o_X9_worthOf 34 rfl) rfl rfl sz_79 hb5 ?_
  refine sg_iadd 51 (sk_td o_X9_worthOf 35 rfl) rfl ?_
  obtain rfl := Option.some.inj hq
  exact sg_iret (sk_td o_X9_worthOf 36 rfl) rfl rfl
def q_X9_worthOf (d : sk_D) (v1 : Int32) (v2 : Int32) (v3 : Int32) : Option (Int32) := q_X9_worthOf_0 d v1 v2 v3 
theorem s_X9_worthOf {l : Launch} {d : sk_D} {v1 : Int32} {v2 : Int32} {v3 : Int32} {res : Int32} (hq : q_X9_worthOf d v1 v2 v3 = some res) : sk_M l 2 m_X9_worthOf [.inr (.inr (some (44, 0))), .inl v1, .inl v2, .inl v3] (sk_mm d) (some (.inl res)) (sk_mm d) :=
  sk_enter (by decide) (fun _ => Nat.le_of_ble_eq_true rfl) (Nat.le_of_ble_eq_true rfl) (t_X9_worthOf_0 hq )
def q_X9_plan_331 (rec188 : (sk_D × Int32 × Int32 × Int32) → Option (Int32 × sk_D)) (d : sk_D) (v2 : Int32) (v3 : Int32) (v4 : Int32) : Option (Int32 × sk_D) :=
  (rec188 (d, v2, v3, (v4 + (1 : Int32))))
set_option maxRecDepth 100000 in
set_option maxHeartbeats 4000000 in
theorem t_X9_plan_331 {l : Launch} {rec188 : (sk_D × Int32 × Int32 × Int32) → Option (Int32 × sk_D)} {d : sk_D} {v2 : Int32} {v3 : Int32} {v4 : Int32} (hrec188 : ∀ (a : (sk_D × Int32 × Int32 × Int32)) (res : Int32 × sk_D), rec188 a = some res → sk_G l (sk_rm 5 0 0) m_X9_plan sk_Ex0 (sk_Zm m_X9_plan (some (.inl res.1)) (sk_mm res.2)) 0 0 188 [some (.inr (.inr (some (44, 0)))), none, some (.inl a.2.1), some (.inl a.2.2.1), some (.inl a.2.2.2), none, none] [] (sk_mm a.1)) {res : Int32 × sk_D} (hq : q_X9_plan_331 rec188 d v2 v3 v4 = some res) :
    sk_G l (sk_rm 5 0 0) m_X9_plan sk_Ex0 (sk_Zm m_X9_plan (some (.inl res.1)) (sk_mm res.2)) 0 0 331 [some (.inr (.inr (some (44, 0)))), none, some (.inl v2), some (.inl v3), some (.inl v4), none, none] [] (sk_mm d) := by
  unfold q_X9_plan_331 at hq
  refine sg_iinc (v4 + (1 : Int32)) 334 [some (.inr (.inr (some (44, 0)))), none, some (.inl v2), some (.inl v3), some (.inl (v4 + (1 : Int32))), none, none] (sk_td o_X9_plan 184 rfl) rfl rfl rfl rfl (Nat.le_of_ble_eq_true rfl) rfl ?_
  refine sg_goto 188 (sk_td o_X9_plan 185 rfl) (by decide) ?_
  exact hrec188 (d, v2, v3, (v4 + (1 : Int32))) _ hq
def q_X9_plan_281 (rec188 : (sk_D × Int32 × Int32 × Int32) → Option (Int32 × sk_D)) (rec209 : (sk_D × Int32 × Int32 × Int32 × Int32) → Option (Int32 × sk_D)) (d : sk_D) (v2 : Int32) (v3 : Int32) (v4 : Int32) (v5 : Int32) (s1 : Int32) (s2 : Int32) : Option (Int32 × sk_D) :=
  if sk_bi s1 20 = true then (rec209 ((sk_wi d 83 0 s1.toNatClampNeg s2), v2, v3, v4, (v5 + (-1 : Int32)))) else none
set_option maxRecDepth 100000 in
set_option maxHeartbeats 4000000 in
theorem t_X9_plan_281 {l : Launch} {rec188 : (sk_D × Int32 × Int32 × Int32) → Option (Int32 × sk_D)} {rec209 : (sk_D × Int32 × Int32 × Int32 × Int32) → Option (Int32 × sk_D)} {d : sk_D} {v2 : Int32} {v3 : Int32} {v4 : Int32} {v5 : Int32} {s1 : Int32} {s2 : Int32} (hrec188 : ∀ (a : (sk_D × Int32 × Int32 × Int32)) (res : Int32 × sk_D), rec188 a = some res → sk_G l (sk_rm 5 0 0) m_X9_plan sk_Ex0 (sk_Zm m_X9_plan (some (.inl res.1)) (sk_mm res.2)) 0 0 188 [some (.inr (.inr (some (44, 0)))), none, some (.inl a.2.1), some (.inl a.2.2.1), some (.inl a.2.2.2), none, none] [] (sk_mm a.1)) (hrec209 : ∀ (a : (sk_D × Int32 × Int32 × Int32 × Int32)) (res : Int32 × sk_D), rec209 a = some res → sk_G l (sk_rm 5 0 0) m_X9_plan sk_Ex0 (sk_Zm m_X9_plan (some (.inl res.1)) (sk_mm res.2)) 0 0 209 [some (.inr (.inr (some (44, 0)))), none, some (.inl a.2.1), some (.inl a.2.2.1), some (.inl a.2.2.2.1), some (.inl a.2.2.2.2), none] [] (sk_mm a.1)) {res : Int32 × sk_D} (hq : q_X9_plan_281 rec188 rec209 d v2 v3 v4 v5 s1 s2 = some res) :
    sk_G l (sk_rm 5 0 0) m_X9_plan sk_Ex0 (sk_Zm m_X9_plan (some (.inl res.1)) (sk_mm res.2)) 0 0 281 [some (.inr (.inr (some (44, 0)))), none, some (.inl v2), some (.inl v3), some (.inl v4), some (.inl v5), none] [.inl s2, .inl s1, .inr (.inr (some (83, 0)))] (sk_mm d) := by
  unfold q_X9_plan_281 at hq
  obtain ⟨hb1, hq⟩ := sk_ifn hq
  refine sm_iast 282 (sk_td o_X9_plan 155 rfl) rfl rfl sz_83 hb1 ?_
  refine sg_iinc (v5 + (-1 : Int32)) 285 [some (.inr (.inr (some (44, 0)))), none, some (.inl v2), some (.inl v3), some (.inl v4), some (.inl (v5 + (-1 : Int32))), none] (sk_td o_X9_plan 156 rfl) rfl rfl rfl rfl (Nat.le_of_ble_eq_true rfl) rfl ?_
  refine sg_goto 209 (sk_td o_X9_plan 157 rfl) (by decide) ?_
  exact hrec209 ((sk_wi d 83 0 s1.toNatClampNeg s2), v2, v3, v4, (v5 + (-1 : Int32))) _ hq
def q_X9_plan_256 (rec188 : (sk_D × Int32 × Int32 × Int32) → Option (Int32 × sk_D)) (rec209 : (sk_D × Int32 × Int32 × Int32 × Int32) → Option (Int32 × sk_D)) (d : sk_D) (v2 : Int32) (v3 : Int32) (v4 : Int32) (v5 : Int32) (s0 : Int32) : Option (Int32 × sk_D) :=
  if s0 = 0 then if sk_bi v4 20 = true then (q_X9_plan_281 rec188 rec209 d v2 v3 v4 v5 v4 (d.1 83 0 v4.toNatClampNeg)) else none else (q_X9_plan_281 rec188 rec209 d v2 v3 v4 v5 v4 v5)
set_option maxRecDepth 100000 in
set_option maxHeartbeats 4000000 in
theorem t_X9_plan_256 {l : Launch} {rec188 : (sk_D × Int32 × Int32 × Int32) → Option (Int32 × sk_D)} {rec209 : (sk_D × Int32 × Int32 × Int32 × Int32) → Option (Int32 × sk_D)} {d : sk_D} {v2 : Int32} {v3 : Int32} {v4 : Int32} {v5 : Int32} {s0 : Int32} (hrec188 : ∀ (a : (sk_D × Int32 × Int32 × Int32)) (res : Int32 × sk_D), rec188 a = some res → sk_G l (sk_rm 5 0 0) m_X9_plan sk_Ex0 (sk_Zm m_X9_plan (some (.inl res.1)) (sk_mm res.2)) 0 0 188 [some (.inr (.inr (some (44, 0)))), none, some (.inl a.2.1), some (.inl a.2.2.1), some (.inl a.2.2.2), none, none] [] (sk_mm a.1)) (hrec209 : ∀ (a : (sk_D × Int32 × Int32 × Int32 × Int32)) (res : Int32 × sk_D), rec209 a = some res → sk_G l (sk_rm 5 0 0) m_X9_plan sk_Ex0 (sk_Zm m_X9_plan (some (.inl res.1)) (sk_mm res.2)) 0 0 209 [some (.inr (.inr (some (44, 0)))), none, some (.inl a.2.1), some (.inl a.2.2.1), some (.inl a.2.2.2.1), some (.inl a.2.2.2.2), none] [] (sk_mm a.1)) {res : Int32 × sk_D} (hq : q_X9_plan_256 rec188 rec209 d v2 v3 v4 v5 s0 = some res) :
    sk_G l (sk_rm 5 0 0) m_X9_plan sk_Ex0 (sk_Zm m_X9_plan (some (.inl res.1)) (sk_mm res.2)) 0 0 256 [some (.inr (.inr (some (44, 0)))), none, some (.inl v2), some (.inl v3), some (.inl v4), some (.inl v5), none] [.inl s0] (sk_mm d) := by
  unfold q_X9_plan_256 at hq
  refine sg_istore 258 [some (.inr (.inr (some (44, 0)))), none, some (.inl v2), some (.inl v3), some (.inl v4), some (.inl v5), some (.inl s0)] (sk_td o_X9_plan 143 rfl) rfl rfl (Nat.le_of_ble_eq_true rfl) rfl ?_
  refine sg_aload_n 259 (sk_td o_X9_plan 144 rfl) rfl rfl ?_
  refine sm_getR (83, 0) 262 (sk_td o_X9_plan 145 rfl) rfl kf_X9_135 rfl rfl sz_44 rfl ?_
  refine sg_iload 264 (sk_td o_X9_plan 146 rfl) rfl rfl ?_
  refine sg_iload 266 (sk_td o_X9_plan 147 rfl) rfl rfl ?_
  refine sg_if_eq 274 269 (sk_td o_X9_plan 148 rfl) (by decide) rfl (fun hc => ?_) (fun hc => ?_)
  · rw [if_pos hc] at hq
    refine sg_aload_n 275 (sk_td o_X9_plan 151 rfl) rfl rfl ?_
    refine sm_getR (83, 0) 278 (sk_td o_X9_plan 152 rfl) rfl kf_X9_135 rfl rfl sz_44 rfl ?_
    refine sg_iload 280 (sk_td o_X9_plan 153 rfl) rfl rfl ?_
    obtain ⟨hb1, hq⟩ := sk_ifn hq
    refine sm_iald 281 (sk_td o_X9_plan 154 rfl) rfl rfl sz_83 hb1 ?_
    refine sk_wk [true, true, true, true, true, true, false] (ls' := [some (.inr (.inr (some (44, 0)))), none, some (.inl v2), some (.inl v3), some (.inl v4), some (.inl v5), none]) rfl ?_
    exact t_X9_plan_281 hrec188 hrec209 hq
  · rw [if_neg hc] at hq
    refine sg_iload 271 (sk_td o_X9_plan 149 rfl) rfl rfl ?_
    refine sg_goto 281 (sk_td o_X9_plan 150 rfl) (by decide) ?_
    refine sk_wk [true, true, true, true, true, true, false] (ls' := [some (.inr (.inr (some (44, 0)))), none, some (.inl v2), some (.inl v3), some (.inl v4), some (.inl v5), none]) rfl ?_
    exact t_X9_plan_281 hrec188 hrec209 hq
def q_X9_plan_255 (rec188 : (sk_D × Int32 × Int32 × Int32) → Option (Int32 × sk_D)) (rec209 : (sk_D × Int32 × Int32 × Int32 × Int32) → Option (Int32 × sk_D)) (d : sk_D) (v2 : Int32) (v3 : Int32) (v4 : Int32) (v5 : Int32) : Option (Int32 × sk_D) :=
  (q_X9_plan_256 rec188 rec209 d v2 v3 v4 v5 (0 : Int32))
set_option maxRecDepth 100000 in
set_option maxHeartbeats 4000000 in
theorem t_X9_plan_255 {l : Launch} {rec188 : (sk_D × Int32 × Int32 × Int32) → Option (Int32 × sk_D)} {rec209 : (sk_D × Int32 × Int32 × Int32 × Int32) → Option (Int32 × sk_D)} {d : sk_D} {v2 : Int32} {v3 : Int32} {v4 : Int32} {v5 : Int32} (hrec188 : ∀ (a : (sk_D × Int32 × Int32 × Int32)) (res : Int32 × sk_D), rec188 a = some res → sk_G l (sk_rm 5 0 0) m_X9_plan sk_Ex0 (sk_Zm m_X9_plan (some (.inl res.1)) (sk_mm res.2)) 0 0 188 [some (.inr (.inr (some (44, 0)))), none, some (.inl a.2.1), some (.inl a.2.2.1), some (.inl a.2.2.2), none, none] [] (sk_mm a.1)) (hrec209 : ∀ (a : (sk_D × Int32 × Int32 × Int32 × Int32)) (res : Int32 × sk_D), rec209 a = some res → sk_G l (sk_rm 5 0 0) m_X9_plan sk_Ex0 (sk_Zm m_X9_plan (some (.inl res.1)) (sk_mm res.2)) 0 0 209 [some (.inr (.inr (some (44, 0)))), none, some (.inl a.2.1), some (.inl a.2.2.1), some (.inl a.2.2.2.1), some (.inl a.2.2.2.2), none] [] (sk_mm a.1)) {res : Int32 × sk_D} (hq : q_X9_plan_255 rec188 rec209 d v2 v3 v4 v5 = some res) :
    sk_G l (sk_rm 5 0 0) m_X9_plan sk_Ex0 (sk_Zm m_X9_plan (some (.inl res.1)) (sk_mm res.2)) 0 0 255 [some (.inr (.inr (some (44, 0)))), none, some (.inl v2), some (.inl v3), some (.inl v4), some (.inl v5), none] [] (sk_mm d) := by
  unfold q_X9_plan_255 at hq
  refine sg_iconst (v := (0 : Int32)) 256 (sk_td o_X9_plan 142 rfl) rfl (by decide) ?_
  exact t_X9_plan_256 hrec188 hrec209 hq
def q_X9_plan_209 (rec188 : (sk_D × Int32 × Int32 × Int32) → Option (Int32 × sk_D)) (rec209 : (sk_D × Int32 × Int32 × Int32 × Int32) → Option (Int32 × sk_D)) (d : sk_D) (v2 : Int32) (v3 : Int32) (v4 : Int32) (v5 : Int32) : Option (Int32 × sk_D) :=
  if v5 < 0 then if sk_bi v4 20 = true then if (d.1 83 0 v4.toNatClampNeg) = (-9 : Int32) then (q_X9_plan_331 rec188 d v2 v3 v4) else if sk_bi v4 20 = true then if sk_bi v4 20 = true then (q_X9_power d (d.1 83 0 v4.toNatClampNeg)).bind fun x4 => if sk_bi v4 20 = true then (q_X9_plan_331 rec188 d (v2 - ((d.1 76 0 v4.toNatClampNeg) * x4)) (v3 + (d.1 76 0 v4.toNatClampNeg)) v4) else none else none else none else none else (q_X9_mayGet d v4 v5 v2).bind fun x6 => if x6 = 0 then (q_X9_plan_255 rec188 rec209 d v2 v3 v4 v5) else (q_X9_worthOf d v4 v5 v2).bind fun x7 => if sk_bi (((2401 : Int32) * v4) + v2) 50421 = true then if x7 = (d.1 79 0 (((2401 : Int32) * v4) + v2).toNatClampNeg) then (q_X9_plan_256 rec188 rec209 d v2 v3 v4 v5 (1 : Int32)) else (q_X9_plan_255 rec188 rec209 d v2 v3 v4 v5) else none
set_option maxRecDepth 100000 in
set_option maxHeartbeats 4000000 in
theorem t_X9_plan_209 {l : Launch} {rec188 : (sk_D × Int32 × Int32 × Int32) → Option (Int32 × sk_D)} {rec209 : (sk_D × Int32 × Int32 × Int32 × Int32) → Option (Int32 × sk_D)} {d : sk_D} {v2 : Int32} {v3 : Int32} {v4 : Int32} {v5 : Int32} (hrec188 : ∀ (a : (sk_D × Int32 × Int32 × Int32)) (res : Int32 × sk_D), rec188 a = some res → sk_G l (sk_rm 5 0 0) m_X9_plan sk_Ex0 (sk_Zm m_X9_plan (some (.inl res.1)) (sk_mm res.2)) 0 0 188 [some (.inr (.inr (some (44, 0)))), none, some (.inl a.2.1), some (.inl a.2.2.1), some (.inl a.2.2.2), none, none] [] (sk_mm a.1)) (hrec209 : ∀ (a : (sk_D × Int32 × Int32 × Int32 × Int32)) (res : Int32 × sk_D), rec209 a = some res → sk_G l (sk_rm 5 0 0) m_X9_plan sk_Ex0 (sk_Zm m_X9_plan (some (.inl res.1)) (sk_mm res.2)) 0 0 209 [some (.inr (.inr (some (44, 0)))), none, some (.inl a.2.1), some (.inl a.2.2.1), some (.inl a.2.2.2.1), some (.inl a.2.2.2.2), none] [] (sk_mm a.1)) {res : Int32 × sk_D} (hq : q_X9_plan_209 rec188 rec209 d v2 v3 v4 v5 = some res) :
    sk_G l (sk_rm 5 0 0) m_X9_plan sk_Ex0 (sk_Zm m_X9_plan (some (.inl res.1)) (sk_mm res.2)) 0 0 209 [some (.inr (.inr (some (44, 0)))), none, some (.inl v2), some (.inl v3), some (.inl v4), some (.inl v5), none] [] (sk_mm d) := by
  unfold q_X9_plan_209 at hq
  refine sg_iload 211 (sk_td o_X9_plan 118 rfl) rfl rfl ?_
  refine sg_if_lt 288 214 (sk_td o_X9_plan 119 rfl) (by decide) rfl (fun hc => ?_) (fun hc => ?_)
  · rw [if_pos hc] at hq
    refine sg_aload_n 289 (sk_td o_X9_plan 158 rfl) rfl rfl ?_
    refine sm_getR (83, 0) 292 (sk_td o_X9_plan 159 rfl) rfl kf_X9_135 rfl rfl sz_44 rfl ?_
    refine sg_iload 294 (sk_td o_X9_plan 160 rfl) rfl rfl ?_
    obtain ⟨hb1, hq⟩ := sk_ifn hq
    refine sm_iald 295 (sk_td o_X9_plan 161 rfl) rfl rfl sz_83 hb1 ?_
    refine sg_bipush (v := (-9 : Int32)) 297 (sk_td o_X9_plan 162 rfl) rfl (by decide) ?_
    refine sg_ic_eq 331 300 (sk_td o_X9_plan 163 rfl) (by decide) rfl (fun hc => ?_) (fun hc => ?_)
    · rw [if_pos hc] at hq
      refine sk_wk [true, true, true, true, true, false, true] (ls' := [some (.inr (.inr (some (44, 0)))), none, some (.inl v2), some (.inl v3), some (.inl v4), none, none]) rfl ?_
      exact t_X9_plan_331 hrec188 hq
    · rw [if_neg hc] at hq
      refine sg_iload_n 301 (sk_td o_X9_plan 164 rfl) rfl rfl ?_
      refine sg_aload_n 302 (sk_td o_X9_plan 165 rfl) rfl rfl ?_
      refine sm_getR (76, 0) 305 (sk_td o_X9_plan 166 rfl) rfl kf_X9_113 rfl rfl sz_44 rfl ?_
      refine sg_iload 307 (sk_td o_X9_plan 167 rfl) rfl rfl ?_
      obtain ⟨hb2, hq⟩ := sk_ifn hq
      refine sm_iald 308 (sk_td o_X9_plan 168 rfl) rfl rfl sz_76 hb2 ?_
      refine sg_aload_n 309 (sk_td o_X9_plan 169 rfl) rfl rfl ?_
      refine sm_getR (83, 0) 312 (sk_td o_X9_plan 170 rfl) rfl kf_X9_135 rfl rfl sz_44 rfl ?_
      refine sg_iload 314 (sk_td o_X9_plan 171 rfl) rfl rfl ?_
      obtain ⟨hb3, hq⟩ := sk_ifn hq
      refine sm_iald 315 (sk_td o_X9_plan 172 rfl) rfl rfl sz_83 hb3 ?_
      obtain ⟨x4, hr_x4, hq⟩ := sk_bnd hq
      refine sm_callS1i 318 (s_X9_power hr_x4) (sk_td o_X9_plan 173 rfl) rfl ls_X9_237 rfl (sk_rok (Nat.le_of_ble_eq_true rfl) (Nat.le_of_ble_eq_true rfl) rfl rfl) (Nat.le_of_ble_eq_true rfl) ?_
      refine sg_imul 319 (sk_td o_X9_plan 174 rfl) rfl ?_
      refine sg_isub 320 (sk_td o_X9_plan 175 rfl) rfl ?_
      refine sg_istore_n 321 [some (.inr (.inr (some (44, 0)))), none, some (.inl (v2 - ((d.1 76 0 v4.toNatClampNeg) * x4))), some (.inl v3), some (.inl v4), some (.inl v5), none] (sk_td o_X9_plan 176 rfl) rfl rfl (Nat.le_of_ble_eq_true rfl) rfl ?_
      refine sg_iload_n 322 (sk_td o_X9_plan 177 rfl) rfl rfl ?_
      refine sg_aload_n 323 (sk_td o_X9_plan 178 rfl) rfl rfl ?_
      refine sm_getR (76, 0) 326 (sk_td o_X9_plan 179 rfl) rfl kf_X9_113 rfl rfl sz_44 rfl ?_
      refine sg_iload 328 (sk_td o_X9_plan 180 rfl) rfl rfl ?_
      obtain ⟨hb5, hq⟩ := sk_ifn hq
      refine sm_iald 329 (sk_td o_X9_plan 181 rfl) rfl rfl sz_76 hb5 ?_
      refine sg_iadd 330 (sk_td o_X9_plan 182 rfl) rfl ?_
      refine sg_istore_n 331 [some (.inr (.inr (some (44, 0)))), none, some (.inl (v2 - ((d.1 76 0 v4.toNatClampNeg) * x4))), some (.inl (v3 + (d.1 76 0 v4.toNatClampNeg))), some (.inl v4), some (.inl v5), none] (sk_td o_X9_plan 183 rfl) rfl rfl (Nat.le_of_ble_eq_true rfl) rfl ?_
      refine sk_wk [true, true, true, true, true, false, true] (ls' := [some (.inr (.inr (some (44, 0)))), none, some (.inl (v2 - ((d.1 76 0 v4.toNatClampNeg) * x4))), some (.inl (v3 + (d.1 76 0 v4.toNatClampNeg))), some (.inl v4), none, none]) rfl ?_
      exact t_X9_plan_331 hrec188 hq
  · rw [if_neg hc] at hq
    refine sg_aload_n 215 (sk_td o_X9_plan 120 rfl) rfl rfl ?_
    refine sg_iload 217 (sk_td o_X9_plan 121 rfl) rfl rfl ?_
    refine sg_iload 219 (sk_td o_X9_plan 122 rfl) rfl rfl ?_
    refine sg_iload_n 220 (sk_td o_X9_plan 123 rfl) rfl rfl ?_
    obtain ⟨x6, hr_x6, hq⟩ := sk_bnd hq
    refine sm_callV3i 223 (s_X9_mayGet hr_x6) (sk_td o_X9_plan 124 rfl) rfl lv_X9_244 rfl rfl rfl sz_44 (sk_rok (Nat.le_of_ble_eq_true rfl) (Nat.le_of_ble_eq_true rfl) rfl rfl) (Nat.le_of_ble_eq_true rfl) ?_
    refine sg_if_eq 255 226 (sk_td o_X9_plan 125 rfl) (by decide) rfl (fun hc => ?_) (fun hc => ?_)
    · rw [if_pos hc] at hq
      exact t_X9_plan_255 hrec188 hrec209 hq
    · rw [if_neg hc] at hq
      refine sg_aload_n 227 (sk_td o_X9_plan 126 rfl) rfl rfl ?_
      refine sg_iload 229 (sk_td o_X9_plan 127 rfl) rfl rfl ?_
      refine sg_iload 231 (sk_td o_X9_plan 128 rfl) rfl rfl ?_
      refine sg_iload_n 232 (sk_td o_X9_plan 129 rfl) rfl rfl ?_
      obtain ⟨x7, hr_x7, hq⟩ := sk_bnd hq
      refine sm_callV3i 235 (s_X9_worthOf hr_x7) (sk_td o_X9_plan 130 rfl) rfl lv_X9_247 rfl rfl rfl sz_44 (sk_rok (Nat.le_of_ble_eq_true rfl) (Nat.le_of_ble_eq_true rfl) rfl rfl) (Nat.le_of_ble_eq_true rfl) ?_
      refine sg_aload_n 236 (sk_td o_X9_plan 131 rfl) rfl rfl ?_
      refine sm_getR (79, 0) 239 (sk_td o_X9_plan 132 rfl) rfl kf_X9_123 rfl rfl sz_44 rfl ?_
      refine sg_sipush (v := (2401 : Int32)) 242 (sk_td o_X9_plan 133 rfl) rfl (by decide) ?_
      refine sg_iload 244 (sk_td o_X9_plan 134 rfl) rfl rfl ?_
      refine sg_imul 245 (sk_td o_X9_plan 135 rfl) rfl ?_
      refine sg_iload_n 246 (sk_td o_X9_plan 136 rfl) rfl rfl ?_
      refine sg_iadd 247 (sk_td o_X9_plan 137 rfl) rfl ?_
      obtain ⟨hb8, hq⟩ := sk_ifn hq
      refine sm_iald 248 (sk_td o_X9_plan 138 rfl) rfl rfl sz_79 hb8 ?_
      refine sg_ic_ne 255 251 (sk_td o_X9_plan 139 rfl) (by decide) rfl (fun hc => ?_) (fun hc => ?_)
      · rw [if_neg hc] at hq
        exact t_X9_plan_255 hrec188 hrec209 hq
      · rw [if_pos hc] at hq
        refine sg_iconst (v := (1 : Int32)) 252 (sk_td o_X9_plan 140 rfl) rfl (by decide) ?_
        refine sg_goto 256 (sk_td o_X9_plan 141 rfl) (by decide) ?_
        exact t_X9_plan_256 hrec188 hrec209 hq
def l_X9_plan_209 (rec188 : (sk_D × Int32 × Int32 × Int32) → Option (Int32 × sk_D)) (fl : Nat) (a : (sk_D × Int32 × Int32 × Int32 × Int32)) : Option (Int32 × sk_D) := sk_it (fun rec209 a => q_X9_plan_209 rec188 rec209 a.1 a.2.1 a.2.2.1 a.2.2.2.1 a.2.2.2.2) fl a
theorem lt_X9_plan_209 {l : Launch} {rec188 : (sk_D × Int32 × Int32 × Int32) → Option (Int32 × sk_D)} (hrec188 : ∀ (a : (sk_D × Int32 × Int32 × Int32)) (res : Int32 × sk_D), rec188 a = some res → sk_G l (sk_rm 5 0 0) m_X9_plan sk_Ex0 (sk_Zm m_X9_plan (some (.inl res.1)) (sk_mm res.2)) 0 0 188 [some (.inr (.inr (some (44, 0)))), none, some (.inl a.2.1), some (.inl a.2.2.1), some (.inl a.2.2.2), none, none] [] (sk_mm a.1)) : ∀ (fl : Nat) (a : (sk_D × Int32 × Int32 × Int32 × Int32)) (res : Int32 × sk_D), l_X9_plan_209 rec188 fl a = some res → sk_G l (sk_rm 5 0 0) m_X9_plan sk_Ex0 (sk_Zm m_X9_plan (some (.inl res.1)) (sk_mm res.2)) 0 0 209 [some (.inr (.inr (some (44, 0)))), none, some (.inl a.2.1), some (.inl a.2.2.1), some (.inl a.2.2.2.1), some (.inl a.2.2.2.2), none] [] (sk_mm a.1) :=
  sk_it_ind (P := fun (a : (sk_D × Int32 × Int32 × Int32 × Int32)) (res : Int32 × sk_D) => sk_G l (sk_rm 5 0 0) m_X9_plan sk_Ex0 (sk_Zm m_X9_plan (some (.inl res.1)) (sk_mm res.2)) 0 0 209 [some (.inr (.inr (some (44, 0)))), none, some (.inl a.2.1), some (.inl a.2.2.1), some (.inl a.2.2.2.1), some (.inl a.2.2.2.2), none] [] (sk_mm a.1)) (fun rec209 hrec209 a res hq  => t_X9_plan_209 hrec188 hrec209 hq )
def q_X9_plan_188 (rec188 : (sk_D × Int32 × Int32 × Int32) → Option (Int32 × sk_D)) (d : sk_D) (v2 : Int32) (v3 : Int32) (v4 : Int32) : Option (Int32 × sk_D) :=
  if (d.1 44 0 37) ≤ v4 then some (v3, d) else if sk_bi v4 20 = true then (l_X9_plan_209 rec188 sk_fu ((sk_wi d 83 0 v4.toNatClampNeg (-9 : Int32)), v2, v3, v4, (3 : Int32))) else none
set_option maxRecDepth 100000 in
set_option maxHeartbeats 4000000 in
theorem t_X9_plan_188 {l : Launch} {rec188 : (sk_D × Int32 × Int32 × Int32) → Option (Int32 × sk_D)} {d : sk_D} {v2 : Int32} {v3 : Int32} {v4 : Int32} (hrec188 : ∀ (a : (sk_D × Int32 × Int32 × Int32)) (res : Int32 × sk_D), rec188 a = some res → sk_G l (sk_rm 5 0 0) m_X9_plan sk_Ex0 (sk_Zm m_X9_plan (some (.inl res.1)) (sk_mm res.2)) 0 0 188 [some (.inr (.inr (some (44, 0)))), none, some (.inl a.2.1), some (.inl a.2.2.1), some (.inl a.2.2.2), none, none] [] (sk_mm a.1)) {res : Int32 × sk_D} (hq : q_X9_plan_188 rec188 d v2 v3 v4 = some res) :
    sk_G l (sk_rm 5 0 0) m_X9_plan sk_Ex0 (sk_Zm m_X9_plan (some (.inl res.1)) (sk_mm res.2)) 0 0 188 [some (.inr (.inr (some (44, 0)))), none, some (.inl v2), some (.inl v3), some (.inl v4), none, none] [] (sk_mm d) := by
  unfold q_X9_plan_188 at hq
  refine sg_iload 190 (sk_td o_X9_plan 107 rfl) rfl rfl ?_
  refine sg_aload_n 191 (sk_td o_X9_plan 108 rfl) rfl rfl ?_
  refine sm_getI 194 (sk_td o_X9_plan 109 rfl) rfl kf_X9_230 rfl rfl sz_44 ?_
  refine sg_ic_ge 337 197 (sk_td o_X9_plan 110 rfl) (by decide) rfl (fun hc => ?_) (fun hc => ?_)
  · rw [if_pos hc] at hq
    refine sg_iload_n 338 (sk_td o_X9_plan 186 rfl) rfl rfl ?_
    obtain rfl := Option.some.inj hq
    exact sg_iret (sk_td o_X9_plan 187 rfl) rfl rfl
  · rw [if_neg hc] at hq
    refine sg_aload_n 198 (sk_td o_X9_plan 111 rfl) rfl rfl ?_
    refine sm_getR (83, 0) 201 (sk_td o_X9_plan 112 rfl) rfl kf_X9_135 rfl rfl sz_44 rfl ?_
    refine sg_iload 203 (sk_td o_X9_plan 113 rfl) rfl rfl ?_
    refine sg_bipush (v := (-9 : Int32)) 205 (sk_td o_X9_plan 114 rfl) rfl (by decide) ?_
    obtain ⟨hb1, hq⟩ := sk_ifn hq
    refine sm_iast 206 (sk_td o_X9_plan 115 rfl) rfl rfl sz_83 hb1 ?_
    refine sg_iconst (v := (3 : Int32)) 207 (sk_td o_X9_plan 116 rfl) rfl (by decide) ?_
    refine sg_istore 209 [some (.inr (.inr (some (44, 0)))), none, some (.inl v2), some (.inl v3), some (.inl v4), some (.inl (3 : Int32)), none] (sk_td o_X9_plan 117 rfl) rfl rfl (Nat.le_of_ble_eq_true rfl) rfl ?_
    exact lt_X9_plan_209 hrec188 sk_fu ((sk_wi d 83 0 v4.toNatClampNeg (-9 : Int32)), v2, v3, v4, (3 : Int32)) _ hq
def l_X9_plan_188 (fl : Nat) (a : (sk_D × Int32 × Int32 × Int32)) : Option (Int32 × sk_D) := sk_it (fun rec188 a => q_X9_plan_188 rec188 a.1 a.2.1 a.2.2.1 a.2.2.2) fl a
theorem lt_X9_plan_188 {l : Launch} : ∀ (fl : Nat) (a : (sk_D × Int32 × Int32 × Int32)) (res : Int32 × sk_D), l_X9_plan_188 fl a = some res → sk_G l (sk_rm 5 0 0) m_X9_plan sk_Ex0 (sk_Zm m_X9_plan (some (.inl res.1)) (sk_mm res.2)) 0 0 188 [some (.inr (.inr (some (44, 0)))), none, some (.inl a.2.1), some (.inl a.2.2.1), some (.inl a.2.2.2), none, none] [] (sk_mm a.1) :=
  sk_it_ind (P := fun (a : (sk_D × Int32 × Int32 × Int32)) (res : Int32 × sk_D) => sk_G l (sk_rm 5 0 0) m_X9_plan sk_Ex0 (sk_Zm m_X9_plan (some (.inl res.1)) (sk_mm res.2)) 0 0 188 [some (.inr (.inr (some (44, 0)))), none, some (.inl a.2.1), some (.inl a.2.2.1), some (.inl a.2.2.2), none, none] [] (sk_mm a.1)) (fun rec188 hrec188 a res hq  => t_X9_plan_188 hrec188 hq )
def q_X9_plan_158 (rec158 : (sk_D × Int32 × Int32) → Option (Int32 × sk_D)) (d : sk_D) (v2 : Int32) (v3 : Int32) : Option (Int32 × sk_D) :=
  if (4 : Int32) ≤ v3 then (l_X9_plan_188 sk_fu (d, v2, (0 : Int32), (0 : Int32))) else if sk_bi v3 4 = true then (q_X9_power d v3).bind fun x2 => (rec158 (d, (v2 + ((d.1 82 0 v3.toNatClampNeg) * x2)), (v3 + (1 : Int32)))) else none
set_option maxRecDepth 100000 in
set_option maxHeartbeats 4000000 in
theorem t_X9_plan_158 {l : Launch} {rec158 : (sk_D × Int32 × Int32) → Option (Int32 × sk_D)} {d : sk_D} {v2 : Int32} {v3 : Int32} (hrec158 : ∀ (a : (sk_D × Int32 × Int32)) (res : Int32 × sk_D), rec158 a = some res → sk_G l (sk_rm 5 0 0) m_X9_plan sk_Ex0 (sk_Zm m_X9_plan (some (.inl res.1)) (sk_mm res.2)) 0 0 158 [some (.inr (.inr (some (44, 0)))), none, some (.inl a.2.1), some (.inl a.2.2), none, none, none] [] (sk_mm a.1)) {res : Int32 × sk_D} (hq : q_X9_plan_158 rec158 d v2 v3 = some res) :
    sk_G l (sk_rm 5 0 0) m_X9_plan sk_Ex0 (sk_Zm m_X9_plan (some (.inl res.1)) (sk_mm res.2)) 0 0 158 [some (.inr (.inr (some (44, 0)))), none, some (.inl v2), some (.inl v3), none, none, none] [] (sk_mm d) := by
  unfold q_X9_plan_158 at hq
  refine sg_iload_n 159 (sk_td o_X9_plan 88 rfl) rfl rfl ?_
  refine sg_iconst (v := (4 : Int32)) 160 (sk_td o_X9_plan 89 rfl) rfl (by decide) ?_
  refine sg_ic_ge 183 163 (sk_td o_X9_plan 90 rfl) (by decide) rfl (fun hc => ?_) (fun hc => ?_)
  · rw [if_pos hc] at hq
    refine sg_iconst (v := (0 : Int32)) 184 (sk_td o_X9_plan 103 rfl) rfl (by decide) ?_
    refine sg_istore_n 185 [some (.inr (.inr (some (44, 0)))), none, some (.inl v2), some (.inl (0 : Int32)), none, none, none] (sk_td o_X9_plan 104 rfl) rfl rfl (Nat.le_of_ble_eq_true rfl) rfl ?_
    refine sg_iconst (v := (0 : Int32)) 186 (sk_td o_X9_plan 105 rfl) rfl (by decide) ?_
    refine sg_istore 188 [some (.inr (.inr (some (44, 0)))), none, some (.inl v2), some (.inl (0 : Int32)), some (.inl (0 : Int32)), none, none] (sk_td o_X9_plan 106 rfl) rfl rfl (Nat.le_of_ble_eq_true rfl) rfl ?_
    exact lt_X9_plan_188 sk_fu (d, v2, (0 : Int32), (0 : Int32)) _ hq
  · rw [if_neg hc] at hq
    refine sg_iload_n 164 (sk_td o_X9_plan 91 rfl) rfl rfl ?_
    refine sg_aload_n 165 (sk_td o_X9_plan 92 rfl) rfl rfl ?_
    refine sm_getR (82, 0) 168 (sk_td o_X9_plan 93 rfl) rfl kf_X9_132 rfl rfl sz_44 rfl ?_
    refine sg_iload_n 169 (sk_td o_X9_plan 94 rfl) rfl rfl ?_
    obtain ⟨hb1, hq⟩ := sk_ifn hq
    refine sm_iald 170 (sk_td o_X9_plan 95 rfl) rfl rfl sz_82 hb1 ?_
    refine sg_iload_n 171 (sk_td o_X9_plan 96 rfl) rfl rfl ?_
    obtain ⟨x2, hr_x2, hq⟩ := sk_bnd hq
    refine sm_callS1i 174 (s_X9_power hr_x2) (sk_td o_X9_plan 97 rfl) rfl ls_X9_237 rfl (sk_rok (Nat.le_of_ble_eq_true rfl) (Nat.le_of_ble_eq_true rfl) rfl rfl) (Nat.le_of_ble_eq_true rfl) ?_
    refine sg_imul 175 (sk_td o_X9_plan 98 rfl) rfl ?_
    refine sg_iadd 176 (sk_td o_X9_plan 99 rfl) rfl ?_
    refine sg_istore_n 177 [some (.inr (.inr (some (44, 0)))), none, some (.inl (v2 + ((d.1 82 0 v3.toNatClampNeg) * x2))), some (.inl v3), none, none, none] (sk_td o_X9_plan 100 rfl) rfl rfl (Nat.le_of_ble_eq_true rfl) rfl ?_
    refine sg_iinc (v3 + (1 : Int32)) 180 [some (.inr (.inr (some (44, 0)))), none, some (.inl (v2 + ((d.1 82 0 v3.toNatClampNeg) * x2))), some (.inl (v3 + (1 : Int32))), none, none, none] (sk_td o_X9_plan 101 rfl) rfl rfl rfl rfl (Nat.le_of_ble_eq_true rfl) rfl ?_
    refine sg_goto 158 (sk_td o_X9_plan 102 rfl) (by decide) ?_
    exact hrec158 (d, (v2 + ((d.1 82 0 v3.toNatClampNeg) * x2)), (v3 + (1 : Int32))) _ hq
def l_X9_plan_158 (fl : Nat) (a : (sk_D × Int32 × Int32)) : Option (Int32 × sk_D) := sk_it (fun rec158 a => q_X9_plan_158 rec158 a.1 a.2.1 a.2.2) fl a
theorem lt_X9_plan_158 {l : Launch} : ∀ (fl : Nat) (a : (sk_D × Int32 × Int32)) (res : Int32 × sk_D), l_X9_plan_158 fl a = some res → sk_G l (sk_rm 5 0 0) m_X9_plan sk_Ex0 (sk_Zm m_X9_plan (some (.inl res.1)) (sk_mm res.2)) 0 0 158 [some (.inr (.inr (some (44, 0)))), none, some (.inl a.2.1), some (.inl a.2.2), none, none, none] [] (sk_mm a.1) :=
  sk_it_ind (P := fun (a : (sk_D × Int32 × Int32)) (res : Int32 × sk_D) => sk_G l (sk_rm 5 0 0) m_X9_plan sk_Ex0 (sk_Zm m_X9_plan (some (.inl res.1)) (sk_mm res.2)) 0 0 158 [some (.inr (.inr (some (44, 0)))), none, some (.inl a.2.1), some (.inl a.2.2), none, none, none] [] (sk_mm a.1)) (fun rec158 hrec158 a res hq  => t_X9_plan_158 hrec158 hq )
def q_X9_plan_120 (rec43 : (sk_D × Int32) → Option (Int32 × sk_D)) (rec49 : (sk_D × Int32 × Int32) → Option (Int32 × sk_D)) (rec75 : (sk_D × Int32 × Int32 × Int32 × Int32) → Option (Int32 × sk_D)) (d : sk_D) (v2 : Int32) (v3 : Int32) (v5 : Int32) (s0 : Int32) : Option (Int32 × sk_D) :=
  (rec75 (d, v2, v3, s0, (v5 + (1 : Int32))))
set_option maxRecDepth 100000 in
set_option maxHeartbeats 4000000 in
theorem t_X9_plan_120 {l : Launch} {rec43 : (sk_D × Int32) → Option (Int32 × sk_D)} {rec49 : (sk_D × Int32 × Int32) → Option (Int32 × sk_D)} {rec75 : (sk_D × Int32 × Int32 × Int32 × Int32) → Option (Int32 × sk_D)} {d : sk_D} {v2 : Int32} {v3 : Int32} {v5 : Int32} {s0 : Int32} (hrec43 : ∀ (a : (sk_D × Int32)) (res : Int32 × sk_D), rec43 a = some res → sk_G l (sk_rm 5 0 0) m_X9_plan sk_Ex0 (sk_Zm m_X9_plan (some (.inl res.1)) (sk_mm res.2)) 0 0 43 [some (.inr (.inr (some (44, 0)))), none, some (.inl a.2), none, none, none, none] [] (sk_mm a.1)) (hrec49 : ∀ (a : (sk_D × Int32 × Int32)) (res : Int32 × sk_D), rec49 a = some res → sk_G l (sk_rm 5 0 0) m_X9_plan sk_Ex0 (sk_Zm m_X9_plan (some (.inl res.1)) (sk_mm res.2)) 0 0 49 [some (.inr (.inr (some (44, 0)))), none, some (.inl a.2.1), some (.inl a.2.2), none, none, none] [] (sk_mm a.1)) (hrec75 : ∀ (a : (sk_D × Int32 × Int32 × Int32 × Int32)) (res : Int32 × sk_D), rec75 a = some res → sk_G l (sk_rm 5 0 0) m_X9_plan sk_Ex0 (sk_Zm m_X9_plan (some (.inl res.1)) (sk_mm res.2)) 0 0 75 [some (.inr (.inr (some (44, 0)))), none, some (.inl a.2.1), some (.inl a.2.2.1), some (.inl a.2.2.2.1), some (.inl a.2.2.2.2), none] [] (sk_mm a.1)) {res : Int32 × sk_D} (hq : q_X9_plan_120 rec43 rec49 rec75 d v2 v3 v5 s0 = some res) :
    sk_G l (sk_rm 5 0 0) m_X9_plan sk_Ex0 (sk_Zm m_X9_plan (some (.inl res.1)) (sk_mm res.2)) 0 0 120 [some (.inr (.inr (some (44, 0)))), none, some (.inl v2), some (.inl v3), none, some (.inl v5), none] [.inl s0] (sk_mm d) := by
  unfold q_X9_plan_120 at hq
  refine sg_istore 122 [some (.inr (.inr (some (44, 0)))), none, some (.inl v2), some (.inl v3), some (.inl s0), some (.inl v5), none] (sk_td o_X9_plan 68 rfl) rfl rfl (Nat.le_of_ble_eq_true rfl) rfl ?_
  refine sg_iinc (v5 + (1 : Int32)) 125 [some (.inr (.inr (some (44, 0)))), none, some (.inl v2), some (.inl v3), some (.inl s0), some (.inl (v5 + (1 : Int32))), none] (sk_td o_X9_plan 69 rfl) rfl rfl rfl rfl (Nat.le_of_ble_eq_true rfl) rfl ?_
  refine sg_goto 75 (sk_td o_X9_plan 70 rfl) (by decide) ?_
  exact hrec75 (d, v2, v3, s0, (v5 + (1 : Int32))) _ hq
def q_X9_plan_104 (rec43 : (sk_D × Int32) → Option (Int32 × sk_D)) (rec49 : (sk_D × Int32 × Int32) → Option (Int32 × sk_D)) (rec75 : (sk_D × Int32 × Int32 × Int32 × Int32) → Option (Int32 × sk_D)) (d : sk_D) (v2 : Int32) (v3 : Int32) (v4 : Int32) (v5 : Int32) (s0 : Int32) : Option (Int32 × sk_D) :=
  if s0 ≤ v4 then (q_X9_plan_120 rec43 rec49 rec75 d v2 v3 v5 v4) else (q_X9_plan_120 rec43 rec49 rec75 d v2 v3 v5 s0)
set_option maxRecDepth 100000 in
set_option maxHeartbeats 4000000 in
theorem t_X9_plan_104 {l : Launch} {rec43 : (sk_D × Int32) → Option (Int32 × sk_D)} {rec49 : (sk_D × Int32 × Int32) → Option (Int32 × sk_D)} {rec75 : (sk_D × Int32 × Int32 × Int32 × Int32) → Option (Int32 × sk_D)} {d : sk_D} {v2 : Int32} {v3 : Int32} {v4 : Int32} {v5 : Int32} {s0 : Int32} (hrec43 : ∀ (a : (sk_D × Int32)) (res : Int32 × sk_D), rec43 a = some res → sk_G l (sk_rm 5 0 0) m_X9_plan sk_Ex0 (sk_Zm m_X9_plan (some (.inl res.1)) (sk_mm res.2)) 0 0 43 [some (.inr (.inr (some (44, 0)))), none, some (.inl a.2), none, none, none, none] [] (sk_mm a.1)) (hrec49 : ∀ (a : (sk_D × Int32 × Int32)) (res : Int32 × sk_D), rec49 a = some res → sk_G l (sk_rm 5 0 0) m_X9_plan sk_Ex0 (sk_Zm m_X9_plan (some (.inl res.1)) (sk_mm res.2)) 0 0 49 [some (.inr (.inr (some (44, 0)))), none, some (.inl a.2.1), some (.inl a.2.2), none, none, none] [] (sk_mm a.1)) (hrec75 : ∀ (a : (sk_D × Int32 × Int32 × Int32 × Int32)) (res : Int32 × sk_D), rec75 a = some res → sk_G l (sk_rm 5 0 0) m_X9_plan sk_Ex0 (sk_Zm m_X9_plan (some (.inl res.1)) (sk_mm res.2)) 0 0 75 [some (.inr (.inr (some (44, 0)))), none, some (.inl a.2.1), some (.inl a.2.2.1), some (.inl a.2.2.2.1), some (.inl a.2.2.2.2), none] [] (sk_mm a.1)) {res : Int32 × sk_D} (hq : q_X9_plan_104 rec43 rec49 rec75 d v2 v3 v4 v5 s0 = some res) :
    sk_G l (sk_rm 5 0 0) m_X9_plan sk_Ex0 (sk_Zm m_X9_plan (some (.inl res.1)) (sk_mm res.2)) 0 0 104 [some (.inr (.inr (some (44, 0)))), none, some (.inl v2), some (.inl v3), some (.inl v4), some (.inl v5), none] [.inl s0] (sk_mm d) := by
  unfold q_X9_plan_104 at hq
  refine sg_istore 106 [some (.inr (.inr (some (44, 0)))), none, some (.inl v2), some (.inl v3), some (.inl v4), some (.inl v5), some (.inl s0)] (sk_td o_X9_plan 61 rfl) rfl rfl (Nat.le_of_ble_eq_true rfl) rfl ?_
  refine sg_iload 108 (sk_td o_X9_plan 62 rfl) rfl rfl ?_
  refine sg_iload 110 (sk_td o_X9_plan 63 rfl) rfl rfl ?_
  refine sg_ic_le 118 113 (sk_td o_X9_plan 64 rfl) (by decide) rfl (fun hc => ?_) (fun hc => ?_)
  · rw [if_pos hc] at hq
    refine sg_iload 120 (sk_td o_X9_plan 67 rfl) rfl rfl ?_
    refine sk_wk [true, true, true, true, false, true, false] (ls' := [some (.inr (.inr (some (44, 0)))), none, some (.inl v2), some (.inl v3), none, some (.inl v5), none]) rfl ?_
    exact t_X9_plan_120 hrec43 hrec49 hrec75 hq
  · rw [if_neg hc] at hq
    refine sg_iload 115 (sk_td o_X9_plan 65 rfl) rfl rfl ?_
    refine sg_goto 120 (sk_td o_X9_plan 66 rfl) (by decide) ?_
    refine sk_wk [true, true, true, true, false, true, false] (ls' := [some (.inr (.inr (some (44, 0)))), none, some (.inl v2), some (.inl v3), none, some (.inl v5), none]) rfl ?_
    exact t_X9_plan_120 hrec43 hrec49 hrec75 hq
def q_X9_plan_75 (rec43 : (sk_D × Int32) → Option (Int32 × sk_D)) (rec49 : (sk_D × Int32 × Int32) → Option (Int32 × sk_D)) (rec75 : (sk_D × Int32 × Int32 × Int32 × Int32) → Option (Int32 × sk_D)) (d : sk_D) (v2 : Int32) (v3 : Int32) (v4 : Int32) (v5 : Int32) : Option (Int32 × sk_D) :=
  if (4 : Int32) ≤ v5 then if sk_bi (((2401 : Int32) * v2) + v3) 50421 = true then (rec49 ((sk_wi d 79 0 (((2401 : Int32) * v2) + v3).toNatClampNeg v4), v2, (v3 + (1 : Int32)))) else none else (q_X9_mayGet d v2 v5 v3).bind fun x2 => if x2 = 0 then (q_X9_plan_104 rec43 rec49 rec75 d v2 v3 v4 v5 (-1 : Int32)) else (q_X9_worthOf d v2 v5 v3).bind fun x3 => (q_X9_plan_104 rec43 rec49 rec75 d v2 v3 v4 v5 x3)
set_option maxRecDepth 100000 in
set_option maxHeartbeats 4000000 in
theorem t_X9_plan_75 {l : Launch} {rec43 : (sk_D × Int32) → Option (Int32 × sk_D)} {rec49 : (sk_D × Int32 × Int32) → Option (Int32 × sk_D)} {rec75 : (sk_D × Int32 × Int32 × Int32 × Int32) → Option (Int32 × sk_D)} {d : sk_D} {v2 : Int32} {v3 : Int32} {v4 : Int32} {v5 : Int32} (hrec43 : ∀ (a : (sk_D × Int32)) (res : Int32 × sk_D), rec43 a = some res → sk_G l (sk_rm 5 0 0) m_X9_plan sk_Ex0 (sk_Zm m_X9_plan (some (.inl res.1)) (sk_mm res.2)) 0 0 43 [some (.inr (.inr (some (44, 0)))), none, some (.inl a.2), none, none, none, none] [] (sk_mm a.1)) (hrec49 : ∀ (a : (sk_D × Int32 × Int32)) (res : Int32 × sk_D), rec49 a = some res → sk_G l (sk_rm 5 0 0) m_X9_plan sk_Ex0 (sk_Zm m_X9_plan (some (.inl res.1)) (sk_mm res.2)) 0 0 49 [some (.inr (.inr (some (44, 0)))), none, some (.inl a.2.1), some (.inl a.2.2), none, none, none] [] (sk_mm a.1)) (hrec75 : ∀ (a : (sk_D × Int32 × Int32 × Int32 × Int32)) (res : Int32 × sk_D), rec75 a = some res → sk_G l (sk_rm 5 0 0) m_X9_plan sk_Ex0 (sk_Zm m_X9_plan (some (.inl res.1)) (sk_mm res.2)) 0 0 75 [some (.inr (.inr (some (44, 0)))), none, some (.inl a.2.1), some (.inl a.2.2.1), some (.inl a.2.2.2.1), some (.inl a.2.2.2.2), none] [] (sk_mm a.1)) {res : Int32 × sk_D} (hq : q_X9_plan_75 rec43 rec49 rec75 d v2 v3 v4 v5 = some res) :
    sk_G l (sk_rm 5 0 0) m_X9_plan sk_Ex0 (sk_Zm m_X9_plan (some (.inl res.1)) (sk_mm res.2)) 0 0 75 [some (.inr (.inr (some (44, 0)))), none, some (.inl v2), some (.inl v3), some (.inl v4), some (.inl v5), none] [] (sk_mm d) := by
  unfold q_X9_plan_75 at hq
  refine sg_iload 77 (sk_td o_X9_plan 45 rfl) rfl rfl ?_
  refine sg_iconst (v := (4 : Int32)) 78 (sk_td o_X9_plan 46 rfl) rfl (by decide) ?_
  refine sg_ic_ge 128 81 (sk_td o_X9_plan 47 rfl) (by decide) rfl (fun hc => ?_) (fun hc => ?_)
  · rw [if_pos hc] at hq
    refine sg_aload_n 129 (sk_td o_X9_plan 71 rfl) rfl rfl ?_
    refine sm_getR (79, 0) 132 (sk_td o_X9_plan 72 rfl) rfl kf_X9_123 rfl rfl sz_44 rfl ?_
    refine sg_sipush (v := (2401 : Int32)) 135 (sk_td o_X9_plan 73 rfl) rfl (by decide) ?_
    refine sg_iload_n 136 (sk_td o_X9_plan 74 rfl) rfl rfl ?_
    refine sg_imul 137 (sk_td o_X9_plan 75 rfl) rfl ?_
    refine sg_iload_n 138 (sk_td o_X9_plan 76 rfl) rfl rfl ?_
    refine sg_iadd 139 (sk_td o_X9_plan 77 rfl) rfl ?_
    refine sg_iload 141 (sk_td o_X9_plan 78 rfl) rfl rfl ?_
    obtain ⟨hb1, hq⟩ := sk_ifn hq
    refine sm_iast 142 (sk_td o_X9_plan 79 rfl) rfl rfl sz_79 hb1 ?_
    refine sg_iinc (v3 + (1 : Int32)) 145 [some (.inr (.inr (some (44, 0)))), none, some (.inl v2), some (.inl (v3 + (1 : Int32))), some (.inl v4), some (.inl v5), none] (sk_td o_X9_plan 80 rfl) rfl rfl rfl rfl (Nat.le_of_ble_eq_true rfl) rfl ?_
    refine sg_goto 49 (sk_td o_X9_plan 81 rfl) (by decide) ?_
    refine sk_wk [true, true, true, true, false, false, true] (ls' := [some (.inr (.inr (some (44, 0)))), none, some (.inl v2), some (.inl (v3 + (1 : Int32))), none, none, none]) rfl ?_
    exact hrec49 ((sk_wi d 79 0 (((2401 : Int32) * v2) + v3).toNatClampNeg v4), v2, (v3 + (1 : Int32))) _ hq
  · rw [if_neg hc] at hq
    refine sg_aload_n 82 (sk_td o_X9_plan 48 rfl) rfl rfl ?_
    refine sg_iload_n 83 (sk_td o_X9_plan 49 rfl) rfl rfl ?_
    refine sg_iload 85 (sk_td o_X9_plan 50 rfl) rfl rfl ?_
    refine sg_iload_n 86 (sk_td o_X9_plan 51 rfl) rfl rfl ?_
    obtain ⟨x2, hr_x2, hq⟩ := sk_bnd hq
    refine sm_callV3i 89 (s_X9_mayGet hr_x2) (sk_td o_X9_plan 52 rfl) rfl lv_X9_244 rfl rfl rfl sz_44 (sk_rok (Nat.le_of_ble_eq_true rfl) (Nat.le_of_ble_eq_true rfl) rfl rfl) (Nat.le_of_ble_eq_true rfl) ?_
    refine sg_if_eq 103 92 (sk_td o_X9_plan 53 rfl) (by decide) rfl (fun hc => ?_) (fun hc => ?_)
    · rw [if_pos hc] at hq
      refine sg_iconst (v := (-1 : Int32)) 104 (sk_td o_X9_plan 60 rfl) rfl (by decide) ?_
      exact t_X9_plan_104 hrec43 hrec49 hrec75 hq
    · rw [if_neg hc] at hq
      refine sg_aload_n 93 (sk_td o_X9_plan 54 rfl) rfl rfl ?_
      refine sg_iload_n 94 (sk_td o_X9_plan 55 rfl) rfl rfl ?_
      refine sg_iload 96 (sk_td o_X9_plan 56 rfl) rfl rfl ?_
      refine sg_iload_n 97 (sk_td o_X9_plan 57 rfl) rfl rfl ?_
      obtain ⟨x3, hr_x3, hq⟩ := sk_bnd hq
      refine sm_callV3i 100 (s_X9_worthOf hr_x3) (sk_td o_X9_plan 58 rfl) rfl lv_X9_247 rfl rfl rfl sz_44 (sk_rok (Nat.le_of_ble_eq_true rfl) (Nat.le_of_ble_eq_true rfl) rfl rfl) (Nat.le_of_ble_eq_true rfl) ?_
      refine sg_goto 104 (sk_td o_X9_plan 59 rfl) (by decide) ?_
      exact t_X9_plan_104 hrec43 hrec49 hrec75 hq
def l_X9_plan_75 (rec43 : (sk_D × Int32) → Option (Int32 × sk_D)) (rec49 : (sk_D × Int32 × Int32) → Option (Int32 × sk_D)) (fl : Nat) (a : (sk_D × Int32 × Int32 × Int32 × Int32)) : Option (Int32 × sk_D) := sk_it (fun rec75 a => q_X9_plan_75 rec43 rec49 rec75 a.1 a.2.1 a.2.2.1 a.2.2.2.1 a.2.2.2.2) fl a
theorem lt_X9_plan_75 {l : Launch} {rec43 : (sk_D × Int32) → Option (Int32 × sk_D)} {rec49 : (sk_D × Int32 × Int32) → Option (Int32 × sk_D)} (hrec43 : ∀ (a : (sk_D × Int32)) (res : Int32 × sk_D), rec43 a = some res → sk_G l (sk_rm 5 0 0) m_X9_plan sk_Ex0 (sk_Zm m_X9_plan (some (.inl res.1)) (sk_mm res.2)) 0 0 43 [some (.inr (.inr (some (44, 0)))), none, some (.inl a.2), none, none, none, none] [] (sk_mm a.1)) (hrec49 : ∀ (a : (sk_D × Int32 × Int32)) (res : Int32 × sk_D), rec49 a = some res → sk_G l (sk_rm 5 0 0) m_X9_plan sk_Ex0 (sk_Zm m_X9_plan (some (.inl res.1)) (sk_mm res.2)) 0 0 49 [some (.inr (.inr (some (44, 0)))), none, some (.inl a.2.1), some (.inl a.2.2), none, none, none] [] (sk_mm a.1)) : ∀ (fl : Nat) (a : (sk_D × Int32 × Int32 × Int32 × Int32)) (res : Int32 × sk_D), l_X9_plan_75 rec43 rec49 fl a = some res → sk_G l (sk_rm 5 0 0) m_X9_plan sk_Ex0 (sk_Zm m_X9_plan (some (.inl res.1)) (sk_mm res.2)) 0 0 75 [some (.inr (.inr (some (44, 0)))), none, some (.inl a.2.1), some (.inl a.2.2.1), some (.inl a.2.2.2.1), some (.inl a.2.2.2.2), none] [] (sk_mm a.1) :=
  sk_it_ind (P := fun (a : (sk_D × Int32 × Int32 × Int32 × Int32)) (res : Int32 × sk_D) => sk_G l (sk_rm 5 0 0) m_X9_plan sk_Ex0 (sk_Zm m_X9_plan (some (.inl res.1)) (sk_mm res.2)) 0 0 75 [some (.inr (.inr (some (44, 0)))), none, some (.inl a.2.1), some (.inl a.2.2.1), some (.inl a.2.2.2.1), some (.inl a.2.2.2.2), none] [] (sk_mm a.1)) (fun rec75 hrec75 a res hq  => t_X9_plan_75 hrec43 hrec49 hrec75 hq )
def q_X9_plan_49 (rec43 : (sk_D × Int32) → Option (Int32 × sk_D)) (rec49 : (sk_D × Int32 × Int32) → Option (Int32 × sk_D)) (d : sk_D) (v2 : Int32) (v3 : Int32) : Option (Int32 × sk_D) :=
  if (2401 : Int32) ≤ v3 then (rec43 (d, (v2 + (-1 : Int32)))) else if sk_bi (((2401 : Int32) * (v2 + (1 : Int32))) + v3) 50421 = true then (l_X9_plan_75 rec43 rec49 sk_fu (d, v2, v3, (d.1 79 0 (((2401 : Int32) * (v2 + (1 : Int32))) + v3).toNatClampNeg), (0 : Int32))) else none
set_option maxRecDepth 100000 in
set_option maxHeartbeats 4000000 in
theorem t_X9_plan_49 {l : Launch} {rec43 : (sk_D × Int32) → Option (Int32 × sk_D)} {rec49 : (sk_D × Int32 × Int32) → Option (Int32 × sk_D)} {d : sk_D} {v2 : Int32} {v3 : Int32} (hrec43 : ∀ (a : (sk_D × Int32)) (res : Int32 × sk_D), rec43 a = some res → sk_G l (sk_rm 5 0 0) m_X9_plan sk_Ex0 (sk_Zm m_X9_plan (some (.inl res.1)) (sk_mm res.2)) 0 0 43 [some (.inr (.inr (some (44, 0)))), none, some (.inl a.2), none, none, none, none] [] (sk_mm a.1)) (hrec49 : ∀ (a : (sk_D × Int32 × Int32)) (res : Int32 × sk_D), rec49 a = some res → sk_G l (sk_rm 5 0 0) m_X9_plan sk_Ex0 (sk_Zm m_X9_plan (some (.inl res.1)) (sk_mm res.2)) 0 0 49 [some (.inr (.inr (some (44, 0)))), none, some (.inl a.2.1), some (.inl a.2.2), none, none, none] [] (sk_mm a.1)) {res : Int32 × sk_D} (hq : q_X9_plan_49 rec43 rec49 d v2 v3 = some res) :
    sk_G l (sk_rm 5 0 0) m_X9_plan sk_Ex0 (sk_Zm m_X9_plan (some (.inl res.1)) (sk_mm res.2)) 0 0 49 [some (.inr (.inr (some (44, 0)))), none, some (.inl v2), some (.inl v3), none, none, none] [] (sk_mm d) := by
  unfold q_X9_plan_49 at hq
  refine sg_iload_n 50 (sk_td o_X9_plan 29 rfl) rfl rfl ?_
  refine sg_sipush (v := (2401 : Int32)) 53 (sk_td o_X9_plan 30 rfl) rfl (by decide) ?_
  refine sg_ic_ge 148 56 (sk_td o_X9_plan 31 rfl) (by decide) rfl (fun hc => ?_) (fun hc => ?_)
  · rw [if_pos hc] at hq
    refine sg_iinc (v2 + (-1 : Int32)) 151 [some (.inr (.inr (some (44, 0)))), none, some (.inl (v2 + (-1 : Int32))), some (.inl v3), none, none, none] (sk_td o_X9_plan 82 rfl) rfl rfl rfl rfl (Nat.le_of_ble_eq_true rfl) rfl ?_
    refine sg_goto 43 (sk_td o_X9_plan 83 rfl) (by decide) ?_
    refine sk_wk [true, true, true, false, true, true, true] (ls' := [some (.inr (.inr (some (44, 0)))), none, some (.inl (v2 + (-1 : Int32))), none, none, none, none]) rfl ?_
    exact hrec43 (d, (v2 + (-1 : Int32))) _ hq
  · rw [if_neg hc] at hq
    refine sg_aload_n 57 (sk_td o_X9_plan 32 rfl) rfl rfl ?_
    refine sm_getR (79, 0) 60 (sk_td o_X9_plan 33 rfl) rfl kf_X9_123 rfl rfl sz_44 rfl ?_
    refine sg_sipush (v := (2401 : Int32)) 63 (sk_td o_X9_plan 34 rfl) rfl (by decide) ?_
    refine sg_iload_n 64 (sk_td o_X9_plan 35 rfl) rfl rfl ?_
    refine sg_iconst (v := (1 : Int32)) 65 (sk_td o_X9_plan 36 rfl) rfl (by decide) ?_
    refine sg_iadd 66 (sk_td o_X9_plan 37 rfl) rfl ?_
    refine sg_imul 67 (sk_td o_X9_plan 38 rfl) rfl ?_
    refine sg_iload_n 68 (sk_td o_X9_plan 39 rfl) rfl rfl ?_
    refine sg_iadd 69 (sk_td o_X9_plan 40 rfl) rfl ?_
    obtain ⟨hb1, hq⟩ := sk_ifn hq
    refine sm_iald 70 (sk_td o_X9_plan 41 rfl) rfl rfl sz_79 hb1 ?_
    refine sg_istore 72 [some (.inr (.inr (some (44, 0)))), none, some (.inl v2), some (.inl v3), some (.inl (d.1 79 0 (((2401 : Int32) * (v2 + (1 : Int32))) + v3).toNatClampNeg)), none, none] (sk_td o_X9_plan 42 rfl) rfl rfl (Nat.le_of_ble_eq_true rfl) rfl ?_
    refine sg_iconst (v := (0 : Int32)) 73 (sk_td o_X9_plan 43 rfl) rfl (by decide) ?_
    refine sg_istore 75 [some (.inr (.inr (some (44, 0)))), none, some (.inl v2), some (.inl v3), some (.inl (d.1 79 0 (((2401 : Int32) * (v2 + (1 : Int32))) + v3).toNatClampNeg)), some (.inl (0 : Int32)), none] (sk_td o_X9_plan 44 rfl) rfl rfl (Nat.le_of_ble_eq_true rfl) rfl ?_
    exact lt_X9_plan_75 hrec43 hrec49 sk_fu (d, v2, v3, (d.1 79 0 (((2401 : Int32) * (v2 + (1 : Int32))) + v3).toNatClampNeg), (0 : Int32)) _ hq
def l_X9_plan_49 (rec43 : (sk_D × Int32) → Option (Int32 × sk_D)) (fl : Nat) (a : (sk_D × Int32 × Int32)) : Option (Int32 × sk_D) := sk_it (fun rec49 a => q_X9_plan_49 rec43 rec49 a.1 a.2.1 a.2.2) fl a
theorem lt_X9_plan_49 {l : Launch} {rec43 : (sk_D × Int32) → Option (Int32 × sk_D)} (hrec43 : ∀ (a : (sk_D × Int32)) (res : Int32 × sk_D), rec43 a = some res → sk_G l (sk_rm 5 0 0) m_X9_plan sk_Ex0 (sk_Zm m_X9_plan (some (.inl res.1)) (sk_mm res.2)) 0 0 43 [some (.inr (.inr (some (44, 0)))), none, some (.inl a.2), none, none, none, none] [] (sk_mm a.1)) : ∀ (fl : Nat) (a : (sk_D × Int32 × Int32)) (res : Int32 × sk_D), l_X9_plan_49 rec43 fl a = some res → sk_G l (sk_rm 5 0 0) m_X9_plan sk_Ex0 (sk_Zm m_X9_plan (some (.inl res.1)) (sk_mm res.2)) 0 0 49 [some (.inr (.inr (some (44, 0)))), none, some (.inl a.2.1), some (.inl a.2.2), none, none, none] [] (sk_mm a.1) :=
  sk_it_ind (P := fun (a : (sk_D × Int32 × Int32)) (res : Int32 × sk_D) => sk_G l (sk_rm 5 0 0) m_X9_plan sk_Ex0 (sk_Zm m_X9_plan (some (.inl res.1)) (sk_mm res.2)) 0 0 49 [some (.inr (.inr (some (44, 0)))), none, some (.inl a.2.1), some (.inl a.2.2), none, none, none] [] (sk_mm a.1)) (fun rec49 hrec49 a res hq  => t_X9_plan_49 hrec43 hrec49 hq )
def q_X9_plan_43 (rec43 : (sk_D × Int32) → Option (Int32 × sk_D)) (d : sk_D) (v2 : Int32) : Option (Int32 × sk_D) :=
  if v2 < 0 then (l_X9_plan_158 sk_fu (d, (0 : Int32), (0 : Int32))) else (l_X9_plan_49 rec43 sk_fu (d, v2, (0 : Int32)))
set_option maxRecDepth 100000 in
set_option maxHeartbeats 4000000 in
theorem t_X9_plan_43 {l : Launch} {rec43 : (sk_D × Int32) → Option (Int32 × sk_D)} {d : sk_D} {v2 : Int32} (hrec43 : ∀ (a : (sk_D × Int32)) (res : Int32 × sk_D), rec43 a = some res → sk_G l (sk_rm 5 0 0) m_X9_plan sk_Ex0 (sk_Zm m_X9_plan (some (.inl res.1)) (sk_mm res.2)) 0 0 43 [some (.inr (.inr (some (44, 0)))), none, some (.inl a.2), none, none, none, none] [] (sk_mm a.1)) {res : Int32 × sk_D} (hq : q_X9_plan_43 rec43 d v2 = some res) :
    sk_G l (sk_rm 5 0 0) m_X9_plan sk_Ex0 (sk_Zm m_X9_plan (some (.inl res.1)) (sk_mm res.2)) 0 0 43 [some (.inr (.inr (some (44, 0)))), none, some (.inl v2), none, none, none, none] [] (sk_mm d) := by
  unfold q_X9_plan_43 at hq
  refine sg_iload_n 44 (sk_td o_X9_plan 25 rfl) rfl rfl ?_
  refine sg_if_lt 154 47 (sk_td o_X9_plan 26 rfl) (by decide) rfl (fun hc => ?_) (fun hc => ?_)
  · rw [if_pos hc] at hq
    refine sg_iconst (v := (0 : Int32)) 155 (sk_td o_X9_plan 84 rfl) rfl (by decide) ?_
    refine sg_istore_n 156 [some (.inr (.inr (some (44, 0)))), none, some (.inl (0 : Int32)), none, none, none, none] (sk_td o_X9_plan 85 rfl) rfl rfl (Nat.le_of_ble_eq_true rfl) rfl ?_
    refine sg_iconst (v := (0 : Int32)) 157 (sk_td o_X9_plan 86 rfl) rfl (by decide) ?_
    refine sg_istore_n 158 [some (.inr (.inr (some (44, 0)))), none, some (.inl (0 : Int32)), some (.inl (0 : Int32)), none, none, none] (sk_td o_X9_plan 87 rfl) rfl rfl (Nat.le_of_ble_eq_true rfl) rfl ?_
    exact lt_X9_plan_158 sk_fu (d, (0 : Int32), (0 : Int32)) _ hq
  · rw [if_neg hc] at hq
    refine sg_iconst (v := (0 : Int32)) 48 (sk_td o_X9_plan 27 rfl) rfl (by decide) ?_
    refine sg_istore_n 49 [some (.inr (.inr (some (44, 0)))), none, some (.inl v2), some (.inl (0 : Int32)), none, none, none] (sk_td o_X9_plan 28 rfl) rfl rfl (Nat.le_of_ble_eq_true rfl) rfl ?_
    exact lt_X9_plan_49 hrec43 sk_fu (d, v2, (0 : Int32)) _ hq
def l_X9_plan_43 (fl : Nat) (a : (sk_D × Int32)) : Option (Int32 × sk_D) := sk_it (fun rec43 a => q_X9_plan_43 rec43 a.1 a.2) fl a
theorem lt_X9_plan_43 {l : Launch} : ∀ (fl : Nat) (a : (sk_D × Int32)) (res : Int32 × sk_D), l_X9_plan_43 fl a = some res → sk_G l (sk_rm 5 0 0) m_X9_plan sk_Ex0 (sk_Zm m_X9_plan (some (.inl res.1)) (sk_mm res.2)) 0 0 43 [some (.inr (.inr (some (44, 0)))), none, some (.inl a.2), none, none, none, none] [] (sk_mm a.1) :=
  sk_it_ind (P := fun (a : (sk_D × Int32)) (res : Int32 × sk_D) => sk_G l (sk_rm 5 0 0) m_X9_plan sk_Ex0 (sk_Zm m_X9_plan (some (.inl res.1)) (sk_mm res.2)) 0 0 43 [some (.inr (.inr (some (44, 0)))), none, some (.inl a.2), none, none, none, none] [] (sk_mm a.1)) (fun rec43 hrec43 a res hq  => t_X9_plan_43 hrec43 hq )
def q_X9_plan_7 (rec7 : (sk_D × Int32) → Option (Int32 × sk_D)) (d : sk_D) (v2 : Int32) : Option (Int32 × sk_D) :=
  if (2401 : Int32) ≤ v2 then (l_X9_plan_43 sk_fu (d, ((d.1 44 0 37) - (1 : Int32)))) else if sk_bi (((2401 : Int32) * (d.1 44 0 37)) + v2) 50421 = true then (rec7 ((sk_wi d 79 0 (((2401 : Int32) * (d.1 44 0 37)) + v2).toNatClampNeg (0 : Int32)), (v2 + (1 : Int32)))) else none
set_option maxRecDepth 100000 in
set_option maxHeartbeats 4000000 in
theorem t_X9_plan_7 {l : Launch} {rec7 : (sk_D × Int32) → Option (Int32 × sk_D)} {d : sk_D} {v2 : Int32} (hrec7 : ∀ (a : (sk_D × Int32)) (res : Int32 × sk_D), rec7 a = some res → sk_G l (sk_rm 5 0 0) m_X9_plan sk_Ex0 (sk_Zm m_X9_plan (some (.inl res.1)) (sk_mm res.2)) 0 0 7 [some (.inr (.inr (some (44, 0)))), none, some (.inl a.2), none, none, none, none] [] (sk_mm a.1)) {res : Int32 × sk_D} (hq : q_X9_plan_7 rec7 d v2 = some res) :
    sk_G l (sk_rm 5 0 0) m_X9_plan sk_Ex0 (sk_Zm m_X9_plan (some (.inl res.1)) (sk_mm res.2)) 0 0 7 [some (.inr (.inr (some (44, 0)))), none, some (.inl v2), none, none, none, none] [] (sk_mm d) := by
  unfold q_X9_plan_7 at hq
  refine sg_iload_n 8 (sk_td o_X9_plan 5 rfl) rfl rfl ?_
  refine sg_sipush (v := (2401 : Int32)) 11 (sk_td o_X9_plan 6 rfl) rfl (by decide) ?_
  refine sg_ic_ge 36 14 (sk_td o_X9_plan 7 rfl) (by decide) rfl (fun hc => ?_) (fun hc => ?_)
  · rw [if_pos hc] at hq
    refine sg_aload_n 37 (sk_td o_X9_plan 20 rfl) rfl rfl ?_
    refine sm_getI 40 (sk_td o_X9_plan 21 rfl) rfl kf_X9_230 rfl rfl sz_44 ?_
    refine sg_iconst (v := (1 : Int32)) 41 (sk_td o_X9_plan 22 rfl) rfl (by decide) ?_
    refine sg_isub 42 (sk_td o_X9_plan 23 rfl) rfl ?_
    refine sg_istore_n 43 [some (.inr (.inr (some (44, 0)))), none, some (.inl ((d.1 44 0 37) - (1 : Int32))), none, none, none, none] (sk_td o_X9_plan 24 rfl) rfl rfl (Nat.le_of_ble_eq_true rfl) rfl ?_
    exact lt_X9_plan_43 sk_fu (d, ((d.1 44 0 37) - (1 : Int32))) _ hq
  · rw [if_neg hc] at hq
    refine sg_aload_n 15 (sk_td o_X9_plan 8 rfl) rfl rfl ?_
    refine sm_getR (79, 0) 18 (sk_td o_X9_plan 9 rfl) rfl kf_X9_123 rfl rfl sz_44 rfl ?_
    refine sg_sipush (v := (2401 : Int32)) 21 (sk_td o_X9_plan 10 rfl) rfl (by decide) ?_
    refine sg_aload_n 22 (sk_td o_X9_plan 11 rfl) rfl rfl ?_
    refine sm_getI 25 (sk_td o_X9_plan 12 rfl) rfl kf_X9_230 rfl rfl sz_44 ?_
    refine sg_imul 26 (sk_td o_X9_plan 13 rfl) rfl ?_
    refine sg_iload_n 27 (sk_td o_X9_plan 14 rfl) rfl rfl ?_
    refine sg_iadd 28 (sk_td o_X9_plan 15 rfl) rfl ?_
    refine sg_iconst (v := (0 : Int32)) 29 (sk_td o_X9_plan 16 rfl) rfl (by decide) ?_
    obtain ⟨hb1, hq⟩ := sk_ifn hq
    refine sm_iast 30 (sk_td o_X9_plan 17 rfl) rfl rfl sz_79 hb1 ?_
    refine sg_iinc (v2 + (1 : Int32)) 33 [some (.inr (.inr (some (44, 0)))), none, some (.inl (v2 + (1 : Int32))), none, none, none, none] (sk_td o_X9_plan 18 rfl) rfl rfl rfl rfl (Nat.le_of_ble_eq_true rfl) rfl ?_
    refine sg_goto 7 (sk_td o_X9_plan 19 rfl) (by decide) ?_
    exact hrec7 ((sk_wi d 79 0 (((2401 : Int32) * (d.1 44 0 37)) + v2).toNatClampNeg (0 : Int32)), (v2 + (1 : Int32))) _ hq
def l_X9_plan_7 (fl : Nat) (a : (sk_D × Int32)) : Option (Int32 × sk_D) := sk_it (fun rec7 a => q_X9_plan_7 rec7 a.1 a.2) fl a
theorem lt_X9_plan_7 {l : Launch} : ∀ (fl : Nat) (a : (sk_D × Int32)) (res : Int32 × sk_D), l_X9_plan_7 fl a = some res → sk_G l (sk_rm 5 0 0) m_X9_plan sk_Ex0 (sk_Zm m_X9_plan (some (.inl res.1)) (sk_mm res.2)) 0 0 7 [some (.inr (.inr (some (44, 0)))), none, some (.inl a.2), none, none, none, none] [] (sk_mm a.1) :=
  sk_it_ind (P := fun (a : (sk_D × Int32)) (res : Int32 × sk_D) => sk_G l (sk_rm 5 0 0) m_X9_plan sk_Ex0 (sk_Zm m_X9_plan (some (.inl res.1)) (sk_mm res.2)) 0 0 7 [some (.inr (.inr (some (44, 0)))), none, some (.inl a.2), none, none, none, none] [] (sk_mm a.1)) (fun rec7 hrec7 a res hq  => t_X9_plan_7 hrec7 hq )
def q_X9_plan_0 (d : sk_D) (v1 : Int32) : Option (Int32 × sk_D) :=
  (q_X9_findUnits d v1).bind fun x1 => (l_X9_plan_7 sk_fu (x1, (0 : Int32)))
set_option maxRecDepth 100000 in
set_option maxHeartbeats 4000000 in
theorem t_X9_plan_0 {l : Launch} {d : sk_D} {v1 : Int32} {res : Int32 × sk_D} (hq : q_X9_plan_0 d v1 = some res) :
    sk_G l (sk_rm 5 0 0) m_X9_plan sk_Ex0 (sk_Zm m_X9_plan (some (.inl res.1)) (sk_mm res.2)) 0 0 0 [some (.inr (.inr (some (44, 0)))), some (.inl v1), none, none, none, none, none] [] (sk_mm d) := by
  unfold q_X9_plan_0 at hq
  refine sg_aload_n 1 (sk_td o_X9_plan 0 rfl) rfl rfl ?_
  refine sg_iload_n 2 (sk_td o_X9_plan 1 rfl) rfl rfl ?_
  obtain ⟨x1, hr_x1, hq⟩ := sk_bnd hq
  refine sm_callV1v 5 (s_X9_findUnits hr_x1) (sk_td o_X9_plan 2 rfl) rfl lv_X9_240 rfl rfl rfl sz_44 (sk_rok (Nat.le_of_ble_eq_true rfl) (Nat.le_of_ble_eq_true rfl) rfl rfl) (Nat.le_of_ble_eq_true rfl) ?_
  refine sg_iconst (v := (0 : Int32)) 6 (sk_td o_X9_plan 3 rfl) rfl (by decide) ?_
  refine sg_istore_n 7 [some (.inr (.inr (some (44, 0)))), some (.inl v1), some (.inl (0 : Int32)), none, none, none, none] (sk_td o_X9_plan 4 rfl) rfl rfl (Nat.le_of_ble_eq_true rfl) rfl ?_
  refine sk_wk [true, false, true, true, true, true, true] (ls' := [some (.inr (.inr (some (44, 0)))), none, some (.inl (0 : Int32)), none, none, none, none]) rfl ?_
  exact lt_X9_plan_7 sk_fu (x1, (0 : Int32)) _ hq
def q_X9_plan (d : sk_D) (v1 : Int32) : Option (Int32 × sk_D) := q_X9_plan_0 d v1 
theorem s_X9_plan {l : Launch} {d : sk_D} {v1 : Int32} {res : Int32 × sk_D} (hq : q_X9_plan d v1 = some res) : sk_M l 5 m_X9_plan [.inr (.inr (some (44, 0))), .inl v1] (sk_mm d) (some (.inl res.1)) (sk_mm res.2) :=
  sk_enter (by decide) (fun _ => Nat.le_of_ble_eq_true rfl) (Nat.le_of_ble_eq_true rfl) (t_X9_plan_0 hq )
def q_X9_assign_50 (rec13 : (sk_D × Int32 × Int32) → Option (Int32 × sk_D)) (d : sk_D) (v1 : Int32) (v2 : Int32) (s1 : Int32) (s2 : Int32) : Option (Int32 × sk_D) :=
  if sk_bi s1 20 = true then (rec13 ((sk_wi d 49 0 s1.toNatClampNeg s2), v1, (v2 + (1 : Int32)))) else none
set_option maxRecDepth 100000 in
set_option maxHeartbeats 4000000 in
theorem t_X9_assign_50 {l : Launch} {rec13 : (sk_D × Int32 × Int32) → Option (Int32 × sk_D)} {d : sk_D} {v1 : Int32} {v2 : Int32} {s1 : Int32} {s2 : Int32} (hrec13 : ∀ (a : (sk_D × Int32 × Int32)) (res : Int32 × sk_D), rec13 a = some res → sk_G l (sk_rm 6 0 0) m_X9_assign sk_Ex0 (sk_Zm m_X9_assign (some (.inl res.1)) (sk_mm res.2)) 0 0 13 [some (.inr (.inr (some (44, 0)))), some (.inl a.2.1), some (.inl a.2.2)] [] (sk_mm a.1)) {res : Int32 × sk_D} (hq : q_X9_assign_50 rec13 d v1 v2 s1 s2 = some res) :
    sk_G l (sk_rm 6 0 0) m_X9_assign sk_Ex0 (sk_Zm m_X9_assign (some (.inl res.1)) (sk_mm res.2)) 0 0 50 [some (.inr (.inr (some (44, 0)))), some (.inl v1), some (.inl v2)] [.inl s2, .inl s1, .inr (.inr (some (49, 0)))] (sk_mm d) := by
  unfold q_X9_assign_50 at hq
  obtain ⟨hb1, hq⟩ := sk_ifn hq
  refine sm_iast 51 (sk_td o_X9_assign 29 rfl) rfl rfl sz_49 hb1 ?_
  refine sg_iinc (v2 + (1 : Int32)) 54 [some (.inr (.inr (some (44, 0)))), some (.inl v1), some (.inl (v2 + (1 : Int32)))] (sk_td o_X9_assign 30 rfl) rfl rfl rfl rfl (Nat.le_of_ble_eq_true rfl) rfl ?_
  refine sg_goto 13 (sk_td o_X9_assign 31 rfl) (by decide) ?_
  exact hrec13 ((sk_wi d 49 0 s1.toNatClampNeg s2), v1, (v2 + (1 : Int32))) _ hq
def q_X9_assign_13 (rec13 : (sk_D × Int32 × Int32) → Option (Int32 × sk_D)) (d : sk_D) (v1 : Int32) (v2 : Int32) : Option (Int32 × sk_D) :=
  if (20 : Int32) ≤ v2 then some (v1, d) else if sk_bi v2 20 = true then if (d.1 45 0 v2.toNatClampNeg) = (1 : Int32) then if sk_bi v2 20 = true then if sk_bi (d.1 77 0 v2.toNatClampNeg) 20 = true then (q_X9_assign_50 rec13 d v1 v2 v2 (d.1 83 0 (d.1 77 0 v2.toNatClampNeg).toNatClampNeg)) else none else none else (q_X9_assign_50 rec13 d v1 v2 v2 (-9 : Int32)) else none
set_option maxRecDepth 100000 in
set_option maxHeartbeats 4000000 in
theorem t_X9_assign_13 {l : Launch} {rec13 : (sk_D × Int32 × Int32) → Option (Int32 × sk_D)} {d : sk_D} {v1 : Int32} {v2 : Int32} (hrec13 : ∀ (a : (sk_D × Int32 × Int32)) (res : Int32 × sk_D), rec13 a = some res → sk_G l (sk_rm 6 0 0) m_X9_assign sk_Ex0 (sk_Zm m_X9_assign (some (.inl res.1)) (sk_mm res.2)) 0 0 13 [some (.inr (.inr (some (44, 0)))), some (.inl a.2.1), some (.inl a.2.2)] [] (sk_mm a.1)) {res : Int32 × sk_D} (hq : q_X9_assign_13 rec13 d v1 v2 = some res) :
    sk_G l (sk_rm 6 0 0) m_X9_assign sk_Ex0 (sk_Zm m_X9_assign (some (.inl res.1)) (sk_mm res.2)) 0 0 13 [some (.inr (.inr (some (44, 0)))), some (.inl v1), some (.inl v2)] [] (sk_mm d) := by
  unfold q_X9_assign_13 at hq
  refine sg_iload_n 14 (sk_td o_X9_assign 8 rfl) rfl rfl ?_
  refine sg_bipush (v := (20 : Int32)) 16 (sk_td o_X9_assign 9 rfl) rfl (by decide) ?_
  refine sg_ic_ge 57 19 (sk_td o_X9_assign 10 rfl) (by decide) rfl (fun hc => ?_) (fun hc => ?_)
  · rw [if_pos hc] at hq
    refine sg_iload_n 58 (sk_td o_X9_assign 32 rfl) rfl rfl ?_
    obtain rfl := Option.some.inj hq
    exact sg_iret (sk_td o_X9_assign 33 rfl) rfl rfl
  · rw [if_neg hc] at hq
    refine sg_aload_n 20 (sk_td o_X9_assign 11 rfl) rfl rfl ?_
    refine sm_getR (49, 0) 23 (sk_td o_X9_assign 12 rfl) rfl kf_X9_32 rfl rfl sz_44 rfl ?_
    refine sg_iload_n 24 (sk_td o_X9_assign 13 rfl) rfl rfl ?_
    refine sg_aload_n 25 (sk_td o_X9_assign 14 rfl) rfl rfl ?_
    refine sm_getR (45, 0) 28 (sk_td o_X9_assign 15 rfl) rfl kf_X9_19 rfl rfl sz_44 rfl ?_
    refine sg_iload_n 29 (sk_td o_X9_assign 16 rfl) rfl rfl ?_
    obtain ⟨hb1, hq⟩ := sk_ifn hq
    refine sm_iald 30 (sk_td o_X9_assign 17 rfl) rfl rfl sz_45 hb1 ?_
    refine sg_iconst (v := (1 : Int32)) 31 (sk_td o_X9_assign 18 rfl) rfl (by decide) ?_
    refine sg_ic_ne 48 34 (sk_td o_X9_assign 19 rfl) (by decide) rfl (fun hc => ?_) (fun hc => ?_)
    · rw [if_neg hc] at hq
      refine sg_bipush (v := (-9 : Int32)) 50 (sk_td o_X9_assign 28 rfl) rfl (by decide) ?_
      exact t_X9_assign_50 hrec13 hq
    · rw [if_pos hc] at hq
      refine sg_aload_n 35 (sk_td o_X9_assign 20 rfl) rfl rfl ?_
      refine sm_getR (83, 0) 38 (sk_td o_X9_assign 21 rfl) rfl kf_X9_135 rfl rfl sz_44 rfl ?_
      refine sg_aload_n 39 (sk_td o_X9_assign 22 rfl) rfl rfl ?_
      refine sm_getR (77, 0) 42 (sk_td o_X9_assign 23 rfl) rfl kf_X9_116 rfl rfl sz_44 rfl ?_
      refine sg_iload_n 43 (sk_td o_X9_assign 24 rfl) rfl rfl ?_
      obtain ⟨hb2, hq⟩ := sk_ifn hq
      refine sm_iald 44 (sk_td o_X9_assign 25 rfl) rfl rfl sz_77 hb2 ?_
      obtain ⟨hb3, hq⟩ := sk_ifn hq
      refine sm_iald 45 (sk_td o_X9_assign 26 rfl) rfl rfl sz_83 hb3 ?_
      refine sg_goto 50 (sk_td o_X9_assign 27 rfl) (by decide) ?_
      exact t_X9_assign_50 hrec13 hq
def l_X9_assign_13 (fl : Nat) (a : (sk_D × Int32 × Int32)) : Option (Int32 × sk_D) := sk_it (fun rec13 a => q_X9_assign_13 rec13 a.1 a.2.1 a.2.2) fl a
theorem lt_X9_assign_13 {l : Launch} : ∀ (fl : Nat) (a : (sk_D × Int32 × Int32)) (res : Int32 × sk_D), l_X9_assign_13 fl a = some res → sk_G l (sk_rm 6 0 0) m_X9_assign sk_Ex0 (sk_Zm m_X9_assign (some (.inl res.1)) (sk_mm res.2)) 0 0 13 [some (.inr (.inr (some (44, 0)))), some (.inl a.2.1), some (.inl a.2.2)] [] (sk_mm a.1) :=
  sk_it_ind (P := fun (a : (sk_D × Int32 × Int32)) (res : Int32 × sk_D) => sk_G l (sk_rm 6 0 0) m_X9_assign sk_Ex0 (sk_Zm m_X9_assign (some (.inl res.1)) (sk_mm res.2)) 0 0 13 [some (.inr (.inr (some (44, 0)))), some (.inl a.2.1), some (.inl a.2.2)] [] (sk_mm a.1)) (fun rec13 hrec13 a res hq  => t_X9_assign_13 hrec13 hq )
def q_X9_assign_0 (d : sk_D) : Option (Int32 × sk_D) :=
  (q_X9_planGroups d).bind fun x1 => (q_X9_plan x1 (-9 : Int32)).bind fun x2 => (l_X9_assign_13 sk_fu (x2.2, x2.1, (0 : Int32)))
set_option maxRecDepth 100000 in
set_option maxHeartbeats 4000000 in
theorem t_X9_assign_0 {l : Launch} {d : sk_D} {res : Int32 × sk_D} (hq : q_X9_assign_0 d = some res) :
    sk_G l (sk_rm 6 0 0) m_X9_assign sk_Ex0 (sk_Zm m_X9_assign (some (.inl res.1)) (sk_mm res.2)) 0 0 0 [some (.inr (.inr (some (44, 0)))), none, none] [] (sk_mm d) := by
  unfold q_X9_assign_0 at hq
  refine sg_aload_n 1 (sk_td o_X9_assign 0 rfl) rfl rfl ?_
  obtain ⟨x1, hr_x1, hq⟩ := sk_bnd hq
  refine sm_callV0v 4 (s_X9_planGroups hr_x1) (sk_td o_X9_assign 1 rfl) rfl lv_X9_251 rfl rfl rfl sz_44 (sk_rok (Nat.le_of_ble_eq_true rfl) (Nat.le_of_ble_eq_true rfl) rfl rfl) (Nat.le_of_ble_eq_true rfl) ?_
  refine sg_aload_n 5 (sk_td o_X9_assign 2 rfl) rfl rfl ?_
  refine sg_bipush (v := (-9 : Int32)) 7 (sk_td o_X9_assign 3 rfl) rfl (by decide) ?_
  obtain ⟨x2, hr_x2, hq⟩ := sk_bnd hq
  refine sm_callV1i 10 (s_X9_plan hr_x2) (sk_td o_X9_assign 4 rfl) rfl lv_X9_254 rfl rfl rfl sz_44 (sk_rok (Nat.le_of_ble_eq_true rfl) (Nat.le_of_ble_eq_true rfl) rfl rfl) (Nat.le_of_ble_eq_true rfl) ?_
  refine sg_istore_n 11 [some (.inr (.inr (some (44, 0)))), some (.inl x2.1), none] (sk_td o_X9_assign 5 rfl) rfl rfl (Nat.le_of_ble_eq_true rfl) rfl ?_
  refine sg_iconst (v := (0 : Int32)) 12 (sk_td o_X9_assign 6 rfl) rfl (by decide) ?_
  refine sg_istore_n 13 [some (.inr (.inr (some (44, 0)))), some (.inl x2.1), some (.inl (0 : Int32))] (sk_td o_X9_assign 7 rfl) rfl rfl (Nat.le_of_ble_eq_true rfl) rfl ?_
  exact lt_X9_assign_13 sk_fu (x2.2, x2.1, (0 : Int32)) _ hq
def q_X9_assign (d : sk_D) : Option (Int32 × sk_D) := q_X9_assign_0 d 
theorem s_X9_assign {l : Launch} {d : sk_D} {res : Int32 × sk_D} (hq : q_X9_assign d = some res) : sk_M l 6 m_X9_assign [.inr (.inr (some (44, 0)))] (sk_mm d) (some (.inl res.1)) (sk_mm res.2) :=
  sk_enter (by decide) (fun _ => Nat.le_of_ble_eq_true rfl) (Nat.le_of_ble_eq_true rfl) (t_X9_assign_0 hq )
def q_X9_placedMany_37 (rec4 : (Int32 × Int32) → Option (Int32)) (d : sk_D) (v2 : Int32) (s0 : Int32) (s1 : Int32) : Option (Int32) :=
  (rec4 ((s0 + s1), (v2 + (1 : Int32))))
set_option maxRecDepth 100000 in
set_option maxHeartbeats 4000000 in
theorem t_X9_placedMany_37 {l : Launch} {rec4 : (Int32 × Int32) → Option (Int32)} {d : sk_D} {v2 : Int32} {s0 : Int32} {s1 : Int32} (hrec4 : ∀ (a : (Int32 × Int32)) (res : Int32), rec4 a = some res → sk_G l (sk_rm 1 0 0) m_X9_placedMany sk_Ex0 (sk_Zm m_X9_placedMany (some (.inl res)) (sk_mm d)) 0 0 4 [some (.inr (.inr (some (44, 0)))), some (.inl a.1), some (.inl a.2)] [] (sk_mm d)) {res : Int32} (hq : q_X9_placedMany_37 rec4 d v2 s0 s1 = some res) :
    sk_G l (sk_rm 1 0 0) m_X9_placedMany sk_Ex0 (sk_Zm m_X9_placedMany (some (.inl res)) (sk_mm d)) 0 0 37 [some (.inr (.inr (some (44, 0)))), none, some (.inl v2)] [.inl s1, .inl s0] (sk_mm d) := by
  unfold q_X9_placedMany_37 at hq
  refine sg_iadd 38 (sk_td o_X9_placedMany 23 rfl) rfl ?_
  refine sg_istore_n 39 [some (.inr (.inr (some (44, 0)))), some (.inl (s0 + s1)), some (.inl v2)] (sk_td o_X9_placedMany 24 rfl) rfl rfl (Nat.le_of_ble_eq_true rfl) rfl ?_
  refine sg_iinc (v2 + (1 : Int32)) 42 [some (.inr (.inr (some (44, 0)))), some (.inl (s0 + s1)), some (.inl (v2 + (1 : Int32)))] (sk_td o_X9_placedMany 25 rfl) rfl rfl rfl rfl (Nat.le_of_ble_eq_true rfl) rfl ?_
  refine sg_goto 4 (sk_td o_X9_placedMany 26 rfl) (by decide) ?_
  exact hrec4 ((s0 + s1), (v2 + (1 : Int32))) _ hq
def q_X9_placedMany_36 (rec4 : (Int32 × Int32) → Option (Int32)) (d : sk_D) (v2 : Int32) (s0 : Int32) : Option (Int32) :=
  (q_X9_placedMany_37 rec4 d v2 s0 (0 : Int32))
set_option maxRecDepth 100000 in
set_option maxHeartbeats 4000000 in
theorem t_X9_placedMany_36 {l : Launch} {rec4 : (Int32 × Int32) → Option (Int32)} {d : sk_D} {v2 : Int32} {s0 : Int32} (hrec4 : ∀ (a : (Int32 × Int32)) (res : Int32), rec4 a = some res → sk_G l (sk_rm 1 0 0) m_X9_placedMany sk_Ex0 (sk_Zm m_X9_placedMany (some (.inl res)) (sk_mm d)) 0 0 4 [some (.inr (.inr (some (44, 0)))), some (.inl a.1), some (.inl a.2)] [] (sk_mm d)) {res : Int32} (hq : q_X9_placedMany_36 rec4 d v2 s0 = some res) :
    sk_G l (sk_rm 1 0 0) m_X9_placedMany sk_Ex0 (sk_Zm m_X9_placedMany (some (.inl res)) (sk_mm d)) 0 0 36 [some (.inr (.inr (some (44, 0)))), none, some (.inl v2)] [.inl s0] (sk_mm d) := by
  unfold q_X9_placedMany_36 at hq
  refine sg_iconst (v := (0 : Int32)) 37 (sk_td o_X9_placedMany 22 rfl) rfl (by decide) ?_
  exact t_X9_placedMany_37 hrec4 hq
def q_X9_placedMany_4 (rec4 : (Int32 × Int32) → Option (Int32)) (d : sk_D) (v1 : Int32) (v2 : Int32) : Option (Int32) :=
  if (20 : Int32) ≤ v2 then some v1 else if sk_bi v2 20 = true then if (d.1 45 0 v2.toNatClampNeg) = (1 : Int32) then if sk_bi v2 20 = true then if (d.1 49 0 v2.toNatClampNeg) = (-9 : Int32) then (q_X9_placedMany_36 rec4 d v2 v1) else (q_X9_placedMany_37 rec4 d v2 v1 (1 : Int32)) else none else (q_X9_placedMany_36 rec4 d v2 v1) else none
set_option maxRecDepth 100000 in
set_option maxHeartbeats 4000000 in
theorem t_X9_placedMany_4 {l : Launch} {rec4 : (Int32 × Int32) → Option (Int32)} {d : sk_D} {v1 : Int32} {v2 : Int32} (hrec4 : ∀ (a : (Int32 × Int32)) (res : Int32), rec4 a = some res → sk_G l (sk_rm 1 0 0) m_X9_placedMany sk_Ex0 (sk_Zm m_X9_placedMany (some (.inl res)) (sk_mm d)) 0 0 4 [some (.inr (.inr (some (44, 0)))), some (.inl a.1), some (.inl a.2)] [] (sk_mm d)) {res : Int32} (hq : q_X9_placedMany_4 rec4 d v1 v2 = some res) :
    sk_G l (sk_rm 1 0 0) m_X9_placedMany sk_Ex0 (sk_Zm m_X9_placedMany (some (.inl res)) (sk_mm d)) 0 0 4 [some (.inr (.inr (some (44, 0)))), some (.inl v1), some (.inl v2)] [] (sk_mm d) := by
  unfold q_X9_placedMany_4 at hq
  refine sg_iload_n 5 (sk_td o_X9_placedMany 4 rfl) rfl rfl ?_
  refine sg_bipush (v := (20 : Int32)) 7 (sk_td o_X9_placedMany 5 rfl) rfl (by decide) ?_
  refine sg_ic_ge 45 10 (sk_td o_X9_placedMany 6 rfl) (by decide) rfl (fun hc => ?_) (fun hc => ?_)
  · rw [if_pos hc] at hq
    refine sg_iload_n 46 (sk_td o_X9_placedMany 27 rfl) rfl rfl ?_
    obtain rfl := Option.some.inj hq
    exact sg_iret (sk_td o_X9_placedMany 28 rfl) rfl rfl
  · rw [if_neg hc] at hq
    refine sg_iload_n 11 (sk_td o_X9_placedMany 7 rfl) rfl rfl ?_
    refine sg_aload_n 12 (sk_td o_X9_placedMany 8 rfl) rfl rfl ?_
    refine sm_getR (45, 0) 15 (sk_td o_X9_placedMany 9 rfl) rfl kf_X9_19 rfl rfl sz_44 rfl ?_
    refine sg_iload_n 16 (sk_td o_X9_placedMany 10 rfl) rfl rfl ?_
    obtain ⟨hb1, hq⟩ := sk_ifn hq
    refine sm_iald 17 (sk_td o_X9_placedMany 11 rfl) rfl rfl sz_45 hb1 ?_
    refine sg_iconst (v := (1 : Int32)) 18 (sk_td o_X9_placedMany 12 rfl) rfl (by decide) ?_
    refine sg_ic_ne 36 21 (sk_td o_X9_placedMany 13 rfl) (by decide) rfl (fun hc => ?_) (fun hc => ?_)
    · rw [if_neg hc] at hq
      refine sk_wk [true, false, true] (ls' := [some (.inr (.inr (some (44, 0)))), none, some (.inl v2)]) rfl ?_
      exact t_X9_placedMany_36 hrec4 hq
    · rw [if_pos hc] at hq
      refine sg_aload_n 22 (sk_td o_X9_placedMany 14 rfl) rfl rfl ?_
      refine sm_getR (49, 0) 25 (sk_td o_X9_placedMany 15 rfl) rfl kf_X9_32 rfl rfl sz_44 rfl ?_
      refine sg_iload_n 26 (sk_td o_X9_placedMany 16 rfl) rfl rfl ?_
      obtain ⟨hb2, hq⟩ := sk_ifn hq
      refine sm_iald 27 (sk_td o_X9_placedMany 17 rfl) rfl rfl sz_49 hb2 ?_
      refine sg_bipush (v := (-9 : Int32)) 29 (sk_td o_X9_placedMany 18 rfl) rfl (by decide) ?_
      refine sg_ic_eq 36 32 (sk_td o_X9_placedMany 19 rfl) (by decide) rfl (fun hc => ?_) (fun hc => ?_)
      · rw [if_pos hc] at hq
        refine sk_wk [true, false, true] (ls' := [some (.inr (.inr (some (44, 0)))), none, some (.inl v2)]) rfl ?_
        exact t_X9_placedMany_36 hrec4 hq
      · rw [if_neg hc] at hq
        refine sg_iconst (v := (1 : Int32)) 33 (sk_td o_X9_placedMany 20 rfl) rfl (by decide) ?_
        refine sg_goto 37 (sk_td o_X9_placedMany 21 rfl) (by decide) ?_
        refine sk_wk [true, false, true] (ls' := [some (.inr (.inr (some (44, 0)))), none, some (.inl v2)]) rfl ?_
        exact t_X9_placedMany_37 hrec4 hq
def l_X9_placedMany_4 (d : sk_D) (fl : Nat) (a : (Int32 × Int32)) : Option (Int32) := sk_it (fun rec4 a => q_X9_placedMany_4 rec4 d a.1 a.2) fl a
theorem lt_X9_placedMany_4 {l : Launch} {d : sk_D} : ∀ (fl : Nat) (a : (Int32 × Int32)) (res : Int32), l_X9_placedMany_4 d fl a = some res → sk_G l (sk_rm 1 0 0) m_X9_placedMany sk_Ex0 (sk_Zm m_X9_placedMany (some (.inl res)) (sk_mm d)) 0 0 4 [some (.inr (.inr (some (44, 0)))), some (.inl a.1), some (.inl a.2)] [] (sk_mm d) :=
  sk_it_ind (P := fun (a : (Int32 × Int32)) (res : Int32) => sk_G l (sk_rm 1 0 0) m_X9_placedMany sk_Ex0 (sk_Zm m_X9_placedMany (some (.inl res)) (sk_mm d)) 0 0 4 [some (.inr (.inr (some (44, 0)))), some (.inl a.1), some (.inl a.2)] [] (sk_mm d)) (fun rec4 hrec4 a res hq  => t_X9_placedMany_4 hrec4 hq )
def q_X9_placedMany_0 (d : sk_D) : Option (Int32) :=
  (l_X9_placedMany_4 d sk_fu ((0 : Int32), (0 : Int32)))
set_option maxRecDepth 100000 in
set_option maxHeartbeats 4000000 in
theorem t_X9_placedMany_0 {l : Launch} {d : sk_D} {res : Int32} (hq : q_X9_placedMany_0 d = some res) :
    sk_G l (sk_rm 1 0 0) m_X9_placedMany sk_Ex0 (sk_Zm m_X9_placedMany (some (.inl res)) (sk_mm d)) 0 0 0 [some (.inr (.inr (some (44, 0)))), none, none] [] (sk_mm d) := by
  unfold q_X9_placedMany_0 at hq
  refine sg_iconst (v := (0 : Int32)) 1 (sk_td o_X9_placedMany 0 rfl) rfl (by decide) ?_
  refine sg_istore_n 2 [some (.inr (.inr (some (44, 0)))), some (.inl (0 : Int32)), none] (sk_td o_X9_placedMany 1 rfl) rfl rfl (Nat.le_of_ble_eq_true rfl) rfl ?_
  refine sg_iconst (v := (0 : Int32)) 3 (sk_td o_X9_placedMany 2 rfl) rfl (by decide) ?_
  refine sg_istore_n 4 [some (.inr (.inr (some (44, 0)))), some (.inl (0 : Int32)), some (.inl (0 : Int32))] (sk_td o_X9_placedMany 3 rfl) rfl rfl (Nat.le_of_ble_eq_true rfl) rfl ?_
  exact lt_X9_placedMany_4 sk_fu ((0 : Int32), (0 : Int32)) _ hq
def q_X9_placedMany (d : sk_D) : Option (Int32) := q_X9_placedMany_0 d 
theorem s_X9_placedMany {l : Launch} {d : sk_D} {res : Int32} (hq : q_X9_placedMany d = some res) : sk_M l 1 m_X9_placedMany [.inr (.inr (some (44, 0)))] (sk_mm d) (some (.inl res)) (sk_mm d) :=
  sk_enter (by decide) (fun _ => Nat.le_of_ble_eq_true rfl) (Nat.le_of_ble_eq_true rfl) (t_X9_placedMany_0 hq )
def q_X9_placed_0 (d : sk_D) : Option (Int32) :=
  (q_X9_placedMany d).bind fun x1 => some x1
set_option maxRecDepth 100000 in
set_option maxHeartbeats 4000000 in
theorem t_X9_placed_0 {l : Launch} {d : sk_D} {res : Int32} (hq : q_X9_placed_0 d = some res) :
    sk_G l (sk_rm 2 0 0) m_X9_placed sk_Ex0 (sk_Zm m_X9_placed (some (.inl res)) (sk_mm d)) 0 0 0 [some (.inr (.inr (some (44, 0))))] [] (sk_mm d) := by
  unfold q_X9_placed_0 at hq
  refine sg_aload_n 1 (sk_td o_X9_placed 0 rfl) rfl rfl ?_
  obtain ⟨x1, hr_x1, hq⟩ := sk_bnd hq
  refine sm_callV0i 4 (s_X9_placedMany hr_x1) (sk_td o_X9_placed 1 rfl) rfl lv_X9_257 rfl rfl rfl sz_44 (sk_rok (Nat.le_of_ble_eq_true rfl) (Nat.le_of_ble_eq_true rfl) rfl rfl) (Nat.le_of_ble_eq_true rfl) ?_
  obtain rfl := Option.some.inj hq
  exact sg_iret (sk_td o_X9_placed 2 rfl) rfl rfl
def q_X9_placed (d : sk_D) : Option (Int32) := q_X9_placed_0 d 
theorem s_X9_placed {l : Launch} {d : sk_D} {res : Int32} (hq : q_X9_placed d = some res) : sk_M l 2 m_X9_placed [.inr (.inr (some (44, 0)))] (sk_mm d) (some (.inl res)) (sk_mm d) :=
  sk_enter (by decide) (fun _ => Nat.le_of_ble_eq_true rfl) (Nat.le_of_ble_eq_true rfl) (t_X9_placed_0 hq )
def q_X9_outMany_59 (rec4 : (Int32 × Int32) → Option (Int32)) (d : sk_D) (v2 : Int32) (s0 : Int32) (s1 : Int32) : Option (Int32) :=
  (rec4 ((s0 + s1), (v2 + (1 : Int32))))
set_option maxRecDepth 100000 in
set_option maxHeartbeats 4000000 in
theorem t_X9_outMany_59 {l : Launch} {rec4 : (Int32 × Int32) → Option (Int32)} {d : sk_D} {v2 : Int32} {s0 : Int32} {s1 : Int32} (hrec4 : ∀ (a : (Int32 × Int32)) (res : Int32), rec4 a = some res → sk_G l (sk_rm 1 0 0) m_X9_outMany sk_Ex0 (sk_Zm m_X9_outMany (some (.inl res)) (sk_mm d)) 0 0 4 [some (.inr (.inr (some (44, 0)))), some (.inl a.1), some (.inl a.2), none] [] (sk_mm d)) {res : Int32} (hq : q_X9_outMany_59 rec4 d v2 s0 s1 = some res) :
    sk_G l (sk_rm 1 0 0) m_X9_outMany sk_Ex0 (sk_Zm m_X9_outMany (some (.inl res)) (sk_mm d)) 0 0 59 [some (.inr (.inr (some (44, 0)))), none, some (.inl v2), none] [.inl s1, .inl s0] (sk_mm d) := by
  unfold q_X9_outMany_59 at hq
  refine sg_iadd 60 (sk_td o_X9_outMany 36 rfl) rfl ?_
  refine sg_istore_n 61 [some (.inr (.inr (some (44, 0)))), some (.inl (s0 + s1)), some (.inl v2), none] (sk_td o_X9_outMany 37 rfl) rfl rfl (Nat.le_of_ble_eq_true rfl) rfl ?_
  refine sg_iinc (v2 + (1 : Int32)) 64 [some (.inr (.inr (some (44, 0)))), some (.inl (s0 + s1)), some (.inl (v2 + (1 : Int32))), none] (sk_td o_X9_outMany 38 rfl) rfl rfl rfl rfl (Nat.le_of_ble_eq_true rfl) rfl ?_
  refine sg_goto 4 (sk_td o_X9_outMany 39 rfl) (by decide) ?_
  exact hrec4 ((s0 + s1), (v2 + (1 : Int32))) _ hq
def q_X9_outMany_58 (rec4 : (Int32 × Int32) → Option (Int32)) (d : sk_D) (v2 : Int32) (s0 : Int32) : Option (Int32) :=
  (q_X9_outMany_59 rec4 d v2 s0 (0 : Int32))
set_option maxRecDepth 100000 in
set_option maxHeartbeats 4000000 in
theorem t_X9_outMany_58 {l : Launch} {rec4 : (Int32 × Int32) → Option (Int32)} {d : sk_D} {v2 : Int32} {s0 : Int32} (hrec4 : ∀ (a : (Int32 × Int32)) (res : Int32), rec4 a = some res → sk_G l (sk_rm 1 0 0) m_X9_outMany sk_Ex0 (sk_Zm m_X9_outMany (some (.inl res)) (sk_mm d)) 0 0 4 [some (.inr (.inr (some (44, 0)))), some (.inl a.1), some (.inl a.2), none] [] (sk_mm d)) {res : Int32} (hq : q_X9_outMany_58 rec4 d v2 s0 = some res) :
    sk_G l (sk_rm 1 0 0) m_X9_outMany sk_Ex0 (sk_Zm m_X9_outMany (some (.inl res)) (sk_mm d)) 0 0 58 [some (.inr (.inr (some (44, 0)))), none, some (.inl v2), none] [.inl s0] (sk_mm d) := by
  unfold q_X9_outMany_58 at hq
  refine sg_iconst (v := (0 : Int32)) 59 (sk_td o_X9_outMany 35 rfl) rfl (by decide) ?_
  exact t_X9_outMany_59 hrec4 hq
def q_X9_outMany_31 (rec4 : (Int32 × Int32) → Option (Int32)) (d : sk_D) (v1 : Int32) (v2 : Int32) (s0 : Int32) : Option (Int32) :=
  if s0 = (-9 : Int32) then (q_X9_outMany_58 rec4 d v2 v1) else if sk_bi s0 4 = true then if sk_bi v2 20 = true then if (d.1 54 0 s0.toNatClampNeg) = (d.1 46 0 v2.toNatClampNeg) then (q_X9_outMany_58 rec4 d v2 v1) else (q_X9_outMany_59 rec4 d v2 v1 (1 : Int32)) else none else none
set_option maxRecDepth 100000 in
set_option maxHeartbeats 4000000 in
theorem t_X9_outMany_31 {l : Launch} {rec4 : (Int32 × Int32) → Option (Int32)} {d : sk_D} {v1 : Int32} {v2 : Int32} {s0 : Int32} (hrec4 : ∀ (a : (Int32 × Int32)) (res : Int32), rec4 a = some res → sk_G l (sk_rm 1 0 0) m_X9_outMany sk_Ex0 (sk_Zm m_X9_outMany (some (.inl res)) (sk_mm d)) 0 0 4 [some (.inr (.inr (some (44, 0)))), some (.inl a.1), some (.inl a.2), none] [] (sk_mm d)) {res : Int32} (hq : q_X9_outMany_31 rec4 d v1 v2 s0 = some res) :
    sk_G l (sk_rm 1 0 0) m_X9_outMany sk_Ex0 (sk_Zm m_X9_outMany (some (.inl res)) (sk_mm d)) 0 0 31 [some (.inr (.inr (some (44, 0)))), some (.inl v1), some (.inl v2), none] [.inl s0] (sk_mm d) := by
  unfold q_X9_outMany_31 at hq
  refine sg_istore_n 32 [some (.inr (.inr (some (44, 0)))), some (.inl v1), some (.inl v2), some (.inl s0)] (sk_td o_X9_outMany 19 rfl) rfl rfl (Nat.le_of_ble_eq_true rfl) rfl ?_
  refine sg_iload_n 33 (sk_td o_X9_outMany 20 rfl) rfl rfl ?_
  refine sg_iload_n 34 (sk_td o_X9_outMany 21 rfl) rfl rfl ?_
  refine sg_bipush (v := (-9 : Int32)) 36 (sk_td o_X9_outMany 22 rfl) rfl (by decide) ?_
  refine sg_ic_eq 58 39 (sk_td o_X9_outMany 23 rfl) (by decide) rfl (fun hc => ?_) (fun hc => ?_)
  · rw [if_pos hc] at hq
    refine sk_wk [true, false, true, false] (ls' := [some (.inr (.inr (some (44, 0)))), none, some (.inl v2), none]) rfl ?_
    exact t_X9_outMany_58 hrec4 hq
  · rw [if_neg hc] at hq
    refine sg_aload_n 40 (sk_td o_X9_outMany 24 rfl) rfl rfl ?_
    refine sm_getR (54, 0) 43 (sk_td o_X9_outMany 25 rfl) rfl kf_X9_47 rfl rfl sz_44 rfl ?_
    refine sg_iload_n 44 (sk_td o_X9_outMany 26 rfl) rfl rfl ?_
    obtain ⟨hb1, hq⟩ := sk_ifn hq
    refine sm_iald 45 (sk_td o_X9_outMany 27 rfl) rfl rfl sz_54 hb1 ?_
    refine sg_aload_n 46 (sk_td o_X9_outMany 28 rfl) rfl rfl ?_
    refine sm_getR (46, 0) 49 (sk_td o_X9_outMany 29 rfl) rfl kf_X9_23 rfl rfl sz_44 rfl ?_
    refine sg_iload_n 50 (sk_td o_X9_outMany 30 rfl) rfl rfl ?_
    obtain ⟨hb2, hq⟩ := sk_ifn hq
    refine sm_iald 51 (sk_td o_X9_outMany 31 rfl) rfl rfl sz_46 hb2 ?_
    refine sg_ic_eq 58 54 (sk_td o_X9_outMany 32 rfl) (by decide) rfl (fun hc => ?_) (fun hc => ?_)
    · rw [if_pos hc] at hq
      refine sk_wk [true, false, true, false] (ls' := [some (.inr (.inr (some (44, 0)))), none, some (.inl v2), none]) rfl ?_
      exact t_X9_outMany_58 hrec4 hq
    · rw [if_neg hc] at hq
      refine sg_iconst (v := (1 : Int32)) 55 (sk_td o_X9_outMany 33 rfl) rfl (by decide) ?_
      refine sg_goto 59 (sk_td o_X9_outMany 34 rfl) (by decide) ?_
      refine sk_wk [true, false, true, false] (ls' := [some (.inr (.inr (some (44, 0)))), none, some (.inl v2), none]) rfl ?_
      exact t_X9_outMany_59 hrec4 hq
def q_X9_outMany_4 (rec4 : (Int32 × Int32) → Option (Int32)) (d : sk_D) (v1 : Int32) (v2 : Int32) : Option (Int32) :=
  if (20 : Int32) ≤ v2 then some v1 else if sk_bi v2 20 = true then if (d.1 45 0 v2.toNatClampNeg) = (1 : Int32) then if sk_bi v2 20 = true then (q_X9_outMany_31 rec4 d v1 v2 (d.1 49 0 v2.toNatClampNeg)) else none else (q_X9_outMany_31 rec4 d v1 v2 (-9 : Int32)) else none
set_option maxRecDepth 100000 in
set_option maxHeartbeats 4000000 in
theorem t_X9_outMany_4 {l : Launch} {rec4 : (Int32 × Int32) → Option (Int32)} {d : sk_D} {v1 : Int32} {v2 : Int32} (hrec4 : ∀ (a : (Int32 × Int32)) (res : Int32), rec4 a = some res → sk_G l (sk_rm 1 0 0) m_X9_outMany sk_Ex0 (sk_Zm m_X9_outMany (some (.inl res)) (sk_mm d)) 0 0 4 [some (.inr (.inr (some (44, 0)))), some (.inl a.1), some (.inl a.2), none] [] (sk_mm d)) {res : Int32} (hq : q_X9_outMany_4 rec4 d v1 v2 = some res) :
    sk_G l (sk_rm 1 0 0) m_X9_outMany sk_Ex0 (sk_Zm m_X9_outMany (some (.inl res)) (sk_mm d)) 0 0 4 [some (.inr (.inr (some (44, 0)))), some (.inl v1), some (.inl v2), none] [] (sk_mm d) := by
  unfold q_X9_outMany_4 at hq
  refine sg_iload_n 5 (sk_td o_X9_outMany 4 rfl) rfl rfl ?_
  refine sg_bipush (v := (20 : Int32)) 7 (sk_td o_X9_outMany 5 rfl) rfl (by decide) ?_
  refine sg_ic_ge 67 10 (sk_td o_X9_outMany 6 rfl) (by decide) rfl (fun hc => ?_) (fun hc => ?_)
  · rw [if_pos hc] at hq
    refine sg_iload_n 68 (sk_td o_X9_outMany 40 rfl) rfl rfl ?_
    obtain rfl := Option.some.inj hq
    exact sg_iret (sk_td o_X9_outMany 41 rfl) rfl rfl
  · rw [if_neg hc] at hq
    refine sg_aload_n 11 (sk_td o_X9_outMany 7 rfl) rfl rfl ?_
    refine sm_getR (45, 0) 14 (sk_td o_X9_outMany 8 rfl) rfl kf_X9_19 rfl rfl sz_44 rfl ?_
    refine sg_iload_n 15 (sk_td o_X9_outMany 9 rfl) rfl rfl ?_
    obtain ⟨hb1, hq⟩ := sk_ifn hq
    refine sm_iald 16 (sk_td o_X9_outMany 10 rfl) rfl rfl sz_45 hb1 ?_
    refine sg_iconst (v := (1 : Int32)) 17 (sk_td o_X9_outMany 11 rfl) rfl (by decide) ?_
    refine sg_ic_ne 29 20 (sk_td o_X9_outMany 12 rfl) (by decide) rfl (fun hc => ?_) (fun hc => ?_)
    · rw [if_neg hc] at hq
      refine sg_bipush (v := (-9 : Int32)) 31 (sk_td o_X9_outMany 18 rfl) rfl (by decide) ?_
      exact t_X9_outMany_31 hrec4 hq
    · rw [if_pos hc] at hq
      refine sg_aload_n 21 (sk_td o_X9_outMany 13 rfl) rfl rfl ?_
      refine sm_getR (49, 0) 24 (sk_td o_X9_outMany 14 rfl) rfl kf_X9_32 rfl rfl sz_44 rfl ?_
      refine sg_iload_n 25 (sk_td o_X9_outMany 15 rfl) rfl rfl ?_
      obtain ⟨hb2, hq⟩ := sk_ifn hq
      refine sm_iald 26 (sk_td o_X9_outMany 16 rfl) rfl rfl sz_49 hb2 ?_
      refine sg_goto 31 (sk_td o_X9_outMany 17 rfl) (by decide) ?_
      exact t_X9_outMany_31 hrec4 hq
def l_X9_outMany_4 (d : sk_D) (fl : Nat) (a : (Int32 × Int32)) : Option (Int32) := sk_it (fun rec4 a => q_X9_outMany_4 rec4 d a.1 a.2) fl a
theorem lt_X9_outMany_4 {l : Launch} {d : sk_D} : ∀ (fl : Nat) (a : (Int32 × Int32)) (res : Int32), l_X9_outMany_4 d fl a = some res → sk_G l (sk_rm 1 0 0) m_X9_outMany sk_Ex0 (sk_Zm m_X9_outMany (some (.inl res)) (sk_mm d)) 0 0 4 [some (.inr (.inr (some (44, 0)))), some (.inl a.1), some (.inl a.2), none] [] (sk_mm d) :=
  sk_it_ind (P := fun (a : (Int32 × Int32)) (res : Int32) => sk_G l (sk_rm 1 0 0) m_X9_outMany sk_Ex0 (sk_Zm m_X9_outMany (some (.inl res)) (sk_mm d)) 0 0 4 [some (.inr (.inr (some (44, 0)))), some (.inl a.1), some (.inl a.2), none] [] (sk_mm d)) (fun rec4 hrec4 a res hq  => t_X9_outMany_4 hrec4 hq )
def q_X9_outMany_0 (d : sk_D) : Option (Int32) :=
  (l_X9_outMany_4 d sk_fu ((0 : Int32), (0 : Int32)))
set_option maxRecDepth 100000 in
set_option maxHeartbeats 4000000 in
theorem t_X9_outMany_0 {l : Launch} {d : sk_D} {res : Int32} (hq : q_X9_outMany_0 d = some res) :
    sk_G l (sk_rm 1 0 0) m_X9_outMany sk_Ex0 (sk_Zm m_X9_outMany (some (.inl res)) (sk_mm d)) 0 0 0 [some (.inr (.inr (some (44, 0)))), none, none, none] [] (sk_mm d) := by
  unfold q_X9_outMany_0 at hq
  refine sg_iconst (v := (0 : Int32)) 1 (sk_td o_X9_outMany 0 rfl) rfl (by decide) ?_
  refine sg_istore_n 2 [some (.inr (.inr (some (44, 0)))), some (.inl (0 : Int32)), none, none] (sk_td o_X9_outMany 1 rfl) rfl rfl (Nat.le_of_ble_eq_true rfl) rfl ?_
  refine sg_iconst (v := (0 : Int32)) 3 (sk_td o_X9_outMany 2 rfl) rfl (by decide) ?_
  refine sg_istore_n 4 [some (.inr (.inr (some (44, 0)))), some (.inl (0 : Int32)), some (.inl (0 : Int32)), none] (sk_td o_X9_outMany 3 rfl) rfl rfl (Nat.le_of_ble_eq_true rfl) rfl ?_
  exact lt_X9_outMany_4 sk_fu ((0 : Int32), (0 : Int32)) _ hq
def q_X9_outMany (d : sk_D) : Option (Int32) := q_X9_outMany_0 d 
theorem s_X9_outMany {l : Launch} {d : sk_D} {res : Int32} (hq : q_X9_outMany d = some res) : sk_M l 1 m_X9_outMany [.inr (.inr (some (44, 0)))] (sk_mm d) (some (.inl res)) (sk_mm d) :=
  sk_enter (by decide) (fun _ => Nat.le_of_ble_eq_true rfl) (Nat.le_of_ble_eq_true rfl) (t_X9_outMany_0 hq )
def q_X9_outOfLevel_0 (d : sk_D) : Option (Int32) :=
  (q_X9_outMany d).bind fun x1 => some x1
set_option maxRecDepth 100000 in
set_option maxHeartbeats 4000000 in
theorem t_X9_outOfLevel_0 {l : Launch} {d : sk_D} {res : Int32} (hq : q_X9_outOfLevel_0 d = some res) :
    sk_G l (sk_rm 2 0 0) m_X9_outOfLevel sk_Ex0 (sk_Zm m_X9_outOfLevel (some (.inl res)) (sk_mm d)) 0 0 0 [some (.inr (.inr (some (44, 0))))] [] (sk_mm d) := by
  unfold q_X9_outOfLevel_0 at hq
  refine sg_aload_n 1 (sk_td o_X9_outOfLevel 0 rfl) rfl rfl ?_
  obtain ⟨x1, hr_x1, hq⟩ := sk_bnd hq
  refine sm_callV0i 4 (s_X9_outMany hr_x1) (sk_td o_X9_outOfLevel 1 rfl) rfl lv_X9_260 rfl rfl rfl sz_44 (sk_rok (Nat.le_of_ble_eq_true rfl) (Nat.le_of_ble_eq_true rfl) rfl rfl) (Nat.le_of_ble_eq_true rfl) ?_
  obtain rfl := Option.some.inj hq
  exact sg_iret (sk_td o_X9_outOfLevel 2 rfl) rfl rfl
def q_X9_outOfLevel (d : sk_D) : Option (Int32) := q_X9_outOfLevel_0 d 
theorem s_X9_outOfLevel {l : Launch} {d : sk_D} {res : Int32} (hq : q_X9_outOfLevel d = some res) : sk_M l 2 m_X9_outOfLevel [.inr (.inr (some (44, 0)))] (sk_mm d) (some (.inl res)) (sk_mm d) :=
  sk_enter (by decide) (fun _ => Nat.le_of_ble_eq_true rfl) (Nat.le_of_ble_eq_true rfl) (t_X9_outOfLevel_0 hq )
def q_X9_extraPlaced_67 (d : sk_D) (v4 : Int32) : Option (Int32 × sk_D) :=
  (q_X9_plan d (-9 : Int32)).bind fun x1 => some ((x1.1 - v4), x1.2)
set_option maxRecDepth 100000 in
set_option maxHeartbeats 4000000 in
theorem t_X9_extraPlaced_67 {l : Launch} {d : sk_D} {v4 : Int32} {res : Int32 × sk_D} (hq : q_X9_extraPlaced_67 d v4 = some res) :
    sk_G l (sk_rm 6 0 0) m_X9_extraPlaced sk_Ex0 (sk_Zm m_X9_extraPlaced (some (.inl res.1)) (sk_mm res.2)) 0 0 67 [none, none, none, none, some (.inl v4), none] [.inl (-9 : Int32), .inr (.inr (some (44, 0)))] (sk_mm d) := by
  unfold q_X9_extraPlaced_67 at hq
  obtain ⟨x1, hr_x1, hq⟩ := sk_bnd hq
  refine sm_callV1i 70 (s_X9_plan hr_x1) (sk_td o_X9_extraPlaced 39 rfl) rfl lv_X9_254 rfl rfl rfl sz_44 (sk_rok (Nat.le_of_ble_eq_true rfl) (Nat.le_of_ble_eq_true rfl) rfl rfl) (Nat.le_of_ble_eq_true rfl) ?_
  refine sg_iload 72 (sk_td o_X9_extraPlaced 40 rfl) rfl rfl ?_
  refine sg_isub 73 (sk_td o_X9_extraPlaced 41 rfl) rfl ?_
  obtain rfl := Option.some.inj hq
  exact sg_iret (sk_td o_X9_extraPlaced 42 rfl) rfl rfl
def q_X9_extraPlaced_0 (d : sk_D) (v1 : Int32) (v2 : Int32) (v3 : Int32) : Option (Int32 × sk_D) :=
  (q_X9_areOfGroup d v1 v2 v3).bind fun x1 => if x1 = 0 then some ((-1 : Int32), d) else (q_X9_groupMany d).bind fun x2 => if x2 = (4 : Int32) then some ((-3 : Int32), d) else (q_X9_planGroups d).bind fun x3 => (q_X9_plan x3 (-9 : Int32)).bind fun x4 => (q_X9_freeGroup x4.2).bind fun x5 => if sk_bi x5 4 = true then if sk_bi x5 4 = true then if sk_bi x5 4 = true then (q_X9_extraPlaced_67 (sk_wi (sk_wi (sk_wi x4.2 80 0 x5.toNatClampNeg v1) 81 0 x5.toNatClampNeg v2) 82 0 x5.toNatClampNeg v3) x4.1) else none else none else none
set_option maxRecDepth 100000 in
set_option maxHeartbeats 4000000 in
theorem t_X9_extraPlaced_0 {l : Launch} {d : sk_D} {v1 : Int32} {v2 : Int32} {v3 : Int32} {res : Int32 × sk_D} (hq : q_X9_extraPlaced_0 d v1 v2 v3 = some res) :
    sk_G l (sk_rm 6 0 0) m_X9_extraPlaced sk_Ex0 (sk_Zm m_X9_extraPlaced (some (.inl res.1)) (sk_mm res.2)) 0 0 0 [some (.inr (.inr (some (44, 0)))), some (.inl v1), some (.inl v2), some (.inl v3), none, none] [] (sk_mm d) := by
  unfold q_X9_extraPlaced_0 at hq
  refine sg_iload_n 1 (sk_td o_X9_extraPlaced 0 rfl) rfl rfl ?_
  refine sg_iload_n 2 (sk_td o_X9_extraPlaced 1 rfl) rfl rfl ?_
  refine sg_iload_n 3 (sk_td o_X9_extraPlaced 2 rfl) rfl rfl ?_
  obtain ⟨x1, hr_x1, hq⟩ := sk_bnd hq
  refine sm_callS3i 6 (s_X9_areOfGroup hr_x1) (sk_td o_X9_extraPlaced 3 rfl) rfl ls_X9_215 rfl (sk_rok (Nat.le_of_ble_eq_true rfl) (Nat.le_of_ble_eq_true rfl) rfl rfl) (Nat.le_of_ble_eq_true rfl) ?_
  refine sg_if_ne 11 9 (sk_td o_X9_extraPlaced 4 rfl) (by decide) rfl (fun hc => ?_) (fun hc => ?_)
  · rw [if_neg hc] at hq
    refine sg_aload_n 12 (sk_td o_X9_extraPlaced 7 rfl) rfl rfl ?_
    obtain ⟨x2, hr_x2, hq⟩ := sk_bnd hq
    refine sm_callV0i 15 (s_X9_groupMany hr_x2) (sk_td o_X9_extraPlaced 8 rfl) rfl lv_X9_218 rfl rfl rfl sz_44 (sk_rok (Nat.le_of_ble_eq_true rfl) (Nat.le_of_ble_eq_true rfl) rfl rfl) (Nat.le_of_ble_eq_true rfl) ?_
    refine sg_iconst (v := (4 : Int32)) 16 (sk_td o_X9_extraPlaced 9 rfl) rfl (by decide) ?_
    refine sg_ic_ne 22 19 (sk_td o_X9_extraPlaced 10 rfl) (by decide) rfl (fun hc => ?_) (fun hc => ?_)
    · rw [if_neg hc] at hq
      refine sg_aload_n 23 (sk_td o_X9_extraPlaced 13 rfl) rfl rfl ?_
      obtain ⟨x3, hr_x3, hq⟩ := sk_bnd hq
      refine sm_callV0v 26 (s_X9_planGroups hr_x3) (sk_td o_X9_extraPlaced 14 rfl) rfl lv_X9_251 rfl rfl rfl sz_44 (sk_rok (Nat.le_of_ble_eq_true rfl) (Nat.le_of_ble_eq_true rfl) rfl rfl) (Nat.le_of_ble_eq_true rfl) ?_
      refine sg_aload_n 27 (sk_td o_X9_extraPlaced 15 rfl) rfl rfl ?_
      refine sg_bipush (v := (-9 : Int32)) 29 (sk_td o_X9_extraPlaced 16 rfl) rfl (by decide) ?_
      obtain ⟨x4, hr_x4, hq⟩ := sk_bnd hq
      refine sm_callV1i 32 (s_X9_plan hr_x4) (sk_td o_X9_extraPlaced 17 rfl) rfl lv_X9_254 rfl rfl rfl sz_44 (sk_rok (Nat.le_of_ble_eq_true rfl) (Nat.le_of_ble_eq_true rfl) rfl rfl) (Nat.le_of_ble_eq_true rfl) ?_
      refine sg_istore 34 [some (.inr (.inr (some (44, 0)))), some (.inl v1), some (.inl v2), some (.inl v3), some (.inl x4.1), none] (sk_td o_X9_extraPlaced 18 rfl) rfl rfl (Nat.le_of_ble_eq_true rfl) rfl ?_
      refine sg_aload_n 35 (sk_td o_X9_extraPlaced 19 rfl) rfl rfl ?_
      obtain ⟨x5, hr_x5, hq⟩ := sk_bnd hq
      refine sm_callV0i 38 (s_X9_freeGroup hr_x5) (sk_td o_X9_extraPlaced 20 rfl) rfl lv_X9_221 rfl rfl rfl sz_44 (sk_rok (Nat.le_of_ble_eq_true rfl) (Nat.le_of_ble_eq_true rfl) rfl rfl) (Nat.le_of_ble_eq_true rfl) ?_
      refine sg_istore 40 [some (.inr (.inr (some (44, 0)))), some (.inl v1), some (.inl v2), some (.inl v3), some (.inl x4.1), some (.inl x5)] (sk_td o_X9_extraPlaced 21 rfl) rfl rfl (Nat.le_of_ble_eq_true rfl) rfl ?_
      refine sg_aload_n 41 (sk_td o_X9_extraPlaced 22 rfl) rfl rfl ?_
      refine sm_getR (80, 0) 44 (sk_td o_X9_extraPlaced 23 rfl) rfl kf_X9_126 rfl rfl sz_44 rfl ?_
      refine sg_iload 46 (sk_td o_X9_extraPlaced 24 rfl) rfl rfl ?_
      refine sg_iload_n 47 (sk_td o_X9_extraPlaced 25 rfl) rfl rfl ?_
      obtain ⟨hb6, hq⟩ := sk_ifn hq
      refine sm_iast 48 (sk_td o_X9_extraPlaced 26 rfl) rfl rfl sz_80 hb6 ?_
      refine sg_aload_n 49 (sk_td o_X9_extraPlaced 27 rfl) rfl rfl ?_
      refine sm_getR (81, 0) 52 (sk_td o_X9_extraPlaced 28 rfl) rfl kf_X9_129 rfl rfl sz_44 rfl ?_
      refine sg_iload 54 (sk_td o_X9_extraPlaced 29 rfl) rfl rfl ?_
      refine sg_iload_n 55 (sk_td o_X9_extraPlaced 30 rfl) rfl rfl ?_
      obtain ⟨hb7, hq⟩ := sk_ifn hq
      refine sm_iast 56 (sk_td o_X9_extraPlaced 31 rfl) rfl rfl sz_81 hb7 ?_
      refine sg_aload_n 57 (sk_td o_X9_extraPlaced 32 rfl) rfl rfl ?_
      refine sm_getR (82, 0) 60 (sk_td o_X9_extraPlaced 33 rfl) rfl kf_X9_132 rfl rfl sz_44 rfl ?_
      refine sg_iload 62 (sk_td o_X9_extraPlaced 34 rfl) rfl rfl ?_
      refine sg_iload_n 63 (sk_td o_X9_extraPlaced 35 rfl) rfl rfl ?_
      obtain ⟨hb8, hq⟩ := sk_ifn hq
      refine sm_iast 64 (sk_td o_X9_extraPlaced 36 rfl) rfl rfl sz_82 hb8 ?_
      refine sg_aload_n 65 (sk_td o_X9_extraPlaced 37 rfl) rfl rfl ?_
      refine sg_bipush (v := (-9 : Int32)) 67 (sk_td o_X9_extraPlaced 38 rfl) rfl (by decide) ?_
      refine sk_wk [false, false, false, false, true, false] (ls' := [none, none, none, none, some (.inl x4.1), none]) rfl ?_
      exact t_X9_extraPlaced_67 hq
    · rw [if_pos hc] at hq
      refine sg_bipush (v := (-3 : Int32)) 21 (sk_td o_X9_extraPlaced 11 rfl) rfl (by decide) ?_
      obtain rfl := Option.some.inj hq
      exact sg_iret (sk_td o_X9_extraPlaced 12 rfl) rfl rfl
  · rw [if_pos hc] at hq
    refine sg_iconst (v := (-1 : Int32)) 10 (sk_td o_X9_extraPlaced 5 rfl) rfl (by decide) ?_
    obtain rfl := Option.some.inj hq
    exact sg_iret (sk_td o_X9_extraPlaced 6 rfl) rfl rfl
def q_X9_extraPlaced (d : sk_D) (v1 : Int32) (v2 : Int32) (v3 : Int32) : Option (Int32 × sk_D) := q_X9_extraPlaced_0 d v1 v2 v3 
theorem s_X9_extraPlaced {l : Launch} {d : sk_D} {v1 : Int32} {v2 : Int32} {v3 : Int32} {res : Int32 × sk_D} (hq : q_X9_extraPlaced d v1 v2 v3 = some res) : sk_M l 6 m_X9_extraPlaced [.inr (.inr (some (44, 0))), .inl v1, .inl v2, .inl v3] (sk_mm d) (some (.inl res.1)) (sk_mm res.2) :=
  sk_enter (by decide) (fun _ => Nat.le_of_ble_eq_true rfl) (Nat.le_of_ble_eq_true rfl) (t_X9_extraPlaced_0 hq )
def q_X9_splitGain_0 (d : sk_D) (v1 : Int32) : Option (Int32 × sk_D) :=
  (q_X9_isFamily d v1).bind fun x1 => if x1 = 0 then some ((-1 : Int32), d) else (q_X9_planGroups d).bind fun x2 => (q_X9_plan x2 (-9 : Int32)).bind fun x3 => (q_X9_plan x3.2 v1).bind fun x4 => some ((x4.1 - x3.1), x4.2)
set_option maxRecDepth 100000 in
set_option maxHeartbeats 4000000 in
theorem t_X9_splitGain_0 {l : Launch} {d : sk_D} {v1 : Int32} {res : Int32 × sk_D} (hq : q_X9_splitGain_0 d v1 = some res) :
    sk_G l (sk_rm 6 0 0) m_X9_splitGain sk_Ex0 (sk_Zm m_X9_splitGain (some (.inl res.1)) (sk_mm res.2)) 0 0 0 [some (.inr (.inr (some (44, 0)))), some (.inl v1), none] [] (sk_mm d) := by
  unfold q_X9_splitGain_0 at hq
  refine sg_iload_n 1 (sk_td o_X9_splitGain 0 rfl) rfl rfl ?_
  obtain ⟨x1, hr_x1, hq⟩ := sk_bnd hq
  refine sm_callS1i 4 (s_X9_isFamily hr_x1) (sk_td o_X9_splitGain 1 rfl) rfl ls_X9_187 rfl (sk_rok (Nat.le_of_ble_eq_true rfl) (Nat.le_of_ble_eq_true rfl) rfl rfl) (Nat.le_of_ble_eq_true rfl) ?_
  refine sg_if_ne 9 7 (sk_td o_X9_splitGain 2 rfl) (by decide) rfl (fun hc => ?_) (fun hc => ?_)
  · rw [if_neg hc] at hq
    refine sg_aload_n 10 (sk_td o_X9_splitGain 5 rfl) rfl rfl ?_
    obtain ⟨x2, hr_x2, hq⟩ := sk_bnd hq
    refine sm_callV0v 13 (s_X9_planGroups hr_x2) (sk_td o_X9_splitGain 6 rfl) rfl lv_X9_251 rfl rfl rfl sz_44 (sk_rok (Nat.le_of_ble_eq_true rfl) (Nat.le_of_ble_eq_true rfl) rfl rfl) (Nat.le_of_ble_eq_true rfl) ?_
    refine sg_aload_n 14 (sk_td o_X9_splitGain 7 rfl) rfl rfl ?_
    refine sg_bipush (v := (-9 : Int32)) 16 (sk_td o_X9_splitGain 8 rfl) rfl (by decide) ?_
    obtain ⟨x3, hr_x3, hq⟩ := sk_bnd hq
    refine sm_callV1i 19 (s_X9_plan hr_x3) (sk_td o_X9_splitGain 9 rfl) rfl lv_X9_254 rfl rfl rfl sz_44 (sk_rok (Nat.le_of_ble_eq_true rfl) (Nat.le_of_ble_eq_true rfl) rfl rfl) (Nat.le_of_ble_eq_true rfl) ?_
    refine sg_istore_n 20 [some (.inr (.inr (some (44, 0)))), some (.inl v1), some (.inl x3.1)] (sk_td o_X9_splitGain 10 rfl) rfl rfl (Nat.le_of_ble_eq_true rfl) rfl ?_
    refine sg_aload_n 21 (sk_td o_X9_splitGain 11 rfl) rfl rfl ?_
    refine sg_iload_n 22 (sk_td o_X9_splitGain 12 rfl) rfl rfl ?_
    obtain ⟨x4, hr_x4, hq⟩ := sk_bnd hq
    refine sm_callV1i 25 (s_X9_plan hr_x4) (sk_td o_X9_splitGain 13 rfl) rfl lv_X9_254 rfl rfl rfl sz_44 (sk_rok (Nat.le_of_ble_eq_true rfl) (Nat.le_of_ble_eq_true rfl) rfl rfl) (Nat.le_of_ble_eq_true rfl) ?_
    refine sg_iload_n 26 (sk_td o_X9_splitGain 14 rfl) rfl rfl ?_
    refine sg_isub 27 (sk_td o_X9_splitGain 15 rfl) rfl ?_
    obtain rfl := Option.some.inj hq
    exact sg_iret (sk_td o_X9_splitGain 16 rfl) rfl rfl
  · rw [if_pos hc] at hq
    refine sg_iconst (v := (-1 : Int32)) 8 (sk_td o_X9_splitGain 3 rfl) rfl (by decide) ?_
    obtain rfl := Option.some.inj hq
    exact sg_iret (sk_td o_X9_splitGain 4 rfl) rfl rfl
def q_X9_splitGain (d : sk_D) (v1 : Int32) : Option (Int32 × sk_D) := q_X9_splitGain_0 d v1 
theorem s_X9_splitGain {l : Launch} {d : sk_D} {v1 : Int32} {res : Int32 × sk_D} (hq : q_X9_splitGain d v1 = some res) : sk_M l 6 m_X9_splitGain [.inr (.inr (some (44, 0))), .inl v1] (sk_mm d) (some (.inl res.1)) (sk_mm res.2) :=
  sk_enter (by decide) (fun _ => Nat.le_of_ble_eq_true rfl) (Nat.le_of_ble_eq_true rfl) (t_X9_splitGain_0 hq )
def q_X9_hasInstructor_0 (d : sk_D) (v1 : Int32) : Option (Int32) :=
  (q_X9_within d v1 (0 : Int32) (7 : Int32)).bind fun x1 => if x1 = 0 then some (0 : Int32) else if sk_bi v1 8 = true then if (d.1 62 0 v1.toNatClampNeg) = (1 : Int32) then some (1 : Int32) else some (0 : Int32) else none
set_option maxRecDepth 100000 in
set_option maxHeartbeats 4000000 in
theorem t_X9_hasInstructor_0 {l : Launch} {d : sk_D} {v1 : Int32} {res : Int32} (hq : q_X9_hasInstructor_0 d v1 = some res) :
    sk_G l (sk_rm 2 0 0) m_X9_hasInstructor sk_Ex0 (sk_Zm m_X9_hasInstructor (some (.inl res)) (sk_mm d)) 0 0 0 [some (.inr (.inr (some (44, 0)))), some (.inl v1)] [] (sk_mm d) := by
  unfold q_X9_hasInstructor_0 at hq
  refine sg_iload_n 1 (sk_td o_X9_hasInstructor 0 rfl) rfl rfl ?_
  refine sg_iconst (v := (0 : Int32)) 2 (sk_td o_X9_hasInstructor 1 rfl) rfl (by decide) ?_
  refine sg_bipush (v := (7 : Int32)) 4 (sk_td o_X9_hasInstructor 2 rfl) rfl (by decide) ?_
  obtain ⟨x1, hr_x1, hq⟩ := sk_bnd hq
  refine sm_callS3i 7 (s_X9_within hr_x1) (sk_td o_X9_hasInstructor 3 rfl) rfl ls_X9_168 rfl (sk_rok (Nat.le_of_ble_eq_true rfl) (Nat.le_of_ble_eq_true rfl) rfl rfl) (Nat.le_of_ble_eq_true rfl) ?_
  refine sg_if_eq 24 10 (sk_td o_X9_hasInstructor 4 rfl) (by decide) rfl (fun hc => ?_) (fun hc => ?_)
  · rw [if_pos hc] at hq
    refine sg_iconst (v := (0 : Int32)) 25 (sk_td o_X9_hasInstructor 13 rfl) rfl (by decide) ?_
    obtain rfl := Option.some.inj hq
    exact sg_iret (sk_td o_X9_hasInstructor 14 rfl) rfl (show narrow .boolean (.int (0 : Int32)) = .int (0 : Int32) by decide)
  · rw [if_neg hc] at hq
    refine sg_aload_n 11 (sk_td o_X9_hasInstructor 5 rfl) rfl rfl ?_
    refine sm_getR (62, 0) 14 (sk_td o_X9_hasInstructor 6 rfl) rfl kf_X9_71 rfl rfl sz_44 rfl ?_
    refine sg_iload_n 15 (sk_td o_X9_hasInstructor 7 rfl) rfl rfl ?_
    obtain ⟨hb2, hq⟩ := sk_ifn hq
    refine sm_iald 16 (sk_td o_X9_hasInstructor 8 rfl) rfl rfl sz_62 hb2 ?_
    refine sg_iconst (v := (1 : Int32)) 17 (sk_td o_X9_hasInstructor 9 rfl) rfl (by decide) ?_
    refine sg_ic_ne 24 20 (sk_td o_X9_hasInstructor 10 rfl) (by decide) rfl (fun hc => ?_) (fun hc => ?_)
    · rw [if_neg hc] at hq
      refine sg_iconst (v := (0 : Int32)) 25 (sk_td o_X9_hasInstructor 13 rfl) rfl (by decide) ?_
      obtain rfl := Option.some.inj hq
      exact sg_iret (sk_td o_X9_hasInstructor 14 rfl) rfl (show narrow .boolean (.int (0 : Int32)) = .int (0 : Int32) by decide)
    · rw [if_pos hc] at hq
      refine sg_iconst (v := (1 : Int32)) 21 (sk_td o_X9_hasInstructor 11 rfl) rfl (by decide) ?_
      refine sg_goto 25 (sk_td o_X9_hasInstructor 12 rfl) (by decide) ?_
      obtain rfl := Option.some.inj hq
      exact sg_iret (sk_td o_X9_hasInstructor 14 rfl) rfl (show narrow .boolean (.int (1 : Int32)) = .int (1 : Int32) by decide)
def q_X9_hasInstructor (d : sk_D) (v1 : Int32) : Option (Int32) := q_X9_hasInstructor_0 d v1 
theorem s_X9_hasInstructor {l : Launch} {d : sk_D} {v1 : Int32} {res : Int32} (hq : q_X9_hasInstructor d v1 = some res) : sk_M l 2 m_X9_hasInstructor [.inr (.inr (some (44, 0))), .inl v1] (sk_mm d) (some (.inl res)) (sk_mm d) :=
  sk_enter (by decide) (fun _ => Nat.le_of_ble_eq_true rfl) (Nat.le_of_ble_eq_true rfl) (t_X9_hasInstructor_0 hq )
def q_X9_instructorMany_4 (rec4 : (Int32 × Int32) → Option (Int32)) (d : sk_D) (v1 : Int32) (v2 : Int32) : Option (Int32) :=
  if (8 : Int32) ≤ v2 then some v1 else if sk_bi v2 8 = true then (rec4 ((v1 + (d.1 62 0 v2.toNatClampNeg)), (v2 + (1 : Int32)))) else none
set_option maxRecDepth 100000 in
set_option maxHeartbeats 4000000 in
theorem t_X9_instructorMany_4 {l : Launch} {rec4 : (Int32 × Int32) → Option (Int32)} {d : sk_D} {v1 : Int32} {v2 : Int32} (hrec4 : ∀ (a : (Int32 × Int32)) (res : Int32), rec4 a = some res → sk_G l (sk_rm 1 0 0) m_X9_instructorMany sk_Ex0 (sk_Zm m_X9_instructorMany (some (.inl res)) (sk_mm d)) 0 0 4 [some (.inr (.inr (some (44, 0)))), some (.inl a.1), some (.inl a.2)] [] (sk_mm d)) {res : Int32} (hq : q_X9_instructorMany_4 rec4 d v1 v2 = some res) :
    sk_G l (sk_rm 1 0 0) m_X9_instructorMany sk_Ex0 (sk_Zm m_X9_instructorMany (some (.inl res)) (sk_mm d)) 0 0 4 [some (.inr (.inr (some (44, 0)))), some (.inl v1), some (.inl v2)] [] (sk_mm d) := by
  unfold q_X9_instructorMany_4 at hq
  refine sg_iload_n 5 (sk_td o_X9_instructorMany 4 rfl) rfl rfl ?_
  refine sg_bipush (v := (8 : Int32)) 7 (sk_td o_X9_instructorMany 5 rfl) rfl (by decide) ?_
  refine sg_ic_ge 25 10 (sk_td o_X9_instructorMany 6 rfl) (by decide) rfl (fun hc => ?_) (fun hc => ?_)
  · rw [if_pos hc] at hq
    refine sg_iload_n 26 (sk_td o_X9_instructorMany 16 rfl) rfl rfl ?_
    obtain rfl := Option.some.inj hq
    exact sg_iret (sk_td o_X9_instructorMany 17 rfl) rfl rfl
  · rw [if_neg hc] at hq
    refine sg_iload_n 11 (sk_td o_X9_instructorMany 7 rfl) rfl rfl ?_
    refine sg_aload_n 12 (sk_td o_X9_instructorMany 8 rfl) rfl rfl ?_
    refine sm_getR (62, 0) 15 (sk_td o_X9_instructorMany 9 rfl) rfl kf_X9_71 rfl rfl sz_44 rfl ?_
    refine sg_iload_n 16 (sk_td o_X9_instructorMany 10 rfl) rfl rfl ?_
    obtain ⟨hb1, hq⟩ := sk_ifn hq
    refine sm_iald 17 (sk_td o_X9_instructorMany 11 rfl) rfl rfl sz_62 hb1 ?_
    refine sg_iadd 18 (sk_td o_X9_instructorMany 12 rfl) rfl ?_
    refine sg_istore_n 19 [some (.inr (.inr (some (44, 0)))), some (.inl (v1 + (d.1 62 0 v2.toNatClampNeg))), some (.inl v2)] (sk_td o_X9_instructorMany 13 rfl) rfl rfl (Nat.le_of_ble_eq_true rfl) rfl ?_
    refine sg_iinc (v2 + (1 : Int32)) 22 [some (.inr (.inr (some (44, 0)))), some (.inl (v1 + (d.1 62 0 v2.toNatClampNeg))), some (.inl (v2 + (1 : Int32)))] (sk_td o_X9_instructorMany 14 rfl) rfl rfl rfl rfl (Nat.le_of_ble_eq_true rfl) rfl ?_
    refine sg_goto 4 (sk_td o_X9_instructorMany 15 rfl) (by decide) ?_
    exact hrec4 ((v1 + (d.1 62 0 v2.toNatClampNeg)), (v2 + (1 : Int32))) _ hq
def l_X9_instructorMany_4 (d : sk_D) (fl : Nat) (a : (Int32 × Int32)) : Option (Int32) := sk_it (fun rec4 a => q_X9_instructorMany_4 rec4 d a.1 a.2) fl a
theorem lt_X9_instructorMany_4 {l : Launch} {d : sk_D} : ∀ (fl : Nat) (a : (Int32 × Int32)) (res : Int32), l_X9_instructorMany_4 d fl a = some res → sk_G l (sk_rm 1 0 0) m_X9_instructorMany sk_Ex0 (sk_Zm m_X9_instructorMany (some (.inl res)) (sk_mm d)) 0 0 4 [some (.inr (.inr (some (44, 0)))), some (.inl a.1), some (.inl a.2)] [] (sk_mm d) :=
  sk_it_ind (P := fun (a : (Int32 × Int32)) (res : Int32) => sk_G l (sk_rm 1 0 0) m_X9_instructorMany sk_Ex0 (sk_Zm m_X9_instructorMany (some (.inl res)) (sk_mm d)) 0 0 4 [some (.inr (.inr (some (44, 0)))), some (.inl a.1), some (.inl a.2)] [] (sk_mm d)) (fun rec4 hrec4 a res hq  => t_X9_instructorMany_4 hrec4 hq )
def q_X9_instructorMany_0 (d : sk_D) : Option (Int32) :=
  (l_X9_instructorMany_4 d sk_fu ((0 : Int32), (0 : Int32)))
set_option maxRecDepth 100000 in
set_option maxHeartbeats 4000000 in
theorem t_X9_instructorMany_0 {l : Launch} {d : sk_D} {res : Int32} (hq : q_X9_instructorMany_0 d = some res) :
    sk_G l (sk_rm 1 0 0) m_X9_instructorMany sk_Ex0 (sk_Zm m_X9_instructorMany (some (.inl res)) (sk_mm d)) 0 0 0 [some (.inr (.inr (some (44, 0)))), none, none] [] (sk_mm d) := by
  unfold q_X9_instructorMany_0 at hq
  refine sg_iconst (v := (0 : Int32)) 1 (sk_td o_X9_instructorMany 0 rfl) rfl (by decide) ?_
  refine sg_istore_n 2 [some (.inr (.inr (some (44, 0)))), some (.inl (0 : Int32)), none] (sk_td o_X9_instructorMany 1 rfl) rfl rfl (Nat.le_of_ble_eq_true rfl) rfl ?_
  refine sg_iconst (v := (0 : Int32)) 3 (sk_td o_X9_instructorMany 2 rfl) rfl (by decide) ?_
  refine sg_istore_n 4 [some (.inr (.inr (some (44, 0)))), some (.inl (0 : Int32)), some (.inl (0 : Int32))] (sk_td o_X9_instructorMany 3 rfl) rfl rfl (Nat.le_of_ble_eq_true rfl) rfl ?_
  exact lt_X9_instructorMany_4 sk_fu ((0 : Int32), (0 : Int32)) _ hq
def q_X9_instructorMany (d : sk_D) : Option (Int32) := q_X9_instructorMany_0 d 
theorem s_X9_instructorMany {l : Launch} {d : sk_D} {res : Int32} (hq : q_X9_instructorMany d = some res) : sk_M l 1 m_X9_instructorMany [.inr (.inr (some (44, 0)))] (sk_mm d) (some (.inl res)) (sk_mm d) :=
  sk_enter (by decide) (fun _ => Nat.le_of_ble_eq_true rfl) (Nat.le_of_ble_eq_true rfl) (t_X9_instructorMany_0 hq )
def q_X9_hire_53 (rec53 : (sk_D × Int32 × Int32 × Int32 × Int32 × Int32) → Option (Int32 × sk_D)) (d : sk_D) (v1 : Int32) (v2 : Int32) (v3 : Int32) (v4 : Int32) (v5 : Int32) : Option (Int32 × sk_D) :=
  if sk_bi v5 8 = true then if (d.1 62 0 v5.toNatClampNeg) = (1 : Int32) then (rec53 (d, v1, v2, v3, v4, (v5 + (1 : Int32)))) else if sk_bi v5 8 = true then if sk_bi v5 8 = true then if sk_bi v5 8 = true then if sk_bi v5 8 = true then if sk_bi v5 8 = true then if sk_bi v5 8 = true then some (v5, (sk_wi (sk_wi (sk_wi (sk_wi (sk_wi (sk_wi d 62 0 v5.toNatClampNeg (1 : Int32)) 63 0 v5.toNatClampNeg v1) 64 0 v5.toNatClampNeg v2) 65 0 v5.toNatClampNeg v3) 66 0 v5.toNatClampNeg v4) 67 0 v5.toNatClampNeg (0 : Int32))) else none else none else none else none else none else none else none
set_option maxRecDepth 100000 in
set_option maxHeartbeats 4000000 in
theorem t_X9_hire_53 {l : Launch} {rec53 : (sk_D × Int32 × Int32 × Int32 × Int32 × Int32) → Option (Int32 × sk_D)} {d : sk_D} {v1 : Int32} {v2 : Int32} {v3 : Int32} {v4 : Int32} {v5 : Int32} (hrec53 : ∀ (a : (sk_D × Int32 × Int32 × Int32 × Int32 × Int32)) (res : Int32 × sk_D), rec53 a = some res → sk_G l (sk_rm 3 0 0) m_X9_hire sk_Ex0 (sk_Zm m_X9_hire (some (.inl res.1)) (sk_mm res.2)) 0 0 53 [some (.inr (.inr (some (44, 0)))), some (.inl a.2.1), some (.inl a.2.2.1), some (.inl a.2.2.2.1), some (.inl a.2.2.2.2.1), some (.inl a.2.2.2.2.2)] [] (sk_mm a.1)) {res : Int32 × sk_D} (hq : q_X9_hire_53 rec53 d v1 v2 v3 v4 v5 = some res) :
    sk_G l (sk_rm 3 0 0) m_X9_hire sk_Ex0 (sk_Zm m_X9_hire (some (.inl res.1)) (sk_mm res.2)) 0 0 53 [some (.inr (.inr (some (44, 0)))), some (.inl v1), some (.inl v2), some (.inl v3), some (.inl v4), some (.inl v5)] [] (sk_mm d) := by
  unfold q_X9_hire_53 at hq
  refine sg_aload_n 54 (sk_td o_X9_hire 26 rfl) rfl rfl ?_
  refine sm_getR (62, 0) 57 (sk_td o_X9_hire 27 rfl) rfl kf_X9_71 rfl rfl sz_44 rfl ?_
  refine sg_iload 59 (sk_td o_X9_hire 28 rfl) rfl rfl ?_
  obtain ⟨hb1, hq⟩ := sk_ifn hq
  refine sm_iald 60 (sk_td o_X9_hire 29 rfl) rfl rfl sz_62 hb1 ?_
  refine sg_iconst (v := (1 : Int32)) 61 (sk_td o_X9_hire 30 rfl) rfl (by decide) ?_
  refine sg_ic_ne 70 64 (sk_td o_X9_hire 31 rfl) (by decide) rfl (fun hc => ?_) (fun hc => ?_)
  · rw [if_neg hc] at hq
    refine sg_aload_n 71 (sk_td o_X9_hire 34 rfl) rfl rfl ?_
    refine sm_getR (62, 0) 74 (sk_td o_X9_hire 35 rfl) rfl kf_X9_71 rfl rfl sz_44 rfl ?_
    refine sg_iload 76 (sk_td o_X9_hire 36 rfl) rfl rfl ?_
    refine sg_iconst (v := (1 : Int32)) 77 (sk_td o_X9_hire 37 rfl) rfl (by decide) ?_
    obtain ⟨hb2, hq⟩ := sk_ifn hq
    refine sm_iast 78 (sk_td o_X9_hire 38 rfl) rfl rfl sz_62 hb2 ?_
    refine sg_aload_n 79 (sk_td o_X9_hire 39 rfl) rfl rfl ?_
    refine sm_getR (63, 0) 82 (sk_td o_X9_hire 40 rfl) rfl kf_X9_74 rfl rfl sz_44 rfl ?_
    refine sg_iload 84 (sk_td o_X9_hire 41 rfl) rfl rfl ?_
    refine sg_iload_n 85 (sk_td o_X9_hire 42 rfl) rfl rfl ?_
    obtain ⟨hb3, hq⟩ := sk_ifn hq
    refine sm_iast 86 (sk_td o_X9_hire 43 rfl) rfl rfl sz_63 hb3 ?_
    refine sg_aload_n 87 (sk_td o_X9_hire 44 rfl) rfl rfl ?_
    refine sm_getR (64, 0) 90 (sk_td o_X9_hire 45 rfl) rfl kf_X9_77 rfl rfl sz_44 rfl ?_
    refine sg_iload 92 (sk_td o_X9_hire 46 rfl) rfl rfl ?_
    refine sg_iload_n 93 (sk_td o_X9_hire 47 rfl) rfl rfl ?_
    obtain ⟨hb4, hq⟩ := sk_ifn hq
    refine sm_iast 94 (sk_td o_X9_hire 48 rfl) rfl rfl sz_64 hb4 ?_
    refine sg_aload_n 95 (sk_td o_X9_hire 49 rfl) rfl rfl ?_
    refine sm_getR (65, 0) 98 (sk_td o_X9_hire 50 rfl) rfl kf_X9_80 rfl rfl sz_44 rfl ?_
    refine sg_iload 100 (sk_td o_X9_hire 51 rfl) rfl rfl ?_
    refine sg_iload_n 101 (sk_td o_X9_hire 52 rfl) rfl rfl ?_
    obtain ⟨hb5, hq⟩ := sk_ifn hq
    refine sm_iast 102 (sk_td o_X9_hire 53 rfl) rfl rfl sz_65 hb5 ?_
    refine sg_aload_n 103 (sk_td o_X9_hire 54 rfl) rfl rfl ?_
    refine sm_getR (66, 0) 106 (sk_td o_X9_hire 55 rfl) rfl kf_X9_83 rfl rfl sz_44 rfl ?_
    refine sg_iload 108 (sk_td o_X9_hire 56 rfl) rfl rfl ?_
    refine sg_iload 110 (sk_td o_X9_hire 57 rfl) rfl rfl ?_
    obtain ⟨hb6, hq⟩ := sk_ifn hq
    refine sm_iast 111 (sk_td o_X9_hire 58 rfl) rfl rfl sz_66 hb6 ?_
    refine sg_aload_n 112 (sk_td o_X9_hire 59 rfl) rfl rfl ?_
    refine sm_getR (67, 0) 115 (sk_td o_X9_hire 60 rfl) rfl kf_X9_86 rfl rfl sz_44 rfl ?_
    refine sg_iload 117 (sk_td o_X9_hire 61 rfl) rfl rfl ?_
    refine sg_iconst (v := (0 : Int32)) 118 (sk_td o_X9_hire 62 rfl) rfl (by decide) ?_
    obtain ⟨hb7, hq⟩ := sk_ifn hq
    refine sm_iast 119 (sk_td o_X9_hire 63 rfl) rfl rfl sz_67 hb7 ?_
    refine sg_iload 121 (sk_td o_X9_hire 64 rfl) rfl rfl ?_
    obtain rfl := Option.some.inj hq
    exact sg_iret (sk_td o_X9_hire 65 rfl) rfl rfl
  · rw [if_pos hc] at hq
    refine sg_iinc (v5 + (1 : Int32)) 67 [some (.inr (.inr (some (44, 0)))), some (.inl v1), some (.inl v2), some (.inl v3), some (.inl v4), some (.inl (v5 + (1 : Int32)))] (sk_td o_X9_hire 32 rfl) rfl rfl rfl rfl (Nat.le_of_ble_eq_true rfl) rfl ?_
    refine sg_goto 53 (sk_td o_X9_hire 33 rfl) (by decide) ?_
    exact hrec53 (d, v1, v2, v3, v4, (v5 + (1 : Int32))) _ hq
def l_X9_hire_53 (fl : Nat) (a : (sk_D × Int32 × Int32 × Int32 × Int32 × Int32)) : Option (Int32 × sk_D) := sk_it (fun rec53 a => q_X9_hire_53 rec53 a.1 a.2.1 a.2.2.1 a.2.2.2.1 a.2.2.2.2.1 a.2.2.2.2.2) fl a
theorem lt_X9_hire_53 {l : Launch} : ∀ (fl : Nat) (a : (sk_D × Int32 × Int32 × Int32 × Int32 × Int32)) (res : Int32 × sk_D), l_X9_hire_53 fl a = some res → sk_G l (sk_rm 3 0 0) m_X9_hire sk_Ex0 (sk_Zm m_X9_hire (some (.inl res.1)) (sk_mm res.2)) 0 0 53 [some (.inr (.inr (some (44, 0)))), some (.inl a.2.1), some (.inl a.2.2.1), some (.inl a.2.2.2.1), some (.inl a.2.2.2.2.1), some (.inl a.2.2.2.2.2)] [] (sk_mm a.1) :=
  sk_it_ind (P := fun (a : (sk_D × Int32 × Int32 × Int32 × Int32 × Int32)) (res : Int32 × sk_D) => sk_G l (sk_rm 3 0 0) m_X9_hire sk_Ex0 (sk_Zm m_X9_hire (some (.inl res.1)) (sk_mm res.2)) 0 0 53 [some (.inr (.inr (some (44, 0)))), some (.inl a.2.1), some (.inl a.2.2.1), some (.inl a.2.2.2.1), some (.inl a.2.2.2.2.1), some (.inl a.2.2.2.2.2)] [] (sk_mm a.1)) (fun rec53 hrec53 a res hq  => t_X9_hire_53 hrec53 hq )
def q_X9_hire_0 (d : sk_D) (v1 : Int32) (v2 : Int32) (v3 : Int32) (v4 : Int32) : Option (Int32 × sk_D) :=
  (q_X9_isLanguages d v1).bind fun x1 => if x1 = 0 then some ((-1 : Int32), d) else (q_X9_isLevel d v2).bind fun x2 => if x2 = 0 then some ((-1 : Int32), d) else (q_X9_within d v3 v2 (7 : Int32)).bind fun x3 => if x3 = 0 then some ((-1 : Int32), d) else (q_X9_within d v4 (1 : Int32) (999999 : Int32)).bind fun x4 => if x4 = 0 then some ((-1 : Int32), d) else (q_X9_instructorMany d).bind fun x5 => if x5 = (8 : Int32) then some ((-3 : Int32), d) else (l_X9_hire_53 sk_fu (d, v1, v2, v3, v4, (0 : Int32)))
set_option maxRecDepth 100000 in
set_option maxHeartbeats 4000000 in
theorem t_X9_hire_0 {l : Launch} {d : sk_D} {v1 : Int32} {v2 : Int32} {v3 : Int32} {v4 : Int32} {res : Int32 × sk_D} (hq : q_X9_hire_0 d v1 v2 v3 v4 = some res) :
    sk_G l (sk_rm 3 0 0) m_X9_hire sk_Ex0 (sk_Zm m_X9_hire (some (.inl res.1)) (sk_mm res.2)) 0 0 0 [some (.inr (.inr (some (44, 0)))), some (.inl v1), some (.inl v2), some (.inl v3), some (.inl v4), none] [] (sk_mm d) := by
  unfold q_X9_hire_0 at hq
  refine sg_iload_n 1 (sk_td o_X9_hire 0 rfl) rfl rfl ?_
  obtain ⟨x1, hr_x1, hq⟩ := sk_bnd hq
  refine sm_callS1i 4 (s_X9_isLanguages hr_x1) (sk_td o_X9_hire 1 rfl) rfl ls_X9_184 rfl (sk_rok (Nat.le_of_ble_eq_true rfl) (Nat.le_of_ble_eq_true rfl) rfl rfl) (Nat.le_of_ble_eq_true rfl) ?_
  refine sg_if_eq 36 7 (sk_td o_X9_hire 2 rfl) (by decide) rfl (fun hc => ?_) (fun hc => ?_)
  · rw [if_pos hc] at hq
    refine sg_iconst (v := (-1 : Int32)) 37 (sk_td o_X9_hire 16 rfl) rfl (by decide) ?_
    obtain rfl := Option.some.inj hq
    exact sg_iret (sk_td o_X9_hire 17 rfl) rfl rfl
  · rw [if_neg hc] at hq
    refine sg_iload_n 8 (sk_td o_X9_hire 3 rfl) rfl rfl ?_
    obtain ⟨x2, hr_x2, hq⟩ := sk_bnd hq
    refine sm_callS1i 11 (s_X9_isLevel hr_x2) (sk_td o_X9_hire 4 rfl) rfl ls_X9_180 rfl (sk_rok (Nat.le_of_ble_eq_true rfl) (Nat.le_of_ble_eq_true rfl) rfl rfl) (Nat.le_of_ble_eq_true rfl) ?_
    refine sg_if_eq 36 14 (sk_td o_X9_hire 5 rfl) (by decide) rfl (fun hc => ?_) (fun hc => ?_)
    · rw [if_pos hc] at hq
      refine sg_iconst (v := (-1 : Int32)) 37 (sk_td o_X9_hire 16 rfl) rfl (by decide) ?_
      obtain rfl := Option.some.inj hq
      exact sg_iret (sk_td o_X9_hire 17 rfl) rfl rfl
    · rw [if_neg hc] at hq
      refine sg_iload_n 15 (sk_td o_X9_hire 6 rfl) rfl rfl ?_
      refine sg_iload_n 16 (sk_td o_X9_hire 7 rfl) rfl rfl ?_
      refine sg_bipush (v := (7 : Int32)) 18 (sk_td o_X9_hire 8 rfl) rfl (by decide) ?_
      obtain ⟨x3, hr_x3, hq⟩ := sk_bnd hq
      refine sm_callS3i 21 (s_X9_within hr_x3) (sk_td o_X9_hire 9 rfl) rfl ls_X9_168 rfl (sk_rok (Nat.le_of_ble_eq_true rfl) (Nat.le_of_ble_eq_true rfl) rfl rfl) (Nat.le_of_ble_eq_true rfl) ?_
      refine sg_if_eq 36 24 (sk_td o_X9_hire 10 rfl) (by decide) rfl (fun hc => ?_) (fun hc => ?_)
      · rw [if_pos hc] at hq
        refine sg_iconst (v := (-1 : Int32)) 37 (sk_td o_X9_hire 16 rfl) rfl (by decide) ?_
        obtain rfl := Option.some.inj hq
        exact sg_iret (sk_td o_X9_hire 17 rfl) rfl rfl
      · rw [if_neg hc] at hq
        refine sg_iload 26 (sk_td o_X9_hire 11 rfl) rfl rfl ?_
        refine sg_iconst (v := (1 : Int32)) 27 (sk_td o_X9_hire 12 rfl) rfl (by decide) ?_
        refine sg_ldcw 30 (sk_td o_X9_hire 13 rfl) rfl kc_X9_263 ?_
        obtain ⟨x4, hr_x4, hq⟩ := sk_bnd hq
        refine sm_callS3i 33 (s_X9_within hr_x4) (sk_td o_X9_hire 14 rfl) rfl ls_X9_168 rfl (sk_rok (Nat.le_of_ble_eq_true rfl) (Nat.le_of_ble_eq_true rfl) rfl rfl) (Nat.le_of_ble_eq_true rfl) ?_
        refine sg_if_ne 38 36 (sk_td o_X9_hire 15 rfl) (by decide) rfl (fun hc => ?_) (fun hc => ?_)
        · rw [if_neg hc] at hq
          refine sg_aload_n 39 (sk_td o_X9_hire 18 rfl) rfl rfl ?_
          obtain ⟨x5, hr_x5, hq⟩ := sk_bnd hq
          refine sm_callV0i 42 (s_X9_instructorMany hr_x5) (sk_td o_X9_hire 19 rfl) rfl lv_X9_264 rfl rfl rfl sz_44 (sk_rok (Nat.le_of_ble_eq_true rfl) (Nat.le_of_ble_eq_true rfl) rfl rfl) (Nat.le_of_ble_eq_true rfl) ?_
          refine sg_bipush (v := (8 : Int32)) 44 (sk_td o_X9_hire 20 rfl) rfl (by decide) ?_
          refine sg_ic_ne 50 47 (sk_td o_X9_hire 21 rfl) (by decide) rfl (fun hc => ?_) (fun hc => ?_)
          · rw [if_neg hc] at hq
            refine sg_iconst (v := (0 : Int32)) 51 (sk_td o_X9_hire 24 rfl) rfl (by decide) ?_
            refine sg_istore 53 [some (.inr (.inr (some (44, 0)))), some (.inl v1), some (.inl v2), some (.inl v3), some (.inl v4), some (.inl (0 : Int32))] (sk_td o_X9_hire 25 rfl) rfl rfl (Nat.le_of_ble_eq_true rfl) rfl ?_
            exact lt_X9_hire_53 sk_fu (d, v1, v2, v3, v4, (0 : Int32)) _ hq
          · rw [if_pos hc] at hq
            refine sg_bipush (v := (-3 : Int32)) 49 (sk_td o_X9_hire 22 rfl) rfl (by decide) ?_
            obtain rfl := Option.some.inj hq
            exact sg_iret (sk_td o_X9_hire 23 rfl) rfl rfl
        · rw [if_pos hc] at hq
          refine sg_iconst (v := (-1 : Int32)) 37 (sk_td o_X9_hire 16 rfl) rfl (by decide) ?_
          obtain rfl := Option.some.inj hq
          exact sg_iret (sk_td o_X9_hire 17 rfl) rfl rfl
def q_X9_hire (d : sk_D) (v1 : Int32) (v2 : Int32) (v3 : Int32) (v4 : Int32) : Option (Int32 × sk_D) := q_X9_hire_0 d v1 v2 v3 v4 
theorem s_X9_hire {l : Launch} {d : sk_D} {v1 : Int32} {v2 : Int32} {v3 : Int32} {v4 : Int32} {res : Int32 × sk_D} (hq : q_X9_hire d v1 v2 v3 v4 = some res) : sk_M l 3 m_X9_hire [.inr (.inr (some (44, 0))), .inl v1, .inl v2, .inl v3, .inl v4] (sk_mm d) (some (.inl res.1)) (sk_mm res.2) :=
  sk_enter (by decide) (fun _ => Nat.le_of_ble_eq_true rfl) (Nat.le_of_ble_eq_true rfl) (t_X9_hire_0 hq )
