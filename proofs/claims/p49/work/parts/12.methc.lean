/-! decompiled: X8_hasGroup X8_countPupilsIn X8_size X8_instructor X8_assign X8_placed X8_outOfLevel X8_extraPlaced X8_splitGain X8_freeInstructorNumber X8_hire X8_isActive X8_staff X8_hasInstructor X8_isPaid X8_pay X8_earnings X8_addLift X8_hasLift X8_addStop X8_setStart X8_takesPart X8_countPersons X8_keepResults X8_simulate -/
def q_X8_hasGroup_0 (d : sk_D) (v1 : Int32) : Option (Int32) :=
  (q_X8_within d v1 (0 : Int32) (3 : Int32)).bind fun x1 => if x1 = 0 then some (0 : Int32) else if sk_bi v1 4 = true then if (d.1 39 v1.toNatClampNeg 0) = 0 then some (0 : Int32) else some (1 : Int32) else none
set_option maxRecDepth 100000 in
set_option maxHeartbeats 4000000 in
theorem t_X8_hasGroup_0 {l : Launch} {d : sk_D} {v1 : Int32} {res : Int32} (hq : q_X8_hasGroup_0 d v1 = some res) :
    sk_G l (sk_rm 2 0 0) m_X8_hasGroup sk_Ex0 (sk_Zm m_X8_hasGroup (some (.inl res)) (sk_mm d)) 0 0 0 [some (.inr (.inr (some (0, 0)))), some (.inl v1)] [] (sk_mm d) := by
  unfold q_X8_hasGroup_0 at hq
  refine sg_iload_n 1 (sk_td o_X8_hasGroup 0 rfl) rfl rfl ?_
  refine sg_iconst (v := (0 : Int32)) 2 (sk_td o_X8_hasGroup 1 rfl) rfl (by decide) ?_
  refine sg_iconst (v := (3 : Int32)) 3 (sk_td o_X8_hasGroup 2 rfl) rfl (by decide) ?_
  obtain ⟨x1, hr_x1, hq⟩ := sk_bnd hq
  refine sm_callS3i 6 (s_X8_within hr_x1) (sk_td o_X8_hasGroup 3 rfl) rfl ls_X8_85 rfl (sk_rok (Nat.le_of_ble_eq_true rfl) (Nat.le_of_ble_eq_true rfl) rfl rfl) (Nat.le_of_ble_eq_true rfl) ?_
  refine sg_if_eq 25 9 (sk_td o_X8_hasGroup 4 rfl) (by decide) rfl (fun hc => ?_) (fun hc => ?_)
  · rw [if_pos hc] at hq
    refine sg_iconst (v := (0 : Int32)) 26 (sk_td o_X8_hasGroup 13 rfl) rfl (by decide) ?_
    obtain rfl := Option.some.inj hq
    exact sg_iret (sk_td o_X8_hasGroup 14 rfl) rfl (show narrow .boolean (.int (0 : Int32)) = .int (0 : Int32) by decide)
  · rw [if_neg hc] at hq
    refine sg_aload_n 10 (sk_td o_X8_hasGroup 5 rfl) rfl rfl ?_
    refine sm_getR (2, 0) 13 (sk_td o_X8_hasGroup 6 rfl) rfl kf_X8_17 rfl rfl sz_0 rfl ?_
    refine sg_iload_n 14 (sk_td o_X8_hasGroup 7 rfl) rfl rfl ?_
    obtain ⟨hb2, hq⟩ := sk_ifn hq
    refine sm_aald (39, v1.toNatClampNeg) 15 (sk_td o_X8_hasGroup 8 rfl) rfl rfl (by decide) sz_2 hb2 (sr_2 (sk_bi.lt hb2)) ?_
    refine sm_getI 18 (sk_td o_X8_hasGroup 9 rfl) rfl kf_X8_181 rfl rfl (sk_bi.lt hb2) ?_
    refine sg_if_eq 25 21 (sk_td o_X8_hasGroup 10 rfl) (by decide) rfl (fun hc => ?_) (fun hc => ?_)
    · rw [if_pos hc] at hq
      refine sg_iconst (v := (0 : Int32)) 26 (sk_td o_X8_hasGroup 13 rfl) rfl (by decide) ?_
      obtain rfl := Option.some.inj hq
      exact sg_iret (sk_td o_X8_hasGroup 14 rfl) rfl (show narrow .boolean (.int (0 : Int32)) = .int (0 : Int32) by decide)
    · rw [if_neg hc] at hq
      refine sg_iconst (v := (1 : Int32)) 22 (sk_td o_X8_hasGroup 11 rfl) rfl (by decide) ?_
      refine sg_goto 26 (sk_td o_X8_hasGroup 12 rfl) (by decide) ?_
      obtain rfl := Option.some.inj hq
      exact sg_iret (sk_td o_X8_hasGroup 14 rfl) rfl (show narrow .boolean (.int (1 : Int32)) = .int (1 : Int32) by decide)
def q_X8_hasGroup (d : sk_D) (v1 : Int32) : Option (Int32) := q_X8_hasGroup_0 d v1 
theorem s_X8_hasGroup {l : Launch} {d : sk_D} {v1 : Int32} {res : Int32} (hq : q_X8_hasGroup d v1 = some res) : sk_M l 2 m_X8_hasGroup [.inr (.inr (some (0, 0))), .inl v1] (sk_mm d) (some (.inl res)) (sk_mm d) :=
  sk_enter (by decide) (fun _ => Nat.le_of_ble_eq_true rfl) (Nat.le_of_ble_eq_true rfl) (t_X8_hasGroup_0 hq )
def q_X8_countPupilsIn_26 (rec4 : (Int32 × Int32 × Int32) → Option (Int32)) (d : sk_D) (v1 : Int32) (v2 : Int32) (v3 : Int32) : Option (Int32) :=
  (rec4 (v1, v2, (v3 + (1 : Int32))))
set_option maxRecDepth 100000 in
set_option maxHeartbeats 4000000 in
theorem t_X8_countPupilsIn_26 {l : Launch} {rec4 : (Int32 × Int32 × Int32) → Option (Int32)} {d : sk_D} {v1 : Int32} {v2 : Int32} {v3 : Int32} (hrec4 : ∀ (a : (Int32 × Int32 × Int32)) (res : Int32), rec4 a = some res → sk_G l (sk_rm 2 0 0) m_X8_countPupilsIn sk_Ex0 (sk_Zm m_X8_countPupilsIn (some (.inl res)) (sk_mm d)) 0 0 4 [some (.inr (.inr (some (0, 0)))), some (.inl a.1), some (.inl a.2.1), some (.inl a.2.2)] [] (sk_mm d)) {res : Int32} (hq : q_X8_countPupilsIn_26 rec4 d v1 v2 v3 = some res) :
    sk_G l (sk_rm 2 0 0) m_X8_countPupilsIn sk_Ex0 (sk_Zm m_X8_countPupilsIn (some (.inl res)) (sk_mm d)) 0 0 26 [some (.inr (.inr (some (0, 0)))), some (.inl v1), some (.inl v2), some (.inl v3)] [] (sk_mm d) := by
  unfold q_X8_countPupilsIn_26 at hq
  refine sg_iinc (v3 + (1 : Int32)) 29 [some (.inr (.inr (some (0, 0)))), some (.inl v1), some (.inl v2), some (.inl (v3 + (1 : Int32)))] (sk_td o_X8_countPupilsIn 15 rfl) rfl rfl rfl rfl (Nat.le_of_ble_eq_true rfl) rfl ?_
  refine sg_goto 4 (sk_td o_X8_countPupilsIn 16 rfl) (by decide) ?_
  exact hrec4 (v1, v2, (v3 + (1 : Int32))) _ hq
def q_X8_countPupilsIn_4 (rec4 : (Int32 × Int32 × Int32) → Option (Int32)) (d : sk_D) (v1 : Int32) (v2 : Int32) (v3 : Int32) : Option (Int32) :=
  if (20 : Int32) ≤ v3 then some v2 else if sk_bi v3 20 = true then (q_X4_isIn d v3.toNatClampNeg v1).bind fun x2 => if x2 = 0 then (q_X8_countPupilsIn_26 rec4 d v1 v2 v3) else (q_X8_countPupilsIn_26 rec4 d v1 (v2 + (1 : Int32)) v3) else none
set_option maxRecDepth 100000 in
set_option maxHeartbeats 4000000 in
theorem t_X8_countPupilsIn_4 {l : Launch} {rec4 : (Int32 × Int32 × Int32) → Option (Int32)} {d : sk_D} {v1 : Int32} {v2 : Int32} {v3 : Int32} (hrec4 : ∀ (a : (Int32 × Int32 × Int32)) (res : Int32), rec4 a = some res → sk_G l (sk_rm 2 0 0) m_X8_countPupilsIn sk_Ex0 (sk_Zm m_X8_countPupilsIn (some (.inl res)) (sk_mm d)) 0 0 4 [some (.inr (.inr (some (0, 0)))), some (.inl a.1), some (.inl a.2.1), some (.inl a.2.2)] [] (sk_mm d)) {res : Int32} (hq : q_X8_countPupilsIn_4 rec4 d v1 v2 v3 = some res) :
    sk_G l (sk_rm 2 0 0) m_X8_countPupilsIn sk_Ex0 (sk_Zm m_X8_countPupilsIn (some (.inl res)) (sk_mm d)) 0 0 4 [some (.inr (.inr (some (0, 0)))), some (.inl v1), some (.inl v2), some (.inl v3)] [] (sk_mm d) := by
  unfold q_X8_countPupilsIn_4 at hq
  refine sg_iload_n 5 (sk_td o_X8_countPupilsIn 4 rfl) rfl rfl ?_
  refine sg_bipush (v := (20 : Int32)) 7 (sk_td o_X8_countPupilsIn 5 rfl) rfl (by decide) ?_
  refine sg_ic_ge 32 10 (sk_td o_X8_countPupilsIn 6 rfl) (by decide) rfl (fun hc => ?_) (fun hc => ?_)
  · rw [if_pos hc] at hq
    refine sg_iload_n 33 (sk_td o_X8_countPupilsIn 17 rfl) rfl rfl ?_
    obtain rfl := Option.some.inj hq
    exact sg_iret (sk_td o_X8_countPupilsIn 18 rfl) rfl rfl
  · rw [if_neg hc] at hq
    refine sg_aload_n 11 (sk_td o_X8_countPupilsIn 7 rfl) rfl rfl ?_
    refine sm_getR (1, 0) 14 (sk_td o_X8_countPupilsIn 8 rfl) rfl kf_X8_11 rfl rfl sz_0 rfl ?_
    refine sg_iload_n 15 (sk_td o_X8_countPupilsIn 9 rfl) rfl rfl ?_
    obtain ⟨hb1, hq⟩ := sk_ifn hq
    refine sm_aald (37, v3.toNatClampNeg) 16 (sk_td o_X8_countPupilsIn 10 rfl) rfl rfl (by decide) sz_1 hb1 (sr_1 (sk_bi.lt hb1)) ?_
    refine sg_iload_n 17 (sk_td o_X8_countPupilsIn 11 rfl) rfl rfl ?_
    obtain ⟨x2, hr_x2, hq⟩ := sk_bnd hq
    refine sm_callV1i 20 (s_X4_isIn hr_x2 (sk_bi.lt hb1)) (sk_td o_X8_countPupilsIn 12 rfl) rfl lv_X8_175 rfl rfl rfl (sk_bi.lt hb1) (sk_rok (Nat.le_of_ble_eq_true rfl) (Nat.le_of_ble_eq_true rfl) rfl rfl) (Nat.le_of_ble_eq_true rfl) ?_
    refine sg_if_eq 26 23 (sk_td o_X8_countPupilsIn 13 rfl) (by decide) rfl (fun hc => ?_) (fun hc => ?_)
    · rw [if_pos hc] at hq
      exact t_X8_countPupilsIn_26 hrec4 hq
    · rw [if_neg hc] at hq
      refine sg_iinc (v2 + (1 : Int32)) 26 [some (.inr (.inr (some (0, 0)))), some (.inl v1), some (.inl (v2 + (1 : Int32))), some (.inl v3)] (sk_td o_X8_countPupilsIn 14 rfl) rfl rfl rfl rfl (Nat.le_of_ble_eq_true rfl) rfl ?_
      exact t_X8_countPupilsIn_26 hrec4 hq
def l_X8_countPupilsIn_4 (d : sk_D) (fl : Nat) (a : (Int32 × Int32 × Int32)) : Option (Int32) := sk_it (fun rec4 a => q_X8_countPupilsIn_4 rec4 d a.1 a.2.1 a.2.2) fl a
theorem lt_X8_countPupilsIn_4 {l : Launch} {d : sk_D} : ∀ (fl : Nat) (a : (Int32 × Int32 × Int32)) (res : Int32), l_X8_countPupilsIn_4 d fl a = some res → sk_G l (sk_rm 2 0 0) m_X8_countPupilsIn sk_Ex0 (sk_Zm m_X8_countPupilsIn (some (.inl res)) (sk_mm d)) 0 0 4 [some (.inr (.inr (some (0, 0)))), some (.inl a.1), some (.inl a.2.1), some (.inl a.2.2)] [] (sk_mm d) :=
  sk_it_ind (P := fun (a : (Int32 × Int32 × Int32)) (res : Int32) => sk_G l (sk_rm 2 0 0) m_X8_countPupilsIn sk_Ex0 (sk_Zm m_X8_countPupilsIn (some (.inl res)) (sk_mm d)) 0 0 4 [some (.inr (.inr (some (0, 0)))), some (.inl a.1), some (.inl a.2.1), some (.inl a.2.2)] [] (sk_mm d)) (fun rec4 hrec4 a res hq  => t_X8_countPupilsIn_4 hrec4 hq )
def q_X8_countPupilsIn_0 (d : sk_D) (v1 : Int32) : Option (Int32) :=
  (l_X8_countPupilsIn_4 d sk_fu (v1, (0 : Int32), (0 : Int32)))
set_option maxRecDepth 100000 in
set_option maxHeartbeats 4000000 in
theorem t_X8_countPupilsIn_0 {l : Launch} {d : sk_D} {v1 : Int32} {res : Int32} (hq : q_X8_countPupilsIn_0 d v1 = some res) :
    sk_G l (sk_rm 2 0 0) m_X8_countPupilsIn sk_Ex0 (sk_Zm m_X8_countPupilsIn (some (.inl res)) (sk_mm d)) 0 0 0 [some (.inr (.inr (some (0, 0)))), some (.inl v1), none, none] [] (sk_mm d) := by
  unfold q_X8_countPupilsIn_0 at hq
  refine sg_iconst (v := (0 : Int32)) 1 (sk_td o_X8_countPupilsIn 0 rfl) rfl (by decide) ?_
  refine sg_istore_n 2 [some (.inr (.inr (some (0, 0)))), some (.inl v1), some (.inl (0 : Int32)), none] (sk_td o_X8_countPupilsIn 1 rfl) rfl rfl (Nat.le_of_ble_eq_true rfl) rfl ?_
  refine sg_iconst (v := (0 : Int32)) 3 (sk_td o_X8_countPupilsIn 2 rfl) rfl (by decide) ?_
  refine sg_istore_n 4 [some (.inr (.inr (some (0, 0)))), some (.inl v1), some (.inl (0 : Int32)), some (.inl (0 : Int32))] (sk_td o_X8_countPupilsIn 3 rfl) rfl rfl (Nat.le_of_ble_eq_true rfl) rfl ?_
  exact lt_X8_countPupilsIn_4 sk_fu (v1, (0 : Int32), (0 : Int32)) _ hq
def q_X8_countPupilsIn (d : sk_D) (v1 : Int32) : Option (Int32) := q_X8_countPupilsIn_0 d v1 
theorem s_X8_countPupilsIn {l : Launch} {d : sk_D} {v1 : Int32} {res : Int32} (hq : q_X8_countPupilsIn d v1 = some res) : sk_M l 2 m_X8_countPupilsIn [.inr (.inr (some (0, 0))), .inl v1] (sk_mm d) (some (.inl res)) (sk_mm d) :=
  sk_enter (by decide) (fun _ => Nat.le_of_ble_eq_true rfl) (Nat.le_of_ble_eq_true rfl) (t_X8_countPupilsIn_0 hq )
def q_X8_size_0 (d : sk_D) (v1 : Int32) : Option (Int32) :=
  (q_X8_hasGroup d v1).bind fun x1 => if x1 = 0 then some (-1 : Int32) else (q_X8_countPupilsIn d v1).bind fun x2 => some x2
set_option maxRecDepth 100000 in
set_option maxHeartbeats 4000000 in
theorem t_X8_size_0 {l : Launch} {d : sk_D} {v1 : Int32} {res : Int32} (hq : q_X8_size_0 d v1 = some res) :
    sk_G l (sk_rm 3 0 0) m_X8_size sk_Ex0 (sk_Zm m_X8_size (some (.inl res)) (sk_mm d)) 0 0 0 [some (.inr (.inr (some (0, 0)))), some (.inl v1)] [] (sk_mm d) := by
  unfold q_X8_size_0 at hq
  refine sg_aload_n 1 (sk_td o_X8_size 0 rfl) rfl rfl ?_
  refine sg_iload_n 2 (sk_td o_X8_size 1 rfl) rfl rfl ?_
  obtain ⟨x1, hr_x1, hq⟩ := sk_bnd hq
  refine sm_callV1i 5 (s_X8_hasGroup hr_x1) (sk_td o_X8_size 2 rfl) rfl lv_X8_159 rfl rfl rfl sz_0 (sk_rok (Nat.le_of_ble_eq_true rfl) (Nat.le_of_ble_eq_true rfl) rfl rfl) (Nat.le_of_ble_eq_true rfl) ?_
  refine sg_if_eq 16 8 (sk_td o_X8_size 3 rfl) (by decide) rfl (fun hc => ?_) (fun hc => ?_)
  · rw [if_pos hc] at hq
    refine sg_iconst (v := (-1 : Int32)) 17 (sk_td o_X8_size 8 rfl) rfl (by decide) ?_
    obtain rfl := Option.some.inj hq
    exact sg_iret (sk_td o_X8_size 9 rfl) rfl rfl
  · rw [if_neg hc] at hq
    refine sg_aload_n 9 (sk_td o_X8_size 4 rfl) rfl rfl ?_
    refine sg_iload_n 10 (sk_td o_X8_size 5 rfl) rfl rfl ?_
    obtain ⟨x2, hr_x2, hq⟩ := sk_bnd hq
    refine sm_callV1i 13 (s_X8_countPupilsIn hr_x2) (sk_td o_X8_size 6 rfl) rfl lv_X8_185 rfl rfl rfl sz_0 (sk_rok (Nat.le_of_ble_eq_true rfl) (Nat.le_of_ble_eq_true rfl) rfl rfl) (Nat.le_of_ble_eq_true rfl) ?_
    refine sg_goto 17 (sk_td o_X8_size 7 rfl) (by decide) ?_
    obtain rfl := Option.some.inj hq
    exact sg_iret (sk_td o_X8_size 9 rfl) rfl rfl
def q_X8_size (d : sk_D) (v1 : Int32) : Option (Int32) := q_X8_size_0 d v1 
theorem s_X8_size {l : Launch} {d : sk_D} {v1 : Int32} {res : Int32} (hq : q_X8_size d v1 = some res) : sk_M l 3 m_X8_size [.inr (.inr (some (0, 0))), .inl v1] (sk_mm d) (some (.inl res)) (sk_mm d) :=
  sk_enter (by decide) (fun _ => Nat.le_of_ble_eq_true rfl) (Nat.le_of_ble_eq_true rfl) (t_X8_size_0 hq )
def q_X8_instructor_0 (d : sk_D) (v1 : Int32) : Option (Int32) :=
  (q_X8_hasGroup d v1).bind fun x1 => if x1 = 0 then some (-1 : Int32) else if sk_bi v1 4 = true then some (d.1 39 v1.toNatClampNeg 4) else none
set_option maxRecDepth 100000 in
set_option maxHeartbeats 4000000 in
theorem t_X8_instructor_0 {l : Launch} {d : sk_D} {v1 : Int32} {res : Int32} (hq : q_X8_instructor_0 d v1 = some res) :
    sk_G l (sk_rm 3 0 0) m_X8_instructor sk_Ex0 (sk_Zm m_X8_instructor (some (.inl res)) (sk_mm d)) 0 0 0 [some (.inr (.inr (some (0, 0)))), some (.inl v1)] [] (sk_mm d) := by
  unfold q_X8_instructor_0 at hq
  refine sg_aload_n 1 (sk_td o_X8_instructor 0 rfl) rfl rfl ?_
  refine sg_iload_n 2 (sk_td o_X8_instructor 1 rfl) rfl rfl ?_
  obtain ⟨x1, hr_x1, hq⟩ := sk_bnd hq
  refine sm_callV1i 5 (s_X8_hasGroup hr_x1) (sk_td o_X8_instructor 2 rfl) rfl lv_X8_159 rfl rfl rfl sz_0 (sk_rok (Nat.le_of_ble_eq_true rfl) (Nat.le_of_ble_eq_true rfl) rfl rfl) (Nat.le_of_ble_eq_true rfl) ?_
  refine sg_if_eq 20 8 (sk_td o_X8_instructor 3 rfl) (by decide) rfl (fun hc => ?_) (fun hc => ?_)
  · rw [if_pos hc] at hq
    refine sg_iconst (v := (-1 : Int32)) 21 (sk_td o_X8_instructor 10 rfl) rfl (by decide) ?_
    obtain rfl := Option.some.inj hq
    exact sg_iret (sk_td o_X8_instructor 11 rfl) rfl rfl
  · rw [if_neg hc] at hq
    refine sg_aload_n 9 (sk_td o_X8_instructor 4 rfl) rfl rfl ?_
    refine sm_getR (2, 0) 12 (sk_td o_X8_instructor 5 rfl) rfl kf_X8_17 rfl rfl sz_0 rfl ?_
    refine sg_iload_n 13 (sk_td o_X8_instructor 6 rfl) rfl rfl ?_
    obtain ⟨hb2, hq⟩ := sk_ifn hq
    refine sm_aald (39, v1.toNatClampNeg) 14 (sk_td o_X8_instructor 7 rfl) rfl rfl (by decide) sz_2 hb2 (sr_2 (sk_bi.lt hb2)) ?_
    refine sm_getI 17 (sk_td o_X8_instructor 8 rfl) rfl kf_X8_188 rfl rfl (sk_bi.lt hb2) ?_
    refine sg_goto 21 (sk_td o_X8_instructor 9 rfl) (by decide) ?_
    obtain rfl := Option.some.inj hq
    exact sg_iret (sk_td o_X8_instructor 11 rfl) rfl rfl
def q_X8_instructor (d : sk_D) (v1 : Int32) : Option (Int32) := q_X8_instructor_0 d v1 
theorem s_X8_instructor {l : Launch} {d : sk_D} {v1 : Int32} {res : Int32} (hq : q_X8_instructor d v1 = some res) : sk_M l 3 m_X8_instructor [.inr (.inr (some (0, 0))), .inl v1] (sk_mm d) (some (.inl res)) (sk_mm d) :=
  sk_enter (by decide) (fun _ => Nat.le_of_ble_eq_true rfl) (Nat.le_of_ble_eq_true rfl) (t_X8_instructor_0 hq )
def q_X8_assign_57 (rec22 : (sk_D × Int32 × Int32) → Option (Int32 × sk_D)) (d : sk_D) (v1 : Int32) (v2 : Int32) : Option (Int32 × sk_D) :=
  (rec22 (d, v1, (v2 + (1 : Int32))))
set_option maxRecDepth 100000 in
set_option maxHeartbeats 4000000 in
theorem t_X8_assign_57 {l : Launch} {rec22 : (sk_D × Int32 × Int32) → Option (Int32 × sk_D)} {d : sk_D} {v1 : Int32} {v2 : Int32} (hrec22 : ∀ (a : (sk_D × Int32 × Int32)) (res : Int32 × sk_D), rec22 a = some res → sk_G l (sk_rm 6 0 0) m_X8_assign sk_Ex0 (sk_Zm m_X8_assign (some (.inl res.1)) (sk_mm res.2)) 0 0 22 [some (.inr (.inr (some (0, 0)))), some (.inl a.2.1), some (.inl a.2.2)] [] (sk_mm a.1)) {res : Int32 × sk_D} (hq : q_X8_assign_57 rec22 d v1 v2 = some res) :
    sk_G l (sk_rm 6 0 0) m_X8_assign sk_Ex0 (sk_Zm m_X8_assign (some (.inl res.1)) (sk_mm res.2)) 0 0 57 [some (.inr (.inr (some (0, 0)))), some (.inl v1), some (.inl v2)] [] (sk_mm d) := by
  unfold q_X8_assign_57 at hq
  refine sg_iinc (v2 + (1 : Int32)) 60 [some (.inr (.inr (some (0, 0)))), some (.inl v1), some (.inl (v2 + (1 : Int32)))] (sk_td o_X8_assign 30 rfl) rfl rfl rfl rfl (Nat.le_of_ble_eq_true rfl) rfl ?_
  refine sg_goto 22 (sk_td o_X8_assign 31 rfl) (by decide) ?_
  exact hrec22 (d, v1, (v2 + (1 : Int32))) _ hq
def q_X8_assign_22 (rec22 : (sk_D × Int32 × Int32) → Option (Int32 × sk_D)) (d : sk_D) (v1 : Int32) (v2 : Int32) : Option (Int32 × sk_D) :=
  if (20 : Int32) ≤ v2 then some (v1, d) else if sk_bi v2 20 = true then if (d.1 37 v2.toNatClampNeg 0) = 0 then (q_X8_assign_57 rec22 d v1 v2) else if sk_bi v2 20 = true then (q_X3_groupOf d v2).bind fun x3 => (q_X8_assign_57 rec22 (sk_wi d 37 v2.toNatClampNeg 4 x3) v1 v2) else none else none
set_option maxRecDepth 100000 in
set_option maxHeartbeats 4000000 in
theorem t_X8_assign_22 {l : Launch} {rec22 : (sk_D × Int32 × Int32) → Option (Int32 × sk_D)} {d : sk_D} {v1 : Int32} {v2 : Int32} (hrec22 : ∀ (a : (sk_D × Int32 × Int32)) (res : Int32 × sk_D), rec22 a = some res → sk_G l (sk_rm 6 0 0) m_X8_assign sk_Ex0 (sk_Zm m_X8_assign (some (.inl res.1)) (sk_mm res.2)) 0 0 22 [some (.inr (.inr (some (0, 0)))), some (.inl a.2.1), some (.inl a.2.2)] [] (sk_mm a.1)) {res : Int32 × sk_D} (hq : q_X8_assign_22 rec22 d v1 v2 = some res) :
    sk_G l (sk_rm 6 0 0) m_X8_assign sk_Ex0 (sk_Zm m_X8_assign (some (.inl res.1)) (sk_mm res.2)) 0 0 22 [some (.inr (.inr (some (0, 0)))), some (.inl v1), some (.inl v2)] [] (sk_mm d) := by
  unfold q_X8_assign_22 at hq
  refine sg_iload_n 23 (sk_td o_X8_assign 12 rfl) rfl rfl ?_
  refine sg_bipush (v := (20 : Int32)) 25 (sk_td o_X8_assign 13 rfl) rfl (by decide) ?_
  refine sg_ic_ge 63 28 (sk_td o_X8_assign 14 rfl) (by decide) rfl (fun hc => ?_) (fun hc => ?_)
  · rw [if_pos hc] at hq
    refine sg_iload_n 64 (sk_td o_X8_assign 32 rfl) rfl rfl ?_
    obtain rfl := Option.some.inj hq
    exact sg_iret (sk_td o_X8_assign 33 rfl) rfl rfl
  · rw [if_neg hc] at hq
    refine sg_aload_n 29 (sk_td o_X8_assign 15 rfl) rfl rfl ?_
    refine sm_getR (1, 0) 32 (sk_td o_X8_assign 16 rfl) rfl kf_X8_11 rfl rfl sz_0 rfl ?_
    refine sg_iload_n 33 (sk_td o_X8_assign 17 rfl) rfl rfl ?_
    obtain ⟨hb1, hq⟩ := sk_ifn hq
    refine sm_aald (37, v2.toNatClampNeg) 34 (sk_td o_X8_assign 18 rfl) rfl rfl (by decide) sz_1 hb1 (sr_1 (sk_bi.lt hb1)) ?_
    refine sm_getI 37 (sk_td o_X8_assign 19 rfl) rfl kf_X8_108 rfl rfl (sk_bi.lt hb1) ?_
    refine sg_if_eq 57 40 (sk_td o_X8_assign 20 rfl) (by decide) rfl (fun hc => ?_) (fun hc => ?_)
    · rw [if_pos hc] at hq
      exact t_X8_assign_57 hrec22 hq
    · rw [if_neg hc] at hq
      refine sg_aload_n 41 (sk_td o_X8_assign 21 rfl) rfl rfl ?_
      refine sm_getR (1, 0) 44 (sk_td o_X8_assign 22 rfl) rfl kf_X8_11 rfl rfl sz_0 rfl ?_
      refine sg_iload_n 45 (sk_td o_X8_assign 23 rfl) rfl rfl ?_
      obtain ⟨hb2, hq⟩ := sk_ifn hq
      refine sm_aald (37, v2.toNatClampNeg) 46 (sk_td o_X8_assign 24 rfl) rfl rfl (by decide) sz_1 hb2 (sr_1 (sk_bi.lt hb2)) ?_
      refine sg_aload_n 47 (sk_td o_X8_assign 25 rfl) rfl rfl ?_
      refine sm_getR (6, 0) 50 (sk_td o_X8_assign 26 rfl) rfl kf_X8_40 rfl rfl sz_0 rfl ?_
      refine sg_iload_n 51 (sk_td o_X8_assign 27 rfl) rfl rfl ?_
      obtain ⟨x3, hr_x3, hq⟩ := sk_bnd hq
      refine sm_callV1i 54 (s_X3_groupOf hr_x3) (sk_td o_X8_assign 28 rfl) rfl lv_X8_195 rfl rfl rfl sz_6 (sk_rok (Nat.le_of_ble_eq_true rfl) (Nat.le_of_ble_eq_true rfl) rfl rfl) (Nat.le_of_ble_eq_true rfl) ?_
      refine sm_putI 57 (sk_td o_X8_assign 29 rfl) rfl kp_X8_124 rfl rfl (sk_bi.lt hb2) ?_
      exact t_X8_assign_57 hrec22 hq
def l_X8_assign_22 (fl : Nat) (a : (sk_D × Int32 × Int32)) : Option (Int32 × sk_D) := sk_it (fun rec22 a => q_X8_assign_22 rec22 a.1 a.2.1 a.2.2) fl a
theorem lt_X8_assign_22 {l : Launch} : ∀ (fl : Nat) (a : (sk_D × Int32 × Int32)) (res : Int32 × sk_D), l_X8_assign_22 fl a = some res → sk_G l (sk_rm 6 0 0) m_X8_assign sk_Ex0 (sk_Zm m_X8_assign (some (.inl res.1)) (sk_mm res.2)) 0 0 22 [some (.inr (.inr (some (0, 0)))), some (.inl a.2.1), some (.inl a.2.2)] [] (sk_mm a.1) :=
  sk_it_ind (P := fun (a : (sk_D × Int32 × Int32)) (res : Int32 × sk_D) => sk_G l (sk_rm 6 0 0) m_X8_assign sk_Ex0 (sk_Zm m_X8_assign (some (.inl res.1)) (sk_mm res.2)) 0 0 22 [some (.inr (.inr (some (0, 0)))), some (.inl a.2.1), some (.inl a.2.2)] [] (sk_mm a.1)) (fun rec22 hrec22 a res hq  => t_X8_assign_22 hrec22 hq )
def q_X8_assign_0 (d : sk_D) : Option (Int32 × sk_D) :=
  (q_X3_findBest d).bind fun x1 => (l_X8_assign_22 sk_fu (x1.2, x1.1, (0 : Int32)))
set_option maxRecDepth 100000 in
set_option maxHeartbeats 4000000 in
theorem t_X8_assign_0 {l : Launch} {d : sk_D} {res : Int32 × sk_D} (hq : q_X8_assign_0 d = some res) :
    sk_G l (sk_rm 6 0 0) m_X8_assign sk_Ex0 (sk_Zm m_X8_assign (some (.inl res.1)) (sk_mm res.2)) 0 0 0 [some (.inr (.inr (some (0, 0)))), none, none] [] (sk_mm d) := by
  unfold q_X8_assign_0 at hq
  refine sg_aload_n 1 (sk_td o_X8_assign 0 rfl) rfl rfl ?_
  refine sm_getR (6, 0) 4 (sk_td o_X8_assign 1 rfl) rfl kf_X8_40 rfl rfl sz_0 rfl ?_
  refine sg_aload_n 5 (sk_td o_X8_assign 2 rfl) rfl rfl ?_
  refine sm_getR (1, 0) 8 (sk_td o_X8_assign 3 rfl) rfl kf_X8_11 rfl rfl sz_0 rfl ?_
  refine sg_aload_n 9 (sk_td o_X8_assign 4 rfl) rfl rfl ?_
  refine sm_getR (2, 0) 12 (sk_td o_X8_assign 5 rfl) rfl kf_X8_17 rfl rfl sz_0 rfl ?_
  refine sg_aload_n 13 (sk_td o_X8_assign 6 rfl) rfl rfl ?_
  refine sm_getR (5, 0) 16 (sk_td o_X8_assign 7 rfl) rfl kf_X8_33 rfl rfl sz_0 rfl ?_
  obtain ⟨x1, hr_x1, hq⟩ := sk_bnd hq
  refine sm_callV3i 19 (s_X3_findBest hr_x1) (sk_td o_X8_assign 8 rfl) rfl lv_X8_191 rfl rfl rfl sz_6 (sk_rok (Nat.le_of_ble_eq_true rfl) (Nat.le_of_ble_eq_true rfl) rfl rfl) (Nat.le_of_ble_eq_true rfl) ?_
  refine sg_istore_n 20 [some (.inr (.inr (some (0, 0)))), some (.inl x1.1), none] (sk_td o_X8_assign 9 rfl) rfl rfl (Nat.le_of_ble_eq_true rfl) rfl ?_
  refine sg_iconst (v := (0 : Int32)) 21 (sk_td o_X8_assign 10 rfl) rfl (by decide) ?_
  refine sg_istore_n 22 [some (.inr (.inr (some (0, 0)))), some (.inl x1.1), some (.inl (0 : Int32))] (sk_td o_X8_assign 11 rfl) rfl rfl (Nat.le_of_ble_eq_true rfl) rfl ?_
  exact lt_X8_assign_22 sk_fu (x1.2, x1.1, (0 : Int32)) _ hq
def q_X8_assign (d : sk_D) : Option (Int32 × sk_D) := q_X8_assign_0 d 
theorem s_X8_assign {l : Launch} {d : sk_D} {res : Int32 × sk_D} (hq : q_X8_assign d = some res) : sk_M l 6 m_X8_assign [.inr (.inr (some (0, 0)))] (sk_mm d) (some (.inl res.1)) (sk_mm res.2) :=
  sk_enter (by decide) (fun _ => Nat.le_of_ble_eq_true rfl) (Nat.le_of_ble_eq_true rfl) (t_X8_assign_0 hq )
def q_X8_placed_39 (rec4 : (Int32 × Int32) → Option (Int32)) (d : sk_D) (v1 : Int32) (v2 : Int32) : Option (Int32) :=
  (rec4 (v1, (v2 + (1 : Int32))))
set_option maxRecDepth 100000 in
set_option maxHeartbeats 4000000 in
theorem t_X8_placed_39 {l : Launch} {rec4 : (Int32 × Int32) → Option (Int32)} {d : sk_D} {v1 : Int32} {v2 : Int32} (hrec4 : ∀ (a : (Int32 × Int32)) (res : Int32), rec4 a = some res → sk_G l (sk_rm 1 0 0) m_X8_placed sk_Ex0 (sk_Zm m_X8_placed (some (.inl res)) (sk_mm d)) 0 0 4 [some (.inr (.inr (some (0, 0)))), some (.inl a.1), some (.inl a.2)] [] (sk_mm d)) {res : Int32} (hq : q_X8_placed_39 rec4 d v1 v2 = some res) :
    sk_G l (sk_rm 1 0 0) m_X8_placed sk_Ex0 (sk_Zm m_X8_placed (some (.inl res)) (sk_mm d)) 0 0 39 [some (.inr (.inr (some (0, 0)))), some (.inl v1), some (.inl v2)] [] (sk_mm d) := by
  unfold q_X8_placed_39 at hq
  refine sg_iinc (v2 + (1 : Int32)) 42 [some (.inr (.inr (some (0, 0)))), some (.inl v1), some (.inl (v2 + (1 : Int32)))] (sk_td o_X8_placed 21 rfl) rfl rfl rfl rfl (Nat.le_of_ble_eq_true rfl) rfl ?_
  refine sg_goto 4 (sk_td o_X8_placed 22 rfl) (by decide) ?_
  exact hrec4 (v1, (v2 + (1 : Int32))) _ hq
def q_X8_placed_4 (rec4 : (Int32 × Int32) → Option (Int32)) (d : sk_D) (v1 : Int32) (v2 : Int32) : Option (Int32) :=
  if (20 : Int32) ≤ v2 then some v1 else if sk_bi v2 20 = true then if (d.1 37 v2.toNatClampNeg 0) = 0 then (q_X8_placed_39 rec4 d v1 v2) else if sk_bi v2 20 = true then if (d.1 37 v2.toNatClampNeg 4) = (-9 : Int32) then (q_X8_placed_39 rec4 d v1 v2) else (q_X8_placed_39 rec4 d (v1 + (1 : Int32)) v2) else none else none
set_option maxRecDepth 100000 in
set_option maxHeartbeats 4000000 in
theorem t_X8_placed_4 {l : Launch} {rec4 : (Int32 × Int32) → Option (Int32)} {d : sk_D} {v1 : Int32} {v2 : Int32} (hrec4 : ∀ (a : (Int32 × Int32)) (res : Int32), rec4 a = some res → sk_G l (sk_rm 1 0 0) m_X8_placed sk_Ex0 (sk_Zm m_X8_placed (some (.inl res)) (sk_mm d)) 0 0 4 [some (.inr (.inr (some (0, 0)))), some (.inl a.1), some (.inl a.2)] [] (sk_mm d)) {res : Int32} (hq : q_X8_placed_4 rec4 d v1 v2 = some res) :
    sk_G l (sk_rm 1 0 0) m_X8_placed sk_Ex0 (sk_Zm m_X8_placed (some (.inl res)) (sk_mm d)) 0 0 4 [some (.inr (.inr (some (0, 0)))), some (.inl v1), some (.inl v2)] [] (sk_mm d) := by
  unfold q_X8_placed_4 at hq
  refine sg_iload_n 5 (sk_td o_X8_placed 4 rfl) rfl rfl ?_
  refine sg_bipush (v := (20 : Int32)) 7 (sk_td o_X8_placed 5 rfl) rfl (by decide) ?_
  refine sg_ic_ge 45 10 (sk_td o_X8_placed 6 rfl) (by decide) rfl (fun hc => ?_) (fun hc => ?_)
  · rw [if_pos hc] at hq
    refine sg_iload_n 46 (sk_td o_X8_placed 23 rfl) rfl rfl ?_
    obtain rfl := Option.some.inj hq
    exact sg_iret (sk_td o_X8_placed 24 rfl) rfl rfl
  · rw [if_neg hc] at hq
    refine sg_aload_n 11 (sk_td o_X8_placed 7 rfl) rfl rfl ?_
    refine sm_getR (1, 0) 14 (sk_td o_X8_placed 8 rfl) rfl kf_X8_11 rfl rfl sz_0 rfl ?_
    refine sg_iload_n 15 (sk_td o_X8_placed 9 rfl) rfl rfl ?_
    obtain ⟨hb1, hq⟩ := sk_ifn hq
    refine sm_aald (37, v2.toNatClampNeg) 16 (sk_td o_X8_placed 10 rfl) rfl rfl (by decide) sz_1 hb1 (sr_1 (sk_bi.lt hb1)) ?_
    refine sm_getI 19 (sk_td o_X8_placed 11 rfl) rfl kf_X8_108 rfl rfl (sk_bi.lt hb1) ?_
    refine sg_if_eq 39 22 (sk_td o_X8_placed 12 rfl) (by decide) rfl (fun hc => ?_) (fun hc => ?_)
    · rw [if_pos hc] at hq
      exact t_X8_placed_39 hrec4 hq
    · rw [if_neg hc] at hq
      refine sg_aload_n 23 (sk_td o_X8_placed 13 rfl) rfl rfl ?_
      refine sm_getR (1, 0) 26 (sk_td o_X8_placed 14 rfl) rfl kf_X8_11 rfl rfl sz_0 rfl ?_
      refine sg_iload_n 27 (sk_td o_X8_placed 15 rfl) rfl rfl ?_
      obtain ⟨hb2, hq⟩ := sk_ifn hq
      refine sm_aald (37, v2.toNatClampNeg) 28 (sk_td o_X8_placed 16 rfl) rfl rfl (by decide) sz_1 hb2 (sr_1 (sk_bi.lt hb2)) ?_
      refine sm_getI 31 (sk_td o_X8_placed 17 rfl) rfl kf_X8_124 rfl rfl (sk_bi.lt hb2) ?_
      refine sg_bipush (v := (-9 : Int32)) 33 (sk_td o_X8_placed 18 rfl) rfl (by decide) ?_
      refine sg_ic_eq 39 36 (sk_td o_X8_placed 19 rfl) (by decide) rfl (fun hc => ?_) (fun hc => ?_)
      · rw [if_pos hc] at hq
        exact t_X8_placed_39 hrec4 hq
      · rw [if_neg hc] at hq
        refine sg_iinc (v1 + (1 : Int32)) 39 [some (.inr (.inr (some (0, 0)))), some (.inl (v1 + (1 : Int32))), some (.inl v2)] (sk_td o_X8_placed 20 rfl) rfl rfl rfl rfl (Nat.le_of_ble_eq_true rfl) rfl ?_
        exact t_X8_placed_39 hrec4 hq
def l_X8_placed_4 (d : sk_D) (fl : Nat) (a : (Int32 × Int32)) : Option (Int32) := sk_it (fun rec4 a => q_X8_placed_4 rec4 d a.1 a.2) fl a
theorem lt_X8_placed_4 {l : Launch} {d : sk_D} : ∀ (fl : Nat) (a : (Int32 × Int32)) (res : Int32), l_X8_placed_4 d fl a = some res → sk_G l (sk_rm 1 0 0) m_X8_placed sk_Ex0 (sk_Zm m_X8_placed (some (.inl res)) (sk_mm d)) 0 0 4 [some (.inr (.inr (some (0, 0)))), some (.inl a.1), some (.inl a.2)] [] (sk_mm d) :=
  sk_it_ind (P := fun (a : (Int32 × Int32)) (res : Int32) => sk_G l (sk_rm 1 0 0) m_X8_placed sk_Ex0 (sk_Zm m_X8_placed (some (.inl res)) (sk_mm d)) 0 0 4 [some (.inr (.inr (some (0, 0)))), some (.inl a.1), some (.inl a.2)] [] (sk_mm d)) (fun rec4 hrec4 a res hq  => t_X8_placed_4 hrec4 hq )
def q_X8_placed_0 (d : sk_D) : Option (Int32) :=
  (l_X8_placed_4 d sk_fu ((0 : Int32), (0 : Int32)))
set_option maxRecDepth 100000 in
set_option maxHeartbeats 4000000 in
theorem t_X8_placed_0 {l : Launch} {d : sk_D} {res : Int32} (hq : q_X8_placed_0 d = some res) :
    sk_G l (sk_rm 1 0 0) m_X8_placed sk_Ex0 (sk_Zm m_X8_placed (some (.inl res)) (sk_mm d)) 0 0 0 [some (.inr (.inr (some (0, 0)))), none, none] [] (sk_mm d) := by
  unfold q_X8_placed_0 at hq
  refine sg_iconst (v := (0 : Int32)) 1 (sk_td o_X8_placed 0 rfl) rfl (by decide) ?_
  refine sg_istore_n 2 [some (.inr (.inr (some (0, 0)))), some (.inl (0 : Int32)), none] (sk_td o_X8_placed 1 rfl) rfl rfl (Nat.le_of_ble_eq_true rfl) rfl ?_
  refine sg_iconst (v := (0 : Int32)) 3 (sk_td o_X8_placed 2 rfl) rfl (by decide) ?_
  refine sg_istore_n 4 [some (.inr (.inr (some (0, 0)))), some (.inl (0 : Int32)), some (.inl (0 : Int32))] (sk_td o_X8_placed 3 rfl) rfl rfl (Nat.le_of_ble_eq_true rfl) rfl ?_
  exact lt_X8_placed_4 sk_fu ((0 : Int32), (0 : Int32)) _ hq
def q_X8_placed (d : sk_D) : Option (Int32) := q_X8_placed_0 d 
theorem s_X8_placed {l : Launch} {d : sk_D} {res : Int32} (hq : q_X8_placed d = some res) : sk_M l 1 m_X8_placed [.inr (.inr (some (0, 0)))] (sk_mm d) (some (.inl res)) (sk_mm d) :=
  sk_enter (by decide) (fun _ => Nat.le_of_ble_eq_true rfl) (Nat.le_of_ble_eq_true rfl) (t_X8_placed_0 hq )
def q_X8_outOfLevel_57 (rec4 : (Int32 × Int32) → Option (Int32)) (d : sk_D) (v1 : Int32) (v2 : Int32) : Option (Int32) :=
  (rec4 (v1, (v2 + (1 : Int32))))
set_option maxRecDepth 100000 in
set_option maxHeartbeats 4000000 in
theorem t_X8_outOfLevel_57 {l : Launch} {rec4 : (Int32 × Int32) → Option (Int32)} {d : sk_D} {v1 : Int32} {v2 : Int32} (hrec4 : ∀ (a : (Int32 × Int32)) (res : Int32), rec4 a = some res → sk_G l (sk_rm 3 0 0) m_X8_outOfLevel sk_Ex0 (sk_Zm m_X8_outOfLevel (some (.inl res)) (sk_mm d)) 0 0 4 [some (.inr (.inr (some (0, 0)))), some (.inl a.1), some (.inl a.2), none] [] (sk_mm d)) {res : Int32} (hq : q_X8_outOfLevel_57 rec4 d v1 v2 = some res) :
    sk_G l (sk_rm 3 0 0) m_X8_outOfLevel sk_Ex0 (sk_Zm m_X8_outOfLevel (some (.inl res)) (sk_mm d)) 0 0 57 [some (.inr (.inr (some (0, 0)))), some (.inl v1), some (.inl v2), none] [] (sk_mm d) := by
  unfold q_X8_outOfLevel_57 at hq
  refine sg_iinc (v2 + (1 : Int32)) 60 [some (.inr (.inr (some (0, 0)))), some (.inl v1), some (.inl (v2 + (1 : Int32))), none] (sk_td o_X8_outOfLevel 30 rfl) rfl rfl rfl rfl (Nat.le_of_ble_eq_true rfl) rfl ?_
  refine sg_goto 4 (sk_td o_X8_outOfLevel 31 rfl) (by decide) ?_
  exact hrec4 (v1, (v2 + (1 : Int32))) _ hq
def q_X8_outOfLevel_4 (rec4 : (Int32 × Int32) → Option (Int32)) (d : sk_D) (v1 : Int32) (v2 : Int32) : Option (Int32) :=
  if (20 : Int32) ≤ v2 then some v1 else if sk_bi v2 20 = true then if (d.1 37 v2.toNatClampNeg 0) = 0 then (q_X8_outOfLevel_57 rec4 d v1 v2) else (q_X8_hasGroup d (d.1 37 v2.toNatClampNeg 4)).bind fun x2 => if x2 = 0 then (q_X8_outOfLevel_57 rec4 d v1 v2) else if sk_bi (d.1 37 v2.toNatClampNeg 4) 4 = true then if (d.1 39 ((d.1 37 v2.toNatClampNeg 4).toNatClampNeg) 1) = (d.1 37 v2.toNatClampNeg 1) then (q_X8_outOfLevel_57 rec4 d v1 v2) else (q_X8_outOfLevel_57 rec4 d (v1 + (1 : Int32)) v2) else none else none
set_option maxRecDepth 100000 in
set_option maxHeartbeats 4000000 in
theorem t_X8_outOfLevel_4 {l : Launch} {rec4 : (Int32 × Int32) → Option (Int32)} {d : sk_D} {v1 : Int32} {v2 : Int32} (hrec4 : ∀ (a : (Int32 × Int32)) (res : Int32), rec4 a = some res → sk_G l (sk_rm 3 0 0) m_X8_outOfLevel sk_Ex0 (sk_Zm m_X8_outOfLevel (some (.inl res)) (sk_mm d)) 0 0 4 [some (.inr (.inr (some (0, 0)))), some (.inl a.1), some (.inl a.2), none] [] (sk_mm d)) {res : Int32} (hq : q_X8_outOfLevel_4 rec4 d v1 v2 = some res) :
    sk_G l (sk_rm 3 0 0) m_X8_outOfLevel sk_Ex0 (sk_Zm m_X8_outOfLevel (some (.inl res)) (sk_mm d)) 0 0 4 [some (.inr (.inr (some (0, 0)))), some (.inl v1), some (.inl v2), none] [] (sk_mm d) := by
  unfold q_X8_outOfLevel_4 at hq
  refine sg_iload_n 5 (sk_td o_X8_outOfLevel 4 rfl) rfl rfl ?_
  refine sg_bipush (v := (20 : Int32)) 7 (sk_td o_X8_outOfLevel 5 rfl) rfl (by decide) ?_
  refine sg_ic_ge 63 10 (sk_td o_X8_outOfLevel 6 rfl) (by decide) rfl (fun hc => ?_) (fun hc => ?_)
  · rw [if_pos hc] at hq
    refine sg_iload_n 64 (sk_td o_X8_outOfLevel 32 rfl) rfl rfl ?_
    obtain rfl := Option.some.inj hq
    exact sg_iret (sk_td o_X8_outOfLevel 33 rfl) rfl rfl
  · rw [if_neg hc] at hq
    refine sg_aload_n 11 (sk_td o_X8_outOfLevel 7 rfl) rfl rfl ?_
    refine sm_getR (1, 0) 14 (sk_td o_X8_outOfLevel 8 rfl) rfl kf_X8_11 rfl rfl sz_0 rfl ?_
    refine sg_iload_n 15 (sk_td o_X8_outOfLevel 9 rfl) rfl rfl ?_
    obtain ⟨hb1, hq⟩ := sk_ifn hq
    refine sm_aald (37, v2.toNatClampNeg) 16 (sk_td o_X8_outOfLevel 10 rfl) rfl rfl (by decide) sz_1 hb1 (sr_1 (sk_bi.lt hb1)) ?_
    refine sg_astore_n 17 [some (.inr (.inr (some (0, 0)))), some (.inl v1), some (.inl v2), some (.inr (.inr (some (37, v2.toNatClampNeg))))] (sk_td o_X8_outOfLevel 11 rfl) rfl rfl (Nat.le_of_ble_eq_true rfl) rfl ?_
    refine sg_aload_n 18 (sk_td o_X8_outOfLevel 12 rfl) rfl rfl ?_
    refine sm_getI 21 (sk_td o_X8_outOfLevel 13 rfl) rfl kf_X8_108 rfl rfl (sk_bi.lt hb1) ?_
    refine sg_if_eq 57 24 (sk_td o_X8_outOfLevel 14 rfl) (by decide) rfl (fun hc => ?_) (fun hc => ?_)
    · rw [if_pos hc] at hq
      refine sk_wk [true, true, true, false] (ls' := [some (.inr (.inr (some (0, 0)))), some (.inl v1), some (.inl v2), none]) rfl ?_
      exact t_X8_outOfLevel_57 hrec4 hq
    · rw [if_neg hc] at hq
      refine sg_aload_n 25 (sk_td o_X8_outOfLevel 15 rfl) rfl rfl ?_
      refine sg_aload_n 26 (sk_td o_X8_outOfLevel 16 rfl) rfl rfl ?_
      refine sm_getI 29 (sk_td o_X8_outOfLevel 17 rfl) rfl kf_X8_124 rfl rfl (sk_bi.lt hb1) ?_
      obtain ⟨x2, hr_x2, hq⟩ := sk_bnd hq
      refine sm_callV1i 32 (s_X8_hasGroup hr_x2) (sk_td o_X8_outOfLevel 18 rfl) rfl lv_X8_159 rfl rfl rfl sz_0 (sk_rok (Nat.le_of_ble_eq_true rfl) (Nat.le_of_ble_eq_true rfl) rfl rfl) (Nat.le_of_ble_eq_true rfl) ?_
      refine sg_if_eq 57 35 (sk_td o_X8_outOfLevel 19 rfl) (by decide) rfl (fun hc => ?_) (fun hc => ?_)
      · rw [if_pos hc] at hq
        refine sk_wk [true, true, true, false] (ls' := [some (.inr (.inr (some (0, 0)))), some (.inl v1), some (.inl v2), none]) rfl ?_
        exact t_X8_outOfLevel_57 hrec4 hq
      · rw [if_neg hc] at hq
        refine sg_aload_n 36 (sk_td o_X8_outOfLevel 20 rfl) rfl rfl ?_
        refine sm_getR (2, 0) 39 (sk_td o_X8_outOfLevel 21 rfl) rfl kf_X8_17 rfl rfl sz_0 rfl ?_
        refine sg_aload_n 40 (sk_td o_X8_outOfLevel 22 rfl) rfl rfl ?_
        refine sm_getI 43 (sk_td o_X8_outOfLevel 23 rfl) rfl kf_X8_124 rfl rfl (sk_bi.lt hb1) ?_
        obtain ⟨hb3, hq⟩ := sk_ifn hq
        refine sm_aald (39, (d.1 37 v2.toNatClampNeg 4).toNatClampNeg) 44 (sk_td o_X8_outOfLevel 24 rfl) rfl rfl (by decide) sz_2 hb3 (sr_2 (sk_bi.lt hb3)) ?_
        refine sm_getI 47 (sk_td o_X8_outOfLevel 25 rfl) rfl kf_X8_184 rfl rfl (sk_bi.lt hb3) ?_
        refine sg_aload_n 48 (sk_td o_X8_outOfLevel 26 rfl) rfl rfl ?_
        refine sm_getI 51 (sk_td o_X8_outOfLevel 27 rfl) rfl kf_X8_115 rfl rfl (sk_bi.lt hb1) ?_
        refine sg_ic_eq 57 54 (sk_td o_X8_outOfLevel 28 rfl) (by decide) rfl (fun hc => ?_) (fun hc => ?_)
        · rw [if_pos hc] at hq
          refine sk_wk [true, true, true, false] (ls' := [some (.inr (.inr (some (0, 0)))), some (.inl v1), some (.inl v2), none]) rfl ?_
          exact t_X8_outOfLevel_57 hrec4 hq
        · rw [if_neg hc] at hq
          refine sg_iinc (v1 + (1 : Int32)) 57 [some (.inr (.inr (some (0, 0)))), some (.inl (v1 + (1 : Int32))), some (.inl v2), some (.inr (.inr (some (37, v2.toNatClampNeg))))] (sk_td o_X8_outOfLevel 29 rfl) rfl rfl rfl rfl (Nat.le_of_ble_eq_true rfl) rfl ?_
          refine sk_wk [true, true, true, false] (ls' := [some (.inr (.inr (some (0, 0)))), some (.inl (v1 + (1 : Int32))), some (.inl v2), none]) rfl ?_
          exact t_X8_outOfLevel_57 hrec4 hq
def l_X8_outOfLevel_4 (d : sk_D) (fl : Nat) (a : (Int32 × Int32)) : Option (Int32) := sk_it (fun rec4 a => q_X8_outOfLevel_4 rec4 d a.1 a.2) fl a
theorem lt_X8_outOfLevel_4 {l : Launch} {d : sk_D} : ∀ (fl : Nat) (a : (Int32 × Int32)) (res : Int32), l_X8_outOfLevel_4 d fl a = some res → sk_G l (sk_rm 3 0 0) m_X8_outOfLevel sk_Ex0 (sk_Zm m_X8_outOfLevel (some (.inl res)) (sk_mm d)) 0 0 4 [some (.inr (.inr (some (0, 0)))), some (.inl a.1), some (.inl a.2), none] [] (sk_mm d) :=
  sk_it_ind (P := fun (a : (Int32 × Int32)) (res : Int32) => sk_G l (sk_rm 3 0 0) m_X8_outOfLevel sk_Ex0 (sk_Zm m_X8_outOfLevel (some (.inl res)) (sk_mm d)) 0 0 4 [some (.inr (.inr (some (0, 0)))), some (.inl a.1), some (.inl a.2), none] [] (sk_mm d)) (fun rec4 hrec4 a res hq  => t_X8_outOfLevel_4 hrec4 hq )
def q_X8_outOfLevel_0 (d : sk_D) : Option (Int32) :=
  (l_X8_outOfLevel_4 d sk_fu ((0 : Int32), (0 : Int32)))
set_option maxRecDepth 100000 in
set_option maxHeartbeats 4000000 in
theorem t_X8_outOfLevel_0 {l : Launch} {d : sk_D} {res : Int32} (hq : q_X8_outOfLevel_0 d = some res) :
    sk_G l (sk_rm 3 0 0) m_X8_outOfLevel sk_Ex0 (sk_Zm m_X8_outOfLevel (some (.inl res)) (sk_mm d)) 0 0 0 [some (.inr (.inr (some (0, 0)))), none, none, none] [] (sk_mm d) := by
  unfold q_X8_outOfLevel_0 at hq
  refine sg_iconst (v := (0 : Int32)) 1 (sk_td o_X8_outOfLevel 0 rfl) rfl (by decide) ?_
  refine sg_istore_n 2 [some (.inr (.inr (some (0, 0)))), some (.inl (0 : Int32)), none, none] (sk_td o_X8_outOfLevel 1 rfl) rfl rfl (Nat.le_of_ble_eq_true rfl) rfl ?_
  refine sg_iconst (v := (0 : Int32)) 3 (sk_td o_X8_outOfLevel 2 rfl) rfl (by decide) ?_
  refine sg_istore_n 4 [some (.inr (.inr (some (0, 0)))), some (.inl (0 : Int32)), some (.inl (0 : Int32)), none] (sk_td o_X8_outOfLevel 3 rfl) rfl rfl (Nat.le_of_ble_eq_true rfl) rfl ?_
  exact lt_X8_outOfLevel_4 sk_fu ((0 : Int32), (0 : Int32)) _ hq
def q_X8_outOfLevel (d : sk_D) : Option (Int32) := q_X8_outOfLevel_0 d 
theorem s_X8_outOfLevel {l : Launch} {d : sk_D} {res : Int32} (hq : q_X8_outOfLevel d = some res) : sk_M l 3 m_X8_outOfLevel [.inr (.inr (some (0, 0)))] (sk_mm d) (some (.inl res)) (sk_mm d) :=
  sk_enter (by decide) (fun _ => Nat.le_of_ble_eq_true rfl) (Nat.le_of_ble_eq_true rfl) (t_X8_outOfLevel_0 hq )
def q_X8_extraPlaced_0 (d : sk_D) (v1 : Int32) (v2 : Int32) (v3 : Int32) : Option (Int32 × sk_D) :=
  (q_X8_isGroupKind d v1 v2 v3).bind fun x1 => if x1 = 0 then some ((-1 : Int32), d) else (q_X8_freeGroupNumber d).bind fun x2 => (q_X8_within d x2 (0 : Int32) (3 : Int32)).bind fun x3 => if x3 = 0 then some ((-3 : Int32), d) else (q_X3_findBest d).bind fun x4 => if sk_bi x2 4 = true then (q_X0_begin x4.2 x2.toNatClampNeg v1 v2 v3).bind fun x6 => (q_X3_findBest x6).bind fun x7 => if sk_bi x2 4 = true then (q_X0_end x7.2 x2.toNatClampNeg).bind fun x9 => some ((x7.1 - x4.1), x9) else none else none
set_option maxRecDepth 100000 in
set_option maxHeartbeats 4000000 in
theorem t_X8_extraPlaced_0 {l : Launch} {d : sk_D} {v1 : Int32} {v2 : Int32} {v3 : Int32} {res : Int32 × sk_D} (hq : q_X8_extraPlaced_0 d v1 v2 v3 = some res) :
    sk_G l (sk_rm 6 0 0) m_X8_extraPlaced sk_Ex0 (sk_Zm m_X8_extraPlaced (some (.inl res.1)) (sk_mm res.2)) 0 0 0 [some (.inr (.inr (some (0, 0)))), some (.inl v1), some (.inl v2), some (.inl v3), none, none, none] [] (sk_mm d) := by
  unfold q_X8_extraPlaced_0 at hq
  refine sg_iload_n 1 (sk_td o_X8_extraPlaced 0 rfl) rfl rfl ?_
  refine sg_iload_n 2 (sk_td o_X8_extraPlaced 1 rfl) rfl rfl ?_
  refine sg_iload_n 3 (sk_td o_X8_extraPlaced 2 rfl) rfl rfl ?_
  obtain ⟨x1, hr_x1, hq⟩ := sk_bnd hq
  refine sm_callS3i 6 (s_X8_isGroupKind hr_x1) (sk_td o_X8_extraPlaced 3 rfl) rfl ls_X8_166 rfl (sk_rok (Nat.le_of_ble_eq_true rfl) (Nat.le_of_ble_eq_true rfl) rfl rfl) (Nat.le_of_ble_eq_true rfl) ?_
  refine sg_if_ne 11 9 (sk_td o_X8_extraPlaced 4 rfl) (by decide) rfl (fun hc => ?_) (fun hc => ?_)
  · rw [if_neg hc] at hq
    refine sg_aload_n 12 (sk_td o_X8_extraPlaced 7 rfl) rfl rfl ?_
    obtain ⟨x2, hr_x2, hq⟩ := sk_bnd hq
    refine sm_callV0i 15 (s_X8_freeGroupNumber hr_x2) (sk_td o_X8_extraPlaced 8 rfl) rfl lv_X8_169 rfl rfl rfl sz_0 (sk_rok (Nat.le_of_ble_eq_true rfl) (Nat.le_of_ble_eq_true rfl) rfl rfl) (Nat.le_of_ble_eq_true rfl) ?_
    refine sg_istore 17 [some (.inr (.inr (some (0, 0)))), some (.inl v1), some (.inl v2), some (.inl v3), some (.inl x2), none, none] (sk_td o_X8_extraPlaced 9 rfl) rfl rfl (Nat.le_of_ble_eq_true rfl) rfl ?_
    refine sg_iload 19 (sk_td o_X8_extraPlaced 10 rfl) rfl rfl ?_
    refine sg_iconst (v := (0 : Int32)) 20 (sk_td o_X8_extraPlaced 11 rfl) rfl (by decide) ?_
    refine sg_iconst (v := (3 : Int32)) 21 (sk_td o_X8_extraPlaced 12 rfl) rfl (by decide) ?_
    obtain ⟨x3, hr_x3, hq⟩ := sk_bnd hq
    refine sm_callS3i 24 (s_X8_within hr_x3) (sk_td o_X8_extraPlaced 13 rfl) rfl ls_X8_85 rfl (sk_rok (Nat.le_of_ble_eq_true rfl) (Nat.le_of_ble_eq_true rfl) rfl rfl) (Nat.le_of_ble_eq_true rfl) ?_
    refine sg_if_ne 30 27 (sk_td o_X8_extraPlaced 14 rfl) (by decide) rfl (fun hc => ?_) (fun hc => ?_)
    · rw [if_neg hc] at hq
      refine sg_aload_n 31 (sk_td o_X8_extraPlaced 17 rfl) rfl rfl ?_
      refine sm_getR (6, 0) 34 (sk_td o_X8_extraPlaced 18 rfl) rfl kf_X8_40 rfl rfl sz_0 rfl ?_
      refine sg_aload_n 35 (sk_td o_X8_extraPlaced 19 rfl) rfl rfl ?_
      refine sm_getR (1, 0) 38 (sk_td o_X8_extraPlaced 20 rfl) rfl kf_X8_11 rfl rfl sz_0 rfl ?_
      refine sg_aload_n 39 (sk_td o_X8_extraPlaced 21 rfl) rfl rfl ?_
      refine sm_getR (2, 0) 42 (sk_td o_X8_extraPlaced 22 rfl) rfl kf_X8_17 rfl rfl sz_0 rfl ?_
      refine sg_aload_n 43 (sk_td o_X8_extraPlaced 23 rfl) rfl rfl ?_
      refine sm_getR (5, 0) 46 (sk_td o_X8_extraPlaced 24 rfl) rfl kf_X8_33 rfl rfl sz_0 rfl ?_
      obtain ⟨x4, hr_x4, hq⟩ := sk_bnd hq
      refine sm_callV3i 49 (s_X3_findBest hr_x4) (sk_td o_X8_extraPlaced 25 rfl) rfl lv_X8_191 rfl rfl rfl sz_6 (sk_rok (Nat.le_of_ble_eq_true rfl) (Nat.le_of_ble_eq_true rfl) rfl rfl) (Nat.le_of_ble_eq_true rfl) ?_
      refine sg_istore 51 [some (.inr (.inr (some (0, 0)))), some (.inl v1), some (.inl v2), some (.inl v3), some (.inl x2), some (.inl x4.1), none] (sk_td o_X8_extraPlaced 26 rfl) rfl rfl (Nat.le_of_ble_eq_true rfl) rfl ?_
      refine sg_aload_n 52 (sk_td o_X8_extraPlaced 27 rfl) rfl rfl ?_
      refine sm_getR (2, 0) 55 (sk_td o_X8_extraPlaced 28 rfl) rfl kf_X8_17 rfl rfl sz_0 rfl ?_
      refine sg_iload 57 (sk_td o_X8_extraPlaced 29 rfl) rfl rfl ?_
      obtain ⟨hb5, hq⟩ := sk_ifn hq
      refine sm_aald (39, x2.toNatClampNeg) 58 (sk_td o_X8_extraPlaced 30 rfl) rfl rfl (by decide) sz_2 hb5 (sr_2 (sk_bi.lt hb5)) ?_
      refine sg_iload_n 59 (sk_td o_X8_extraPlaced 31 rfl) rfl rfl ?_
      refine sg_iload_n 60 (sk_td o_X8_extraPlaced 32 rfl) rfl rfl ?_
      refine sg_iload_n 61 (sk_td o_X8_extraPlaced 33 rfl) rfl rfl ?_
      obtain ⟨x6, hr_x6, hq⟩ := sk_bnd hq
      refine sm_callV3v 64 (s_X0_begin hr_x6 (sk_bi.lt hb5)) (sk_td o_X8_extraPlaced 34 rfl) rfl lv_X8_172 rfl rfl rfl (sk_bi.lt hb5) (sk_rok (Nat.le_of_ble_eq_true rfl) (Nat.le_of_ble_eq_true rfl) rfl rfl) (Nat.le_of_ble_eq_true rfl) ?_
      refine sg_aload_n 65 (sk_td o_X8_extraPlaced 35 rfl) rfl rfl ?_
      refine sm_getR (6, 0) 68 (sk_td o_X8_extraPlaced 36 rfl) rfl kf_X8_40 rfl rfl sz_0 rfl ?_
      refine sg_aload_n 69 (sk_td o_X8_extraPlaced 37 rfl) rfl rfl ?_
      refine sm_getR (1, 0) 72 (sk_td o_X8_extraPlaced 38 rfl) rfl kf_X8_11 rfl rfl sz_0 rfl ?_
      refine sg_aload_n 73 (sk_td o_X8_extraPlaced 39 rfl) rfl rfl ?_
      refine sm_getR (2, 0) 76 (sk_td o_X8_extraPlaced 40 rfl) rfl kf_X8_17 rfl rfl sz_0 rfl ?_
      refine sg_aload_n 77 (sk_td o_X8_extraPlaced 41 rfl) rfl rfl ?_
      refine sm_getR (5, 0) 80 (sk_td o_X8_extraPlaced 42 rfl) rfl kf_X8_33 rfl rfl sz_0 rfl ?_
      obtain ⟨x7, hr_x7, hq⟩ := sk_bnd hq
      refine sm_callV3i 83 (s_X3_findBest hr_x7) (sk_td o_X8_extraPlaced 43 rfl) rfl lv_X8_191 rfl rfl rfl sz_6 (sk_rok (Nat.le_of_ble_eq_true rfl) (Nat.le_of_ble_eq_true rfl) rfl rfl) (Nat.le_of_ble_eq_true rfl) ?_
      refine sg_istore 85 [some (.inr (.inr (some (0, 0)))), some (.inl v1), some (.inl v2), some (.inl v3), some (.inl x2), some (.inl x4.1), some (.inl x7.1)] (sk_td o_X8_extraPlaced 44 rfl) rfl rfl (Nat.le_of_ble_eq_true rfl) rfl ?_
      refine sg_aload_n 86 (sk_td o_X8_extraPlaced 45 rfl) rfl rfl ?_
      refine sm_getR (2, 0) 89 (sk_td o_X8_extraPlaced 46 rfl) rfl kf_X8_17 rfl rfl sz_0 rfl ?_
      refine sg_iload 91 (sk_td o_X8_extraPlaced 47 rfl) rfl rfl ?_
      obtain ⟨hb8, hq⟩ := sk_ifn hq
      refine sm_aald (39, x2.toNatClampNeg) 92 (sk_td o_X8_extraPlaced 48 rfl) rfl rfl (by decide) sz_2 hb8 (sr_2 (sk_bi.lt hb8)) ?_
      obtain ⟨x9, hr_x9, hq⟩ := sk_bnd hq
      refine sm_callV0v 95 (s_X0_end hr_x9 (sk_bi.lt hb8)) (sk_td o_X8_extraPlaced 49 rfl) rfl lv_X8_178 rfl rfl rfl (sk_bi.lt hb8) (sk_rok (Nat.le_of_ble_eq_true rfl) (Nat.le_of_ble_eq_true rfl) rfl rfl) (Nat.le_of_ble_eq_true rfl) ?_
      refine sg_iload 97 (sk_td o_X8_extraPlaced 50 rfl) rfl rfl ?_
      refine sg_iload 99 (sk_td o_X8_extraPlaced 51 rfl) rfl rfl ?_
      refine sg_isub 100 (sk_td o_X8_extraPlaced 52 rfl) rfl ?_
      obtain rfl := Option.some.inj hq
      exact sg_iret (sk_td o_X8_extraPlaced 53 rfl) rfl rfl
    · rw [if_pos hc] at hq
      refine sg_bipush (v := (-3 : Int32)) 29 (sk_td o_X8_extraPlaced 15 rfl) rfl (by decide) ?_
      obtain rfl := Option.some.inj hq
      exact sg_iret (sk_td o_X8_extraPlaced 16 rfl) rfl rfl
  · rw [if_pos hc] at hq
    refine sg_iconst (v := (-1 : Int32)) 10 (sk_td o_X8_extraPlaced 5 rfl) rfl (by decide) ?_
    obtain rfl := Option.some.inj hq
    exact sg_iret (sk_td o_X8_extraPlaced 6 rfl) rfl rfl
def q_X8_extraPlaced (d : sk_D) (v1 : Int32) (v2 : Int32) (v3 : Int32) : Option (Int32 × sk_D) := q_X8_extraPlaced_0 d v1 v2 v3 
theorem s_X8_extraPlaced {l : Launch} {d : sk_D} {v1 : Int32} {v2 : Int32} {v3 : Int32} {res : Int32 × sk_D} (hq : q_X8_extraPlaced d v1 v2 v3 = some res) : sk_M l 6 m_X8_extraPlaced [.inr (.inr (some (0, 0))), .inl v1, .inl v2, .inl v3] (sk_mm d) (some (.inl res.1)) (sk_mm res.2) :=
  sk_enter (by decide) (fun _ => Nat.le_of_ble_eq_true rfl) (Nat.le_of_ble_eq_true rfl) (t_X8_extraPlaced_0 hq )
def q_X8_splitGain_63 (d : sk_D) (v1 : Int32) (v2 : Int32) : Option (Int32 × sk_D) :=
  (q_X3_findBest d).bind fun x1 => if sk_bi v1 8 = true then some ((x1.1 - v2), (sk_wi x1.2 5 0 v1.toNatClampNeg (vp_nar .boolean (1 : Int32)))) else none
set_option maxRecDepth 100000 in
set_option maxHeartbeats 4000000 in
theorem t_X8_splitGain_63 {l : Launch} {d : sk_D} {v1 : Int32} {v2 : Int32} {res : Int32 × sk_D} (hq : q_X8_splitGain_63 d v1 v2 = some res) :
    sk_G l (sk_rm 6 0 0) m_X8_splitGain sk_Ex0 (sk_Zm m_X8_splitGain (some (.inl res.1)) (sk_mm res.2)) 0 0 63 [some (.inr (.inr (some (0, 0)))), some (.inl v1), some (.inl v2), none] [.inr (.inr (some (5, 0))), .inr (.inr (some (2, 0))), .inr (.inr (some (1, 0))), .inr (.inr (some (6, 0)))] (sk_mm d) := by
  unfold q_X8_splitGain_63 at hq
  obtain ⟨x1, hr_x1, hq⟩ := sk_bnd hq
  refine sm_callV3i 66 (s_X3_findBest hr_x1) (sk_td o_X8_splitGain 35 rfl) rfl lv_X8_191 rfl rfl rfl sz_6 (sk_rok (Nat.le_of_ble_eq_true rfl) (Nat.le_of_ble_eq_true rfl) rfl rfl) (Nat.le_of_ble_eq_true rfl) ?_
  refine sg_istore_n 67 [some (.inr (.inr (some (0, 0)))), some (.inl v1), some (.inl v2), some (.inl x1.1)] (sk_td o_X8_splitGain 36 rfl) rfl rfl (Nat.le_of_ble_eq_true rfl) rfl ?_
  refine sg_aload_n 68 (sk_td o_X8_splitGain 37 rfl) rfl rfl ?_
  refine sm_getR (5, 0) 71 (sk_td o_X8_splitGain 38 rfl) rfl kf_X8_33 rfl rfl sz_0 rfl ?_
  refine sg_iload_n 72 (sk_td o_X8_splitGain 39 rfl) rfl rfl ?_
  refine sg_iconst (v := (1 : Int32)) 73 (sk_td o_X8_splitGain 40 rfl) rfl (by decide) ?_
  obtain ⟨hb2, hq⟩ := sk_ifn hq
  refine sm_zast 74 (sk_td o_X8_splitGain 41 rfl) rfl rfl sz_5 hb2 ?_
  refine sg_iload_n 75 (sk_td o_X8_splitGain 42 rfl) rfl rfl ?_
  refine sg_iload_n 76 (sk_td o_X8_splitGain 43 rfl) rfl rfl ?_
  refine sg_isub 77 (sk_td o_X8_splitGain 44 rfl) rfl ?_
  obtain rfl := Option.some.inj hq
  exact sg_iret (sk_td o_X8_splitGain 45 rfl) rfl rfl
def q_X8_splitGain_0 (d : sk_D) (v1 : Int32) : Option (Int32 × sk_D) :=
  (q_X8_isFamily d v1).bind fun x1 => if x1 = 0 then some ((-1 : Int32), d) else if sk_bi v1 8 = true then if (d.1 5 0 v1.toNatClampNeg) = 0 then some ((0 : Int32), d) else (q_X3_findBest d).bind fun x3 => if sk_bi v1 8 = true then (q_X8_splitGain_63 (sk_wi x3.2 5 0 v1.toNatClampNeg (vp_nar .boolean (0 : Int32))) v1 x3.1) else none else none
set_option maxRecDepth 100000 in
set_option maxHeartbeats 4000000 in
theorem t_X8_splitGain_0 {l : Launch} {d : sk_D} {v1 : Int32} {res : Int32 × sk_D} (hq : q_X8_splitGain_0 d v1 = some res) :
    sk_G l (sk_rm 6 0 0) m_X8_splitGain sk_Ex0 (sk_Zm m_X8_splitGain (some (.inl res.1)) (sk_mm res.2)) 0 0 0 [some (.inr (.inr (some (0, 0)))), some (.inl v1), none, none] [] (sk_mm d) := by
  unfold q_X8_splitGain_0 at hq
  refine sg_iload_n 1 (sk_td o_X8_splitGain 0 rfl) rfl rfl ?_
  obtain ⟨x1, hr_x1, hq⟩ := sk_bnd hq
  refine sm_callS1i 4 (s_X8_isFamily hr_x1) (sk_td o_X8_splitGain 1 rfl) rfl ls_X8_89 rfl (sk_rok (Nat.le_of_ble_eq_true rfl) (Nat.le_of_ble_eq_true rfl) rfl rfl) (Nat.le_of_ble_eq_true rfl) ?_
  refine sg_if_ne 9 7 (sk_td o_X8_splitGain 2 rfl) (by decide) rfl (fun hc => ?_) (fun hc => ?_)
  · rw [if_neg hc] at hq
    refine sg_aload_n 10 (sk_td o_X8_splitGain 5 rfl) rfl rfl ?_
    refine sm_getR (5, 0) 13 (sk_td o_X8_splitGain 6 rfl) rfl kf_X8_33 rfl rfl sz_0 rfl ?_
    refine sg_iload_n 14 (sk_td o_X8_splitGain 7 rfl) rfl rfl ?_
    obtain ⟨hb2, hq⟩ := sk_ifn hq
    refine sm_zald 15 (sk_td o_X8_splitGain 8 rfl) rfl rfl sz_5 hb2 ?_
    refine sg_if_ne 20 18 (sk_td o_X8_splitGain 9 rfl) (by decide) rfl (fun hc => ?_) (fun hc => ?_)
    · rw [if_neg hc] at hq
      refine sg_aload_n 21 (sk_td o_X8_splitGain 12 rfl) rfl rfl ?_
      refine sm_getR (6, 0) 24 (sk_td o_X8_splitGain 13 rfl) rfl kf_X8_40 rfl rfl sz_0 rfl ?_
      refine sg_aload_n 25 (sk_td o_X8_splitGain 14 rfl) rfl rfl ?_
      refine sm_getR (1, 0) 28 (sk_td o_X8_splitGain 15 rfl) rfl kf_X8_11 rfl rfl sz_0 rfl ?_
      refine sg_aload_n 29 (sk_td o_X8_splitGain 16 rfl) rfl rfl ?_
      refine sm_getR (2, 0) 32 (sk_td o_X8_splitGain 17 rfl) rfl kf_X8_17 rfl rfl sz_0 rfl ?_
      refine sg_aload_n 33 (sk_td o_X8_splitGain 18 rfl) rfl rfl ?_
      refine sm_getR (5, 0) 36 (sk_td o_X8_splitGain 19 rfl) rfl kf_X8_33 rfl rfl sz_0 rfl ?_
      obtain ⟨x3, hr_x3, hq⟩ := sk_bnd hq
      refine sm_callV3i 39 (s_X3_findBest hr_x3) (sk_td o_X8_splitGain 20 rfl) rfl lv_X8_191 rfl rfl rfl sz_6 (sk_rok (Nat.le_of_ble_eq_true rfl) (Nat.le_of_ble_eq_true rfl) rfl rfl) (Nat.le_of_ble_eq_true rfl) ?_
      refine sg_istore_n 40 [some (.inr (.inr (some (0, 0)))), some (.inl v1), some (.inl x3.1), none] (sk_td o_X8_splitGain 21 rfl) rfl rfl (Nat.le_of_ble_eq_true rfl) rfl ?_
      refine sg_aload_n 41 (sk_td o_X8_splitGain 22 rfl) rfl rfl ?_
      refine sm_getR (5, 0) 44 (sk_td o_X8_splitGain 23 rfl) rfl kf_X8_33 rfl rfl sz_0 rfl ?_
      refine sg_iload_n 45 (sk_td o_X8_splitGain 24 rfl) rfl rfl ?_
      refine sg_iconst (v := (0 : Int32)) 46 (sk_td o_X8_splitGain 25 rfl) rfl (by decide) ?_
      obtain ⟨hb4, hq⟩ := sk_ifn hq
      refine sm_zast 47 (sk_td o_X8_splitGain 26 rfl) rfl rfl sz_5 hb4 ?_
      refine sg_aload_n 48 (sk_td o_X8_splitGain 27 rfl) rfl rfl ?_
      refine sm_getR (6, 0) 51 (sk_td o_X8_splitGain 28 rfl) rfl kf_X8_40 rfl rfl sz_0 rfl ?_
      refine sg_aload_n 52 (sk_td o_X8_splitGain 29 rfl) rfl rfl ?_
      refine sm_getR (1, 0) 55 (sk_td o_X8_splitGain 30 rfl) rfl kf_X8_11 rfl rfl sz_0 rfl ?_
      refine sg_aload_n 56 (sk_td o_X8_splitGain 31 rfl) rfl rfl ?_
      refine sm_getR (2, 0) 59 (sk_td o_X8_splitGain 32 rfl) rfl kf_X8_17 rfl rfl sz_0 rfl ?_
      refine sg_aload_n 60 (sk_td o_X8_splitGain 33 rfl) rfl rfl ?_
      refine sm_getR (5, 0) 63 (sk_td o_X8_splitGain 34 rfl) rfl kf_X8_33 rfl rfl sz_0 rfl ?_
      exact t_X8_splitGain_63 hq
    · rw [if_pos hc] at hq
      refine sg_iconst (v := (0 : Int32)) 19 (sk_td o_X8_splitGain 10 rfl) rfl (by decide) ?_
      obtain rfl := Option.some.inj hq
      exact sg_iret (sk_td o_X8_splitGain 11 rfl) rfl rfl
  · rw [if_pos hc] at hq
    refine sg_iconst (v := (-1 : Int32)) 8 (sk_td o_X8_splitGain 3 rfl) rfl (by decide) ?_
    obtain rfl := Option.some.inj hq
    exact sg_iret (sk_td o_X8_splitGain 4 rfl) rfl rfl
def q_X8_splitGain (d : sk_D) (v1 : Int32) : Option (Int32 × sk_D) := q_X8_splitGain_0 d v1 
theorem s_X8_splitGain {l : Launch} {d : sk_D} {v1 : Int32} {res : Int32 × sk_D} (hq : q_X8_splitGain d v1 = some res) : sk_M l 6 m_X8_splitGain [.inr (.inr (some (0, 0))), .inl v1] (sk_mm d) (some (.inl res.1)) (sk_mm res.2) :=
  sk_enter (by decide) (fun _ => Nat.le_of_ble_eq_true rfl) (Nat.le_of_ble_eq_true rfl) (t_X8_splitGain_0 hq )
def q_X8_freeInstructorNumber_2 (rec2 : (Int32) → Option (Int32)) (d : sk_D) (v1 : Int32) : Option (Int32) :=
  if (8 : Int32) ≤ v1 then some (-9 : Int32) else if sk_bi v1 8 = true then if (d.1 42 v1.toNatClampNeg 0) = 0 then some v1 else (rec2 (v1 + (1 : Int32))) else none
set_option maxRecDepth 100000 in
set_option maxHeartbeats 4000000 in
theorem t_X8_freeInstructorNumber_2 {l : Launch} {rec2 : (Int32) → Option (Int32)} {d : sk_D} {v1 : Int32} (hrec2 : ∀ (a : (Int32)) (res : Int32), rec2 a = some res → sk_G l (sk_rm 1 0 0) m_X8_freeInstructorNumber sk_Ex0 (sk_Zm m_X8_freeInstructorNumber (some (.inl res)) (sk_mm d)) 0 0 2 [some (.inr (.inr (some (0, 0)))), some (.inl a)] [] (sk_mm d)) {res : Int32} (hq : q_X8_freeInstructorNumber_2 rec2 d v1 = some res) :
    sk_G l (sk_rm 1 0 0) m_X8_freeInstructorNumber sk_Ex0 (sk_Zm m_X8_freeInstructorNumber (some (.inl res)) (sk_mm d)) 0 0 2 [some (.inr (.inr (some (0, 0)))), some (.inl v1)] [] (sk_mm d) := by
  unfold q_X8_freeInstructorNumber_2 at hq
  refine sg_iload_n 3 (sk_td o_X8_freeInstructorNumber 2 rfl) rfl rfl ?_
  refine sg_bipush (v := (8 : Int32)) 5 (sk_td o_X8_freeInstructorNumber 3 rfl) rfl (by decide) ?_
  refine sg_ic_ge 28 8 (sk_td o_X8_freeInstructorNumber 4 rfl) (by decide) rfl (fun hc => ?_) (fun hc => ?_)
  · rw [if_pos hc] at hq
    refine sg_bipush (v := (-9 : Int32)) 30 (sk_td o_X8_freeInstructorNumber 15 rfl) rfl (by decide) ?_
    obtain rfl := Option.some.inj hq
    exact sg_iret (sk_td o_X8_freeInstructorNumber 16 rfl) rfl rfl
  · rw [if_neg hc] at hq
    refine sg_aload_n 9 (sk_td o_X8_freeInstructorNumber 5 rfl) rfl rfl ?_
    refine sm_getR (3, 0) 12 (sk_td o_X8_freeInstructorNumber 6 rfl) rfl kf_X8_23 rfl rfl sz_0 rfl ?_
    refine sg_iload_n 13 (sk_td o_X8_freeInstructorNumber 7 rfl) rfl rfl ?_
    obtain ⟨hb1, hq⟩ := sk_ifn hq
    refine sm_aald (42, v1.toNatClampNeg) 14 (sk_td o_X8_freeInstructorNumber 8 rfl) rfl rfl (by decide) sz_3 hb1 (sr_3 (sk_bi.lt hb1)) ?_
    refine sm_getI 17 (sk_td o_X8_freeInstructorNumber 9 rfl) rfl kf_X8_208 rfl rfl (sk_bi.lt hb1) ?_
    refine sg_if_ne 22 20 (sk_td o_X8_freeInstructorNumber 10 rfl) (by decide) rfl (fun hc => ?_) (fun hc => ?_)
    · rw [if_neg hc] at hq
      refine sg_iinc (v1 + (1 : Int32)) 25 [some (.inr (.inr (some (0, 0)))), some (.inl (v1 + (1 : Int32)))] (sk_td o_X8_freeInstructorNumber 13 rfl) rfl rfl rfl rfl (Nat.le_of_ble_eq_true rfl) rfl ?_
      refine sg_goto 2 (sk_td o_X8_freeInstructorNumber 14 rfl) (by decide) ?_
      exact hrec2 (v1 + (1 : Int32)) _ hq
    · rw [if_pos hc] at hq
      refine sg_iload_n 21 (sk_td o_X8_freeInstructorNumber 11 rfl) rfl rfl ?_
      obtain rfl := Option.some.inj hq
      exact sg_iret (sk_td o_X8_freeInstructorNumber 12 rfl) rfl rfl
def l_X8_freeInstructorNumber_2 (d : sk_D) (fl : Nat) (a : (Int32)) : Option (Int32) := sk_it (fun rec2 a => q_X8_freeInstructorNumber_2 rec2 d a) fl a
theorem lt_X8_freeInstructorNumber_2 {l : Launch} {d : sk_D} : ∀ (fl : Nat) (a : (Int32)) (res : Int32), l_X8_freeInstructorNumber_2 d fl a = some res → sk_G l (sk_rm 1 0 0) m_X8_freeInstructorNumber sk_Ex0 (sk_Zm m_X8_freeInstructorNumber (some (.inl res)) (sk_mm d)) 0 0 2 [some (.inr (.inr (some (0, 0)))), some (.inl a)] [] (sk_mm d) :=
  sk_it_ind (P := fun (a : (Int32)) (res : Int32) => sk_G l (sk_rm 1 0 0) m_X8_freeInstructorNumber sk_Ex0 (sk_Zm m_X8_freeInstructorNumber (some (.inl res)) (sk_mm d)) 0 0 2 [some (.inr (.inr (some (0, 0)))), some (.inl a)] [] (sk_mm d)) (fun rec2 hrec2 a res hq  => t_X8_freeInstructorNumber_2 hrec2 hq )
def q_X8_freeInstructorNumber_0 (d : sk_D) : Option (Int32) :=
  (l_X8_freeInstructorNumber_2 d sk_fu (0 : Int32))
set_option maxRecDepth 100000 in
set_option maxHeartbeats 4000000 in
theorem t_X8_freeInstructorNumber_0 {l : Launch} {d : sk_D} {res : Int32} (hq : q_X8_freeInstructorNumber_0 d = some res) :
    sk_G l (sk_rm 1 0 0) m_X8_freeInstructorNumber sk_Ex0 (sk_Zm m_X8_freeInstructorNumber (some (.inl res)) (sk_mm d)) 0 0 0 [some (.inr (.inr (some (0, 0)))), none] [] (sk_mm d) := by
  unfold q_X8_freeInstructorNumber_0 at hq
  refine sg_iconst (v := (0 : Int32)) 1 (sk_td o_X8_freeInstructorNumber 0 rfl) rfl (by decide) ?_
  refine sg_istore_n 2 [some (.inr (.inr (some (0, 0)))), some (.inl (0 : Int32))] (sk_td o_X8_freeInstructorNumber 1 rfl) rfl rfl (Nat.le_of_ble_eq_true rfl) rfl ?_
  exact lt_X8_freeInstructorNumber_2 sk_fu (0 : Int32) _ hq
def q_X8_freeInstructorNumber (d : sk_D) : Option (Int32) := q_X8_freeInstructorNumber_0 d 
theorem s_X8_freeInstructorNumber {l : Launch} {d : sk_D} {res : Int32} (hq : q_X8_freeInstructorNumber d = some res) : sk_M l 1 m_X8_freeInstructorNumber [.inr (.inr (some (0, 0)))] (sk_mm d) (some (.inl res)) (sk_mm d) :=
  sk_enter (by decide) (fun _ => Nat.le_of_ble_eq_true rfl) (Nat.le_of_ble_eq_true rfl) (t_X8_freeInstructorNumber_0 hq )
def q_X8_hire_0 (d : sk_D) (v1 : Int32) (v2 : Int32) (v3 : Int32) (v4 : Int32) : Option (Int32 × sk_D) :=
  (q_X8_within d v1 (1 : Int32) (63 : Int32)).bind fun x1 => if x1 = 0 then some ((-1 : Int32), d) else (q_X8_within d v4 (1 : Int32) (999999 : Int32)).bind fun x2 => if x2 = 0 then some ((-1 : Int32), d) else (q_X8_within d v2 (0 : Int32) (7 : Int32)).bind fun x3 => if x3 = 0 then some ((-1 : Int32), d) else (q_X8_within d v3 v2 (7 : Int32)).bind fun x4 => if x4 = 0 then some ((-1 : Int32), d) else (q_X8_freeInstructorNumber d).bind fun x5 => (q_X8_within d x5 (0 : Int32) (7 : Int32)).bind fun x6 => if x6 = 0 then some ((-3 : Int32), d) else if sk_bi x5 8 = true then (q_X1_begin d x5.toNatClampNeg v1 v2 v3 v4).bind fun x8 => some (x5, x8) else none
set_option maxRecDepth 100000 in
set_option maxHeartbeats 4000000 in
theorem t_X8_hire_0 {l : Launch} {d : sk_D} {v1 : Int32} {v2 : Int32} {v3 : Int32} {v4 : Int32} {res : Int32 × sk_D} (hq : q_X8_hire_0 d v1 v2 v3 v4 = some res) :
    sk_G l (sk_rm 2 0 0) m_X8_hire sk_Ex0 (sk_Zm m_X8_hire (some (.inl res.1)) (sk_mm res.2)) 0 0 0 [some (.inr (.inr (some (0, 0)))), some (.inl v1), some (.inl v2), some (.inl v3), some (.inl v4), none] [] (sk_mm d) := by
  unfold q_X8_hire_0 at hq
  refine sg_iload_n 1 (sk_td o_X8_hire 0 rfl) rfl rfl ?_
  refine sg_iconst (v := (1 : Int32)) 2 (sk_td o_X8_hire 1 rfl) rfl (by decide) ?_
  refine sg_bipush (v := (63 : Int32)) 4 (sk_td o_X8_hire 2 rfl) rfl (by decide) ?_
  obtain ⟨x1, hr_x1, hq⟩ := sk_bnd hq
  refine sm_callS3i 7 (s_X8_within hr_x1) (sk_td o_X8_hire 3 rfl) rfl ls_X8_85 rfl (sk_rok (Nat.le_of_ble_eq_true rfl) (Nat.le_of_ble_eq_true rfl) rfl rfl) (Nat.le_of_ble_eq_true rfl) ?_
  refine sg_if_eq 21 10 (sk_td o_X8_hire 4 rfl) (by decide) rfl (fun hc => ?_) (fun hc => ?_)
  · rw [if_pos hc] at hq
    refine sg_iconst (v := (-1 : Int32)) 22 (sk_td o_X8_hire 10 rfl) rfl (by decide) ?_
    obtain rfl := Option.some.inj hq
    exact sg_iret (sk_td o_X8_hire 11 rfl) rfl rfl
  · rw [if_neg hc] at hq
    refine sg_iload 12 (sk_td o_X8_hire 5 rfl) rfl rfl ?_
    refine sg_iconst (v := (1 : Int32)) 13 (sk_td o_X8_hire 6 rfl) rfl (by decide) ?_
    refine sg_ldc 15 (sk_td o_X8_hire 7 rfl) rfl kc_X8_198 ?_
    obtain ⟨x2, hr_x2, hq⟩ := sk_bnd hq
    refine sm_callS3i 18 (s_X8_within hr_x2) (sk_td o_X8_hire 8 rfl) rfl ls_X8_85 rfl (sk_rok (Nat.le_of_ble_eq_true rfl) (Nat.le_of_ble_eq_true rfl) rfl rfl) (Nat.le_of_ble_eq_true rfl) ?_
    refine sg_if_ne 23 21 (sk_td o_X8_hire 9 rfl) (by decide) rfl (fun hc => ?_) (fun hc => ?_)
    · rw [if_neg hc] at hq
      refine sg_iload_n 24 (sk_td o_X8_hire 12 rfl) rfl rfl ?_
      refine sg_iconst (v := (0 : Int32)) 25 (sk_td o_X8_hire 13 rfl) rfl (by decide) ?_
      refine sg_bipush (v := (7 : Int32)) 27 (sk_td o_X8_hire 14 rfl) rfl (by decide) ?_
      obtain ⟨x3, hr_x3, hq⟩ := sk_bnd hq
      refine sm_callS3i 30 (s_X8_within hr_x3) (sk_td o_X8_hire 15 rfl) rfl ls_X8_85 rfl (sk_rok (Nat.le_of_ble_eq_true rfl) (Nat.le_of_ble_eq_true rfl) rfl rfl) (Nat.le_of_ble_eq_true rfl) ?_
      refine sg_if_eq 43 33 (sk_td o_X8_hire 16 rfl) (by decide) rfl (fun hc => ?_) (fun hc => ?_)
      · rw [if_pos hc] at hq
        refine sg_iconst (v := (-1 : Int32)) 44 (sk_td o_X8_hire 22 rfl) rfl (by decide) ?_
        obtain rfl := Option.some.inj hq
        exact sg_iret (sk_td o_X8_hire 23 rfl) rfl rfl
      · rw [if_neg hc] at hq
        refine sg_iload_n 34 (sk_td o_X8_hire 17 rfl) rfl rfl ?_
        refine sg_iload_n 35 (sk_td o_X8_hire 18 rfl) rfl rfl ?_
        refine sg_bipush (v := (7 : Int32)) 37 (sk_td o_X8_hire 19 rfl) rfl (by decide) ?_
        obtain ⟨x4, hr_x4, hq⟩ := sk_bnd hq
        refine sm_callS3i 40 (s_X8_within hr_x4) (sk_td o_X8_hire 20 rfl) rfl ls_X8_85 rfl (sk_rok (Nat.le_of_ble_eq_true rfl) (Nat.le_of_ble_eq_true rfl) rfl rfl) (Nat.le_of_ble_eq_true rfl) ?_
        refine sg_if_ne 45 43 (sk_td o_X8_hire 21 rfl) (by decide) rfl (fun hc => ?_) (fun hc => ?_)
        · rw [if_neg hc] at hq
          refine sg_aload_n 46 (sk_td o_X8_hire 24 rfl) rfl rfl ?_
          obtain ⟨x5, hr_x5, hq⟩ := sk_bnd hq
          refine sm_callV0i 49 (s_X8_freeInstructorNumber hr_x5) (sk_td o_X8_hire 25 rfl) rfl lv_X8_199 rfl rfl rfl sz_0 (sk_rok (Nat.le_of_ble_eq_true rfl) (Nat.le_of_ble_eq_true rfl) rfl rfl) (Nat.le_of_ble_eq_true rfl) ?_
          refine sg_istore 51 [some (.inr (.inr (some (0, 0)))), some (.inl v1), some (.inl v2), some (.inl v3), some (.inl v4), some (.inl x5)] (sk_td o_X8_hire 26 rfl) rfl rfl (Nat.le_of_ble_eq_true rfl) rfl ?_
          refine sg_iload 53 (sk_td o_X8_hire 27 rfl) rfl rfl ?_
          refine sg_iconst (v := (0 : Int32)) 54 (sk_td o_X8_hire 28 rfl) rfl (by decide) ?_
          refine sg_bipush (v := (7 : Int32)) 56 (sk_td o_X8_hire 29 rfl) rfl (by decide) ?_
          obtain ⟨x6, hr_x6, hq⟩ := sk_bnd hq
          refine sm_callS3i 59 (s_X8_within hr_x6) (sk_td o_X8_hire 30 rfl) rfl ls_X8_85 rfl (sk_rok (Nat.le_of_ble_eq_true rfl) (Nat.le_of_ble_eq_true rfl) rfl rfl) (Nat.le_of_ble_eq_true rfl) ?_
          refine sg_if_ne 65 62 (sk_td o_X8_hire 31 rfl) (by decide) rfl (fun hc => ?_) (fun hc => ?_)
          · rw [if_neg hc] at hq
            refine sg_aload_n 66 (sk_td o_X8_hire 34 rfl) rfl rfl ?_
            refine sm_getR (3, 0) 69 (sk_td o_X8_hire 35 rfl) rfl kf_X8_23 rfl rfl sz_0 rfl ?_
            refine sg_iload 71 (sk_td o_X8_hire 36 rfl) rfl rfl ?_
            obtain ⟨hb7, hq⟩ := sk_ifn hq
            refine sm_aald (42, x5.toNatClampNeg) 72 (sk_td o_X8_hire 37 rfl) rfl rfl (by decide) sz_3 hb7 (sr_3 (sk_bi.lt hb7)) ?_
            refine sg_iload_n 73 (sk_td o_X8_hire 38 rfl) rfl rfl ?_
            refine sg_iload_n 74 (sk_td o_X8_hire 39 rfl) rfl rfl ?_
            refine sg_iload_n 75 (sk_td o_X8_hire 40 rfl) rfl rfl ?_
            refine sg_iload 77 (sk_td o_X8_hire 41 rfl) rfl rfl ?_
            obtain ⟨x8, hr_x8, hq⟩ := sk_bnd hq
            refine sm_callV4v 80 (s_X1_begin hr_x8 (sk_bi.lt hb7)) (sk_td o_X8_hire 42 rfl) rfl lv_X8_202 rfl rfl rfl (sk_bi.lt hb7) (sk_rok (Nat.le_of_ble_eq_true rfl) (Nat.le_of_ble_eq_true rfl) rfl rfl) (Nat.le_of_ble_eq_true rfl) ?_
            refine sg_iload 82 (sk_td o_X8_hire 43 rfl) rfl rfl ?_
            obtain rfl := Option.some.inj hq
            exact sg_iret (sk_td o_X8_hire 44 rfl) rfl rfl
          · rw [if_pos hc] at hq
            refine sg_bipush (v := (-3 : Int32)) 64 (sk_td o_X8_hire 32 rfl) rfl (by decide) ?_
            obtain rfl := Option.some.inj hq
            exact sg_iret (sk_td o_X8_hire 33 rfl) rfl rfl
        · rw [if_pos hc] at hq
          refine sg_iconst (v := (-1 : Int32)) 44 (sk_td o_X8_hire 22 rfl) rfl (by decide) ?_
          obtain rfl := Option.some.inj hq
          exact sg_iret (sk_td o_X8_hire 23 rfl) rfl rfl
    · rw [if_pos hc] at hq
      refine sg_iconst (v := (-1 : Int32)) 22 (sk_td o_X8_hire 10 rfl) rfl (by decide) ?_
      obtain rfl := Option.some.inj hq
      exact sg_iret (sk_td o_X8_hire 11 rfl) rfl rfl
def q_X8_hire (d : sk_D) (v1 : Int32) (v2 : Int32) (v3 : Int32) (v4 : Int32) : Option (Int32 × sk_D) := q_X8_hire_0 d v1 v2 v3 v4 
theorem s_X8_hire {l : Launch} {d : sk_D} {v1 : Int32} {v2 : Int32} {v3 : Int32} {v4 : Int32} {res : Int32 × sk_D} (hq : q_X8_hire d v1 v2 v3 v4 = some res) : sk_M l 2 m_X8_hire [.inr (.inr (some (0, 0))), .inl v1, .inl v2, .inl v3, .inl v4] (sk_mm d) (some (.inl res.1)) (sk_mm res.2) :=
  sk_enter (by decide) (fun _ => Nat.le_of_ble_eq_true rfl) (Nat.le_of_ble_eq_true rfl) (t_X8_hire_0 hq )
def q_X8_isActive_0 (d : sk_D) (v1 : Int32) : Option (Int32) :=
  (q_X8_hasGroup d v1).bind fun x1 => if x1 = 0 then some (0 : Int32) else (q_X8_countPupilsIn d v1).bind fun x2 => if x2 ≤ 0 then some (0 : Int32) else some (1 : Int32)
set_option maxRecDepth 100000 in
set_option maxHeartbeats 4000000 in
theorem t_X8_isActive_0 {l : Launch} {d : sk_D} {v1 : Int32} {res : Int32} (hq : q_X8_isActive_0 d v1 = some res) :
    sk_G l (sk_rm 3 0 0) m_X8_isActive sk_Ex0 (sk_Zm m_X8_isActive (some (.inl res)) (sk_mm d)) 0 0 0 [some (.inr (.inr (some (0, 0)))), some (.inl v1)] [] (sk_mm d) := by
  unfold q_X8_isActive_0 at hq
  refine sg_aload_n 1 (sk_td o_X8_isActive 0 rfl) rfl rfl ?_
  refine sg_iload_n 2 (sk_td o_X8_isActive 1 rfl) rfl rfl ?_
  obtain ⟨x1, hr_x1, hq⟩ := sk_bnd hq
  refine sm_callV1i 5 (s_X8_hasGroup hr_x1) (sk_td o_X8_isActive 2 rfl) rfl lv_X8_159 rfl rfl rfl sz_0 (sk_rok (Nat.le_of_ble_eq_true rfl) (Nat.le_of_ble_eq_true rfl) rfl rfl) (Nat.le_of_ble_eq_true rfl) ?_
  refine sg_if_eq 20 8 (sk_td o_X8_isActive 3 rfl) (by decide) rfl (fun hc => ?_) (fun hc => ?_)
  · rw [if_pos hc] at hq
    refine sg_iconst (v := (0 : Int32)) 21 (sk_td o_X8_isActive 10 rfl) rfl (by decide) ?_
    obtain rfl := Option.some.inj hq
    exact sg_iret (sk_td o_X8_isActive 11 rfl) rfl (show narrow .boolean (.int (0 : Int32)) = .int (0 : Int32) by decide)
  · rw [if_neg hc] at hq
    refine sg_aload_n 9 (sk_td o_X8_isActive 4 rfl) rfl rfl ?_
    refine sg_iload_n 10 (sk_td o_X8_isActive 5 rfl) rfl rfl ?_
    obtain ⟨x2, hr_x2, hq⟩ := sk_bnd hq
    refine sm_callV1i 13 (s_X8_countPupilsIn hr_x2) (sk_td o_X8_isActive 6 rfl) rfl lv_X8_185 rfl rfl rfl sz_0 (sk_rok (Nat.le_of_ble_eq_true rfl) (Nat.le_of_ble_eq_true rfl) rfl rfl) (Nat.le_of_ble_eq_true rfl) ?_
    refine sg_if_le 20 16 (sk_td o_X8_isActive 7 rfl) (by decide) rfl (fun hc => ?_) (fun hc => ?_)
    · rw [if_pos hc] at hq
      refine sg_iconst (v := (0 : Int32)) 21 (sk_td o_X8_isActive 10 rfl) rfl (by decide) ?_
      obtain rfl := Option.some.inj hq
      exact sg_iret (sk_td o_X8_isActive 11 rfl) rfl (show narrow .boolean (.int (0 : Int32)) = .int (0 : Int32) by decide)
    · rw [if_neg hc] at hq
      refine sg_iconst (v := (1 : Int32)) 17 (sk_td o_X8_isActive 8 rfl) rfl (by decide) ?_
      refine sg_goto 21 (sk_td o_X8_isActive 9 rfl) (by decide) ?_
      obtain rfl := Option.some.inj hq
      exact sg_iret (sk_td o_X8_isActive 11 rfl) rfl (show narrow .boolean (.int (1 : Int32)) = .int (1 : Int32) by decide)
def q_X8_isActive (d : sk_D) (v1 : Int32) : Option (Int32) := q_X8_isActive_0 d v1 
theorem s_X8_isActive {l : Launch} {d : sk_D} {v1 : Int32} {res : Int32} (hq : q_X8_isActive d v1 = some res) : sk_M l 3 m_X8_isActive [.inr (.inr (some (0, 0))), .inl v1] (sk_mm d) (some (.inl res)) (sk_mm d) :=
  sk_enter (by decide) (fun _ => Nat.le_of_ble_eq_true rfl) (Nat.le_of_ble_eq_true rfl) (t_X8_isActive_0 hq )
def q_X8_staff_54 (rec54 : (sk_D × Int32 × Int32) → Option (Int32 × sk_D)) (d : sk_D) (v1 : Int32) (v2 : Int32) : Option (Int32 × sk_D) :=
  if (4 : Int32) ≤ v2 then some (v1, d) else if sk_bi v2 4 = true then if sk_bi v2 4 = true then (rec54 ((sk_wi d 39 v2.toNatClampNeg 4 (d.1 21 0 v2.toNatClampNeg)), v1, (v2 + (1 : Int32)))) else none else none
set_option maxRecDepth 100000 in
set_option maxHeartbeats 4000000 in
theorem t_X8_staff_54 {l : Launch} {rec54 : (sk_D × Int32 × Int32) → Option (Int32 × sk_D)} {d : sk_D} {v1 : Int32} {v2 : Int32} (hrec54 : ∀ (a : (sk_D × Int32 × Int32)) (res : Int32 × sk_D), rec54 a = some res → sk_G l (sk_rm 13 0 0) m_X8_staff sk_Ex0 (sk_Zm m_X8_staff (some (.inl res.1)) (sk_mm res.2)) 0 0 54 [some (.inr (.inr (some (0, 0)))), some (.inl a.2.1), some (.inl a.2.2)] [] (sk_mm a.1)) {res : Int32 × sk_D} (hq : q_X8_staff_54 rec54 d v1 v2 = some res) :
    sk_G l (sk_rm 13 0 0) m_X8_staff sk_Ex0 (sk_Zm m_X8_staff (some (.inl res.1)) (sk_mm res.2)) 0 0 54 [some (.inr (.inr (some (0, 0)))), some (.inl v1), some (.inl v2)] [] (sk_mm d) := by
  unfold q_X8_staff_54 at hq
  refine sg_iload_n 55 (sk_td o_X8_staff 30 rfl) rfl rfl ?_
  refine sg_iconst (v := (4 : Int32)) 56 (sk_td o_X8_staff 31 rfl) rfl (by decide) ?_
  refine sg_ic_ge 83 59 (sk_td o_X8_staff 32 rfl) (by decide) rfl (fun hc => ?_) (fun hc => ?_)
  · rw [if_pos hc] at hq
    refine sg_iload_n 84 (sk_td o_X8_staff 45 rfl) rfl rfl ?_
    obtain rfl := Option.some.inj hq
    exact sg_iret (sk_td o_X8_staff 46 rfl) rfl rfl
  · rw [if_neg hc] at hq
    refine sg_aload_n 60 (sk_td o_X8_staff 33 rfl) rfl rfl ?_
    refine sm_getR (2, 0) 63 (sk_td o_X8_staff 34 rfl) rfl kf_X8_17 rfl rfl sz_0 rfl ?_
    refine sg_iload_n 64 (sk_td o_X8_staff 35 rfl) rfl rfl ?_
    obtain ⟨hb1, hq⟩ := sk_ifn hq
    refine sm_aald (39, v2.toNatClampNeg) 65 (sk_td o_X8_staff 36 rfl) rfl rfl (by decide) sz_2 hb1 (sr_2 (sk_bi.lt hb1)) ?_
    refine sg_aload_n 66 (sk_td o_X8_staff 37 rfl) rfl rfl ?_
    refine sm_getR (19, 0) 69 (sk_td o_X8_staff 38 rfl) rfl kf_X8_47 rfl rfl sz_0 rfl ?_
    refine sm_getR (21, 0) 72 (sk_td o_X8_staff 39 rfl) rfl kf_X8_224 rfl rfl sz_19 rfl ?_
    refine sg_iload_n 73 (sk_td o_X8_staff 40 rfl) rfl rfl ?_
    obtain ⟨hb2, hq⟩ := sk_ifn hq
    refine sm_iald 74 (sk_td o_X8_staff 41 rfl) rfl rfl sz_21 hb2 ?_
    refine sm_putI 77 (sk_td o_X8_staff 42 rfl) rfl kp_X8_188 rfl rfl (sk_bi.lt hb1) ?_
    refine sg_iinc (v2 + (1 : Int32)) 80 [some (.inr (.inr (some (0, 0)))), some (.inl v1), some (.inl (v2 + (1 : Int32)))] (sk_td o_X8_staff 43 rfl) rfl rfl rfl rfl (Nat.le_of_ble_eq_true rfl) rfl ?_
    refine sg_goto 54 (sk_td o_X8_staff 44 rfl) (by decide) ?_
    exact hrec54 ((sk_wi d 39 v2.toNatClampNeg 4 (d.1 21 0 v2.toNatClampNeg)), v1, (v2 + (1 : Int32))) _ hq
def l_X8_staff_54 (fl : Nat) (a : (sk_D × Int32 × Int32)) : Option (Int32 × sk_D) := sk_it (fun rec54 a => q_X8_staff_54 rec54 a.1 a.2.1 a.2.2) fl a
theorem lt_X8_staff_54 {l : Launch} : ∀ (fl : Nat) (a : (sk_D × Int32 × Int32)) (res : Int32 × sk_D), l_X8_staff_54 fl a = some res → sk_G l (sk_rm 13 0 0) m_X8_staff sk_Ex0 (sk_Zm m_X8_staff (some (.inl res.1)) (sk_mm res.2)) 0 0 54 [some (.inr (.inr (some (0, 0)))), some (.inl a.2.1), some (.inl a.2.2)] [] (sk_mm a.1) :=
  sk_it_ind (P := fun (a : (sk_D × Int32 × Int32)) (res : Int32 × sk_D) => sk_G l (sk_rm 13 0 0) m_X8_staff sk_Ex0 (sk_Zm m_X8_staff (some (.inl res.1)) (sk_mm res.2)) 0 0 54 [some (.inr (.inr (some (0, 0)))), some (.inl a.2.1), some (.inl a.2.2)] [] (sk_mm a.1)) (fun rec54 hrec54 a res hq  => t_X8_staff_54 hrec54 hq )
def q_X8_staff_2 (rec2 : (sk_D × Int32) → Option (Int32 × sk_D)) (d : sk_D) (v1 : Int32) : Option (Int32 × sk_D) :=
  if (4 : Int32) ≤ v1 then (q_X7_findBest d).bind fun x1 => if x1.1 = (-9 : Int32) then some ((-2 : Int32), x1.2) else (l_X8_staff_54 sk_fu (x1.2, x1.1, (0 : Int32))) else (q_X8_isActive d v1).bind fun x2 => if sk_bi v1 4 = true then (rec2 ((sk_wi d 20 0 v1.toNatClampNeg (vp_nar .boolean x2)), (v1 + (1 : Int32)))) else none
set_option maxRecDepth 100000 in
set_option maxHeartbeats 4000000 in
theorem t_X8_staff_2 {l : Launch} {rec2 : (sk_D × Int32) → Option (Int32 × sk_D)} {d : sk_D} {v1 : Int32} (hrec2 : ∀ (a : (sk_D × Int32)) (res : Int32 × sk_D), rec2 a = some res → sk_G l (sk_rm 13 0 0) m_X8_staff sk_Ex0 (sk_Zm m_X8_staff (some (.inl res.1)) (sk_mm res.2)) 0 0 2 [some (.inr (.inr (some (0, 0)))), some (.inl a.2), none] [] (sk_mm a.1)) {res : Int32 × sk_D} (hq : q_X8_staff_2 rec2 d v1 = some res) :
    sk_G l (sk_rm 13 0 0) m_X8_staff sk_Ex0 (sk_Zm m_X8_staff (some (.inl res.1)) (sk_mm res.2)) 0 0 2 [some (.inr (.inr (some (0, 0)))), some (.inl v1), none] [] (sk_mm d) := by
  unfold q_X8_staff_2 at hq
  refine sg_iload_n 3 (sk_td o_X8_staff 2 rfl) rfl rfl ?_
  refine sg_iconst (v := (4 : Int32)) 4 (sk_td o_X8_staff 3 rfl) rfl (by decide) ?_
  refine sg_ic_ge 27 7 (sk_td o_X8_staff 4 rfl) (by decide) rfl (fun hc => ?_) (fun hc => ?_)
  · rw [if_pos hc] at hq
    refine sg_aload_n 28 (sk_td o_X8_staff 15 rfl) rfl rfl ?_
    refine sm_getR (19, 0) 31 (sk_td o_X8_staff 16 rfl) rfl kf_X8_47 rfl rfl sz_0 rfl ?_
    refine sg_aload_n 32 (sk_td o_X8_staff 17 rfl) rfl rfl ?_
    refine sm_getR (2, 0) 35 (sk_td o_X8_staff 18 rfl) rfl kf_X8_17 rfl rfl sz_0 rfl ?_
    refine sg_aload_n 36 (sk_td o_X8_staff 19 rfl) rfl rfl ?_
    refine sm_getR (3, 0) 39 (sk_td o_X8_staff 20 rfl) rfl kf_X8_23 rfl rfl sz_0 rfl ?_
    obtain ⟨x1, hr_x1, hq⟩ := sk_bnd hq
    refine sm_callV2i 42 (s_X7_findBest hr_x1) (sk_td o_X8_staff 21 rfl) rfl lv_X8_221 rfl rfl rfl sz_19 (sk_rok (Nat.le_of_ble_eq_true rfl) (Nat.le_of_ble_eq_true rfl) rfl rfl) (Nat.le_of_ble_eq_true rfl) ?_
    refine sg_istore_n 43 [some (.inr (.inr (some (0, 0)))), some (.inl x1.1), none] (sk_td o_X8_staff 22 rfl) rfl rfl (Nat.le_of_ble_eq_true rfl) rfl ?_
    refine sg_iload_n 44 (sk_td o_X8_staff 23 rfl) rfl rfl ?_
    refine sg_bipush (v := (-9 : Int32)) 46 (sk_td o_X8_staff 24 rfl) rfl (by decide) ?_
    refine sg_ic_ne 52 49 (sk_td o_X8_staff 25 rfl) (by decide) rfl (fun hc => ?_) (fun hc => ?_)
    · rw [if_neg hc] at hq
      refine sg_iconst (v := (0 : Int32)) 53 (sk_td o_X8_staff 28 rfl) rfl (by decide) ?_
      refine sg_istore_n 54 [some (.inr (.inr (some (0, 0)))), some (.inl x1.1), some (.inl (0 : Int32))] (sk_td o_X8_staff 29 rfl) rfl rfl (Nat.le_of_ble_eq_true rfl) rfl ?_
      exact lt_X8_staff_54 sk_fu (x1.2, x1.1, (0 : Int32)) _ hq
    · rw [if_pos hc] at hq
      refine sg_bipush (v := (-2 : Int32)) 51 (sk_td o_X8_staff 26 rfl) rfl (by decide) ?_
      obtain rfl := Option.some.inj hq
      exact sg_iret (sk_td o_X8_staff 27 rfl) rfl rfl
  · rw [if_neg hc] at hq
    refine sg_aload_n 8 (sk_td o_X8_staff 5 rfl) rfl rfl ?_
    refine sm_getR (19, 0) 11 (sk_td o_X8_staff 6 rfl) rfl kf_X8_47 rfl rfl sz_0 rfl ?_
    refine sm_getR (20, 0) 14 (sk_td o_X8_staff 7 rfl) rfl kf_X8_215 rfl rfl sz_19 rfl ?_
    refine sg_iload_n 15 (sk_td o_X8_staff 8 rfl) rfl rfl ?_
    refine sg_aload_n 16 (sk_td o_X8_staff 9 rfl) rfl rfl ?_
    refine sg_iload_n 17 (sk_td o_X8_staff 10 rfl) rfl rfl ?_
    obtain ⟨x2, hr_x2, hq⟩ := sk_bnd hq
    refine sm_callV1i 20 (s_X8_isActive hr_x2) (sk_td o_X8_staff 11 rfl) rfl lv_X8_218 rfl rfl rfl sz_0 (sk_rok (Nat.le_of_ble_eq_true rfl) (Nat.le_of_ble_eq_true rfl) rfl rfl) (Nat.le_of_ble_eq_true rfl) ?_
    obtain ⟨hb3, hq⟩ := sk_ifn hq
    refine sm_zast 21 (sk_td o_X8_staff 12 rfl) rfl rfl sz_20 hb3 ?_
    refine sg_iinc (v1 + (1 : Int32)) 24 [some (.inr (.inr (some (0, 0)))), some (.inl (v1 + (1 : Int32))), none] (sk_td o_X8_staff 13 rfl) rfl rfl rfl rfl (Nat.le_of_ble_eq_true rfl) rfl ?_
    refine sg_goto 2 (sk_td o_X8_staff 14 rfl) (by decide) ?_
    exact hrec2 ((sk_wi d 20 0 v1.toNatClampNeg (vp_nar .boolean x2)), (v1 + (1 : Int32))) _ hq
def l_X8_staff_2 (fl : Nat) (a : (sk_D × Int32)) : Option (Int32 × sk_D) := sk_it (fun rec2 a => q_X8_staff_2 rec2 a.1 a.2) fl a
theorem lt_X8_staff_2 {l : Launch} : ∀ (fl : Nat) (a : (sk_D × Int32)) (res : Int32 × sk_D), l_X8_staff_2 fl a = some res → sk_G l (sk_rm 13 0 0) m_X8_staff sk_Ex0 (sk_Zm m_X8_staff (some (.inl res.1)) (sk_mm res.2)) 0 0 2 [some (.inr (.inr (some (0, 0)))), some (.inl a.2), none] [] (sk_mm a.1) :=
  sk_it_ind (P := fun (a : (sk_D × Int32)) (res : Int32 × sk_D) => sk_G l (sk_rm 13 0 0) m_X8_staff sk_Ex0 (sk_Zm m_X8_staff (some (.inl res.1)) (sk_mm res.2)) 0 0 2 [some (.inr (.inr (some (0, 0)))), some (.inl a.2), none] [] (sk_mm a.1)) (fun rec2 hrec2 a res hq  => t_X8_staff_2 hrec2 hq )
def q_X8_staff_0 (d : sk_D) : Option (Int32 × sk_D) :=
  (l_X8_staff_2 sk_fu (d, (0 : Int32)))
set_option maxRecDepth 100000 in
set_option maxHeartbeats 4000000 in
theorem t_X8_staff_0 {l : Launch} {d : sk_D} {res : Int32 × sk_D} (hq : q_X8_staff_0 d = some res) :
    sk_G l (sk_rm 13 0 0) m_X8_staff sk_Ex0 (sk_Zm m_X8_staff (some (.inl res.1)) (sk_mm res.2)) 0 0 0 [some (.inr (.inr (some (0, 0)))), none, none] [] (sk_mm d) := by
  unfold q_X8_staff_0 at hq
  refine sg_iconst (v := (0 : Int32)) 1 (sk_td o_X8_staff 0 rfl) rfl (by decide) ?_
  refine sg_istore_n 2 [some (.inr (.inr (some (0, 0)))), some (.inl (0 : Int32)), none] (sk_td o_X8_staff 1 rfl) rfl rfl (Nat.le_of_ble_eq_true rfl) rfl ?_
  exact lt_X8_staff_2 sk_fu (d, (0 : Int32)) _ hq
def q_X8_staff (d : sk_D) : Option (Int32 × sk_D) := q_X8_staff_0 d 
theorem s_X8_staff {l : Launch} {d : sk_D} {res : Int32 × sk_D} (hq : q_X8_staff d = some res) : sk_M l 13 m_X8_staff [.inr (.inr (some (0, 0)))] (sk_mm d) (some (.inl res.1)) (sk_mm res.2) :=
  sk_enter (by decide) (fun _ => Nat.le_of_ble_eq_true rfl) (Nat.le_of_ble_eq_true rfl) (t_X8_staff_0 hq )
def q_X8_hasInstructor_0 (d : sk_D) (v1 : Int32) : Option (Int32) :=
  (q_X8_within d v1 (0 : Int32) (7 : Int32)).bind fun x1 => if x1 = 0 then some (0 : Int32) else if sk_bi v1 8 = true then if (d.1 42 v1.toNatClampNeg 0) = 0 then some (0 : Int32) else some (1 : Int32) else none
set_option maxRecDepth 100000 in
set_option maxHeartbeats 4000000 in
theorem t_X8_hasInstructor_0 {l : Launch} {d : sk_D} {v1 : Int32} {res : Int32} (hq : q_X8_hasInstructor_0 d v1 = some res) :
    sk_G l (sk_rm 2 0 0) m_X8_hasInstructor sk_Ex0 (sk_Zm m_X8_hasInstructor (some (.inl res)) (sk_mm d)) 0 0 0 [some (.inr (.inr (some (0, 0)))), some (.inl v1)] [] (sk_mm d) := by
  unfold q_X8_hasInstructor_0 at hq
  refine sg_iload_n 1 (sk_td o_X8_hasInstructor 0 rfl) rfl rfl ?_
  refine sg_iconst (v := (0 : Int32)) 2 (sk_td o_X8_hasInstructor 1 rfl) rfl (by decide) ?_
  refine sg_bipush (v := (7 : Int32)) 4 (sk_td o_X8_hasInstructor 2 rfl) rfl (by decide) ?_
  obtain ⟨x1, hr_x1, hq⟩ := sk_bnd hq
  refine sm_callS3i 7 (s_X8_within hr_x1) (sk_td o_X8_hasInstructor 3 rfl) rfl ls_X8_85 rfl (sk_rok (Nat.le_of_ble_eq_true rfl) (Nat.le_of_ble_eq_true rfl) rfl rfl) (Nat.le_of_ble_eq_true rfl) ?_
  refine sg_if_eq 26 10 (sk_td o_X8_hasInstructor 4 rfl) (by decide) rfl (fun hc => ?_) (fun hc => ?_)
  · rw [if_pos hc] at hq
    refine sg_iconst (v := (0 : Int32)) 27 (sk_td o_X8_hasInstructor 13 rfl) rfl (by decide) ?_
    obtain rfl := Option.some.inj hq
    exact sg_iret (sk_td o_X8_hasInstructor 14 rfl) rfl (show narrow .boolean (.int (0 : Int32)) = .int (0 : Int32) by decide)
  · rw [if_neg hc] at hq
    refine sg_aload_n 11 (sk_td o_X8_hasInstructor 5 rfl) rfl rfl ?_
    refine sm_getR (3, 0) 14 (sk_td o_X8_hasInstructor 6 rfl) rfl kf_X8_23 rfl rfl sz_0 rfl ?_
    refine sg_iload_n 15 (sk_td o_X8_hasInstructor 7 rfl) rfl rfl ?_
    obtain ⟨hb2, hq⟩ := sk_ifn hq
    refine sm_aald (42, v1.toNatClampNeg) 16 (sk_td o_X8_hasInstructor 8 rfl) rfl rfl (by decide) sz_3 hb2 (sr_3 (sk_bi.lt hb2)) ?_
    refine sm_getI 19 (sk_td o_X8_hasInstructor 9 rfl) rfl kf_X8_208 rfl rfl (sk_bi.lt hb2) ?_
    refine sg_if_eq 26 22 (sk_td o_X8_hasInstructor 10 rfl) (by decide) rfl (fun hc => ?_) (fun hc => ?_)
    · rw [if_pos hc] at hq
      refine sg_iconst (v := (0 : Int32)) 27 (sk_td o_X8_hasInstructor 13 rfl) rfl (by decide) ?_
      obtain rfl := Option.some.inj hq
      exact sg_iret (sk_td o_X8_hasInstructor 14 rfl) rfl (show narrow .boolean (.int (0 : Int32)) = .int (0 : Int32) by decide)
    · rw [if_neg hc] at hq
      refine sg_iconst (v := (1 : Int32)) 23 (sk_td o_X8_hasInstructor 11 rfl) rfl (by decide) ?_
      refine sg_goto 27 (sk_td o_X8_hasInstructor 12 rfl) (by decide) ?_
      obtain rfl := Option.some.inj hq
      exact sg_iret (sk_td o_X8_hasInstructor 14 rfl) rfl (show narrow .boolean (.int (1 : Int32)) = .int (1 : Int32) by decide)
def q_X8_hasInstructor (d : sk_D) (v1 : Int32) : Option (Int32) := q_X8_hasInstructor_0 d v1 
theorem s_X8_hasInstructor {l : Launch} {d : sk_D} {v1 : Int32} {res : Int32} (hq : q_X8_hasInstructor d v1 = some res) : sk_M l 2 m_X8_hasInstructor [.inr (.inr (some (0, 0))), .inl v1] (sk_mm d) (some (.inl res)) (sk_mm d) :=
  sk_enter (by decide) (fun _ => Nat.le_of_ble_eq_true rfl) (Nat.le_of_ble_eq_true rfl) (t_X8_hasInstructor_0 hq )
def q_X8_isPaid_0 (d : sk_D) (v1 : Int32) : Option (Int32) :=
  (q_X8_isActive d v1).bind fun x1 => if x1 = 0 then some (0 : Int32) else if sk_bi v1 4 = true then (q_X8_hasInstructor d (d.1 39 v1.toNatClampNeg 4)).bind fun x3 => if x3 = 0 then some (0 : Int32) else some (1 : Int32) else none
set_option maxRecDepth 100000 in
set_option maxHeartbeats 4000000 in
theorem t_X8_isPaid_0 {l : Launch} {d : sk_D} {v1 : Int32} {res : Int32} (hq : q_X8_isPaid_0 d v1 = some res) :
    sk_G l (sk_rm 4 0 0) m_X8_isPaid sk_Ex0 (sk_Zm m_X8_isPaid (some (.inl res)) (sk_mm d)) 0 0 0 [some (.inr (.inr (some (0, 0)))), some (.inl v1)] [] (sk_mm d) := by
  unfold q_X8_isPaid_0 at hq
  refine sg_aload_n 1 (sk_td o_X8_isPaid 0 rfl) rfl rfl ?_
  refine sg_iload_n 2 (sk_td o_X8_isPaid 1 rfl) rfl rfl ?_
  obtain ⟨x1, hr_x1, hq⟩ := sk_bnd hq
  refine sm_callV1i 5 (s_X8_isActive hr_x1) (sk_td o_X8_isPaid 2 rfl) rfl lv_X8_218 rfl rfl rfl sz_0 (sk_rok (Nat.le_of_ble_eq_true rfl) (Nat.le_of_ble_eq_true rfl) rfl rfl) (Nat.le_of_ble_eq_true rfl) ?_
  refine sg_if_eq 28 8 (sk_td o_X8_isPaid 3 rfl) (by decide) rfl (fun hc => ?_) (fun hc => ?_)
  · rw [if_pos hc] at hq
    refine sg_iconst (v := (0 : Int32)) 29 (sk_td o_X8_isPaid 14 rfl) rfl (by decide) ?_
    obtain rfl := Option.some.inj hq
    exact sg_iret (sk_td o_X8_isPaid 15 rfl) rfl (show narrow .boolean (.int (0 : Int32)) = .int (0 : Int32) by decide)
  · rw [if_neg hc] at hq
    refine sg_aload_n 9 (sk_td o_X8_isPaid 4 rfl) rfl rfl ?_
    refine sg_aload_n 10 (sk_td o_X8_isPaid 5 rfl) rfl rfl ?_
    refine sm_getR (2, 0) 13 (sk_td o_X8_isPaid 6 rfl) rfl kf_X8_17 rfl rfl sz_0 rfl ?_
    refine sg_iload_n 14 (sk_td o_X8_isPaid 7 rfl) rfl rfl ?_
    obtain ⟨hb2, hq⟩ := sk_ifn hq
    refine sm_aald (39, v1.toNatClampNeg) 15 (sk_td o_X8_isPaid 8 rfl) rfl rfl (by decide) sz_2 hb2 (sr_2 (sk_bi.lt hb2)) ?_
    refine sm_getI 18 (sk_td o_X8_isPaid 9 rfl) rfl kf_X8_188 rfl rfl (sk_bi.lt hb2) ?_
    obtain ⟨x3, hr_x3, hq⟩ := sk_bnd hq
    refine sm_callV1i 21 (s_X8_hasInstructor hr_x3) (sk_td o_X8_isPaid 10 rfl) rfl lv_X8_205 rfl rfl rfl sz_0 (sk_rok (Nat.le_of_ble_eq_true rfl) (Nat.le_of_ble_eq_true rfl) rfl rfl) (Nat.le_of_ble_eq_true rfl) ?_
    refine sg_if_eq 28 24 (sk_td o_X8_isPaid 11 rfl) (by decide) rfl (fun hc => ?_) (fun hc => ?_)
    · rw [if_pos hc] at hq
      refine sg_iconst (v := (0 : Int32)) 29 (sk_td o_X8_isPaid 14 rfl) rfl (by decide) ?_
      obtain rfl := Option.some.inj hq
      exact sg_iret (sk_td o_X8_isPaid 15 rfl) rfl (show narrow .boolean (.int (0 : Int32)) = .int (0 : Int32) by decide)
    · rw [if_neg hc] at hq
      refine sg_iconst (v := (1 : Int32)) 25 (sk_td o_X8_isPaid 12 rfl) rfl (by decide) ?_
      refine sg_goto 29 (sk_td o_X8_isPaid 13 rfl) (by decide) ?_
      obtain rfl := Option.some.inj hq
      exact sg_iret (sk_td o_X8_isPaid 15 rfl) rfl (show narrow .boolean (.int (1 : Int32)) = .int (1 : Int32) by decide)
def q_X8_isPaid (d : sk_D) (v1 : Int32) : Option (Int32) := q_X8_isPaid_0 d v1 
theorem s_X8_isPaid {l : Launch} {d : sk_D} {v1 : Int32} {res : Int32} (hq : q_X8_isPaid d v1 = some res) : sk_M l 4 m_X8_isPaid [.inr (.inr (some (0, 0))), .inl v1] (sk_mm d) (some (.inl res)) (sk_mm d) :=
  sk_enter (by decide) (fun _ => Nat.le_of_ble_eq_true rfl) (Nat.le_of_ble_eq_true rfl) (t_X8_isPaid_0 hq )
def q_X8_pay_117 (rec61 : (sk_D × Int32 × Int32 × Int32) → Option (Int32 × sk_D)) (d : sk_D) (v1 : Int32) (v2 : Int32) (v3 : Int32) : Option (Int32 × sk_D) :=
  (rec61 (d, v1, v2, (v3 + (1 : Int32))))
set_option maxRecDepth 100000 in
set_option maxHeartbeats 4000000 in
theorem t_X8_pay_117 {l : Launch} {rec61 : (sk_D × Int32 × Int32 × Int32) → Option (Int32 × sk_D)} {d : sk_D} {v1 : Int32} {v2 : Int32} {v3 : Int32} (hrec61 : ∀ (a : (sk_D × Int32 × Int32 × Int32)) (res : Int32 × sk_D), rec61 a = some res → sk_G l (sk_rm 5 0 0) m_X8_pay sk_Ex0 (sk_Zm m_X8_pay (some (.inl res.1)) (sk_mm res.2)) 0 0 61 [some (.inr (.inr (some (0, 0)))), some (.inl a.2.1), some (.inl a.2.2.1), some (.inl a.2.2.2), none] [] (sk_mm a.1)) {res : Int32 × sk_D} (hq : q_X8_pay_117 rec61 d v1 v2 v3 = some res) :
    sk_G l (sk_rm 5 0 0) m_X8_pay sk_Ex0 (sk_Zm m_X8_pay (some (.inl res.1)) (sk_mm res.2)) 0 0 117 [some (.inr (.inr (some (0, 0)))), some (.inl v1), some (.inl v2), some (.inl v3), none] [] (sk_mm d) := by
  unfold q_X8_pay_117 at hq
  refine sg_iinc (v3 + (1 : Int32)) 120 [some (.inr (.inr (some (0, 0)))), some (.inl v1), some (.inl v2), some (.inl (v3 + (1 : Int32))), none] (sk_td o_X8_pay 67 rfl) rfl rfl rfl rfl (Nat.le_of_ble_eq_true rfl) rfl ?_
  refine sg_goto 61 (sk_td o_X8_pay 68 rfl) (by decide) ?_
  exact hrec61 (d, v1, v2, (v3 + (1 : Int32))) _ hq
def q_X8_pay_110 (rec61 : (sk_D × Int32 × Int32 × Int32) → Option (Int32 × sk_D)) (d : sk_D) (v1 : Int32) (v3 : Int32) (s0 : Int32) (h1 : Nat) : Option (Int32 × sk_D) :=
  (q_X8_pay_117 rec61 d v1 (s0 + ((d.1 42 h1 4) * v1)) v3)
set_option maxRecDepth 100000 in
set_option maxHeartbeats 4000000 in
theorem t_X8_pay_110 {l : Launch} {rec61 : (sk_D × Int32 × Int32 × Int32) → Option (Int32 × sk_D)} {d : sk_D} {v1 : Int32} {v3 : Int32} {s0 : Int32} {h1 : Nat} (hrec61 : ∀ (a : (sk_D × Int32 × Int32 × Int32)) (res : Int32 × sk_D), rec61 a = some res → sk_G l (sk_rm 5 0 0) m_X8_pay sk_Ex0 (sk_Zm m_X8_pay (some (.inl res.1)) (sk_mm res.2)) 0 0 61 [some (.inr (.inr (some (0, 0)))), some (.inl a.2.1), some (.inl a.2.2.1), some (.inl a.2.2.2), none] [] (sk_mm a.1)) {res : Int32 × sk_D} (hq : q_X8_pay_110 rec61 d v1 v3 s0 h1 = some res) (hk_h1 : h1 < sk_cnt 42) :
    sk_G l (sk_rm 5 0 0) m_X8_pay sk_Ex0 (sk_Zm m_X8_pay (some (.inl res.1)) (sk_mm res.2)) 0 0 110 [some (.inr (.inr (some (0, 0)))), some (.inl v1), none, some (.inl v3), none] [.inr (.inr (some (42, h1))), .inl s0] (sk_mm d) := by
  unfold q_X8_pay_110 at hq
  refine sm_getI 113 (sk_td o_X8_pay 62 rfl) rfl kf_X8_236 rfl rfl hk_h1 ?_
  refine sg_iload_n 114 (sk_td o_X8_pay 63 rfl) rfl rfl ?_
  refine sg_imul 115 (sk_td o_X8_pay 64 rfl) rfl ?_
  refine sg_iadd 116 (sk_td o_X8_pay 65 rfl) rfl ?_
  refine sg_istore_n 117 [some (.inr (.inr (some (0, 0)))), some (.inl v1), some (.inl (s0 + ((d.1 42 h1 4) * v1))), some (.inl v3), none] (sk_td o_X8_pay 66 rfl) rfl rfl (Nat.le_of_ble_eq_true rfl) rfl ?_
  exact t_X8_pay_117 hrec61 hq
def q_X8_pay_61 (rec61 : (sk_D × Int32 × Int32 × Int32) → Option (Int32 × sk_D)) (d : sk_D) (v1 : Int32) (v2 : Int32) (v3 : Int32) : Option (Int32 × sk_D) :=
  if (4 : Int32) ≤ v3 then some (v2, d) else (q_X8_isPaid d v3).bind fun x1 => if x1 = 0 then (q_X8_pay_117 rec61 d v1 v2 v3) else if sk_bi v3 4 = true then if sk_bi (d.1 39 v3.toNatClampNeg 4) 8 = true then (q_X8_pay_110 rec61 (sk_wi d 42 ((d.1 39 v3.toNatClampNeg 4).toNatClampNeg) 5 ((d.1 42 ((d.1 39 v3.toNatClampNeg 4).toNatClampNeg) 5) + ((d.1 42 ((d.1 39 v3.toNatClampNeg 4).toNatClampNeg) 4) * v1))) v1 v3 v2 (d.1 39 v3.toNatClampNeg 4).toNatClampNeg) else none else none
set_option maxRecDepth 100000 in
set_option maxHeartbeats 4000000 in
theorem t_X8_pay_61 {l : Launch} {rec61 : (sk_D × Int32 × Int32 × Int32) → Option (Int32 × sk_D)} {d : sk_D} {v1 : Int32} {v2 : Int32} {v3 : Int32} (hrec61 : ∀ (a : (sk_D × Int32 × Int32 × Int32)) (res : Int32 × sk_D), rec61 a = some res → sk_G l (sk_rm 5 0 0) m_X8_pay sk_Ex0 (sk_Zm m_X8_pay (some (.inl res.1)) (sk_mm res.2)) 0 0 61 [some (.inr (.inr (some (0, 0)))), some (.inl a.2.1), some (.inl a.2.2.1), some (.inl a.2.2.2), none] [] (sk_mm a.1)) {res : Int32 × sk_D} (hq : q_X8_pay_61 rec61 d v1 v2 v3 = some res) :
    sk_G l (sk_rm 5 0 0) m_X8_pay sk_Ex0 (sk_Zm m_X8_pay (some (.inl res.1)) (sk_mm res.2)) 0 0 61 [some (.inr (.inr (some (0, 0)))), some (.inl v1), some (.inl v2), some (.inl v3), none] [] (sk_mm d) := by
  unfold q_X8_pay_61 at hq
  refine sg_iload_n 62 (sk_td o_X8_pay 35 rfl) rfl rfl ?_
  refine sg_iconst (v := (4 : Int32)) 63 (sk_td o_X8_pay 36 rfl) rfl (by decide) ?_
  refine sg_ic_ge 123 66 (sk_td o_X8_pay 37 rfl) (by decide) rfl (fun hc => ?_) (fun hc => ?_)
  · rw [if_pos hc] at hq
    refine sg_iload_n 124 (sk_td o_X8_pay 69 rfl) rfl rfl ?_
    obtain rfl := Option.some.inj hq
    exact sg_iret (sk_td o_X8_pay 70 rfl) rfl rfl
  · rw [if_neg hc] at hq
    refine sg_aload_n 67 (sk_td o_X8_pay 38 rfl) rfl rfl ?_
    refine sg_iload_n 68 (sk_td o_X8_pay 39 rfl) rfl rfl ?_
    obtain ⟨x1, hr_x1, hq⟩ := sk_bnd hq
    refine sm_callV1i 71 (s_X8_isPaid hr_x1) (sk_td o_X8_pay 40 rfl) rfl lv_X8_227 rfl rfl rfl sz_0 (sk_rok (Nat.le_of_ble_eq_true rfl) (Nat.le_of_ble_eq_true rfl) rfl rfl) (Nat.le_of_ble_eq_true rfl) ?_
    refine sg_if_eq 117 74 (sk_td o_X8_pay 41 rfl) (by decide) rfl (fun hc => ?_) (fun hc => ?_)
    · rw [if_pos hc] at hq
      exact t_X8_pay_117 hrec61 hq
    · rw [if_neg hc] at hq
      refine sg_aload_n 75 (sk_td o_X8_pay 42 rfl) rfl rfl ?_
      refine sm_getR (3, 0) 78 (sk_td o_X8_pay 43 rfl) rfl kf_X8_23 rfl rfl sz_0 rfl ?_
      refine sg_aload_n 79 (sk_td o_X8_pay 44 rfl) rfl rfl ?_
      refine sm_getR (2, 0) 82 (sk_td o_X8_pay 45 rfl) rfl kf_X8_17 rfl rfl sz_0 rfl ?_
      refine sg_iload_n 83 (sk_td o_X8_pay 46 rfl) rfl rfl ?_
      obtain ⟨hb2, hq⟩ := sk_ifn hq
      refine sm_aald (39, v3.toNatClampNeg) 84 (sk_td o_X8_pay 47 rfl) rfl rfl (by decide) sz_2 hb2 (sr_2 (sk_bi.lt hb2)) ?_
      refine sm_getI 87 (sk_td o_X8_pay 48 rfl) rfl kf_X8_188 rfl rfl (sk_bi.lt hb2) ?_
      obtain ⟨hb3, hq⟩ := sk_ifn hq
      refine sm_aald (42, (d.1 39 v3.toNatClampNeg 4).toNatClampNeg) 88 (sk_td o_X8_pay 49 rfl) rfl rfl (by decide) sz_3 hb3 (sr_3 (sk_bi.lt hb3)) ?_
      refine sg_astore 90 [some (.inr (.inr (some (0, 0)))), some (.inl v1), some (.inl v2), some (.inl v3), some (.inr (.inr (some (42, (d.1 39 v3.toNatClampNeg 4).toNatClampNeg))))] (sk_td o_X8_pay 50 rfl) rfl rfl (Nat.le_of_ble_eq_true rfl) rfl ?_
      refine sg_aload 92 (sk_td o_X8_pay 51 rfl) rfl rfl ?_
      refine sg_dupR 93 (sk_td o_X8_pay 52 rfl) rfl ?_
      refine sm_getI 96 (sk_td o_X8_pay 53 rfl) rfl kf_X8_233 rfl rfl (sk_bi.lt hb3) ?_
      refine sg_aload 98 (sk_td o_X8_pay 54 rfl) rfl rfl ?_
      refine sm_getI 101 (sk_td o_X8_pay 55 rfl) rfl kf_X8_236 rfl rfl (sk_bi.lt hb3) ?_
      refine sg_iload_n 102 (sk_td o_X8_pay 56 rfl) rfl rfl ?_
      refine sg_imul 103 (sk_td o_X8_pay 57 rfl) rfl ?_
      refine sg_iadd 104 (sk_td o_X8_pay 58 rfl) rfl ?_
      refine sm_putI 107 (sk_td o_X8_pay 59 rfl) rfl kp_X8_233 rfl rfl (sk_bi.lt hb3) ?_
      refine sg_iload_n 108 (sk_td o_X8_pay 60 rfl) rfl rfl ?_
      refine sg_aload 110 (sk_td o_X8_pay 61 rfl) rfl rfl ?_
      refine sk_wk [true, true, false, true, false] (ls' := [some (.inr (.inr (some (0, 0)))), some (.inl v1), none, some (.inl v3), none]) rfl ?_
      exact t_X8_pay_110 hrec61 hq (sk_bi.lt hb3)
def l_X8_pay_61 (fl : Nat) (a : (sk_D × Int32 × Int32 × Int32)) : Option (Int32 × sk_D) := sk_it (fun rec61 a => q_X8_pay_61 rec61 a.1 a.2.1 a.2.2.1 a.2.2.2) fl a
theorem lt_X8_pay_61 {l : Launch} : ∀ (fl : Nat) (a : (sk_D × Int32 × Int32 × Int32)) (res : Int32 × sk_D), l_X8_pay_61 fl a = some res → sk_G l (sk_rm 5 0 0) m_X8_pay sk_Ex0 (sk_Zm m_X8_pay (some (.inl res.1)) (sk_mm res.2)) 0 0 61 [some (.inr (.inr (some (0, 0)))), some (.inl a.2.1), some (.inl a.2.2.1), some (.inl a.2.2.2), none] [] (sk_mm a.1) :=
  sk_it_ind (P := fun (a : (sk_D × Int32 × Int32 × Int32)) (res : Int32 × sk_D) => sk_G l (sk_rm 5 0 0) m_X8_pay sk_Ex0 (sk_Zm m_X8_pay (some (.inl res.1)) (sk_mm res.2)) 0 0 61 [some (.inr (.inr (some (0, 0)))), some (.inl a.2.1), some (.inl a.2.2.1), some (.inl a.2.2.2), none] [] (sk_mm a.1)) (fun rec61 hrec61 a res hq  => t_X8_pay_61 hrec61 hq )
def q_X8_pay_51 (rec14 : (sk_D × Int32 × Int32) → Option (Int32 × sk_D)) (d : sk_D) (v1 : Int32) (v2 : Int32) : Option (Int32 × sk_D) :=
  (rec14 (d, v1, (v2 + (1 : Int32))))
set_option maxRecDepth 100000 in
set_option maxHeartbeats 4000000 in
theorem t_X8_pay_51 {l : Launch} {rec14 : (sk_D × Int32 × Int32) → Option (Int32 × sk_D)} {d : sk_D} {v1 : Int32} {v2 : Int32} (hrec14 : ∀ (a : (sk_D × Int32 × Int32)) (res : Int32 × sk_D), rec14 a = some res → sk_G l (sk_rm 5 0 0) m_X8_pay sk_Ex0 (sk_Zm m_X8_pay (some (.inl res.1)) (sk_mm res.2)) 0 0 14 [some (.inr (.inr (some (0, 0)))), some (.inl a.2.1), some (.inl a.2.2), none, none] [] (sk_mm a.1)) {res : Int32 × sk_D} (hq : q_X8_pay_51 rec14 d v1 v2 = some res) :
    sk_G l (sk_rm 5 0 0) m_X8_pay sk_Ex0 (sk_Zm m_X8_pay (some (.inl res.1)) (sk_mm res.2)) 0 0 51 [some (.inr (.inr (some (0, 0)))), some (.inl v1), some (.inl v2), none, none] [] (sk_mm d) := by
  unfold q_X8_pay_51 at hq
  refine sg_iinc (v2 + (1 : Int32)) 54 [some (.inr (.inr (some (0, 0)))), some (.inl v1), some (.inl (v2 + (1 : Int32))), none, none] (sk_td o_X8_pay 29 rfl) rfl rfl rfl rfl (Nat.le_of_ble_eq_true rfl) rfl ?_
  refine sg_goto 14 (sk_td o_X8_pay 30 rfl) (by decide) ?_
  exact hrec14 (d, v1, (v2 + (1 : Int32))) _ hq
def q_X8_pay_14 (rec14 : (sk_D × Int32 × Int32) → Option (Int32 × sk_D)) (d : sk_D) (v1 : Int32) (v2 : Int32) : Option (Int32 × sk_D) :=
  if (4 : Int32) ≤ v2 then (l_X8_pay_61 sk_fu (d, v1, (0 : Int32), (0 : Int32))) else (q_X8_isPaid d v2).bind fun x1 => if x1 = 0 then (q_X8_pay_51 rec14 d v1 v2) else if sk_bi v2 4 = true then if sk_bi (d.1 39 v2.toNatClampNeg 4) 8 = true then (q_X1_hasRoomFor d ((d.1 39 v2.toNatClampNeg 4).toNatClampNeg) v1).bind fun x4 => if x4 = 0 then some ((-3 : Int32), d) else (q_X8_pay_51 rec14 d v1 v2) else none else none
set_option maxRecDepth 100000 in
set_option maxHeartbeats 4000000 in
theorem t_X8_pay_14 {l : Launch} {rec14 : (sk_D × Int32 × Int32) → Option (Int32 × sk_D)} {d : sk_D} {v1 : Int32} {v2 : Int32} (hrec14 : ∀ (a : (sk_D × Int32 × Int32)) (res : Int32 × sk_D), rec14 a = some res → sk_G l (sk_rm 5 0 0) m_X8_pay sk_Ex0 (sk_Zm m_X8_pay (some (.inl res.1)) (sk_mm res.2)) 0 0 14 [some (.inr (.inr (some (0, 0)))), some (.inl a.2.1), some (.inl a.2.2), none, none] [] (sk_mm a.1)) {res : Int32 × sk_D} (hq : q_X8_pay_14 rec14 d v1 v2 = some res) :
    sk_G l (sk_rm 5 0 0) m_X8_pay sk_Ex0 (sk_Zm m_X8_pay (some (.inl res.1)) (sk_mm res.2)) 0 0 14 [some (.inr (.inr (some (0, 0)))), some (.inl v1), some (.inl v2), none, none] [] (sk_mm d) := by
  unfold q_X8_pay_14 at hq
  refine sg_iload_n 15 (sk_td o_X8_pay 9 rfl) rfl rfl ?_
  refine sg_iconst (v := (4 : Int32)) 16 (sk_td o_X8_pay 10 rfl) rfl (by decide) ?_
  refine sg_ic_ge 57 19 (sk_td o_X8_pay 11 rfl) (by decide) rfl (fun hc => ?_) (fun hc => ?_)
  · rw [if_pos hc] at hq
    refine sg_iconst (v := (0 : Int32)) 58 (sk_td o_X8_pay 31 rfl) rfl (by decide) ?_
    refine sg_istore_n 59 [some (.inr (.inr (some (0, 0)))), some (.inl v1), some (.inl (0 : Int32)), none, none] (sk_td o_X8_pay 32 rfl) rfl rfl (Nat.le_of_ble_eq_true rfl) rfl ?_
    refine sg_iconst (v := (0 : Int32)) 60 (sk_td o_X8_pay 33 rfl) rfl (by decide) ?_
    refine sg_istore_n 61 [some (.inr (.inr (some (0, 0)))), some (.inl v1), some (.inl (0 : Int32)), some (.inl (0 : Int32)), none] (sk_td o_X8_pay 34 rfl) rfl rfl (Nat.le_of_ble_eq_true rfl) rfl ?_
    exact lt_X8_pay_61 sk_fu (d, v1, (0 : Int32), (0 : Int32)) _ hq
  · rw [if_neg hc] at hq
    refine sg_aload_n 20 (sk_td o_X8_pay 12 rfl) rfl rfl ?_
    refine sg_iload_n 21 (sk_td o_X8_pay 13 rfl) rfl rfl ?_
    obtain ⟨x1, hr_x1, hq⟩ := sk_bnd hq
    refine sm_callV1i 24 (s_X8_isPaid hr_x1) (sk_td o_X8_pay 14 rfl) rfl lv_X8_227 rfl rfl rfl sz_0 (sk_rok (Nat.le_of_ble_eq_true rfl) (Nat.le_of_ble_eq_true rfl) rfl rfl) (Nat.le_of_ble_eq_true rfl) ?_
    refine sg_if_eq 51 27 (sk_td o_X8_pay 15 rfl) (by decide) rfl (fun hc => ?_) (fun hc => ?_)
    · rw [if_pos hc] at hq
      exact t_X8_pay_51 hrec14 hq
    · rw [if_neg hc] at hq
      refine sg_aload_n 28 (sk_td o_X8_pay 16 rfl) rfl rfl ?_
      refine sm_getR (3, 0) 31 (sk_td o_X8_pay 17 rfl) rfl kf_X8_23 rfl rfl sz_0 rfl ?_
      refine sg_aload_n 32 (sk_td o_X8_pay 18 rfl) rfl rfl ?_
      refine sm_getR (2, 0) 35 (sk_td o_X8_pay 19 rfl) rfl kf_X8_17 rfl rfl sz_0 rfl ?_
      refine sg_iload_n 36 (sk_td o_X8_pay 20 rfl) rfl rfl ?_
      obtain ⟨hb2, hq⟩ := sk_ifn hq
      refine sm_aald (39, v2.toNatClampNeg) 37 (sk_td o_X8_pay 21 rfl) rfl rfl (by decide) sz_2 hb2 (sr_2 (sk_bi.lt hb2)) ?_
      refine sm_getI 40 (sk_td o_X8_pay 22 rfl) rfl kf_X8_188 rfl rfl (sk_bi.lt hb2) ?_
      obtain ⟨hb3, hq⟩ := sk_ifn hq
      refine sm_aald (42, (d.1 39 v2.toNatClampNeg 4).toNatClampNeg) 41 (sk_td o_X8_pay 23 rfl) rfl rfl (by decide) sz_3 hb3 (sr_3 (sk_bi.lt hb3)) ?_
      refine sg_iload_n 42 (sk_td o_X8_pay 24 rfl) rfl rfl ?_
      obtain ⟨x4, hr_x4, hq⟩ := sk_bnd hq
      refine sm_callV1i 45 (s_X1_hasRoomFor hr_x4 (sk_bi.lt hb3)) (sk_td o_X8_pay 25 rfl) rfl lv_X8_230 rfl rfl rfl (sk_bi.lt hb3) (sk_rok (Nat.le_of_ble_eq_true rfl) (Nat.le_of_ble_eq_true rfl) rfl rfl) (Nat.le_of_ble_eq_true rfl) ?_
      refine sg_if_ne 51 48 (sk_td o_X8_pay 26 rfl) (by decide) rfl (fun hc => ?_) (fun hc => ?_)
      · rw [if_neg hc] at hq
        exact t_X8_pay_51 hrec14 hq
      · rw [if_pos hc] at hq
        refine sg_bipush (v := (-3 : Int32)) 50 (sk_td o_X8_pay 27 rfl) rfl (by decide) ?_
        obtain rfl := Option.some.inj hq
        exact sg_iret (sk_td o_X8_pay 28 rfl) rfl rfl
def l_X8_pay_14 (fl : Nat) (a : (sk_D × Int32 × Int32)) : Option (Int32 × sk_D) := sk_it (fun rec14 a => q_X8_pay_14 rec14 a.1 a.2.1 a.2.2) fl a
theorem lt_X8_pay_14 {l : Launch} : ∀ (fl : Nat) (a : (sk_D × Int32 × Int32)) (res : Int32 × sk_D), l_X8_pay_14 fl a = some res → sk_G l (sk_rm 5 0 0) m_X8_pay sk_Ex0 (sk_Zm m_X8_pay (some (.inl res.1)) (sk_mm res.2)) 0 0 14 [some (.inr (.inr (some (0, 0)))), some (.inl a.2.1), some (.inl a.2.2), none, none] [] (sk_mm a.1) :=
  sk_it_ind (P := fun (a : (sk_D × Int32 × Int32)) (res : Int32 × sk_D) => sk_G l (sk_rm 5 0 0) m_X8_pay sk_Ex0 (sk_Zm m_X8_pay (some (.inl res.1)) (sk_mm res.2)) 0 0 14 [some (.inr (.inr (some (0, 0)))), some (.inl a.2.1), some (.inl a.2.2), none, none] [] (sk_mm a.1)) (fun rec14 hrec14 a res hq  => t_X8_pay_14 hrec14 hq )
def q_X8_pay_0 (d : sk_D) (v1 : Int32) : Option (Int32 × sk_D) :=
  (q_X8_within d v1 (1 : Int32) (100 : Int32)).bind fun x1 => if x1 = 0 then some ((-1 : Int32), d) else (l_X8_pay_14 sk_fu (d, v1, (0 : Int32)))
set_option maxRecDepth 100000 in
set_option maxHeartbeats 4000000 in
theorem t_X8_pay_0 {l : Launch} {d : sk_D} {v1 : Int32} {res : Int32 × sk_D} (hq : q_X8_pay_0 d v1 = some res) :
    sk_G l (sk_rm 5 0 0) m_X8_pay sk_Ex0 (sk_Zm m_X8_pay (some (.inl res.1)) (sk_mm res.2)) 0 0 0 [some (.inr (.inr (some (0, 0)))), some (.inl v1), none, none, none] [] (sk_mm d) := by
  unfold q_X8_pay_0 at hq
  refine sg_iload_n 1 (sk_td o_X8_pay 0 rfl) rfl rfl ?_
  refine sg_iconst (v := (1 : Int32)) 2 (sk_td o_X8_pay 1 rfl) rfl (by decide) ?_
  refine sg_bipush (v := (100 : Int32)) 4 (sk_td o_X8_pay 2 rfl) rfl (by decide) ?_
  obtain ⟨x1, hr_x1, hq⟩ := sk_bnd hq
  refine sm_callS3i 7 (s_X8_within hr_x1) (sk_td o_X8_pay 3 rfl) rfl ls_X8_85 rfl (sk_rok (Nat.le_of_ble_eq_true rfl) (Nat.le_of_ble_eq_true rfl) rfl rfl) (Nat.le_of_ble_eq_true rfl) ?_
  refine sg_if_ne 12 10 (sk_td o_X8_pay 4 rfl) (by decide) rfl (fun hc => ?_) (fun hc => ?_)
  · rw [if_neg hc] at hq
    refine sg_iconst (v := (0 : Int32)) 13 (sk_td o_X8_pay 7 rfl) rfl (by decide) ?_
    refine sg_istore_n 14 [some (.inr (.inr (some (0, 0)))), some (.inl v1), some (.inl (0 : Int32)), none, none] (sk_td o_X8_pay 8 rfl) rfl rfl (Nat.le_of_ble_eq_true rfl) rfl ?_
    exact lt_X8_pay_14 sk_fu (d, v1, (0 : Int32)) _ hq
  · rw [if_pos hc] at hq
    refine sg_iconst (v := (-1 : Int32)) 11 (sk_td o_X8_pay 5 rfl) rfl (by decide) ?_
    obtain rfl := Option.some.inj hq
    exact sg_iret (sk_td o_X8_pay 6 rfl) rfl rfl
def q_X8_pay (d : sk_D) (v1 : Int32) : Option (Int32 × sk_D) := q_X8_pay_0 d v1 
theorem s_X8_pay {l : Launch} {d : sk_D} {v1 : Int32} {res : Int32 × sk_D} (hq : q_X8_pay d v1 = some res) : sk_M l 5 m_X8_pay [.inr (.inr (some (0, 0))), .inl v1] (sk_mm d) (some (.inl res.1)) (sk_mm res.2) :=
  sk_enter (by decide) (fun _ => Nat.le_of_ble_eq_true rfl) (Nat.le_of_ble_eq_true rfl) (t_X8_pay_0 hq )
def q_X8_earnings_0 (d : sk_D) (v1 : Int32) : Option (Int32) :=
  (q_X8_hasInstructor d v1).bind fun x1 => if x1 = 0 then some (-1 : Int32) else if sk_bi v1 8 = true then some (d.1 42 v1.toNatClampNeg 5) else none
set_option maxRecDepth 100000 in
set_option maxHeartbeats 4000000 in
theorem t_X8_earnings_0 {l : Launch} {d : sk_D} {v1 : Int32} {res : Int32} (hq : q_X8_earnings_0 d v1 = some res) :
    sk_G l (sk_rm 3 0 0) m_X8_earnings sk_Ex0 (sk_Zm m_X8_earnings (some (.inl res)) (sk_mm d)) 0 0 0 [some (.inr (.inr (some (0, 0)))), some (.inl v1)] [] (sk_mm d) := by
  unfold q_X8_earnings_0 at hq
  refine sg_aload_n 1 (sk_td o_X8_earnings 0 rfl) rfl rfl ?_
  refine sg_iload_n 2 (sk_td o_X8_earnings 1 rfl) rfl rfl ?_
  obtain ⟨x1, hr_x1, hq⟩ := sk_bnd hq
  refine sm_callV1i 5 (s_X8_hasInstructor hr_x1) (sk_td o_X8_earnings 2 rfl) rfl lv_X8_205 rfl rfl rfl sz_0 (sk_rok (Nat.le_of_ble_eq_true rfl) (Nat.le_of_ble_eq_true rfl) rfl rfl) (Nat.le_of_ble_eq_true rfl) ?_
  refine sg_if_eq 20 8 (sk_td o_X8_earnings 3 rfl) (by decide) rfl (fun hc => ?_) (fun hc => ?_)
  · rw [if_pos hc] at hq
    refine sg_iconst (v := (-1 : Int32)) 21 (sk_td o_X8_earnings 10 rfl) rfl (by decide) ?_
    obtain rfl := Option.some.inj hq
    exact sg_iret (sk_td o_X8_earnings 11 rfl) rfl rfl
  · rw [if_neg hc] at hq
    refine sg_aload_n 9 (sk_td o_X8_earnings 4 rfl) rfl rfl ?_
    refine sm_getR (3, 0) 12 (sk_td o_X8_earnings 5 rfl) rfl kf_X8_23 rfl rfl sz_0 rfl ?_
    refine sg_iload_n 13 (sk_td o_X8_earnings 6 rfl) rfl rfl ?_
    obtain ⟨hb2, hq⟩ := sk_ifn hq
    refine sm_aald (42, v1.toNatClampNeg) 14 (sk_td o_X8_earnings 7 rfl) rfl rfl (by decide) sz_3 hb2 (sr_3 (sk_bi.lt hb2)) ?_
    refine sm_getI 17 (sk_td o_X8_earnings 8 rfl) rfl kf_X8_233 rfl rfl (sk_bi.lt hb2) ?_
    refine sg_goto 21 (sk_td o_X8_earnings 9 rfl) (by decide) ?_
    obtain rfl := Option.some.inj hq
    exact sg_iret (sk_td o_X8_earnings 11 rfl) rfl rfl
def q_X8_earnings (d : sk_D) (v1 : Int32) : Option (Int32) := q_X8_earnings_0 d v1 
theorem s_X8_earnings {l : Launch} {d : sk_D} {v1 : Int32} {res : Int32} (hq : q_X8_earnings d v1 = some res) : sk_M l 3 m_X8_earnings [.inr (.inr (some (0, 0))), .inl v1] (sk_mm d) (some (.inl res)) (sk_mm d) :=
  sk_enter (by decide) (fun _ => Nat.le_of_ble_eq_true rfl) (Nat.le_of_ble_eq_true rfl) (t_X8_earnings_0 hq )
def q_X8_addLift_87 (d : sk_D) : Option (Int32 × sk_D) :=
  some (((d.1 0 0 9) - (1 : Int32)), d)
set_option maxRecDepth 100000 in
set_option maxHeartbeats 4000000 in
theorem t_X8_addLift_87 {l : Launch} {d : sk_D} {res : Int32 × sk_D} (hq : q_X8_addLift_87 d = some res) :
    sk_G l (sk_rm 2 0 0) m_X8_addLift sk_Ex0 (sk_Zm m_X8_addLift (some (.inl res.1)) (sk_mm res.2)) 0 0 87 [none, none, none, none, none] [.inr (.inr (some (0, 0)))] (sk_mm d) := by
  unfold q_X8_addLift_87 at hq
  refine sm_getI 90 (sk_td o_X8_addLift 47 rfl) rfl kf_X8_65 rfl rfl sz_0 ?_
  refine sg_iconst (v := (1 : Int32)) 91 (sk_td o_X8_addLift 48 rfl) rfl (by decide) ?_
  refine sg_isub 92 (sk_td o_X8_addLift 49 rfl) rfl ?_
  obtain rfl := Option.some.inj hq
  exact sg_iret (sk_td o_X8_addLift 50 rfl) rfl rfl
def q_X8_addLift_78 (d : sk_D) : Option (Int32 × sk_D) :=
  (q_X8_addLift_87 (sk_wi d 0 0 9 ((d.1 0 0 9) + (1 : Int32))))
set_option maxRecDepth 100000 in
set_option maxHeartbeats 4000000 in
theorem t_X8_addLift_78 {l : Launch} {d : sk_D} {res : Int32 × sk_D} (hq : q_X8_addLift_78 d = some res) :
    sk_G l (sk_rm 2 0 0) m_X8_addLift sk_Ex0 (sk_Zm m_X8_addLift (some (.inl res.1)) (sk_mm res.2)) 0 0 78 [some (.inr (.inr (some (0, 0)))), none, none, none, none] [.inr (.inr (some (0, 0))), .inr (.inr (some (0, 0)))] (sk_mm d) := by
  unfold q_X8_addLift_78 at hq
  refine sm_getI 81 (sk_td o_X8_addLift 42 rfl) rfl kf_X8_65 rfl rfl sz_0 ?_
  refine sg_iconst (v := (1 : Int32)) 82 (sk_td o_X8_addLift 43 rfl) rfl (by decide) ?_
  refine sg_iadd 83 (sk_td o_X8_addLift 44 rfl) rfl ?_
  refine sm_putI 86 (sk_td o_X8_addLift 45 rfl) rfl kp_X8_65 rfl rfl sz_0 ?_
  refine sg_aload_n 87 (sk_td o_X8_addLift 46 rfl) rfl rfl ?_
  refine sk_wk [false, true, true, true, true] (ls' := [none, none, none, none, none]) rfl ?_
  exact t_X8_addLift_87 hq
def q_X8_addLift_0 (d : sk_D) (v1 : Int32) (v2 : Int32) (v3 : Int32) : Option (Int32 × sk_D) :=
  (q_X8_within d v1 (1 : Int32) (8 : Int32)).bind fun x1 => if x1 = 0 then some ((-1 : Int32), d) else (q_X8_within d v2 (1 : Int32) (10 : Int32)).bind fun x2 => if x2 = 0 then some ((-1 : Int32), d) else (q_X8_within d v3 (1 : Int32) (20 : Int32)).bind fun x3 => if x3 = 0 then some ((-1 : Int32), d) else (q_X8_within d (d.1 0 0 9) (0 : Int32) (2 : Int32)).bind fun x4 => if x4 = 0 then some ((-3 : Int32), d) else if sk_bi (d.1 0 0 9) 3 = true then (q_X8_addLift_78 (sk_wi (sk_wi (sk_wi d 43 ((d.1 0 0 9).toNatClampNeg) 0 v1) 43 ((d.1 0 0 9).toNatClampNeg) 1 v2) 43 ((d.1 0 0 9).toNatClampNeg) 2 v3)) else none
set_option maxRecDepth 100000 in
set_option maxHeartbeats 4000000 in
theorem t_X8_addLift_0 {l : Launch} {d : sk_D} {v1 : Int32} {v2 : Int32} {v3 : Int32} {res : Int32 × sk_D} (hq : q_X8_addLift_0 d v1 v2 v3 = some res) :
    sk_G l (sk_rm 2 0 0) m_X8_addLift sk_Ex0 (sk_Zm m_X8_addLift (some (.inl res.1)) (sk_mm res.2)) 0 0 0 [some (.inr (.inr (some (0, 0)))), some (.inl v1), some (.inl v2), some (.inl v3), none] [] (sk_mm d) := by
  unfold q_X8_addLift_0 at hq
  refine sg_iload_n 1 (sk_td o_X8_addLift 0 rfl) rfl rfl ?_
  refine sg_iconst (v := (1 : Int32)) 2 (sk_td o_X8_addLift 1 rfl) rfl (by decide) ?_
  refine sg_bipush (v := (8 : Int32)) 4 (sk_td o_X8_addLift 2 rfl) rfl (by decide) ?_
  obtain ⟨x1, hr_x1, hq⟩ := sk_bnd hq
  refine sm_callS3i 7 (s_X8_within hr_x1) (sk_td o_X8_addLift 3 rfl) rfl ls_X8_85 rfl (sk_rok (Nat.le_of_ble_eq_true rfl) (Nat.le_of_ble_eq_true rfl) rfl rfl) (Nat.le_of_ble_eq_true rfl) ?_
  refine sg_if_eq 30 10 (sk_td o_X8_addLift 4 rfl) (by decide) rfl (fun hc => ?_) (fun hc => ?_)
  · rw [if_pos hc] at hq
    refine sg_iconst (v := (-1 : Int32)) 31 (sk_td o_X8_addLift 15 rfl) rfl (by decide) ?_
    obtain rfl := Option.some.inj hq
    exact sg_iret (sk_td o_X8_addLift 16 rfl) rfl rfl
  · rw [if_neg hc] at hq
    refine sg_iload_n 11 (sk_td o_X8_addLift 5 rfl) rfl rfl ?_
    refine sg_iconst (v := (1 : Int32)) 12 (sk_td o_X8_addLift 6 rfl) rfl (by decide) ?_
    refine sg_bipush (v := (10 : Int32)) 14 (sk_td o_X8_addLift 7 rfl) rfl (by decide) ?_
    obtain ⟨x2, hr_x2, hq⟩ := sk_bnd hq
    refine sm_callS3i 17 (s_X8_within hr_x2) (sk_td o_X8_addLift 8 rfl) rfl ls_X8_85 rfl (sk_rok (Nat.le_of_ble_eq_true rfl) (Nat.le_of_ble_eq_true rfl) rfl rfl) (Nat.le_of_ble_eq_true rfl) ?_
    refine sg_if_eq 30 20 (sk_td o_X8_addLift 9 rfl) (by decide) rfl (fun hc => ?_) (fun hc => ?_)
    · rw [if_pos hc] at hq
      refine sg_iconst (v := (-1 : Int32)) 31 (sk_td o_X8_addLift 15 rfl) rfl (by decide) ?_
      obtain rfl := Option.some.inj hq
      exact sg_iret (sk_td o_X8_addLift 16 rfl) rfl rfl
    · rw [if_neg hc] at hq
      refine sg_iload_n 21 (sk_td o_X8_addLift 10 rfl) rfl rfl ?_
      refine sg_iconst (v := (1 : Int32)) 22 (sk_td o_X8_addLift 11 rfl) rfl (by decide) ?_
      refine sg_bipush (v := (20 : Int32)) 24 (sk_td o_X8_addLift 12 rfl) rfl (by decide) ?_
      obtain ⟨x3, hr_x3, hq⟩ := sk_bnd hq
      refine sm_callS3i 27 (s_X8_within hr_x3) (sk_td o_X8_addLift 13 rfl) rfl ls_X8_85 rfl (sk_rok (Nat.le_of_ble_eq_true rfl) (Nat.le_of_ble_eq_true rfl) rfl rfl) (Nat.le_of_ble_eq_true rfl) ?_
      refine sg_if_ne 32 30 (sk_td o_X8_addLift 14 rfl) (by decide) rfl (fun hc => ?_) (fun hc => ?_)
      · rw [if_neg hc] at hq
        refine sg_aload_n 33 (sk_td o_X8_addLift 17 rfl) rfl rfl ?_
        refine sm_getI 36 (sk_td o_X8_addLift 18 rfl) rfl kf_X8_65 rfl rfl sz_0 ?_
        refine sg_iconst (v := (0 : Int32)) 37 (sk_td o_X8_addLift 19 rfl) rfl (by decide) ?_
        refine sg_iconst (v := (2 : Int32)) 38 (sk_td o_X8_addLift 20 rfl) rfl (by decide) ?_
        obtain ⟨x4, hr_x4, hq⟩ := sk_bnd hq
        refine sm_callS3i 41 (s_X8_within hr_x4) (sk_td o_X8_addLift 21 rfl) rfl ls_X8_85 rfl (sk_rok (Nat.le_of_ble_eq_true rfl) (Nat.le_of_ble_eq_true rfl) rfl rfl) (Nat.le_of_ble_eq_true rfl) ?_
        refine sg_if_ne 47 44 (sk_td o_X8_addLift 22 rfl) (by decide) rfl (fun hc => ?_) (fun hc => ?_)
        · rw [if_neg hc] at hq
          refine sg_aload_n 48 (sk_td o_X8_addLift 25 rfl) rfl rfl ?_
          refine sm_getR (4, 0) 51 (sk_td o_X8_addLift 26 rfl) rfl kf_X8_29 rfl rfl sz_0 rfl ?_
          refine sg_aload_n 52 (sk_td o_X8_addLift 27 rfl) rfl rfl ?_
          refine sm_getI 55 (sk_td o_X8_addLift 28 rfl) rfl kf_X8_65 rfl rfl sz_0 ?_
          obtain ⟨hb5, hq⟩ := sk_ifn hq
          refine sm_aald (43, (d.1 0 0 9).toNatClampNeg) 56 (sk_td o_X8_addLift 29 rfl) rfl rfl (by decide) sz_4 hb5 (sr_4 (sk_bi.lt hb5)) ?_
          refine sg_astore 58 [some (.inr (.inr (some (0, 0)))), some (.inl v1), some (.inl v2), some (.inl v3), some (.inr (.inr (some (43, (d.1 0 0 9).toNatClampNeg))))] (sk_td o_X8_addLift 30 rfl) rfl rfl (Nat.le_of_ble_eq_true rfl) rfl ?_
          refine sg_aload 60 (sk_td o_X8_addLift 31 rfl) rfl rfl ?_
          refine sg_iload_n 61 (sk_td o_X8_addLift 32 rfl) rfl rfl ?_
          refine sm_putI 64 (sk_td o_X8_addLift 33 rfl) rfl kp_X8_239 rfl rfl (sk_bi.lt hb5) ?_
          refine sg_aload 66 (sk_td o_X8_addLift 34 rfl) rfl rfl ?_
          refine sg_iload_n 67 (sk_td o_X8_addLift 35 rfl) rfl rfl ?_
          refine sm_putI 70 (sk_td o_X8_addLift 36 rfl) rfl kp_X8_242 rfl rfl (sk_bi.lt hb5) ?_
          refine sg_aload 72 (sk_td o_X8_addLift 37 rfl) rfl rfl ?_
          refine sg_iload_n 73 (sk_td o_X8_addLift 38 rfl) rfl rfl ?_
          refine sm_putI 76 (sk_td o_X8_addLift 39 rfl) rfl kp_X8_245 rfl rfl (sk_bi.lt hb5) ?_
          refine sg_aload_n 77 (sk_td o_X8_addLift 40 rfl) rfl rfl ?_
          refine sg_dupR 78 (sk_td o_X8_addLift 41 rfl) rfl ?_
          refine sk_wk [true, false, false, false, false] (ls' := [some (.inr (.inr (some (0, 0)))), none, none, none, none]) rfl ?_
          exact t_X8_addLift_78 hq
        · rw [if_pos hc] at hq
          refine sg_bipush (v := (-3 : Int32)) 46 (sk_td o_X8_addLift 23 rfl) rfl (by decide) ?_
          obtain rfl := Option.some.inj hq
          exact sg_iret (sk_td o_X8_addLift 24 rfl) rfl rfl
      · rw [if_pos hc] at hq
        refine sg_iconst (v := (-1 : Int32)) 31 (sk_td o_X8_addLift 15 rfl) rfl (by decide) ?_
        obtain rfl := Option.some.inj hq
        exact sg_iret (sk_td o_X8_addLift 16 rfl) rfl rfl
def q_X8_addLift (d : sk_D) (v1 : Int32) (v2 : Int32) (v3 : Int32) : Option (Int32 × sk_D) := q_X8_addLift_0 d v1 v2 v3 
theorem s_X8_addLift {l : Launch} {d : sk_D} {v1 : Int32} {v2 : Int32} {v3 : Int32} {res : Int32 × sk_D} (hq : q_X8_addLift d v1 v2 v3 = some res) : sk_M l 2 m_X8_addLift [.inr (.inr (some (0, 0))), .inl v1, .inl v2, .inl v3] (sk_mm d) (some (.inl res.1)) (sk_mm res.2) :=
  sk_enter (by decide) (fun _ => Nat.le_of_ble_eq_true rfl) (Nat.le_of_ble_eq_true rfl) (t_X8_addLift_0 hq )
def q_X8_hasLift_0 (d : sk_D) (v1 : Int32) : Option (Int32) :=
  (q_X8_within d v1 (0 : Int32) (2 : Int32)).bind fun x1 => if x1 = 0 then some (0 : Int32) else if (d.1 0 0 9) ≤ v1 then some (0 : Int32) else some (1 : Int32)
set_option maxRecDepth 100000 in
set_option maxHeartbeats 4000000 in
theorem t_X8_hasLift_0 {l : Launch} {d : sk_D} {v1 : Int32} {res : Int32} (hq : q_X8_hasLift_0 d v1 = some res) :
    sk_G l (sk_rm 2 0 0) m_X8_hasLift sk_Ex0 (sk_Zm m_X8_hasLift (some (.inl res)) (sk_mm d)) 0 0 0 [some (.inr (.inr (some (0, 0)))), some (.inl v1)] [] (sk_mm d) := by
  unfold q_X8_hasLift_0 at hq
  refine sg_iload_n 1 (sk_td o_X8_hasLift 0 rfl) rfl rfl ?_
  refine sg_iconst (v := (0 : Int32)) 2 (sk_td o_X8_hasLift 1 rfl) rfl (by decide) ?_
  refine sg_iconst (v := (2 : Int32)) 3 (sk_td o_X8_hasLift 2 rfl) rfl (by decide) ?_
  obtain ⟨x1, hr_x1, hq⟩ := sk_bnd hq
  refine sm_callS3i 6 (s_X8_within hr_x1) (sk_td o_X8_hasLift 3 rfl) rfl ls_X8_85 rfl (sk_rok (Nat.le_of_ble_eq_true rfl) (Nat.le_of_ble_eq_true rfl) rfl rfl) (Nat.le_of_ble_eq_true rfl) ?_
  refine sg_if_eq 21 9 (sk_td o_X8_hasLift 4 rfl) (by decide) rfl (fun hc => ?_) (fun hc => ?_)
  · rw [if_pos hc] at hq
    refine sg_iconst (v := (0 : Int32)) 22 (sk_td o_X8_hasLift 11 rfl) rfl (by decide) ?_
    obtain rfl := Option.some.inj hq
    exact sg_iret (sk_td o_X8_hasLift 12 rfl) rfl (show narrow .boolean (.int (0 : Int32)) = .int (0 : Int32) by decide)
  · rw [if_neg hc] at hq
    refine sg_iload_n 10 (sk_td o_X8_hasLift 5 rfl) rfl rfl ?_
    refine sg_aload_n 11 (sk_td o_X8_hasLift 6 rfl) rfl rfl ?_
    refine sm_getI 14 (sk_td o_X8_hasLift 7 rfl) rfl kf_X8_65 rfl rfl sz_0 ?_
    refine sg_ic_ge 21 17 (sk_td o_X8_hasLift 8 rfl) (by decide) rfl (fun hc => ?_) (fun hc => ?_)
    · rw [if_pos hc] at hq
      refine sg_iconst (v := (0 : Int32)) 22 (sk_td o_X8_hasLift 11 rfl) rfl (by decide) ?_
      obtain rfl := Option.some.inj hq
      exact sg_iret (sk_td o_X8_hasLift 12 rfl) rfl (show narrow .boolean (.int (0 : Int32)) = .int (0 : Int32) by decide)
    · rw [if_neg hc] at hq
      refine sg_iconst (v := (1 : Int32)) 18 (sk_td o_X8_hasLift 9 rfl) rfl (by decide) ?_
      refine sg_goto 22 (sk_td o_X8_hasLift 10 rfl) (by decide) ?_
      obtain rfl := Option.some.inj hq
      exact sg_iret (sk_td o_X8_hasLift 12 rfl) rfl (show narrow .boolean (.int (1 : Int32)) = .int (1 : Int32) by decide)
def q_X8_hasLift (d : sk_D) (v1 : Int32) : Option (Int32) := q_X8_hasLift_0 d v1 
theorem s_X8_hasLift {l : Launch} {d : sk_D} {v1 : Int32} {res : Int32} (hq : q_X8_hasLift d v1 = some res) : sk_M l 2 m_X8_hasLift [.inr (.inr (some (0, 0))), .inl v1] (sk_mm d) (some (.inl res)) (sk_mm d) :=
  sk_enter (by decide) (fun _ => Nat.le_of_ble_eq_true rfl) (Nat.le_of_ble_eq_true rfl) (t_X8_hasLift_0 hq )
def q_X8_addStop_89 (d : sk_D) (h0 : Nat) : Option (Int32 × sk_D) :=
  some ((d.1 39 h0 6), d)
set_option maxRecDepth 100000 in
set_option maxHeartbeats 4000000 in
theorem t_X8_addStop_89 {l : Launch} {d : sk_D} {h0 : Nat} {res : Int32 × sk_D} (hq : q_X8_addStop_89 d h0 = some res) (hk_h0 : h0 < sk_cnt 39) :
    sk_G l (sk_rm 3 0 0) m_X8_addStop sk_Ex0 (sk_Zm m_X8_addStop (some (.inl res.1)) (sk_mm res.2)) 0 0 89 [none, none, none, none, none] [.inr (.inr (some (39, h0)))] (sk_mm d) := by
  unfold q_X8_addStop_89 at hq
  refine sm_getI 92 (sk_td o_X8_addStop 47 rfl) rfl kf_X8_251 rfl rfl hk_h0 ?_
  obtain rfl := Option.some.inj hq
  exact sg_iret (sk_td o_X8_addStop 48 rfl) rfl rfl
def q_X8_addStop_79 (d : sk_D) (k4 : Nat) (h0 : Nat) (h1 : Nat) : Option (Int32 × sk_D) :=
  (q_X8_addStop_89 (sk_wi d 39 h0 6 ((d.1 39 h1 6) + (1 : Int32))) k4)
set_option maxRecDepth 100000 in
set_option maxHeartbeats 4000000 in
theorem t_X8_addStop_79 {l : Launch} {d : sk_D} {k4 : Nat} {h0 : Nat} {h1 : Nat} {res : Int32 × sk_D} (hq : q_X8_addStop_79 d k4 h0 h1 = some res) (hk_k4 : k4 < sk_cnt 39) (hk_h0 : h0 < sk_cnt 39) (hk_h1 : h1 < sk_cnt 39) :
    sk_G l (sk_rm 3 0 0) m_X8_addStop sk_Ex0 (sk_Zm m_X8_addStop (some (.inl res.1)) (sk_mm res.2)) 0 0 79 [none, none, none, none, some (.inr (.inr (some (39, k4))))] [.inr (.inr (some (39, h1))), .inr (.inr (some (39, h0)))] (sk_mm d) := by
  unfold q_X8_addStop_79 at hq
  refine sm_getI 82 (sk_td o_X8_addStop 42 rfl) rfl kf_X8_251 rfl rfl hk_h1 ?_
  refine sg_iconst (v := (1 : Int32)) 83 (sk_td o_X8_addStop 43 rfl) rfl (by decide) ?_
  refine sg_iadd 84 (sk_td o_X8_addStop 44 rfl) rfl ?_
  refine sm_putI 87 (sk_td o_X8_addStop 45 rfl) rfl kp_X8_251 rfl rfl hk_h0 ?_
  refine sg_aload 89 (sk_td o_X8_addStop 46 rfl) rfl rfl ?_
  refine sk_wk [true, true, true, true, false] (ls' := [none, none, none, none, none]) rfl ?_
  exact t_X8_addStop_89 hq hk_k4
def q_X8_addStop_71 (d : sk_D) (v3 : Int32) (k4 : Nat) (h0 : Nat) (h1 : Nat) : Option (Int32 × sk_D) :=
  if sk_bi (d.1 39 h1 6) 4 = true then (q_X8_addStop_79 (sk_wi d 41 h0 (d.1 39 h1 6).toNatClampNeg v3) k4 k4 k4) else none
set_option maxRecDepth 100000 in
set_option maxHeartbeats 4000000 in
theorem t_X8_addStop_71 {l : Launch} {d : sk_D} {v3 : Int32} {k4 : Nat} {h0 : Nat} {h1 : Nat} {res : Int32 × sk_D} (hq : q_X8_addStop_71 d v3 k4 h0 h1 = some res) (hk_k4 : k4 < sk_cnt 39) (hk_h0 : h0 < sk_cnt 41) (hk_h1 : h1 < sk_cnt 39) :
    sk_G l (sk_rm 3 0 0) m_X8_addStop sk_Ex0 (sk_Zm m_X8_addStop (some (.inl res.1)) (sk_mm res.2)) 0 0 71 [none, none, none, some (.inl v3), some (.inr (.inr (some (39, k4))))] [.inr (.inr (some (39, h1))), .inr (.inr (some (41, h0)))] (sk_mm d) := by
  unfold q_X8_addStop_71 at hq
  refine sm_getI 74 (sk_td o_X8_addStop 37 rfl) rfl kf_X8_251 rfl rfl hk_h1 ?_
  refine sg_iload_n 75 (sk_td o_X8_addStop 38 rfl) rfl rfl ?_
  obtain ⟨hb1, hq⟩ := sk_ifn hq
  refine sm_iast 76 (sk_td o_X8_addStop 39 rfl) rfl rfl hk_h0 hb1 ?_
  refine sg_aload 78 (sk_td o_X8_addStop 40 rfl) rfl rfl ?_
  refine sg_dupR 79 (sk_td o_X8_addStop 41 rfl) rfl ?_
  refine sk_wk [true, true, true, false, true] (ls' := [none, none, none, none, some (.inr (.inr (some (39, k4))))]) rfl ?_
  exact t_X8_addStop_79 hq hk_k4 hk_k4 hk_k4
def q_X8_addStop_0 (d : sk_D) (v1 : Int32) (v2 : Int32) (v3 : Int32) : Option (Int32 × sk_D) :=
  (q_X8_hasGroup d v1).bind fun x1 => if x1 = 0 then some ((-1 : Int32), d) else (q_X8_hasLift d v2).bind fun x2 => if x2 = 0 then some ((-1 : Int32), d) else (q_X8_within d v3 (1 : Int32) (20 : Int32)).bind fun x3 => if x3 = 0 then some ((-1 : Int32), d) else if sk_bi v1 4 = true then (q_X8_within d (d.1 39 v1.toNatClampNeg 6) (0 : Int32) (3 : Int32)).bind fun x5 => if x5 = 0 then some ((-3 : Int32), d) else if sk_bi (d.1 39 v1.toNatClampNeg 6) 4 = true then (q_X8_addStop_71 (sk_wi d 40 v1.toNatClampNeg (d.1 39 v1.toNatClampNeg 6).toNatClampNeg v2) v3 v1.toNatClampNeg v1.toNatClampNeg v1.toNatClampNeg) else none else none
set_option maxRecDepth 100000 in
set_option maxHeartbeats 4000000 in
theorem t_X8_addStop_0 {l : Launch} {d : sk_D} {v1 : Int32} {v2 : Int32} {v3 : Int32} {res : Int32 × sk_D} (hq : q_X8_addStop_0 d v1 v2 v3 = some res) :
    sk_G l (sk_rm 3 0 0) m_X8_addStop sk_Ex0 (sk_Zm m_X8_addStop (some (.inl res.1)) (sk_mm res.2)) 0 0 0 [some (.inr (.inr (some (0, 0)))), some (.inl v1), some (.inl v2), some (.inl v3), none] [] (sk_mm d) := by
  unfold q_X8_addStop_0 at hq
  refine sg_aload_n 1 (sk_td o_X8_addStop 0 rfl) rfl rfl ?_
  refine sg_iload_n 2 (sk_td o_X8_addStop 1 rfl) rfl rfl ?_
  obtain ⟨x1, hr_x1, hq⟩ := sk_bnd hq
  refine sm_callV1i 5 (s_X8_hasGroup hr_x1) (sk_td o_X8_addStop 2 rfl) rfl lv_X8_159 rfl rfl rfl sz_0 (sk_rok (Nat.le_of_ble_eq_true rfl) (Nat.le_of_ble_eq_true rfl) rfl rfl) (Nat.le_of_ble_eq_true rfl) ?_
  refine sg_if_eq 26 8 (sk_td o_X8_addStop 3 rfl) (by decide) rfl (fun hc => ?_) (fun hc => ?_)
  · rw [if_pos hc] at hq
    refine sg_iconst (v := (-1 : Int32)) 27 (sk_td o_X8_addStop 13 rfl) rfl (by decide) ?_
    obtain rfl := Option.some.inj hq
    exact sg_iret (sk_td o_X8_addStop 14 rfl) rfl rfl
  · rw [if_neg hc] at hq
    refine sg_aload_n 9 (sk_td o_X8_addStop 4 rfl) rfl rfl ?_
    refine sg_iload_n 10 (sk_td o_X8_addStop 5 rfl) rfl rfl ?_
    obtain ⟨x2, hr_x2, hq⟩ := sk_bnd hq
    refine sm_callV1i 13 (s_X8_hasLift hr_x2) (sk_td o_X8_addStop 6 rfl) rfl lv_X8_248 rfl rfl rfl sz_0 (sk_rok (Nat.le_of_ble_eq_true rfl) (Nat.le_of_ble_eq_true rfl) rfl rfl) (Nat.le_of_ble_eq_true rfl) ?_
    refine sg_if_eq 26 16 (sk_td o_X8_addStop 7 rfl) (by decide) rfl (fun hc => ?_) (fun hc => ?_)
    · rw [if_pos hc] at hq
      refine sg_iconst (v := (-1 : Int32)) 27 (sk_td o_X8_addStop 13 rfl) rfl (by decide) ?_
      obtain rfl := Option.some.inj hq
      exact sg_iret (sk_td o_X8_addStop 14 rfl) rfl rfl
    · rw [if_neg hc] at hq
      refine sg_iload_n 17 (sk_td o_X8_addStop 8 rfl) rfl rfl ?_
      refine sg_iconst (v := (1 : Int32)) 18 (sk_td o_X8_addStop 9 rfl) rfl (by decide) ?_
      refine sg_bipush (v := (20 : Int32)) 20 (sk_td o_X8_addStop 10 rfl) rfl (by decide) ?_
      obtain ⟨x3, hr_x3, hq⟩ := sk_bnd hq
      refine sm_callS3i 23 (s_X8_within hr_x3) (sk_td o_X8_addStop 11 rfl) rfl ls_X8_85 rfl (sk_rok (Nat.le_of_ble_eq_true rfl) (Nat.le_of_ble_eq_true rfl) rfl rfl) (Nat.le_of_ble_eq_true rfl) ?_
      refine sg_if_ne 28 26 (sk_td o_X8_addStop 12 rfl) (by decide) rfl (fun hc => ?_) (fun hc => ?_)
      · rw [if_neg hc] at hq
        refine sg_aload_n 29 (sk_td o_X8_addStop 15 rfl) rfl rfl ?_
        refine sm_getR (2, 0) 32 (sk_td o_X8_addStop 16 rfl) rfl kf_X8_17 rfl rfl sz_0 rfl ?_
        refine sg_iload_n 33 (sk_td o_X8_addStop 17 rfl) rfl rfl ?_
        obtain ⟨hb4, hq⟩ := sk_ifn hq
        refine sm_aald (39, v1.toNatClampNeg) 34 (sk_td o_X8_addStop 18 rfl) rfl rfl (by decide) sz_2 hb4 (sr_2 (sk_bi.lt hb4)) ?_
        refine sg_astore 36 [some (.inr (.inr (some (0, 0)))), some (.inl v1), some (.inl v2), some (.inl v3), some (.inr (.inr (some (39, v1.toNatClampNeg))))] (sk_td o_X8_addStop 19 rfl) rfl rfl (Nat.le_of_ble_eq_true rfl) rfl ?_
        refine sg_aload 38 (sk_td o_X8_addStop 20 rfl) rfl rfl ?_
        refine sm_getI 41 (sk_td o_X8_addStop 21 rfl) rfl kf_X8_251 rfl rfl (sk_bi.lt hb4) ?_
        refine sg_iconst (v := (0 : Int32)) 42 (sk_td o_X8_addStop 22 rfl) rfl (by decide) ?_
        refine sg_iconst (v := (3 : Int32)) 43 (sk_td o_X8_addStop 23 rfl) rfl (by decide) ?_
        obtain ⟨x5, hr_x5, hq⟩ := sk_bnd hq
        refine sm_callS3i 46 (s_X8_within hr_x5) (sk_td o_X8_addStop 24 rfl) rfl ls_X8_85 rfl (sk_rok (Nat.le_of_ble_eq_true rfl) (Nat.le_of_ble_eq_true rfl) rfl rfl) (Nat.le_of_ble_eq_true rfl) ?_
        refine sg_if_ne 52 49 (sk_td o_X8_addStop 25 rfl) (by decide) rfl (fun hc => ?_) (fun hc => ?_)
        · rw [if_neg hc] at hq
          refine sg_aload 54 (sk_td o_X8_addStop 28 rfl) rfl rfl ?_
          refine sm_getR (40, v1.toNatClampNeg) 57 (sk_td o_X8_addStop 29 rfl) rfl kf_X8_254 rfl rfl (sk_bi.lt hb4) rfl ?_
          refine sg_aload 59 (sk_td o_X8_addStop 30 rfl) rfl rfl ?_
          refine sm_getI 62 (sk_td o_X8_addStop 31 rfl) rfl kf_X8_251 rfl rfl (sk_bi.lt hb4) ?_
          refine sg_iload_n 63 (sk_td o_X8_addStop 32 rfl) rfl rfl ?_
          obtain ⟨hb6, hq⟩ := sk_ifn hq
          refine sm_iast 64 (sk_td o_X8_addStop 33 rfl) rfl rfl (sk_bi.lt hb4) hb6 ?_
          refine sg_aload 66 (sk_td o_X8_addStop 34 rfl) rfl rfl ?_
          refine sm_getR (41, v1.toNatClampNeg) 69 (sk_td o_X8_addStop 35 rfl) rfl kf_X8_257 rfl rfl (sk_bi.lt hb4) rfl ?_
          refine sg_aload 71 (sk_td o_X8_addStop 36 rfl) rfl rfl ?_
          refine sk_wk [false, false, false, true, true] (ls' := [none, none, none, some (.inl v3), some (.inr (.inr (some (39, v1.toNatClampNeg))))]) rfl ?_
          exact t_X8_addStop_71 hq (sk_bi.lt hb4) (sk_bi.lt hb4) (sk_bi.lt hb4)
        · rw [if_pos hc] at hq
          refine sg_bipush (v := (-3 : Int32)) 51 (sk_td o_X8_addStop 26 rfl) rfl (by decide) ?_
          obtain rfl := Option.some.inj hq
          exact sg_iret (sk_td o_X8_addStop 27 rfl) rfl rfl
      · rw [if_pos hc] at hq
        refine sg_iconst (v := (-1 : Int32)) 27 (sk_td o_X8_addStop 13 rfl) rfl (by decide) ?_
        obtain rfl := Option.some.inj hq
        exact sg_iret (sk_td o_X8_addStop 14 rfl) rfl rfl
def q_X8_addStop (d : sk_D) (v1 : Int32) (v2 : Int32) (v3 : Int32) : Option (Int32 × sk_D) := q_X8_addStop_0 d v1 v2 v3 
theorem s_X8_addStop {l : Launch} {d : sk_D} {v1 : Int32} {v2 : Int32} {v3 : Int32} {res : Int32 × sk_D} (hq : q_X8_addStop d v1 v2 v3 = some res) : sk_M l 3 m_X8_addStop [.inr (.inr (some (0, 0))), .inl v1, .inl v2, .inl v3] (sk_mm d) (some (.inl res.1)) (sk_mm res.2) :=
  sk_enter (by decide) (fun _ => Nat.le_of_ble_eq_true rfl) (Nat.le_of_ble_eq_true rfl) (t_X8_addStop_0 hq )
def q_X8_setStart_0 (d : sk_D) (v1 : Int32) (v2 : Int32) : Option (Int32 × sk_D) :=
  (q_X8_hasGroup d v1).bind fun x1 => if x1 = 0 then some ((-1 : Int32), d) else (q_X8_within d v2 (0 : Int32) (60 : Int32)).bind fun x2 => if x2 = 0 then some ((-1 : Int32), d) else if sk_bi v1 4 = true then if sk_bi v1 4 = true then some ((d.1 39 v1.toNatClampNeg 5), (sk_wi d 39 v1.toNatClampNeg 5 v2)) else none else none
set_option maxRecDepth 100000 in
set_option maxHeartbeats 4000000 in
theorem t_X8_setStart_0 {l : Launch} {d : sk_D} {v1 : Int32} {v2 : Int32} {res : Int32 × sk_D} (hq : q_X8_setStart_0 d v1 v2 = some res) :
    sk_G l (sk_rm 3 0 0) m_X8_setStart sk_Ex0 (sk_Zm m_X8_setStart (some (.inl res.1)) (sk_mm res.2)) 0 0 0 [some (.inr (.inr (some (0, 0)))), some (.inl v1), some (.inl v2), none] [] (sk_mm d) := by
  unfold q_X8_setStart_0 at hq
  refine sg_aload_n 1 (sk_td o_X8_setStart 0 rfl) rfl rfl ?_
  refine sg_iload_n 2 (sk_td o_X8_setStart 1 rfl) rfl rfl ?_
  obtain ⟨x1, hr_x1, hq⟩ := sk_bnd hq
  refine sm_callV1i 5 (s_X8_hasGroup hr_x1) (sk_td o_X8_setStart 2 rfl) rfl lv_X8_159 rfl rfl rfl sz_0 (sk_rok (Nat.le_of_ble_eq_true rfl) (Nat.le_of_ble_eq_true rfl) rfl rfl) (Nat.le_of_ble_eq_true rfl) ?_
  refine sg_if_eq 18 8 (sk_td o_X8_setStart 3 rfl) (by decide) rfl (fun hc => ?_) (fun hc => ?_)
  · rw [if_pos hc] at hq
    refine sg_iconst (v := (-1 : Int32)) 19 (sk_td o_X8_setStart 9 rfl) rfl (by decide) ?_
    obtain rfl := Option.some.inj hq
    exact sg_iret (sk_td o_X8_setStart 10 rfl) rfl rfl
  · rw [if_neg hc] at hq
    refine sg_iload_n 9 (sk_td o_X8_setStart 4 rfl) rfl rfl ?_
    refine sg_iconst (v := (0 : Int32)) 10 (sk_td o_X8_setStart 5 rfl) rfl (by decide) ?_
    refine sg_bipush (v := (60 : Int32)) 12 (sk_td o_X8_setStart 6 rfl) rfl (by decide) ?_
    obtain ⟨x2, hr_x2, hq⟩ := sk_bnd hq
    refine sm_callS3i 15 (s_X8_within hr_x2) (sk_td o_X8_setStart 7 rfl) rfl ls_X8_85 rfl (sk_rok (Nat.le_of_ble_eq_true rfl) (Nat.le_of_ble_eq_true rfl) rfl rfl) (Nat.le_of_ble_eq_true rfl) ?_
    refine sg_if_ne 20 18 (sk_td o_X8_setStart 8 rfl) (by decide) rfl (fun hc => ?_) (fun hc => ?_)
    · rw [if_neg hc] at hq
      refine sg_aload_n 21 (sk_td o_X8_setStart 11 rfl) rfl rfl ?_
      refine sm_getR (2, 0) 24 (sk_td o_X8_setStart 12 rfl) rfl kf_X8_17 rfl rfl sz_0 rfl ?_
      refine sg_iload_n 25 (sk_td o_X8_setStart 13 rfl) rfl rfl ?_
      obtain ⟨hb3, hq⟩ := sk_ifn hq
      refine sm_aald (39, v1.toNatClampNeg) 26 (sk_td o_X8_setStart 14 rfl) rfl rfl (by decide) sz_2 hb3 (sr_2 (sk_bi.lt hb3)) ?_
      refine sm_getI 29 (sk_td o_X8_setStart 15 rfl) rfl kf_X8_260 rfl rfl (sk_bi.lt hb3) ?_
      refine sg_istore_n 30 [some (.inr (.inr (some (0, 0)))), some (.inl v1), some (.inl v2), some (.inl (d.1 39 v1.toNatClampNeg 5))] (sk_td o_X8_setStart 16 rfl) rfl rfl (Nat.le_of_ble_eq_true rfl) rfl ?_
      refine sg_aload_n 31 (sk_td o_X8_setStart 17 rfl) rfl rfl ?_
      refine sm_getR (2, 0) 34 (sk_td o_X8_setStart 18 rfl) rfl kf_X8_17 rfl rfl sz_0 rfl ?_
      refine sg_iload_n 35 (sk_td o_X8_setStart 19 rfl) rfl rfl ?_
      obtain ⟨hb4, hq⟩ := sk_ifn hq
      refine sm_aald (39, v1.toNatClampNeg) 36 (sk_td o_X8_setStart 20 rfl) rfl rfl (by decide) sz_2 hb4 (sr_2 (sk_bi.lt hb4)) ?_
      refine sg_iload_n 37 (sk_td o_X8_setStart 21 rfl) rfl rfl ?_
      refine sm_putI 40 (sk_td o_X8_setStart 22 rfl) rfl kp_X8_260 rfl rfl (sk_bi.lt hb4) ?_
      refine sg_iload_n 41 (sk_td o_X8_setStart 23 rfl) rfl rfl ?_
      obtain rfl := Option.some.inj hq
      exact sg_iret (sk_td o_X8_setStart 24 rfl) rfl rfl
    · rw [if_pos hc] at hq
      refine sg_iconst (v := (-1 : Int32)) 19 (sk_td o_X8_setStart 9 rfl) rfl (by decide) ?_
      obtain rfl := Option.some.inj hq
      exact sg_iret (sk_td o_X8_setStart 10 rfl) rfl rfl
def q_X8_setStart (d : sk_D) (v1 : Int32) (v2 : Int32) : Option (Int32 × sk_D) := q_X8_setStart_0 d v1 v2 
theorem s_X8_setStart {l : Launch} {d : sk_D} {v1 : Int32} {v2 : Int32} {res : Int32 × sk_D} (hq : q_X8_setStart d v1 v2 = some res) : sk_M l 3 m_X8_setStart [.inr (.inr (some (0, 0))), .inl v1, .inl v2] (sk_mm d) (some (.inl res.1)) (sk_mm res.2) :=
  sk_enter (by decide) (fun _ => Nat.le_of_ble_eq_true rfl) (Nat.le_of_ble_eq_true rfl) (t_X8_setStart_0 hq )
def q_X8_takesPart_0 (d : sk_D) (v1 : Int32) : Option (Int32) :=
  (q_X8_isActive d v1).bind fun x1 => if x1 = 0 then some (0 : Int32) else if sk_bi v1 4 = true then if (d.1 39 v1.toNatClampNeg 6) ≤ 0 then some (0 : Int32) else some (1 : Int32) else none
set_option maxRecDepth 100000 in
set_option maxHeartbeats 4000000 in
theorem t_X8_takesPart_0 {l : Launch} {d : sk_D} {v1 : Int32} {res : Int32} (hq : q_X8_takesPart_0 d v1 = some res) :
    sk_G l (sk_rm 4 0 0) m_X8_takesPart sk_Ex0 (sk_Zm m_X8_takesPart (some (.inl res)) (sk_mm d)) 0 0 0 [some (.inr (.inr (some (0, 0)))), some (.inl v1)] [] (sk_mm d) := by
  unfold q_X8_takesPart_0 at hq
  refine sg_aload_n 1 (sk_td o_X8_takesPart 0 rfl) rfl rfl ?_
  refine sg_iload_n 2 (sk_td o_X8_takesPart 1 rfl) rfl rfl ?_
  obtain ⟨x1, hr_x1, hq⟩ := sk_bnd hq
  refine sm_callV1i 5 (s_X8_isActive hr_x1) (sk_td o_X8_takesPart 2 rfl) rfl lv_X8_218 rfl rfl rfl sz_0 (sk_rok (Nat.le_of_ble_eq_true rfl) (Nat.le_of_ble_eq_true rfl) rfl rfl) (Nat.le_of_ble_eq_true rfl) ?_
  refine sg_if_eq 24 8 (sk_td o_X8_takesPart 3 rfl) (by decide) rfl (fun hc => ?_) (fun hc => ?_)
  · rw [if_pos hc] at hq
    refine sg_iconst (v := (0 : Int32)) 25 (sk_td o_X8_takesPart 12 rfl) rfl (by decide) ?_
    obtain rfl := Option.some.inj hq
    exact sg_iret (sk_td o_X8_takesPart 13 rfl) rfl (show narrow .boolean (.int (0 : Int32)) = .int (0 : Int32) by decide)
  · rw [if_neg hc] at hq
    refine sg_aload_n 9 (sk_td o_X8_takesPart 4 rfl) rfl rfl ?_
    refine sm_getR (2, 0) 12 (sk_td o_X8_takesPart 5 rfl) rfl kf_X8_17 rfl rfl sz_0 rfl ?_
    refine sg_iload_n 13 (sk_td o_X8_takesPart 6 rfl) rfl rfl ?_
    obtain ⟨hb2, hq⟩ := sk_ifn hq
    refine sm_aald (39, v1.toNatClampNeg) 14 (sk_td o_X8_takesPart 7 rfl) rfl rfl (by decide) sz_2 hb2 (sr_2 (sk_bi.lt hb2)) ?_
    refine sm_getI 17 (sk_td o_X8_takesPart 8 rfl) rfl kf_X8_251 rfl rfl (sk_bi.lt hb2) ?_
    refine sg_if_le 24 20 (sk_td o_X8_takesPart 9 rfl) (by decide) rfl (fun hc => ?_) (fun hc => ?_)
    · rw [if_pos hc] at hq
      refine sg_iconst (v := (0 : Int32)) 25 (sk_td o_X8_takesPart 12 rfl) rfl (by decide) ?_
      obtain rfl := Option.some.inj hq
      exact sg_iret (sk_td o_X8_takesPart 13 rfl) rfl (show narrow .boolean (.int (0 : Int32)) = .int (0 : Int32) by decide)
    · rw [if_neg hc] at hq
      refine sg_iconst (v := (1 : Int32)) 21 (sk_td o_X8_takesPart 10 rfl) rfl (by decide) ?_
      refine sg_goto 25 (sk_td o_X8_takesPart 11 rfl) (by decide) ?_
      obtain rfl := Option.some.inj hq
      exact sg_iret (sk_td o_X8_takesPart 13 rfl) rfl (show narrow .boolean (.int (1 : Int32)) = .int (1 : Int32) by decide)
def q_X8_takesPart (d : sk_D) (v1 : Int32) : Option (Int32) := q_X8_takesPart_0 d v1 
theorem s_X8_takesPart {l : Launch} {d : sk_D} {v1 : Int32} {res : Int32} (hq : q_X8_takesPart d v1 = some res) : sk_M l 4 m_X8_takesPart [.inr (.inr (some (0, 0))), .inl v1] (sk_mm d) (some (.inl res)) (sk_mm d) :=
  sk_enter (by decide) (fun _ => Nat.le_of_ble_eq_true rfl) (Nat.le_of_ble_eq_true rfl) (t_X8_takesPart_0 hq )
def q_X8_countPersons_58 (rec2 : (sk_D × Int32) → Option (sk_D)) (d : sk_D) (v1 : Int32) (s1 : Int32) (s2 : Int32) : Option (sk_D) :=
  if sk_bi s1 4 = true then (rec2 ((sk_wi d 24 0 s1.toNatClampNeg s2), (v1 + (1 : Int32)))) else none
set_option maxRecDepth 100000 in
set_option maxHeartbeats 4000000 in
theorem t_X8_countPersons_58 {l : Launch} {rec2 : (sk_D × Int32) → Option (sk_D)} {d : sk_D} {v1 : Int32} {s1 : Int32} {s2 : Int32} (hrec2 : ∀ (a : (sk_D × Int32)) (res : sk_D), rec2 a = some res → sk_G l (sk_rm 5 0 0) m_X8_countPersons sk_Ex0 (sk_Zm m_X8_countPersons none (sk_mm res)) 0 0 2 [some (.inr (.inr (some (0, 0)))), some (.inl a.2), none] [] (sk_mm a.1)) {res : sk_D} (hq : q_X8_countPersons_58 rec2 d v1 s1 s2 = some res) :
    sk_G l (sk_rm 5 0 0) m_X8_countPersons sk_Ex0 (sk_Zm m_X8_countPersons none (sk_mm res)) 0 0 58 [some (.inr (.inr (some (0, 0)))), some (.inl v1), none] [.inl s2, .inl s1, .inr (.inr (some (24, 0)))] (sk_mm d) := by
  unfold q_X8_countPersons_58 at hq
  obtain ⟨hb1, hq⟩ := sk_ifn hq
  refine sm_iast 59 (sk_td o_X8_countPersons 33 rfl) rfl rfl sz_24 hb1 ?_
  refine sg_iinc (v1 + (1 : Int32)) 62 [some (.inr (.inr (some (0, 0)))), some (.inl (v1 + (1 : Int32))), none] (sk_td o_X8_countPersons 34 rfl) rfl rfl rfl rfl (Nat.le_of_ble_eq_true rfl) rfl ?_
  refine sg_goto 2 (sk_td o_X8_countPersons 35 rfl) (by decide) ?_
  exact hrec2 ((sk_wi d 24 0 s1.toNatClampNeg s2), (v1 + (1 : Int32))) _ hq
def q_X8_countPersons_57 (rec2 : (sk_D × Int32) → Option (sk_D)) (d : sk_D) (v1 : Int32) (v2 : Int32) (s1 : Int32) : Option (sk_D) :=
  (q_X8_countPersons_58 rec2 d v1 s1 v2)
set_option maxRecDepth 100000 in
set_option maxHeartbeats 4000000 in
theorem t_X8_countPersons_57 {l : Launch} {rec2 : (sk_D × Int32) → Option (sk_D)} {d : sk_D} {v1 : Int32} {v2 : Int32} {s1 : Int32} (hrec2 : ∀ (a : (sk_D × Int32)) (res : sk_D), rec2 a = some res → sk_G l (sk_rm 5 0 0) m_X8_countPersons sk_Ex0 (sk_Zm m_X8_countPersons none (sk_mm res)) 0 0 2 [some (.inr (.inr (some (0, 0)))), some (.inl a.2), none] [] (sk_mm a.1)) {res : sk_D} (hq : q_X8_countPersons_57 rec2 d v1 v2 s1 = some res) :
    sk_G l (sk_rm 5 0 0) m_X8_countPersons sk_Ex0 (sk_Zm m_X8_countPersons none (sk_mm res)) 0 0 57 [some (.inr (.inr (some (0, 0)))), some (.inl v1), some (.inl v2)] [.inl s1, .inr (.inr (some (24, 0)))] (sk_mm d) := by
  unfold q_X8_countPersons_57 at hq
  refine sg_iload_n 58 (sk_td o_X8_countPersons 32 rfl) rfl rfl ?_
  refine sk_wk [true, true, false] (ls' := [some (.inr (.inr (some (0, 0)))), some (.inl v1), none]) rfl ?_
  exact t_X8_countPersons_58 hrec2 hq
def q_X8_countPersons_24 (rec2 : (sk_D × Int32) → Option (sk_D)) (d : sk_D) (v1 : Int32) (s0 : Int32) : Option (sk_D) :=
  if s0 ≤ 0 then (q_X8_countPersons_57 rec2 d v1 s0 v1) else if sk_bi v1 4 = true then if (d.1 39 v1.toNatClampNeg 4) = (-9 : Int32) then (q_X8_countPersons_57 rec2 d v1 s0 v1) else (q_X8_countPersons_58 rec2 d v1 v1 (s0 + (1 : Int32))) else none
set_option maxRecDepth 100000 in
set_option maxHeartbeats 4000000 in
theorem t_X8_countPersons_24 {l : Launch} {rec2 : (sk_D × Int32) → Option (sk_D)} {d : sk_D} {v1 : Int32} {s0 : Int32} (hrec2 : ∀ (a : (sk_D × Int32)) (res : sk_D), rec2 a = some res → sk_G l (sk_rm 5 0 0) m_X8_countPersons sk_Ex0 (sk_Zm m_X8_countPersons none (sk_mm res)) 0 0 2 [some (.inr (.inr (some (0, 0)))), some (.inl a.2), none] [] (sk_mm a.1)) {res : sk_D} (hq : q_X8_countPersons_24 rec2 d v1 s0 = some res) :
    sk_G l (sk_rm 5 0 0) m_X8_countPersons sk_Ex0 (sk_Zm m_X8_countPersons none (sk_mm res)) 0 0 24 [some (.inr (.inr (some (0, 0)))), some (.inl v1), none] [.inl s0] (sk_mm d) := by
  unfold q_X8_countPersons_24 at hq
  refine sg_istore_n 25 [some (.inr (.inr (some (0, 0)))), some (.inl v1), some (.inl s0)] (sk_td o_X8_countPersons 14 rfl) rfl rfl (Nat.le_of_ble_eq_true rfl) rfl ?_
  refine sg_aload_n 26 (sk_td o_X8_countPersons 15 rfl) rfl rfl ?_
  refine sm_getR (23, 0) 29 (sk_td o_X8_countPersons 16 rfl) rfl kf_X8_54 rfl rfl sz_0 rfl ?_
  refine sm_getR (24, 0) 32 (sk_td o_X8_countPersons 17 rfl) rfl kf_X8_390 rfl rfl sz_23 rfl ?_
  refine sg_iload_n 33 (sk_td o_X8_countPersons 18 rfl) rfl rfl ?_
  refine sg_iload_n 34 (sk_td o_X8_countPersons 19 rfl) rfl rfl ?_
  refine sg_if_le 57 37 (sk_td o_X8_countPersons 20 rfl) (by decide) rfl (fun hc => ?_) (fun hc => ?_)
  · rw [if_pos hc] at hq
    exact t_X8_countPersons_57 hrec2 hq
  · rw [if_neg hc] at hq
    refine sg_aload_n 38 (sk_td o_X8_countPersons 21 rfl) rfl rfl ?_
    refine sm_getR (2, 0) 41 (sk_td o_X8_countPersons 22 rfl) rfl kf_X8_17 rfl rfl sz_0 rfl ?_
    refine sg_iload_n 42 (sk_td o_X8_countPersons 23 rfl) rfl rfl ?_
    obtain ⟨hb1, hq⟩ := sk_ifn hq
    refine sm_aald (39, v1.toNatClampNeg) 43 (sk_td o_X8_countPersons 24 rfl) rfl rfl (by decide) sz_2 hb1 (sr_2 (sk_bi.lt hb1)) ?_
    refine sm_getI 46 (sk_td o_X8_countPersons 25 rfl) rfl kf_X8_188 rfl rfl (sk_bi.lt hb1) ?_
    refine sg_bipush (v := (-9 : Int32)) 48 (sk_td o_X8_countPersons 26 rfl) rfl (by decide) ?_
    refine sg_ic_eq 57 51 (sk_td o_X8_countPersons 27 rfl) (by decide) rfl (fun hc => ?_) (fun hc => ?_)
    · rw [if_pos hc] at hq
      exact t_X8_countPersons_57 hrec2 hq
    · rw [if_neg hc] at hq
      refine sg_iload_n 52 (sk_td o_X8_countPersons 28 rfl) rfl rfl ?_
      refine sg_iconst (v := (1 : Int32)) 53 (sk_td o_X8_countPersons 29 rfl) rfl (by decide) ?_
      refine sg_iadd 54 (sk_td o_X8_countPersons 30 rfl) rfl ?_
      refine sg_goto 58 (sk_td o_X8_countPersons 31 rfl) (by decide) ?_
      refine sk_wk [true, true, false] (ls' := [some (.inr (.inr (some (0, 0)))), some (.inl v1), none]) rfl ?_
      exact t_X8_countPersons_58 hrec2 hq
def q_X8_countPersons_2 (rec2 : (sk_D × Int32) → Option (sk_D)) (d : sk_D) (v1 : Int32) : Option (sk_D) :=
  if (4 : Int32) ≤ v1 then some d else (q_X8_takesPart d v1).bind fun x1 => if x1 = 0 then (q_X8_countPersons_24 rec2 d v1 (0 : Int32)) else (q_X8_countPupilsIn d v1).bind fun x2 => (q_X8_countPersons_24 rec2 d v1 x2)
set_option maxRecDepth 100000 in
set_option maxHeartbeats 4000000 in
theorem t_X8_countPersons_2 {l : Launch} {rec2 : (sk_D × Int32) → Option (sk_D)} {d : sk_D} {v1 : Int32} (hrec2 : ∀ (a : (sk_D × Int32)) (res : sk_D), rec2 a = some res → sk_G l (sk_rm 5 0 0) m_X8_countPersons sk_Ex0 (sk_Zm m_X8_countPersons none (sk_mm res)) 0 0 2 [some (.inr (.inr (some (0, 0)))), some (.inl a.2), none] [] (sk_mm a.1)) {res : sk_D} (hq : q_X8_countPersons_2 rec2 d v1 = some res) :
    sk_G l (sk_rm 5 0 0) m_X8_countPersons sk_Ex0 (sk_Zm m_X8_countPersons none (sk_mm res)) 0 0 2 [some (.inr (.inr (some (0, 0)))), some (.inl v1), none] [] (sk_mm d) := by
  unfold q_X8_countPersons_2 at hq
  refine sg_iload_n 3 (sk_td o_X8_countPersons 2 rfl) rfl rfl ?_
  refine sg_iconst (v := (4 : Int32)) 4 (sk_td o_X8_countPersons 3 rfl) rfl (by decide) ?_
  refine sg_ic_ge 65 7 (sk_td o_X8_countPersons 4 rfl) (by decide) rfl (fun hc => ?_) (fun hc => ?_)
  · rw [if_pos hc] at hq
    obtain rfl := Option.some.inj hq
    exact sg_vret (sk_td o_X8_countPersons 36 rfl) rfl
  · rw [if_neg hc] at hq
    refine sg_aload_n 8 (sk_td o_X8_countPersons 5 rfl) rfl rfl ?_
    refine sg_iload_n 9 (sk_td o_X8_countPersons 6 rfl) rfl rfl ?_
    obtain ⟨x1, hr_x1, hq⟩ := sk_bnd hq
    refine sm_callV1i 12 (s_X8_takesPart hr_x1) (sk_td o_X8_countPersons 7 rfl) rfl lv_X8_288 rfl rfl rfl sz_0 (sk_rok (Nat.le_of_ble_eq_true rfl) (Nat.le_of_ble_eq_true rfl) rfl rfl) (Nat.le_of_ble_eq_true rfl) ?_
    refine sg_if_eq 23 15 (sk_td o_X8_countPersons 8 rfl) (by decide) rfl (fun hc => ?_) (fun hc => ?_)
    · rw [if_pos hc] at hq
      refine sg_iconst (v := (0 : Int32)) 24 (sk_td o_X8_countPersons 13 rfl) rfl (by decide) ?_
      exact t_X8_countPersons_24 hrec2 hq
    · rw [if_neg hc] at hq
      refine sg_aload_n 16 (sk_td o_X8_countPersons 9 rfl) rfl rfl ?_
      refine sg_iload_n 17 (sk_td o_X8_countPersons 10 rfl) rfl rfl ?_
      obtain ⟨x2, hr_x2, hq⟩ := sk_bnd hq
      refine sm_callV1i 20 (s_X8_countPupilsIn hr_x2) (sk_td o_X8_countPersons 11 rfl) rfl lv_X8_185 rfl rfl rfl sz_0 (sk_rok (Nat.le_of_ble_eq_true rfl) (Nat.le_of_ble_eq_true rfl) rfl rfl) (Nat.le_of_ble_eq_true rfl) ?_
      refine sg_goto 24 (sk_td o_X8_countPersons 12 rfl) (by decide) ?_
      exact t_X8_countPersons_24 hrec2 hq
def l_X8_countPersons_2 (fl : Nat) (a : (sk_D × Int32)) : Option (sk_D) := sk_it (fun rec2 a => q_X8_countPersons_2 rec2 a.1 a.2) fl a
theorem lt_X8_countPersons_2 {l : Launch} : ∀ (fl : Nat) (a : (sk_D × Int32)) (res : sk_D), l_X8_countPersons_2 fl a = some res → sk_G l (sk_rm 5 0 0) m_X8_countPersons sk_Ex0 (sk_Zm m_X8_countPersons none (sk_mm res)) 0 0 2 [some (.inr (.inr (some (0, 0)))), some (.inl a.2), none] [] (sk_mm a.1) :=
  sk_it_ind (P := fun (a : (sk_D × Int32)) (res : sk_D) => sk_G l (sk_rm 5 0 0) m_X8_countPersons sk_Ex0 (sk_Zm m_X8_countPersons none (sk_mm res)) 0 0 2 [some (.inr (.inr (some (0, 0)))), some (.inl a.2), none] [] (sk_mm a.1)) (fun rec2 hrec2 a res hq  => t_X8_countPersons_2 hrec2 hq )
def q_X8_countPersons_0 (d : sk_D) : Option (sk_D) :=
  (l_X8_countPersons_2 sk_fu (d, (0 : Int32)))
set_option maxRecDepth 100000 in
set_option maxHeartbeats 4000000 in
theorem t_X8_countPersons_0 {l : Launch} {d : sk_D} {res : sk_D} (hq : q_X8_countPersons_0 d = some res) :
    sk_G l (sk_rm 5 0 0) m_X8_countPersons sk_Ex0 (sk_Zm m_X8_countPersons none (sk_mm res)) 0 0 0 [some (.inr (.inr (some (0, 0)))), none, none] [] (sk_mm d) := by
  unfold q_X8_countPersons_0 at hq
  refine sg_iconst (v := (0 : Int32)) 1 (sk_td o_X8_countPersons 0 rfl) rfl (by decide) ?_
  refine sg_istore_n 2 [some (.inr (.inr (some (0, 0)))), some (.inl (0 : Int32)), none] (sk_td o_X8_countPersons 1 rfl) rfl rfl (Nat.le_of_ble_eq_true rfl) rfl ?_
  exact lt_X8_countPersons_2 sk_fu (d, (0 : Int32)) _ hq
def q_X8_countPersons (d : sk_D) : Option (sk_D) := q_X8_countPersons_0 d 
theorem s_X8_countPersons {l : Launch} {d : sk_D} {res : sk_D} (hq : q_X8_countPersons d = some res) : sk_M l 5 m_X8_countPersons [.inr (.inr (some (0, 0)))] (sk_mm d) none (sk_mm res) :=
  sk_enter (by decide) (fun _ => Nat.le_of_ble_eq_true rfl) (Nat.le_of_ble_eq_true rfl) (t_X8_countPersons_0 hq )
def q_X8_keepResults_88 (rec51 : (sk_D × Int32) → Option (sk_D)) (d : sk_D) (v1 : Int32) (h0 : Nat) (s2 : Int32) : Option (sk_D) :=
  if sk_bi s2 3 = true then (rec51 ((sk_wi d 43 h0 4 (d.1 29 0 s2.toNatClampNeg)), (v1 + (1 : Int32)))) else none
set_option maxRecDepth 100000 in
set_option maxHeartbeats 4000000 in
theorem t_X8_keepResults_88 {l : Launch} {rec51 : (sk_D × Int32) → Option (sk_D)} {d : sk_D} {v1 : Int32} {h0 : Nat} {s2 : Int32} (hrec51 : ∀ (a : (sk_D × Int32)) (res : sk_D), rec51 a = some res → sk_G l (sk_rm 1 0 0) m_X8_keepResults sk_Ex0 (sk_Zm m_X8_keepResults none (sk_mm res)) 0 0 51 [some (.inr (.inr (some (0, 0)))), some (.inl a.2)] [] (sk_mm a.1)) {res : sk_D} (hq : q_X8_keepResults_88 rec51 d v1 h0 s2 = some res) (hk_h0 : h0 < sk_cnt 43) :
    sk_G l (sk_rm 1 0 0) m_X8_keepResults sk_Ex0 (sk_Zm m_X8_keepResults none (sk_mm res)) 0 0 88 [some (.inr (.inr (some (0, 0)))), some (.inl v1)] [.inl s2, .inr (.inr (some (29, 0))), .inr (.inr (some (43, h0)))] (sk_mm d) := by
  unfold q_X8_keepResults_88 at hq
  obtain ⟨hb1, hq⟩ := sk_ifn hq
  refine sm_iald 89 (sk_td o_X8_keepResults 50 rfl) rfl rfl sz_29 hb1 ?_
  refine sm_putI 92 (sk_td o_X8_keepResults 51 rfl) rfl kp_X8_285 rfl rfl hk_h0 ?_
  refine sg_iinc (v1 + (1 : Int32)) 95 [some (.inr (.inr (some (0, 0)))), some (.inl (v1 + (1 : Int32)))] (sk_td o_X8_keepResults 52 rfl) rfl rfl rfl rfl (Nat.le_of_ble_eq_true rfl) rfl ?_
  refine sg_goto 51 (sk_td o_X8_keepResults 53 rfl) (by decide) ?_
  exact hrec51 ((sk_wi d 43 h0 4 (d.1 29 0 s2.toNatClampNeg)), (v1 + (1 : Int32))) _ hq
def q_X8_keepResults_51 (rec51 : (sk_D × Int32) → Option (sk_D)) (d : sk_D) (v1 : Int32) : Option (sk_D) :=
  if (3 : Int32) ≤ v1 then some d else if sk_bi v1 3 = true then if sk_bi v1 3 = true then if sk_bi v1 3 = true then (q_X8_keepResults_88 rec51 (sk_wi d 43 v1.toNatClampNeg 3 (d.1 28 0 v1.toNatClampNeg)) v1 v1.toNatClampNeg v1) else none else none else none
set_option maxRecDepth 100000 in
set_option maxHeartbeats 4000000 in
theorem t_X8_keepResults_51 {l : Launch} {rec51 : (sk_D × Int32) → Option (sk_D)} {d : sk_D} {v1 : Int32} (hrec51 : ∀ (a : (sk_D × Int32)) (res : sk_D), rec51 a = some res → sk_G l (sk_rm 1 0 0) m_X8_keepResults sk_Ex0 (sk_Zm m_X8_keepResults none (sk_mm res)) 0 0 51 [some (.inr (.inr (some (0, 0)))), some (.inl a.2)] [] (sk_mm a.1)) {res : sk_D} (hq : q_X8_keepResults_51 rec51 d v1 = some res) :
    sk_G l (sk_rm 1 0 0) m_X8_keepResults sk_Ex0 (sk_Zm m_X8_keepResults none (sk_mm res)) 0 0 51 [some (.inr (.inr (some (0, 0)))), some (.inl v1)] [] (sk_mm d) := by
  unfold q_X8_keepResults_51 at hq
  refine sg_iload_n 52 (sk_td o_X8_keepResults 29 rfl) rfl rfl ?_
  refine sg_iconst (v := (3 : Int32)) 53 (sk_td o_X8_keepResults 30 rfl) rfl (by decide) ?_
  refine sg_ic_ge 98 56 (sk_td o_X8_keepResults 31 rfl) (by decide) rfl (fun hc => ?_) (fun hc => ?_)
  · rw [if_pos hc] at hq
    obtain rfl := Option.some.inj hq
    exact sg_vret (sk_td o_X8_keepResults 54 rfl) rfl
  · rw [if_neg hc] at hq
    refine sg_aload_n 57 (sk_td o_X8_keepResults 32 rfl) rfl rfl ?_
    refine sm_getR (4, 0) 60 (sk_td o_X8_keepResults 33 rfl) rfl kf_X8_29 rfl rfl sz_0 rfl ?_
    refine sg_iload_n 61 (sk_td o_X8_keepResults 34 rfl) rfl rfl ?_
    obtain ⟨hb1, hq⟩ := sk_ifn hq
    refine sm_aald (43, v1.toNatClampNeg) 62 (sk_td o_X8_keepResults 35 rfl) rfl rfl (by decide) sz_4 hb1 (sr_4 (sk_bi.lt hb1)) ?_
    refine sg_aload_n 63 (sk_td o_X8_keepResults 36 rfl) rfl rfl ?_
    refine sm_getR (23, 0) 66 (sk_td o_X8_keepResults 37 rfl) rfl kf_X8_54 rfl rfl sz_0 rfl ?_
    refine sm_getR (28, 0) 69 (sk_td o_X8_keepResults 38 rfl) rfl kf_X8_395 rfl rfl sz_23 rfl ?_
    refine sg_iload_n 70 (sk_td o_X8_keepResults 39 rfl) rfl rfl ?_
    obtain ⟨hb2, hq⟩ := sk_ifn hq
    refine sm_iald 71 (sk_td o_X8_keepResults 40 rfl) rfl rfl sz_28 hb2 ?_
    refine sm_putI 74 (sk_td o_X8_keepResults 41 rfl) rfl kp_X8_282 rfl rfl (sk_bi.lt hb1) ?_
    refine sg_aload_n 75 (sk_td o_X8_keepResults 42 rfl) rfl rfl ?_
    refine sm_getR (4, 0) 78 (sk_td o_X8_keepResults 43 rfl) rfl kf_X8_29 rfl rfl sz_0 rfl ?_
    refine sg_iload_n 79 (sk_td o_X8_keepResults 44 rfl) rfl rfl ?_
    obtain ⟨hb3, hq⟩ := sk_ifn hq
    refine sm_aald (43, v1.toNatClampNeg) 80 (sk_td o_X8_keepResults 45 rfl) rfl rfl (by decide) sz_4 hb3 (sr_4 (sk_bi.lt hb3)) ?_
    refine sg_aload_n 81 (sk_td o_X8_keepResults 46 rfl) rfl rfl ?_
    refine sm_getR (23, 0) 84 (sk_td o_X8_keepResults 47 rfl) rfl kf_X8_54 rfl rfl sz_0 rfl ?_
    refine sm_getR (29, 0) 87 (sk_td o_X8_keepResults 48 rfl) rfl kf_X8_397 rfl rfl sz_23 rfl ?_
    refine sg_iload_n 88 (sk_td o_X8_keepResults 49 rfl) rfl rfl ?_
    exact t_X8_keepResults_88 hrec51 hq (sk_bi.lt hb3)
def l_X8_keepResults_51 (fl : Nat) (a : (sk_D × Int32)) : Option (sk_D) := sk_it (fun rec51 a => q_X8_keepResults_51 rec51 a.1 a.2) fl a
theorem lt_X8_keepResults_51 {l : Launch} : ∀ (fl : Nat) (a : (sk_D × Int32)) (res : sk_D), l_X8_keepResults_51 fl a = some res → sk_G l (sk_rm 1 0 0) m_X8_keepResults sk_Ex0 (sk_Zm m_X8_keepResults none (sk_mm res)) 0 0 51 [some (.inr (.inr (some (0, 0)))), some (.inl a.2)] [] (sk_mm a.1) :=
  sk_it_ind (P := fun (a : (sk_D × Int32)) (res : sk_D) => sk_G l (sk_rm 1 0 0) m_X8_keepResults sk_Ex0 (sk_Zm m_X8_keepResults none (sk_mm res)) 0 0 51 [some (.inr (.inr (some (0, 0)))), some (.inl a.2)] [] (sk_mm a.1)) (fun rec51 hrec51 a res hq  => t_X8_keepResults_51 hrec51 hq )
def q_X8_keepResults_39 (rec2 : (sk_D × Int32) → Option (sk_D)) (d : sk_D) (v1 : Int32) (h0 : Nat) (s2 : Int32) : Option (sk_D) :=
  if sk_bi s2 4 = true then (rec2 ((sk_wi d 39 h0 10 (d.1 27 0 s2.toNatClampNeg)), (v1 + (1 : Int32)))) else none
set_option maxRecDepth 100000 in
set_option maxHeartbeats 4000000 in
theorem t_X8_keepResults_39 {l : Launch} {rec2 : (sk_D × Int32) → Option (sk_D)} {d : sk_D} {v1 : Int32} {h0 : Nat} {s2 : Int32} (hrec2 : ∀ (a : (sk_D × Int32)) (res : sk_D), rec2 a = some res → sk_G l (sk_rm 1 0 0) m_X8_keepResults sk_Ex0 (sk_Zm m_X8_keepResults none (sk_mm res)) 0 0 2 [some (.inr (.inr (some (0, 0)))), some (.inl a.2)] [] (sk_mm a.1)) {res : sk_D} (hq : q_X8_keepResults_39 rec2 d v1 h0 s2 = some res) (hk_h0 : h0 < sk_cnt 39) :
    sk_G l (sk_rm 1 0 0) m_X8_keepResults sk_Ex0 (sk_Zm m_X8_keepResults none (sk_mm res)) 0 0 39 [some (.inr (.inr (some (0, 0)))), some (.inl v1)] [.inl s2, .inr (.inr (some (27, 0))), .inr (.inr (some (39, h0)))] (sk_mm d) := by
  unfold q_X8_keepResults_39 at hq
  obtain ⟨hb1, hq⟩ := sk_ifn hq
  refine sm_iald 40 (sk_td o_X8_keepResults 23 rfl) rfl rfl sz_27 hb1 ?_
  refine sm_putI 43 (sk_td o_X8_keepResults 24 rfl) rfl kp_X8_279 rfl rfl hk_h0 ?_
  refine sg_iinc (v1 + (1 : Int32)) 46 [some (.inr (.inr (some (0, 0)))), some (.inl (v1 + (1 : Int32)))] (sk_td o_X8_keepResults 25 rfl) rfl rfl rfl rfl (Nat.le_of_ble_eq_true rfl) rfl ?_
  refine sg_goto 2 (sk_td o_X8_keepResults 26 rfl) (by decide) ?_
  exact hrec2 ((sk_wi d 39 h0 10 (d.1 27 0 s2.toNatClampNeg)), (v1 + (1 : Int32))) _ hq
def q_X8_keepResults_2 (rec2 : (sk_D × Int32) → Option (sk_D)) (d : sk_D) (v1 : Int32) : Option (sk_D) :=
  if (4 : Int32) ≤ v1 then (l_X8_keepResults_51 sk_fu (d, (0 : Int32))) else if sk_bi v1 4 = true then if sk_bi v1 4 = true then if sk_bi v1 4 = true then (q_X8_keepResults_39 rec2 (sk_wi d 39 v1.toNatClampNeg 9 (d.1 26 0 v1.toNatClampNeg)) v1 v1.toNatClampNeg v1) else none else none else none
set_option maxRecDepth 100000 in
set_option maxHeartbeats 4000000 in
theorem t_X8_keepResults_2 {l : Launch} {rec2 : (sk_D × Int32) → Option (sk_D)} {d : sk_D} {v1 : Int32} (hrec2 : ∀ (a : (sk_D × Int32)) (res : sk_D), rec2 a = some res → sk_G l (sk_rm 1 0 0) m_X8_keepResults sk_Ex0 (sk_Zm m_X8_keepResults none (sk_mm res)) 0 0 2 [some (.inr (.inr (some (0, 0)))), some (.inl a.2)] [] (sk_mm a.1)) {res : sk_D} (hq : q_X8_keepResults_2 rec2 d v1 = some res) :
    sk_G l (sk_rm 1 0 0) m_X8_keepResults sk_Ex0 (sk_Zm m_X8_keepResults none (sk_mm res)) 0 0 2 [some (.inr (.inr (some (0, 0)))), some (.inl v1)] [] (sk_mm d) := by
  unfold q_X8_keepResults_2 at hq
  refine sg_iload_n 3 (sk_td o_X8_keepResults 2 rfl) rfl rfl ?_
  refine sg_iconst (v := (4 : Int32)) 4 (sk_td o_X8_keepResults 3 rfl) rfl (by decide) ?_
  refine sg_ic_ge 49 7 (sk_td o_X8_keepResults 4 rfl) (by decide) rfl (fun hc => ?_) (fun hc => ?_)
  · rw [if_pos hc] at hq
    refine sg_iconst (v := (0 : Int32)) 50 (sk_td o_X8_keepResults 27 rfl) rfl (by decide) ?_
    refine sg_istore_n 51 [some (.inr (.inr (some (0, 0)))), some (.inl (0 : Int32))] (sk_td o_X8_keepResults 28 rfl) rfl rfl (Nat.le_of_ble_eq_true rfl) rfl ?_
    exact lt_X8_keepResults_51 sk_fu (d, (0 : Int32)) _ hq
  · rw [if_neg hc] at hq
    refine sg_aload_n 8 (sk_td o_X8_keepResults 5 rfl) rfl rfl ?_
    refine sm_getR (2, 0) 11 (sk_td o_X8_keepResults 6 rfl) rfl kf_X8_17 rfl rfl sz_0 rfl ?_
    refine sg_iload_n 12 (sk_td o_X8_keepResults 7 rfl) rfl rfl ?_
    obtain ⟨hb1, hq⟩ := sk_ifn hq
    refine sm_aald (39, v1.toNatClampNeg) 13 (sk_td o_X8_keepResults 8 rfl) rfl rfl (by decide) sz_2 hb1 (sr_2 (sk_bi.lt hb1)) ?_
    refine sg_aload_n 14 (sk_td o_X8_keepResults 9 rfl) rfl rfl ?_
    refine sm_getR (23, 0) 17 (sk_td o_X8_keepResults 10 rfl) rfl kf_X8_54 rfl rfl sz_0 rfl ?_
    refine sm_getR (26, 0) 20 (sk_td o_X8_keepResults 11 rfl) rfl kf_X8_294 rfl rfl sz_23 rfl ?_
    refine sg_iload_n 21 (sk_td o_X8_keepResults 12 rfl) rfl rfl ?_
    obtain ⟨hb2, hq⟩ := sk_ifn hq
    refine sm_iald 22 (sk_td o_X8_keepResults 13 rfl) rfl rfl sz_26 hb2 ?_
    refine sm_putI 25 (sk_td o_X8_keepResults 14 rfl) rfl kp_X8_276 rfl rfl (sk_bi.lt hb1) ?_
    refine sg_aload_n 26 (sk_td o_X8_keepResults 15 rfl) rfl rfl ?_
    refine sm_getR (2, 0) 29 (sk_td o_X8_keepResults 16 rfl) rfl kf_X8_17 rfl rfl sz_0 rfl ?_
    refine sg_iload_n 30 (sk_td o_X8_keepResults 17 rfl) rfl rfl ?_
    obtain ⟨hb3, hq⟩ := sk_ifn hq
    refine sm_aald (39, v1.toNatClampNeg) 31 (sk_td o_X8_keepResults 18 rfl) rfl rfl (by decide) sz_2 hb3 (sr_2 (sk_bi.lt hb3)) ?_
    refine sg_aload_n 32 (sk_td o_X8_keepResults 19 rfl) rfl rfl ?_
    refine sm_getR (23, 0) 35 (sk_td o_X8_keepResults 20 rfl) rfl kf_X8_54 rfl rfl sz_0 rfl ?_
    refine sm_getR (27, 0) 38 (sk_td o_X8_keepResults 21 rfl) rfl kf_X8_393 rfl rfl sz_23 rfl ?_
    refine sg_iload_n 39 (sk_td o_X8_keepResults 22 rfl) rfl rfl ?_
    exact t_X8_keepResults_39 hrec2 hq (sk_bi.lt hb3)
def l_X8_keepResults_2 (fl : Nat) (a : (sk_D × Int32)) : Option (sk_D) := sk_it (fun rec2 a => q_X8_keepResults_2 rec2 a.1 a.2) fl a
theorem lt_X8_keepResults_2 {l : Launch} : ∀ (fl : Nat) (a : (sk_D × Int32)) (res : sk_D), l_X8_keepResults_2 fl a = some res → sk_G l (sk_rm 1 0 0) m_X8_keepResults sk_Ex0 (sk_Zm m_X8_keepResults none (sk_mm res)) 0 0 2 [some (.inr (.inr (some (0, 0)))), some (.inl a.2)] [] (sk_mm a.1) :=
  sk_it_ind (P := fun (a : (sk_D × Int32)) (res : sk_D) => sk_G l (sk_rm 1 0 0) m_X8_keepResults sk_Ex0 (sk_Zm m_X8_keepResults none (sk_mm res)) 0 0 2 [some (.inr (.inr (some (0, 0)))), some (.inl a.2)] [] (sk_mm a.1)) (fun rec2 hrec2 a res hq  => t_X8_keepResults_2 hrec2 hq )
def q_X8_keepResults_0 (d : sk_D) : Option (sk_D) :=
  (l_X8_keepResults_2 sk_fu (d, (0 : Int32)))
set_option maxRecDepth 100000 in
set_option maxHeartbeats 4000000 in
theorem t_X8_keepResults_0 {l : Launch} {d : sk_D} {res : sk_D} (hq : q_X8_keepResults_0 d = some res) :
    sk_G l (sk_rm 1 0 0) m_X8_keepResults sk_Ex0 (sk_Zm m_X8_keepResults none (sk_mm res)) 0 0 0 [some (.inr (.inr (some (0, 0)))), none] [] (sk_mm d) := by
  unfold q_X8_keepResults_0 at hq
  refine sg_iconst (v := (0 : Int32)) 1 (sk_td o_X8_keepResults 0 rfl) rfl (by decide) ?_
  refine sg_istore_n 2 [some (.inr (.inr (some (0, 0)))), some (.inl (0 : Int32))] (sk_td o_X8_keepResults 1 rfl) rfl rfl (Nat.le_of_ble_eq_true rfl) rfl ?_
  exact lt_X8_keepResults_2 sk_fu (d, (0 : Int32)) _ hq
def q_X8_keepResults (d : sk_D) : Option (sk_D) := q_X8_keepResults_0 d 
theorem s_X8_keepResults {l : Launch} {d : sk_D} {res : sk_D} (hq : q_X8_keepResults d = some res) : sk_M l 1 m_X8_keepResults [.inr (.inr (some (0, 0)))] (sk_mm d) none (sk_mm res) :=
  sk_enter (by decide) (fun _ => Nat.le_of_ble_eq_true rfl) (Nat.le_of_ble_eq_true rfl) (t_X8_keepResults_0 hq )
def q_X8_simulate_56 (rec56 : (sk_D × Int32 × Int32) → Option (Int32 × sk_D)) (d : sk_D) (v2 : Int32) (v3 : Int32) : Option (Int32 × sk_D) :=
  if (4 : Int32) ≤ v3 then some (v2, d) else if sk_bi v3 4 = true then (rec56 (d, (v2 + (d.1 39 v3.toNatClampNeg 9)), (v3 + (1 : Int32)))) else none
set_option maxRecDepth 100000 in
set_option maxHeartbeats 4000000 in
theorem t_X8_simulate_56 {l : Launch} {rec56 : (sk_D × Int32 × Int32) → Option (Int32 × sk_D)} {d : sk_D} {v2 : Int32} {v3 : Int32} (hrec56 : ∀ (a : (sk_D × Int32 × Int32)) (res : Int32 × sk_D), rec56 a = some res → sk_G l (sk_rm 6 0 0) m_X8_simulate sk_Ex0 (sk_Zm m_X8_simulate (some (.inl res.1)) (sk_mm res.2)) 0 0 56 [some (.inr (.inr (some (0, 0)))), none, some (.inl a.2.1), some (.inl a.2.2)] [] (sk_mm a.1)) {res : Int32 × sk_D} (hq : q_X8_simulate_56 rec56 d v2 v3 = some res) :
    sk_G l (sk_rm 6 0 0) m_X8_simulate sk_Ex0 (sk_Zm m_X8_simulate (some (.inl res.1)) (sk_mm res.2)) 0 0 56 [some (.inr (.inr (some (0, 0)))), none, some (.inl v2), some (.inl v3)] [] (sk_mm d) := by
  unfold q_X8_simulate_56 at hq
  refine sg_iload_n 57 (sk_td o_X8_simulate 30 rfl) rfl rfl ?_
  refine sg_iconst (v := (4 : Int32)) 58 (sk_td o_X8_simulate 31 rfl) rfl (by decide) ?_
  refine sg_ic_ge 79 61 (sk_td o_X8_simulate 32 rfl) (by decide) rfl (fun hc => ?_) (fun hc => ?_)
  · rw [if_pos hc] at hq
    refine sg_iload_n 80 (sk_td o_X8_simulate 43 rfl) rfl rfl ?_
    obtain rfl := Option.some.inj hq
    exact sg_iret (sk_td o_X8_simulate 44 rfl) rfl rfl
  · rw [if_neg hc] at hq
    refine sg_iload_n 62 (sk_td o_X8_simulate 33 rfl) rfl rfl ?_
    refine sg_aload_n 63 (sk_td o_X8_simulate 34 rfl) rfl rfl ?_
    refine sm_getR (2, 0) 66 (sk_td o_X8_simulate 35 rfl) rfl kf_X8_17 rfl rfl sz_0 rfl ?_
    refine sg_iload_n 67 (sk_td o_X8_simulate 36 rfl) rfl rfl ?_
    obtain ⟨hb1, hq⟩ := sk_ifn hq
    refine sm_aald (39, v3.toNatClampNeg) 68 (sk_td o_X8_simulate 37 rfl) rfl rfl (by decide) sz_2 hb1 (sr_2 (sk_bi.lt hb1)) ?_
    refine sm_getI 71 (sk_td o_X8_simulate 38 rfl) rfl kf_X8_276 rfl rfl (sk_bi.lt hb1) ?_
    refine sg_iadd 72 (sk_td o_X8_simulate 39 rfl) rfl ?_
    refine sg_istore_n 73 [some (.inr (.inr (some (0, 0)))), none, some (.inl (v2 + (d.1 39 v3.toNatClampNeg 9))), some (.inl v3)] (sk_td o_X8_simulate 40 rfl) rfl rfl (Nat.le_of_ble_eq_true rfl) rfl ?_
    refine sg_iinc (v3 + (1 : Int32)) 76 [some (.inr (.inr (some (0, 0)))), none, some (.inl (v2 + (d.1 39 v3.toNatClampNeg 9))), some (.inl (v3 + (1 : Int32)))] (sk_td o_X8_simulate 41 rfl) rfl rfl rfl rfl (Nat.le_of_ble_eq_true rfl) rfl ?_
    refine sg_goto 56 (sk_td o_X8_simulate 42 rfl) (by decide) ?_
    exact hrec56 (d, (v2 + (d.1 39 v3.toNatClampNeg 9)), (v3 + (1 : Int32))) _ hq
def l_X8_simulate_56 (fl : Nat) (a : (sk_D × Int32 × Int32)) : Option (Int32 × sk_D) := sk_it (fun rec56 a => q_X8_simulate_56 rec56 a.1 a.2.1 a.2.2) fl a
theorem lt_X8_simulate_56 {l : Launch} : ∀ (fl : Nat) (a : (sk_D × Int32 × Int32)) (res : Int32 × sk_D), l_X8_simulate_56 fl a = some res → sk_G l (sk_rm 6 0 0) m_X8_simulate sk_Ex0 (sk_Zm m_X8_simulate (some (.inl res.1)) (sk_mm res.2)) 0 0 56 [some (.inr (.inr (some (0, 0)))), none, some (.inl a.2.1), some (.inl a.2.2)] [] (sk_mm a.1) :=
  sk_it_ind (P := fun (a : (sk_D × Int32 × Int32)) (res : Int32 × sk_D) => sk_G l (sk_rm 6 0 0) m_X8_simulate sk_Ex0 (sk_Zm m_X8_simulate (some (.inl res.1)) (sk_mm res.2)) 0 0 56 [some (.inr (.inr (some (0, 0)))), none, some (.inl a.2.1), some (.inl a.2.2)] [] (sk_mm a.1)) (fun rec56 hrec56 a res hq  => t_X8_simulate_56 hrec56 hq )
def q_X8_simulate_0 (d : sk_D) (v1 : Int32) : Option (Int32 × sk_D) :=
  (q_X8_within d v1 (1 : Int32) (180 : Int32)).bind fun x1 => if x1 = 0 then some ((-1 : Int32), d) else (q_X8_countPersons d).bind fun x2 => (q_X6_begin x2).bind fun x3 => (q_X6_run x3 (x3.1 0 0 9) v1).bind fun x4 => (q_X8_keepResults x4).bind fun x5 => (l_X8_simulate_56 sk_fu (x5, (0 : Int32), (0 : Int32)))
set_option maxRecDepth 100000 in
set_option maxHeartbeats 4000000 in
theorem t_X8_simulate_0 {l : Launch} {d : sk_D} {v1 : Int32} {res : Int32 × sk_D} (hq : q_X8_simulate_0 d v1 = some res) :
    sk_G l (sk_rm 6 0 0) m_X8_simulate sk_Ex0 (sk_Zm m_X8_simulate (some (.inl res.1)) (sk_mm res.2)) 0 0 0 [some (.inr (.inr (some (0, 0)))), some (.inl v1), none, none] [] (sk_mm d) := by
  unfold q_X8_simulate_0 at hq
  refine sg_iload_n 1 (sk_td o_X8_simulate 0 rfl) rfl rfl ?_
  refine sg_iconst (v := (1 : Int32)) 2 (sk_td o_X8_simulate 1 rfl) rfl (by decide) ?_
  refine sg_sipush (v := (180 : Int32)) 5 (sk_td o_X8_simulate 2 rfl) rfl (by decide) ?_
  obtain ⟨x1, hr_x1, hq⟩ := sk_bnd hq
  refine sm_callS3i 8 (s_X8_within hr_x1) (sk_td o_X8_simulate 3 rfl) rfl ls_X8_85 rfl (sk_rok (Nat.le_of_ble_eq_true rfl) (Nat.le_of_ble_eq_true rfl) rfl rfl) (Nat.le_of_ble_eq_true rfl) ?_
  refine sg_if_ne 13 11 (sk_td o_X8_simulate 4 rfl) (by decide) rfl (fun hc => ?_) (fun hc => ?_)
  · rw [if_neg hc] at hq
    refine sg_aload_n 14 (sk_td o_X8_simulate 7 rfl) rfl rfl ?_
    obtain ⟨x2, hr_x2, hq⟩ := sk_bnd hq
    refine sm_callV0v 17 (s_X8_countPersons hr_x2) (sk_td o_X8_simulate 8 rfl) rfl lv_X8_263 rfl rfl rfl sz_0 (sk_rok (Nat.le_of_ble_eq_true rfl) (Nat.le_of_ble_eq_true rfl) rfl rfl) (Nat.le_of_ble_eq_true rfl) ?_
    refine sg_aload_n 18 (sk_td o_X8_simulate 9 rfl) rfl rfl ?_
    refine sm_getR (23, 0) 21 (sk_td o_X8_simulate 10 rfl) rfl kf_X8_54 rfl rfl sz_0 rfl ?_
    refine sg_aload_n 22 (sk_td o_X8_simulate 11 rfl) rfl rfl ?_
    refine sm_getR (2, 0) 25 (sk_td o_X8_simulate 12 rfl) rfl kf_X8_17 rfl rfl sz_0 rfl ?_
    obtain ⟨x3, hr_x3, hq⟩ := sk_bnd hq
    refine sm_callV1v 28 (s_X6_begin hr_x3) (sk_td o_X8_simulate 13 rfl) rfl lv_X8_266 rfl rfl rfl sz_23 (sk_rok (Nat.le_of_ble_eq_true rfl) (Nat.le_of_ble_eq_true rfl) rfl rfl) (Nat.le_of_ble_eq_true rfl) ?_
    refine sg_aload_n 29 (sk_td o_X8_simulate 14 rfl) rfl rfl ?_
    refine sm_getR (23, 0) 32 (sk_td o_X8_simulate 15 rfl) rfl kf_X8_54 rfl rfl sz_0 rfl ?_
    refine sg_aload_n 33 (sk_td o_X8_simulate 16 rfl) rfl rfl ?_
    refine sm_getR (2, 0) 36 (sk_td o_X8_simulate 17 rfl) rfl kf_X8_17 rfl rfl sz_0 rfl ?_
    refine sg_aload_n 37 (sk_td o_X8_simulate 18 rfl) rfl rfl ?_
    refine sm_getR (4, 0) 40 (sk_td o_X8_simulate 19 rfl) rfl kf_X8_29 rfl rfl sz_0 rfl ?_
    refine sg_aload_n 41 (sk_td o_X8_simulate 20 rfl) rfl rfl ?_
    refine sm_getI 44 (sk_td o_X8_simulate 21 rfl) rfl kf_X8_65 rfl rfl sz_0 ?_
    refine sg_iload_n 45 (sk_td o_X8_simulate 22 rfl) rfl rfl ?_
    obtain ⟨x4, hr_x4, hq⟩ := sk_bnd hq
    refine sm_callV4v 48 (s_X6_run hr_x4) (sk_td o_X8_simulate 23 rfl) rfl lv_X8_269 rfl rfl rfl sz_23 (sk_rok (Nat.le_of_ble_eq_true rfl) (Nat.le_of_ble_eq_true rfl) rfl rfl) (Nat.le_of_ble_eq_true rfl) ?_
    refine sg_aload_n 49 (sk_td o_X8_simulate 24 rfl) rfl rfl ?_
    obtain ⟨x5, hr_x5, hq⟩ := sk_bnd hq
    refine sm_callV0v 52 (s_X8_keepResults hr_x5) (sk_td o_X8_simulate 25 rfl) rfl lv_X8_273 rfl rfl rfl sz_0 (sk_rok (Nat.le_of_ble_eq_true rfl) (Nat.le_of_ble_eq_true rfl) rfl rfl) (Nat.le_of_ble_eq_true rfl) ?_
    refine sg_iconst (v := (0 : Int32)) 53 (sk_td o_X8_simulate 26 rfl) rfl (by decide) ?_
    refine sg_istore_n 54 [some (.inr (.inr (some (0, 0)))), some (.inl v1), some (.inl (0 : Int32)), none] (sk_td o_X8_simulate 27 rfl) rfl rfl (Nat.le_of_ble_eq_true rfl) rfl ?_
    refine sg_iconst (v := (0 : Int32)) 55 (sk_td o_X8_simulate 28 rfl) rfl (by decide) ?_
    refine sg_istore_n 56 [some (.inr (.inr (some (0, 0)))), some (.inl v1), some (.inl (0 : Int32)), some (.inl (0 : Int32))] (sk_td o_X8_simulate 29 rfl) rfl rfl (Nat.le_of_ble_eq_true rfl) rfl ?_
    refine sk_wk [true, false, true, true] (ls' := [some (.inr (.inr (some (0, 0)))), none, some (.inl (0 : Int32)), some (.inl (0 : Int32))]) rfl ?_
    exact lt_X8_simulate_56 sk_fu (x5, (0 : Int32), (0 : Int32)) _ hq
  · rw [if_pos hc] at hq
    refine sg_iconst (v := (-1 : Int32)) 12 (sk_td o_X8_simulate 5 rfl) rfl (by decide) ?_
    obtain rfl := Option.some.inj hq
    exact sg_iret (sk_td o_X8_simulate 6 rfl) rfl rfl
def q_X8_simulate (d : sk_D) (v1 : Int32) : Option (Int32 × sk_D) := q_X8_simulate_0 d v1 
theorem s_X8_simulate {l : Launch} {d : sk_D} {v1 : Int32} {res : Int32 × sk_D} (hq : q_X8_simulate d v1 = some res) : sk_M l 6 m_X8_simulate [.inr (.inr (some (0, 0))), .inl v1] (sk_mm d) (some (.inl res.1)) (sk_mm res.2) :=
  sk_enter (by decide) (fun _ => Nat.le_of_ble_eq_true rfl) (Nat.le_of_ble_eq_true rfl) (t_X8_simulate_0 hq )
