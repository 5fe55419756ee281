/-! decompiled: X0_begin X0_end X0_suits X1_begin X8_within X1_teaches X1_hasRoomFor X2_departsAt X8_isFamily X3_newUnit X3_unitFor X3_isUnit X3_addHead X3_gatherUnits X3_limitSeats X3_listOptions X3_countDown X3_chooseFor X3_followChoices X3_findBest X3_groupOf X4_clearScores X4_enrol X4_isMember X4_isIn -/
def q_X0_begin_0 (d : sk_D) (k0 : Nat) (v1 : Int32) (v2 : Int32) (v3 : Int32) : Option (sk_D) :=
  some (sk_wi (sk_wi (sk_wi (sk_wi (sk_wi (sk_wi (sk_wi d 39 k0 0 (1 : Int32)) 39 k0 1 v1) 39 k0 2 v2) 39 k0 3 v3) 39 k0 4 (-9 : Int32)) 39 k0 5 (0 : Int32)) 39 k0 6 (0 : Int32))
set_option maxRecDepth 100000 in
set_option maxHeartbeats 4000000 in
theorem t_X0_begin_0 {l : Launch} {d : sk_D} {k0 : Nat} {v1 : Int32} {v2 : Int32} {v3 : Int32} {res : sk_D} (hq : q_X0_begin_0 d k0 v1 v2 v3 = some res) (hk_k0 : k0 < sk_cnt 39) :
    sk_G l (sk_rm 1 0 0) m_X0_begin sk_Ex0 (sk_Zm m_X0_begin none (sk_mm res)) 0 0 0 [some (.inr (.inr (some (39, k0)))), some (.inl v1), some (.inl v2), some (.inl v3)] [] (sk_mm d) := by
  unfold q_X0_begin_0 at hq
  refine sg_aload_n 1 (sk_td o_X0_begin 0 rfl) rfl rfl ?_
  refine sg_iconst (v := (1 : Int32)) 2 (sk_td o_X0_begin 1 rfl) rfl (by decide) ?_
  refine sm_putZ 5 (sk_td o_X0_begin 2 rfl) rfl kp_X0_9 rfl rfl hk_k0 (by decide) (by decide) ?_
  refine sg_aload_n 6 (sk_td o_X0_begin 3 rfl) rfl rfl ?_
  refine sg_iload_n 7 (sk_td o_X0_begin 4 rfl) rfl rfl ?_
  refine sm_putI 10 (sk_td o_X0_begin 5 rfl) rfl kp_X0_15 rfl rfl hk_k0 ?_
  refine sg_aload_n 11 (sk_td o_X0_begin 6 rfl) rfl rfl ?_
  refine sg_iload_n 12 (sk_td o_X0_begin 7 rfl) rfl rfl ?_
  refine sm_putI 15 (sk_td o_X0_begin 8 rfl) rfl kp_X0_19 rfl rfl hk_k0 ?_
  refine sg_aload_n 16 (sk_td o_X0_begin 9 rfl) rfl rfl ?_
  refine sg_iload_n 17 (sk_td o_X0_begin 10 rfl) rfl rfl ?_
  refine sm_putI 20 (sk_td o_X0_begin 11 rfl) rfl kp_X0_22 rfl rfl hk_k0 ?_
  refine sg_aload_n 21 (sk_td o_X0_begin 12 rfl) rfl rfl ?_
  refine sg_bipush (v := (-9 : Int32)) 23 (sk_td o_X0_begin 13 rfl) rfl (by decide) ?_
  refine sm_putI 26 (sk_td o_X0_begin 14 rfl) rfl kp_X0_25 rfl rfl hk_k0 ?_
  refine sg_aload_n 27 (sk_td o_X0_begin 15 rfl) rfl rfl ?_
  refine sg_iconst (v := (0 : Int32)) 28 (sk_td o_X0_begin 16 rfl) rfl (by decide) ?_
  refine sm_putI 31 (sk_td o_X0_begin 17 rfl) rfl kp_X0_28 rfl rfl hk_k0 ?_
  refine sg_aload_n 32 (sk_td o_X0_begin 18 rfl) rfl rfl ?_
  refine sg_iconst (v := (0 : Int32)) 33 (sk_td o_X0_begin 19 rfl) rfl (by decide) ?_
  refine sm_putI 36 (sk_td o_X0_begin 20 rfl) rfl kp_X0_31 rfl rfl hk_k0 ?_
  obtain rfl := Option.some.inj hq
  exact sg_vret (sk_td o_X0_begin 21 rfl) rfl
def q_X0_begin (d : sk_D) (k0 : Nat) (v1 : Int32) (v2 : Int32) (v3 : Int32) : Option (sk_D) := q_X0_begin_0 d k0 v1 v2 v3 
theorem s_X0_begin {l : Launch} {d : sk_D} {k0 : Nat} {v1 : Int32} {v2 : Int32} {v3 : Int32} {res : sk_D} (hq : q_X0_begin d k0 v1 v2 v3 = some res) (hk_k0 : k0 < sk_cnt 39) : sk_M l 1 m_X0_begin [.inr (.inr (some (39, k0))), .inl v1, .inl v2, .inl v3] (sk_mm d) none (sk_mm res) :=
  sk_enter (by decide) (fun _ => Nat.le_of_ble_eq_true rfl) (Nat.le_of_ble_eq_true rfl) (t_X0_begin_0 hq hk_k0 )
def q_X0_end_0 (d : sk_D) (k0 : Nat) : Option (sk_D) :=
  some (sk_wi (sk_wi (sk_wi (sk_wi d 39 k0 0 (0 : Int32)) 39 k0 4 (-9 : Int32)) 39 k0 9 (0 : Int32)) 39 k0 10 (0 : Int32))
set_option maxRecDepth 100000 in
set_option maxHeartbeats 4000000 in
theorem t_X0_end_0 {l : Launch} {d : sk_D} {k0 : Nat} {res : sk_D} (hq : q_X0_end_0 d k0 = some res) (hk_k0 : k0 < sk_cnt 39) :
    sk_G l (sk_rm 1 0 0) m_X0_end sk_Ex0 (sk_Zm m_X0_end none (sk_mm res)) 0 0 0 [some (.inr (.inr (some (39, k0))))] [] (sk_mm d) := by
  unfold q_X0_end_0 at hq
  refine sg_aload_n 1 (sk_td o_X0_end 0 rfl) rfl rfl ?_
  refine sg_iconst (v := (0 : Int32)) 2 (sk_td o_X0_end 1 rfl) rfl (by decide) ?_
  refine sm_putZ 5 (sk_td o_X0_end 2 rfl) rfl kp_X0_9 rfl rfl hk_k0 (by decide) (by decide) ?_
  refine sg_aload_n 6 (sk_td o_X0_end 3 rfl) rfl rfl ?_
  refine sg_bipush (v := (-9 : Int32)) 8 (sk_td o_X0_end 4 rfl) rfl (by decide) ?_
  refine sm_putI 11 (sk_td o_X0_end 5 rfl) rfl kp_X0_25 rfl rfl hk_k0 ?_
  refine sg_aload_n 12 (sk_td o_X0_end 6 rfl) rfl rfl ?_
  refine sg_iconst (v := (0 : Int32)) 13 (sk_td o_X0_end 7 rfl) rfl (by decide) ?_
  refine sm_putI 16 (sk_td o_X0_end 8 rfl) rfl kp_X0_41 rfl rfl hk_k0 ?_
  refine sg_aload_n 17 (sk_td o_X0_end 9 rfl) rfl rfl ?_
  refine sg_iconst (v := (0 : Int32)) 18 (sk_td o_X0_end 10 rfl) rfl (by decide) ?_
  refine sm_putI 21 (sk_td o_X0_end 11 rfl) rfl kp_X0_44 rfl rfl hk_k0 ?_
  obtain rfl := Option.some.inj hq
  exact sg_vret (sk_td o_X0_end 12 rfl) rfl
def q_X0_end (d : sk_D) (k0 : Nat) : Option (sk_D) := q_X0_end_0 d k0 
theorem s_X0_end {l : Launch} {d : sk_D} {k0 : Nat} {res : sk_D} (hq : q_X0_end d k0 = some res) (hk_k0 : k0 < sk_cnt 39) : sk_M l 1 m_X0_end [.inr (.inr (some (39, k0)))] (sk_mm d) none (sk_mm res) :=
  sk_enter (by decide) (fun _ => Nat.le_of_ble_eq_true rfl) (Nat.le_of_ble_eq_true rfl) (t_X0_end_0 hq hk_k0 )
def q_X0_suits_0 (d : sk_D) (k0 : Nat) (k1 : Nat) : Option (Int32) :=
  if (1 : Int32) < (if 0 ≤ ((d.1 39 k0 1) - (d.1 37 k1 1)) then ((d.1 39 k0 1) - (d.1 37 k1 1)) else 0 - ((d.1 39 k0 1) - (d.1 37 k1 1))) then some (0 : Int32) else if (((d.1 37 k1 2) >>> ((d.1 39 k0 2) &&& 31)) &&& (1 : Int32)) = (1 : Int32) then some (1 : Int32) else some (0 : Int32)
set_option maxRecDepth 100000 in
set_option maxHeartbeats 4000000 in
theorem t_X0_suits_0 {l : Launch} {d : sk_D} {k0 : Nat} {k1 : Nat} {res : Int32} (hq : q_X0_suits_0 d k0 k1 = some res) (hk_k0 : k0 < sk_cnt 39) (hk_k1 : k1 < sk_cnt 37) :
    sk_G l (sk_rm 1 0 0) m_X0_suits sk_Ex0 (sk_Zm m_X0_suits (some (.inl res)) (sk_mm d)) 0 0 0 [some (.inr (.inr (some (39, k0)))), some (.inr (.inr (some (37, k1))))] [] (sk_mm d) := by
  unfold q_X0_suits_0 at hq
  refine sg_aload_n 1 (sk_td o_X0_suits 0 rfl) rfl rfl ?_
  refine sm_getI 4 (sk_td o_X0_suits 1 rfl) rfl kf_X0_15 rfl rfl hk_k0 ?_
  refine sg_aload_n 5 (sk_td o_X0_suits 2 rfl) rfl rfl ?_
  refine sm_getI 8 (sk_td o_X0_suits 3 rfl) rfl kf_X0_47 rfl rfl hk_k1 ?_
  refine sg_isub 9 (sk_td o_X0_suits 4 rfl) rfl ?_
  refine sm_abs 12 (sk_td o_X0_suits 5 rfl) rfl kM_X0_50 (Nat.le_of_ble_eq_true rfl) (Nat.le_of_ble_eq_true rfl) (Nat.le_of_ble_eq_true rfl) ?_
  refine sg_iconst (v := (1 : Int32)) 13 (sk_td o_X0_suits 6 rfl) rfl (by decide) ?_
  refine sg_ic_gt 35 16 (sk_td o_X0_suits 7 rfl) (by decide) rfl (fun hc => ?_) (fun hc => ?_)
  · rw [if_pos hc] at hq
    refine sg_iconst (v := (0 : Int32)) 36 (sk_td o_X0_suits 19 rfl) rfl (by decide) ?_
    obtain rfl := Option.some.inj hq
    exact sg_iret (sk_td o_X0_suits 20 rfl) rfl (show narrow .boolean (.int (0 : Int32)) = .int (0 : Int32) by decide)
  · rw [if_neg hc] at hq
    refine sg_aload_n 17 (sk_td o_X0_suits 8 rfl) rfl rfl ?_
    refine sm_getI 20 (sk_td o_X0_suits 9 rfl) rfl kf_X0_56 rfl rfl hk_k1 ?_
    refine sg_aload_n 21 (sk_td o_X0_suits 10 rfl) rfl rfl ?_
    refine sm_getI 24 (sk_td o_X0_suits 11 rfl) rfl kf_X0_19 rfl rfl hk_k0 ?_
    refine sg_ishr 25 (sk_td o_X0_suits 12 rfl) rfl ?_
    refine sg_iconst (v := (1 : Int32)) 26 (sk_td o_X0_suits 13 rfl) rfl (by decide) ?_
    refine sg_iand 27 (sk_td o_X0_suits 14 rfl) rfl ?_
    refine sg_iconst (v := (1 : Int32)) 28 (sk_td o_X0_suits 15 rfl) rfl (by decide) ?_
    refine sg_ic_ne 35 31 (sk_td o_X0_suits 16 rfl) (by decide) rfl (fun hc => ?_) (fun hc => ?_)
    · rw [if_neg hc] at hq
      refine sg_iconst (v := (0 : Int32)) 36 (sk_td o_X0_suits 19 rfl) rfl (by decide) ?_
      obtain rfl := Option.some.inj hq
      exact sg_iret (sk_td o_X0_suits 20 rfl) rfl (show narrow .boolean (.int (0 : Int32)) = .int (0 : Int32) by decide)
    · rw [if_pos hc] at hq
      refine sg_iconst (v := (1 : Int32)) 32 (sk_td o_X0_suits 17 rfl) rfl (by decide) ?_
      refine sg_goto 36 (sk_td o_X0_suits 18 rfl) (by decide) ?_
      obtain rfl := Option.some.inj hq
      exact sg_iret (sk_td o_X0_suits 20 rfl) rfl (show narrow .boolean (.int (1 : Int32)) = .int (1 : Int32) by decide)
def q_X0_suits (d : sk_D) (k0 : Nat) (k1 : Nat) : Option (Int32) := q_X0_suits_0 d k0 k1 
theorem s_X0_suits {l : Launch} {d : sk_D} {k0 : Nat} {k1 : Nat} {res : Int32} (hq : q_X0_suits d k0 k1 = some res) (hk_k0 : k0 < sk_cnt 39) (hk_k1 : k1 < sk_cnt 37) : sk_M l 1 m_X0_suits [.inr (.inr (some (39, k0))), .inr (.inr (some (37, k1)))] (sk_mm d) (some (.inl res)) (sk_mm d) :=
  sk_enter (by decide) (fun _ => Nat.le_of_ble_eq_true rfl) (Nat.le_of_ble_eq_true rfl) (t_X0_suits_0 hq hk_k0 hk_k1 )
def q_X1_begin_0 (d : sk_D) (k0 : Nat) (v1 : Int32) (v2 : Int32) (v3 : Int32) (v4 : Int32) : Option (sk_D) :=
  some (sk_wi (sk_wi (sk_wi (sk_wi (sk_wi (sk_wi d 42 k0 0 (1 : Int32)) 42 k0 1 v1) 42 k0 2 v2) 42 k0 3 v3) 42 k0 4 v4) 42 k0 5 (0 : Int32))
set_option maxRecDepth 100000 in
set_option maxHeartbeats 4000000 in
theorem t_X1_begin_0 {l : Launch} {d : sk_D} {k0 : Nat} {v1 : Int32} {v2 : Int32} {v3 : Int32} {v4 : Int32} {res : sk_D} (hq : q_X1_begin_0 d k0 v1 v2 v3 v4 = some res) (hk_k0 : k0 < sk_cnt 42) :
    sk_G l (sk_rm 1 0 0) m_X1_begin sk_Ex0 (sk_Zm m_X1_begin none (sk_mm res)) 0 0 0 [some (.inr (.inr (some (42, k0)))), some (.inl v1), some (.inl v2), some (.inl v3), some (.inl v4)] [] (sk_mm d) := by
  unfold q_X1_begin_0 at hq
  refine sg_aload_n 1 (sk_td o_X1_begin 0 rfl) rfl rfl ?_
  refine sg_iconst (v := (1 : Int32)) 2 (sk_td o_X1_begin 1 rfl) rfl (by decide) ?_
  refine sm_putZ 5 (sk_td o_X1_begin 2 rfl) rfl kp_X1_9 rfl rfl hk_k0 (by decide) (by decide) ?_
  refine sg_aload_n 6 (sk_td o_X1_begin 3 rfl) rfl rfl ?_
  refine sg_iload_n 7 (sk_td o_X1_begin 4 rfl) rfl rfl ?_
  refine sm_putI 10 (sk_td o_X1_begin 5 rfl) rfl kp_X1_15 rfl rfl hk_k0 ?_
  refine sg_aload_n 11 (sk_td o_X1_begin 6 rfl) rfl rfl ?_
  refine sg_iload_n 12 (sk_td o_X1_begin 7 rfl) rfl rfl ?_
  refine sm_putI 15 (sk_td o_X1_begin 8 rfl) rfl kp_X1_19 rfl rfl hk_k0 ?_
  refine sg_aload_n 16 (sk_td o_X1_begin 9 rfl) rfl rfl ?_
  refine sg_iload_n 17 (sk_td o_X1_begin 10 rfl) rfl rfl ?_
  refine sm_putI 20 (sk_td o_X1_begin 11 rfl) rfl kp_X1_22 rfl rfl hk_k0 ?_
  refine sg_aload_n 21 (sk_td o_X1_begin 12 rfl) rfl rfl ?_
  refine sg_iload 23 (sk_td o_X1_begin 13 rfl) rfl rfl ?_
  refine sm_putI 26 (sk_td o_X1_begin 14 rfl) rfl kp_X1_25 rfl rfl hk_k0 ?_
  refine sg_aload_n 27 (sk_td o_X1_begin 15 rfl) rfl rfl ?_
  refine sg_iconst (v := (0 : Int32)) 28 (sk_td o_X1_begin 16 rfl) rfl (by decide) ?_
  refine sm_putI 31 (sk_td o_X1_begin 17 rfl) rfl kp_X1_28 rfl rfl hk_k0 ?_
  obtain rfl := Option.some.inj hq
  exact sg_vret (sk_td o_X1_begin 18 rfl) rfl
def q_X1_begin (d : sk_D) (k0 : Nat) (v1 : Int32) (v2 : Int32) (v3 : Int32) (v4 : Int32) : Option (sk_D) := q_X1_begin_0 d k0 v1 v2 v3 v4 
theorem s_X1_begin {l : Launch} {d : sk_D} {k0 : Nat} {v1 : Int32} {v2 : Int32} {v3 : Int32} {v4 : Int32} {res : sk_D} (hq : q_X1_begin d k0 v1 v2 v3 v4 = some res) (hk_k0 : k0 < sk_cnt 42) : sk_M l 1 m_X1_begin [.inr (.inr (some (42, k0))), .inl v1, .inl v2, .inl v3, .inl v4] (sk_mm d) none (sk_mm res) :=
  sk_enter (by decide) (fun _ => Nat.le_of_ble_eq_true rfl) (Nat.le_of_ble_eq_true rfl) (t_X1_begin_0 hq hk_k0 )
def q_X8_within_0 (d : sk_D) (v0 : Int32) (v1 : Int32) (v2 : Int32) : Option (Int32) :=
  if v0 < v1 then some (0 : Int32) else if v2 < v0 then some (0 : Int32) else some (1 : Int32)
set_option maxRecDepth 100000 in
set_option maxHeartbeats 4000000 in
theorem t_X8_within_0 {l : Launch} {d : sk_D} {v0 : Int32} {v1 : Int32} {v2 : Int32} {res : Int32} (hq : q_X8_within_0 d v0 v1 v2 = some res) :
    sk_G l (sk_rm 1 0 0) m_X8_within sk_Ex0 (sk_Zm m_X8_within (some (.inl res)) (sk_mm d)) 0 0 0 [some (.inl v0), some (.inl v1), some (.inl v2)] [] (sk_mm d) := by
  unfold q_X8_within_0 at hq
  refine sg_iload_n 1 (sk_td o_X8_within 0 rfl) rfl rfl ?_
  refine sg_iload_n 2 (sk_td o_X8_within 1 rfl) rfl rfl ?_
  refine sg_ic_lt 14 5 (sk_td o_X8_within 2 rfl) (by decide) rfl (fun hc => ?_) (fun hc => ?_)
  · rw [if_pos hc] at hq
    refine sg_iconst (v := (0 : Int32)) 15 (sk_td o_X8_within 8 rfl) rfl (by decide) ?_
    obtain rfl := Option.some.inj hq
    exact sg_iret (sk_td o_X8_within 9 rfl) rfl (show narrow .boolean (.int (0 : Int32)) = .int (0 : Int32) by decide)
  · rw [if_neg hc] at hq
    refine sg_iload_n 6 (sk_td o_X8_within 3 rfl) rfl rfl ?_
    refine sg_iload_n 7 (sk_td o_X8_within 4 rfl) rfl rfl ?_
    refine sg_ic_gt 14 10 (sk_td o_X8_within 5 rfl) (by decide) rfl (fun hc => ?_) (fun hc => ?_)
    · rw [if_pos hc] at hq
      refine sg_iconst (v := (0 : Int32)) 15 (sk_td o_X8_within 8 rfl) rfl (by decide) ?_
      obtain rfl := Option.some.inj hq
      exact sg_iret (sk_td o_X8_within 9 rfl) rfl (show narrow .boolean (.int (0 : Int32)) = .int (0 : Int32) by decide)
    · rw [if_neg hc] at hq
      refine sg_iconst (v := (1 : Int32)) 11 (sk_td o_X8_within 6 rfl) rfl (by decide) ?_
      refine sg_goto 15 (sk_td o_X8_within 7 rfl) (by decide) ?_
      obtain rfl := Option.some.inj hq
      exact sg_iret (sk_td o_X8_within 9 rfl) rfl (show narrow .boolean (.int (1 : Int32)) = .int (1 : Int32) by decide)
def q_X8_within (d : sk_D) (v0 : Int32) (v1 : Int32) (v2 : Int32) : Option (Int32) := q_X8_within_0 d v0 v1 v2 
theorem s_X8_within {l : Launch} {d : sk_D} {v0 : Int32} {v1 : Int32} {v2 : Int32} {res : Int32} (hq : q_X8_within d v0 v1 v2 = some res) : sk_M l 1 m_X8_within [.inl v0, .inl v1, .inl v2] (sk_mm d) (some (.inl res)) (sk_mm d) :=
  sk_enter (by decide) (fun _ => Nat.le_of_ble_eq_true rfl) (Nat.le_of_ble_eq_true rfl) (t_X8_within_0 hq )
def q_X1_teaches_0 (d : sk_D) (k0 : Nat) (k1 : Nat) : Option (Int32) :=
  if (((d.1 42 k0 1) >>> ((d.1 39 k1 2) &&& 31)) &&& (1 : Int32)) = (1 : Int32) then (q_X8_within d (d.1 39 k1 1) (d.1 42 k0 2) (d.1 42 k0 3)).bind fun x1 => if x1 = 0 then some (0 : Int32) else some (1 : Int32) else some (0 : Int32)
set_option maxRecDepth 100000 in
set_option maxHeartbeats 4000000 in
theorem t_X1_teaches_0 {l : Launch} {d : sk_D} {k0 : Nat} {k1 : Nat} {res : Int32} (hq : q_X1_teaches_0 d k0 k1 = some res) (hk_k0 : k0 < sk_cnt 42) (hk_k1 : k1 < sk_cnt 39) :
    sk_G l (sk_rm 2 0 0) m_X1_teaches sk_Ex0 (sk_Zm m_X1_teaches (some (.inl res)) (sk_mm d)) 0 0 0 [some (.inr (.inr (some (42, k0)))), some (.inr (.inr (some (39, k1))))] [] (sk_mm d) := by
  unfold q_X1_teaches_0 at hq
  refine sg_aload_n 1 (sk_td o_X1_teaches 0 rfl) rfl rfl ?_
  refine sm_getI 4 (sk_td o_X1_teaches 1 rfl) rfl kf_X1_15 rfl rfl hk_k0 ?_
  refine sg_aload_n 5 (sk_td o_X1_teaches 2 rfl) rfl rfl ?_
  refine sm_getI 8 (sk_td o_X1_teaches 3 rfl) rfl kf_X1_31 rfl rfl hk_k1 ?_
  refine sg_ishr 9 (sk_td o_X1_teaches 4 rfl) rfl ?_
  refine sg_iconst (v := (1 : Int32)) 10 (sk_td o_X1_teaches 5 rfl) rfl (by decide) ?_
  refine sg_iand 11 (sk_td o_X1_teaches 6 rfl) rfl ?_
  refine sg_iconst (v := (1 : Int32)) 12 (sk_td o_X1_teaches 7 rfl) rfl (by decide) ?_
  refine sg_ic_ne 37 15 (sk_td o_X1_teaches 8 rfl) (by decide) rfl (fun hc => ?_) (fun hc => ?_)
  · rw [if_neg hc] at hq
    refine sg_iconst (v := (0 : Int32)) 38 (sk_td o_X1_teaches 19 rfl) rfl (by decide) ?_
    obtain rfl := Option.some.inj hq
    exact sg_iret (sk_td o_X1_teaches 20 rfl) rfl (show narrow .boolean (.int (0 : Int32)) = .int (0 : Int32) by decide)
  · rw [if_pos hc] at hq
    refine sg_aload_n 16 (sk_td o_X1_teaches 9 rfl) rfl rfl ?_
    refine sm_getI 19 (sk_td o_X1_teaches 10 rfl) rfl kf_X1_36 rfl rfl hk_k1 ?_
    refine sg_aload_n 20 (sk_td o_X1_teaches 11 rfl) rfl rfl ?_
    refine sm_getI 23 (sk_td o_X1_teaches 12 rfl) rfl kf_X1_19 rfl rfl hk_k0 ?_
    refine sg_aload_n 24 (sk_td o_X1_teaches 13 rfl) rfl rfl ?_
    refine sm_getI 27 (sk_td o_X1_teaches 14 rfl) rfl kf_X1_22 rfl rfl hk_k0 ?_
    obtain ⟨x1, hr_x1, hq⟩ := sk_bnd hq
    refine sm_callN3i 30 (s_X8_within hr_x1) (sk_td o_X1_teaches 15 rfl) rfl ln_X1_39 rfl (sk_rok (Nat.le_of_ble_eq_true rfl) (Nat.le_of_ble_eq_true rfl) rfl rfl) (Nat.le_of_ble_eq_true rfl) ?_
    refine sg_if_eq 37 33 (sk_td o_X1_teaches 16 rfl) (by decide) rfl (fun hc => ?_) (fun hc => ?_)
    · rw [if_pos hc] at hq
      refine sg_iconst (v := (0 : Int32)) 38 (sk_td o_X1_teaches 19 rfl) rfl (by decide) ?_
      obtain rfl := Option.some.inj hq
      exact sg_iret (sk_td o_X1_teaches 20 rfl) rfl (show narrow .boolean (.int (0 : Int32)) = .int (0 : Int32) by decide)
    · rw [if_neg hc] at hq
      refine sg_iconst (v := (1 : Int32)) 34 (sk_td o_X1_teaches 17 rfl) rfl (by decide) ?_
      refine sg_goto 38 (sk_td o_X1_teaches 18 rfl) (by decide) ?_
      obtain rfl := Option.some.inj hq
      exact sg_iret (sk_td o_X1_teaches 20 rfl) rfl (show narrow .boolean (.int (1 : Int32)) = .int (1 : Int32) by decide)
def q_X1_teaches (d : sk_D) (k0 : Nat) (k1 : Nat) : Option (Int32) := q_X1_teaches_0 d k0 k1 
theorem s_X1_teaches {l : Launch} {d : sk_D} {k0 : Nat} {k1 : Nat} {res : Int32} (hq : q_X1_teaches d k0 k1 = some res) (hk_k0 : k0 < sk_cnt 42) (hk_k1 : k1 < sk_cnt 39) : sk_M l 2 m_X1_teaches [.inr (.inr (some (42, k0))), .inr (.inr (some (39, k1)))] (sk_mm d) (some (.inl res)) (sk_mm d) :=
  sk_enter (by decide) (fun _ => Nat.le_of_ble_eq_true rfl) (Nat.le_of_ble_eq_true rfl) (t_X1_teaches_0 hq hk_k0 hk_k1 )
def q_X1_hasRoomFor_0 (d : sk_D) (k0 : Nat) (v1 : Int32) : Option (Int32) :=
  if 0 < (lg_cmp ((d.1 42 k0 5).toInt64 + ((d.1 42 k0 4).toInt64 * v1.toInt64)) (2147483647 : Int64)) then some (0 : Int32) else some (1 : Int32)
set_option maxRecDepth 100000 in
set_option maxHeartbeats 4000000 in
theorem t_X1_hasRoomFor_0 {l : Launch} {d : sk_D} {k0 : Nat} {v1 : Int32} {res : Int32} (hq : q_X1_hasRoomFor_0 d k0 v1 = some res) (hk_k0 : k0 < sk_cnt 42) :
    sk_G l (sk_rm 1 0 0) m_X1_hasRoomFor sk_Ex0 (sk_Zm m_X1_hasRoomFor (some (.inl res)) (sk_mm d)) 0 0 0 [some (.inr (.inr (some (42, k0)))), some (.inl v1)] [] (sk_mm d) := by
  unfold q_X1_hasRoomFor_0 at hq
  refine sg_aload_n 1 (sk_td o_X1_hasRoomFor 0 rfl) rfl rfl ?_
  refine sm_getI 4 (sk_td o_X1_hasRoomFor 1 rfl) rfl kf_X1_28 rfl rfl hk_k0 ?_
  refine sg_i2l 5 (sk_td o_X1_hasRoomFor 2 rfl) rfl ?_
  refine sg_aload_n 6 (sk_td o_X1_hasRoomFor 3 rfl) rfl rfl ?_
  refine sm_getI 9 (sk_td o_X1_hasRoomFor 4 rfl) rfl kf_X1_25 rfl rfl hk_k0 ?_
  refine sg_i2l 10 (sk_td o_X1_hasRoomFor 5 rfl) rfl ?_
  refine sg_iload_n 11 (sk_td o_X1_hasRoomFor 6 rfl) rfl rfl ?_
  refine sg_i2l 12 (sk_td o_X1_hasRoomFor 7 rfl) rfl ?_
  refine sg_lmul 13 (sk_td o_X1_hasRoomFor 8 rfl) rfl ?_
  refine sg_ladd 14 (sk_td o_X1_hasRoomFor 9 rfl) rfl ?_
  refine sg_ldc2 17 (sk_td o_X1_hasRoomFor 10 rfl) rfl kc_X1_43 ?_
  refine sg_lcmp 18 (sk_td o_X1_hasRoomFor 11 rfl) rfl ?_
  refine sg_if_gt 25 21 (sk_td o_X1_hasRoomFor 12 rfl) (by decide) rfl (fun hc => ?_) (fun hc => ?_)
  · rw [if_pos hc] at hq
    refine sg_iconst (v := (0 : Int32)) 26 (sk_td o_X1_hasRoomFor 15 rfl) rfl (by decide) ?_
    obtain rfl := Option.some.inj hq
    exact sg_iret (sk_td o_X1_hasRoomFor 16 rfl) rfl (show narrow .boolean (.int (0 : Int32)) = .int (0 : Int32) by decide)
  · rw [if_neg hc] at hq
    refine sg_iconst (v := (1 : Int32)) 22 (sk_td o_X1_hasRoomFor 13 rfl) rfl (by decide) ?_
    refine sg_goto 26 (sk_td o_X1_hasRoomFor 14 rfl) (by decide) ?_
    obtain rfl := Option.some.inj hq
    exact sg_iret (sk_td o_X1_hasRoomFor 16 rfl) rfl (show narrow .boolean (.int (1 : Int32)) = .int (1 : Int32) by decide)
def q_X1_hasRoomFor (d : sk_D) (k0 : Nat) (v1 : Int32) : Option (Int32) := q_X1_hasRoomFor_0 d k0 v1 
theorem s_X1_hasRoomFor {l : Launch} {d : sk_D} {k0 : Nat} {v1 : Int32} {res : Int32} (hq : q_X1_hasRoomFor d k0 v1 = some res) (hk_k0 : k0 < sk_cnt 42) : sk_M l 1 m_X1_hasRoomFor [.inr (.inr (some (42, k0))), .inl v1] (sk_mm d) (some (.inl res)) (sk_mm d) :=
  sk_enter (by decide) (fun _ => Nat.le_of_ble_eq_true rfl) (Nat.le_of_ble_eq_true rfl) (t_X1_hasRoomFor_0 hq hk_k0 )
def q_X2_departsAt_0 (d : sk_D) (k0 : Nat) (v1 : Int32) : Option (Int32) :=
  if (d.1 43 k0 1) ≤ 0 then some (0 : Int32) else if ¬ ((d.1 43 k0 1) = 0) then if (v1 - v1 / (d.1 43 k0 1) * (d.1 43 k0 1)) = 0 then some (1 : Int32) else some (0 : Int32) else none
set_option maxRecDepth 100000 in
set_option maxHeartbeats 4000000 in
theorem t_X2_departsAt_0 {l : Launch} {d : sk_D} {k0 : Nat} {v1 : Int32} {res : Int32} (hq : q_X2_departsAt_0 d k0 v1 = some res) (hk_k0 : k0 < sk_cnt 43) :
    sk_G l (sk_rm 1 0 0) m_X2_departsAt sk_Ex0 (sk_Zm m_X2_departsAt (some (.inl res)) (sk_mm d)) 0 0 0 [some (.inr (.inr (some (43, k0)))), some (.inl v1)] [] (sk_mm d) := by
  unfold q_X2_departsAt_0 at hq
  refine sg_aload_n 1 (sk_td o_X2_departsAt 0 rfl) rfl rfl ?_
  refine sm_getI 4 (sk_td o_X2_departsAt 1 rfl) rfl kf_X2_13 rfl rfl hk_k0 ?_
  refine sg_if_le 20 7 (sk_td o_X2_departsAt 2 rfl) (by decide) rfl (fun hc => ?_) (fun hc => ?_)
  · rw [if_pos hc] at hq
    refine sg_iconst (v := (0 : Int32)) 21 (sk_td o_X2_departsAt 10 rfl) rfl (by decide) ?_
    obtain rfl := Option.some.inj hq
    exact sg_iret (sk_td o_X2_departsAt 11 rfl) rfl (show narrow .boolean (.int (0 : Int32)) = .int (0 : Int32) by decide)
  · rw [if_neg hc] at hq
    refine sg_iload_n 8 (sk_td o_X2_departsAt 3 rfl) rfl rfl ?_
    refine sg_aload_n 9 (sk_td o_X2_departsAt 4 rfl) rfl rfl ?_
    refine sm_getI 12 (sk_td o_X2_departsAt 5 rfl) rfl kf_X2_13 rfl rfl hk_k0 ?_
    obtain ⟨hz1, hq⟩ := sk_ifn hq
    refine sg_irem 13 (sk_td o_X2_departsAt 6 rfl) rfl hz1 ?_
    refine sg_if_ne 20 16 (sk_td o_X2_departsAt 7 rfl) (by decide) rfl (fun hc => ?_) (fun hc => ?_)
    · rw [if_neg hc] at hq
      refine sg_iconst (v := (0 : Int32)) 21 (sk_td o_X2_departsAt 10 rfl) rfl (by decide) ?_
      obtain rfl := Option.some.inj hq
      exact sg_iret (sk_td o_X2_departsAt 11 rfl) rfl (show narrow .boolean (.int (0 : Int32)) = .int (0 : Int32) by decide)
    · rw [if_pos hc] at hq
      refine sg_iconst (v := (1 : Int32)) 17 (sk_td o_X2_departsAt 8 rfl) rfl (by decide) ?_
      refine sg_goto 21 (sk_td o_X2_departsAt 9 rfl) (by decide) ?_
      obtain rfl := Option.some.inj hq
      exact sg_iret (sk_td o_X2_departsAt 11 rfl) rfl (show narrow .boolean (.int (1 : Int32)) = .int (1 : Int32) by decide)
def q_X2_departsAt (d : sk_D) (k0 : Nat) (v1 : Int32) : Option (Int32) := q_X2_departsAt_0 d k0 v1 
theorem s_X2_departsAt {l : Launch} {d : sk_D} {k0 : Nat} {v1 : Int32} {res : Int32} (hq : q_X2_departsAt d k0 v1 = some res) (hk_k0 : k0 < sk_cnt 43) : sk_M l 1 m_X2_departsAt [.inr (.inr (some (43, k0))), .inl v1] (sk_mm d) (some (.inl res)) (sk_mm d) :=
  sk_enter (by decide) (fun _ => Nat.le_of_ble_eq_true rfl) (Nat.le_of_ble_eq_true rfl) (t_X2_departsAt_0 hq hk_k0 )
def q_X8_isFamily_0 (d : sk_D) (v0 : Int32) : Option (Int32) :=
  (q_X8_within d v0 (0 : Int32) (7 : Int32)).bind fun x1 => if sk_nb x1 = true then some x1 else none
set_option maxRecDepth 100000 in
set_option maxHeartbeats 4000000 in
theorem t_X8_isFamily_0 {l : Launch} {d : sk_D} {v0 : Int32} {res : Int32} (hq : q_X8_isFamily_0 d v0 = some res) :
    sk_G l (sk_rm 2 0 0) m_X8_isFamily sk_Ex0 (sk_Zm m_X8_isFamily (some (.inl res)) (sk_mm d)) 0 0 0 [some (.inl v0)] [] (sk_mm d) := by
  unfold q_X8_isFamily_0 at hq
  refine sg_iload_n 1 (sk_td o_X8_isFamily 0 rfl) rfl rfl ?_
  refine sg_iconst (v := (0 : Int32)) 2 (sk_td o_X8_isFamily 1 rfl) rfl (by decide) ?_
  refine sg_bipush (v := (7 : Int32)) 4 (sk_td o_X8_isFamily 2 rfl) rfl (by decide) ?_
  obtain ⟨x1, hr_x1, hq⟩ := sk_bnd hq
  refine sm_callS3i 7 (s_X8_within hr_x1) (sk_td o_X8_isFamily 3 rfl) rfl ls_X8_85 rfl (sk_rok (Nat.le_of_ble_eq_true rfl) (Nat.le_of_ble_eq_true rfl) rfl rfl) (Nat.le_of_ble_eq_true rfl) ?_
  obtain ⟨hn2, hq⟩ := sk_ifn hq
  obtain rfl := Option.some.inj hq
  exact sg_iret (sk_td o_X8_isFamily 4 rfl) rfl (sk_nb.z hn2)
def q_X8_isFamily (d : sk_D) (v0 : Int32) : Option (Int32) := q_X8_isFamily_0 d v0 
theorem s_X8_isFamily {l : Launch} {d : sk_D} {v0 : Int32} {res : Int32} (hq : q_X8_isFamily d v0 = some res) : sk_M l 2 m_X8_isFamily [.inl v0] (sk_mm d) (some (.inl res)) (sk_mm d) :=
  sk_enter (by decide) (fun _ => Nat.le_of_ble_eq_true rfl) (Nat.le_of_ble_eq_true rfl) (t_X8_isFamily_0 hq )
def q_X3_newUnit_24 (d : sk_D) (v1 : Int32) (h0 : Nat) : Option (Int32 × sk_D) :=
  some (v1, (sk_wi (sk_fi d 10 h0 4 (0 : Int32)) 6 0 0 (v1 + (1 : Int32))))
set_option maxRecDepth 100000 in
set_option maxHeartbeats 4000000 in
theorem t_X3_newUnit_24 {l : Launch} {d : sk_D} {v1 : Int32} {h0 : Nat} {res : Int32 × sk_D} (hq : q_X3_newUnit_24 d v1 h0 = some res) (hk_h0 : h0 < sk_cnt 10) :
    sk_G l (sk_rm 2 0 0) m_X3_newUnit sk_Ex0 (sk_Zm m_X3_newUnit (some (.inl res.1)) (sk_mm res.2)) 0 0 24 [some (.inr (.inr (some (6, 0)))), some (.inl v1)] [.inl (0 : Int32), .inr (.inr (some (10, h0)))] (sk_mm d) := by
  unfold q_X3_newUnit_24 at hq
  refine sm_callS2v 27 (s_J7_fill_53178 (n := 4) rfl hk_h0 (by decide)) (sk_td o_X3_newUnit 15 rfl) rfl ls_X3_84 rfl (sk_rok (Nat.le_of_ble_eq_true rfl) (Nat.le_of_ble_eq_true rfl) rfl rfl) (Nat.le_of_ble_eq_true rfl) ?_
  refine sg_aload_n 28 (sk_td o_X3_newUnit 16 rfl) rfl rfl ?_
  refine sg_iload_n 29 (sk_td o_X3_newUnit 17 rfl) rfl rfl ?_
  refine sg_iconst (v := (1 : Int32)) 30 (sk_td o_X3_newUnit 18 rfl) rfl (by decide) ?_
  refine sg_iadd 31 (sk_td o_X3_newUnit 19 rfl) rfl ?_
  refine sm_putI 34 (sk_td o_X3_newUnit 20 rfl) rfl kp_X3_9 rfl rfl sz_6 ?_
  refine sg_iload_n 35 (sk_td o_X3_newUnit 21 rfl) rfl rfl ?_
  obtain rfl := Option.some.inj hq
  exact sg_iret (sk_td o_X3_newUnit 22 rfl) rfl rfl
def q_X3_newUnit_0 (d : sk_D) : Option (Int32 × sk_D) :=
  if sk_bi (if (19 : Int32) < (d.1 6 0 0) then (19 : Int32) else (d.1 6 0 0)) 20 = true then if sk_bi (if (19 : Int32) < (d.1 6 0 0) then (19 : Int32) else (d.1 6 0 0)) 20 = true then (q_X3_newUnit_24 (sk_wi d 8 0 (if (19 : Int32) < (d.1 6 0 0) then (19 : Int32) else (d.1 6 0 0)).toNatClampNeg (0 : Int32)) (if (19 : Int32) < (d.1 6 0 0) then (19 : Int32) else (d.1 6 0 0)) (if (19 : Int32) < (d.1 6 0 0) then (19 : Int32) else (d.1 6 0 0)).toNatClampNeg) else none else none
set_option maxRecDepth 100000 in
set_option maxHeartbeats 4000000 in
theorem t_X3_newUnit_0 {l : Launch} {d : sk_D} {res : Int32 × sk_D} (hq : q_X3_newUnit_0 d = some res) :
    sk_G l (sk_rm 2 0 0) m_X3_newUnit sk_Ex0 (sk_Zm m_X3_newUnit (some (.inl res.1)) (sk_mm res.2)) 0 0 0 [some (.inr (.inr (some (6, 0)))), none] [] (sk_mm d) := by
  unfold q_X3_newUnit_0 at hq
  refine sg_aload_n 1 (sk_td o_X3_newUnit 0 rfl) rfl rfl ?_
  refine sm_getI 4 (sk_td o_X3_newUnit 1 rfl) rfl kf_X3_9 rfl rfl sz_6 ?_
  refine sg_bipush (v := (19 : Int32)) 6 (sk_td o_X3_newUnit 2 rfl) rfl (by decide) ?_
  refine sm_min 9 (sk_td o_X3_newUnit 3 rfl) rfl kM_X3_63 (Nat.le_of_ble_eq_true rfl) (Nat.le_of_ble_eq_true rfl) (Nat.le_of_ble_eq_true rfl) ?_
  refine sg_istore_n 10 [some (.inr (.inr (some (6, 0)))), some (.inl (if (19 : Int32) < (d.1 6 0 0) then (19 : Int32) else (d.1 6 0 0)))] (sk_td o_X3_newUnit 4 rfl) rfl rfl (Nat.le_of_ble_eq_true rfl) rfl ?_
  refine sg_aload_n 11 (sk_td o_X3_newUnit 5 rfl) rfl rfl ?_
  refine sm_getR (8, 0) 14 (sk_td o_X3_newUnit 6 rfl) rfl kf_X3_22 rfl rfl sz_6 rfl ?_
  refine sg_iload_n 15 (sk_td o_X3_newUnit 7 rfl) rfl rfl ?_
  refine sg_iconst (v := (0 : Int32)) 16 (sk_td o_X3_newUnit 8 rfl) rfl (by decide) ?_
  obtain ⟨hb1, hq⟩ := sk_ifn hq
  refine sm_iast 17 (sk_td o_X3_newUnit 9 rfl) rfl rfl sz_8 hb1 ?_
  refine sg_aload_n 18 (sk_td o_X3_newUnit 10 rfl) rfl rfl ?_
  refine sm_getR (9, 0) 21 (sk_td o_X3_newUnit 11 rfl) rfl kf_X3_27 rfl rfl sz_6 rfl ?_
  refine sg_iload_n 22 (sk_td o_X3_newUnit 12 rfl) rfl rfl ?_
  obtain ⟨hb2, hq⟩ := sk_ifn hq
  refine sm_aald (10, (if (19 : Int32) < (d.1 6 0 0) then (19 : Int32) else (d.1 6 0 0)).toNatClampNeg) 23 (sk_td o_X3_newUnit 13 rfl) rfl rfl (by decide) sz_9 hb2 (sr_9 (sk_bi.lt hb2)) ?_
  refine sg_iconst (v := (0 : Int32)) 24 (sk_td o_X3_newUnit 14 rfl) rfl (by decide) ?_
  exact t_X3_newUnit_24 hq (sk_bi.lt hb2)
def q_X3_newUnit (d : sk_D) : Option (Int32 × sk_D) := q_X3_newUnit_0 d 
theorem s_X3_newUnit {l : Launch} {d : sk_D} {res : Int32 × sk_D} (hq : q_X3_newUnit d = some res) : sk_M l 2 m_X3_newUnit [.inr (.inr (some (6, 0)))] (sk_mm d) (some (.inl res.1)) (sk_mm res.2) :=
  sk_enter (by decide) (fun _ => Nat.le_of_ble_eq_true rfl) (Nat.le_of_ble_eq_true rfl) (t_X3_newUnit_0 hq )
def q_X3_unitFor_13 (d : sk_D) : Option (Int32 × sk_D) :=
  (q_X3_newUnit d).bind fun x1 => some (x1.1, x1.2)
set_option maxRecDepth 100000 in
set_option maxHeartbeats 4000000 in
theorem t_X3_unitFor_13 {l : Launch} {d : sk_D} {res : Int32 × sk_D} (hq : q_X3_unitFor_13 d = some res) :
    sk_G l (sk_rm 3 0 0) m_X3_unitFor sk_Ex0 (sk_Zm m_X3_unitFor (some (.inl res.1)) (sk_mm res.2)) 0 0 13 [some (.inr (.inr (some (6, 0)))), none, none] [] (sk_mm d) := by
  unfold q_X3_unitFor_13 at hq
  refine sg_aload_n 14 (sk_td o_X3_unitFor 7 rfl) rfl rfl ?_
  obtain ⟨x1, hr_x1, hq⟩ := sk_bnd hq
  refine sm_callV0i 17 (s_X3_newUnit hr_x1) (sk_td o_X3_unitFor 8 rfl) rfl lv_X3_110 rfl rfl rfl sz_6 (sk_rok (Nat.le_of_ble_eq_true rfl) (Nat.le_of_ble_eq_true rfl) rfl rfl) (Nat.le_of_ble_eq_true rfl) ?_
  obtain rfl := Option.some.inj hq
  exact sg_iret (sk_td o_X3_unitFor 9 rfl) rfl rfl
def q_X3_unitFor_39 (d : sk_D) (v1 : Int32) : Option (Int32 × sk_D) :=
  if sk_bi v1 8 = true then some ((d.1 12 0 v1.toNatClampNeg), d) else none
set_option maxRecDepth 100000 in
set_option maxHeartbeats 4000000 in
theorem t_X3_unitFor_39 {l : Launch} {d : sk_D} {v1 : Int32} {res : Int32 × sk_D} (hq : q_X3_unitFor_39 d v1 = some res) :
    sk_G l (sk_rm 3 0 0) m_X3_unitFor sk_Ex0 (sk_Zm m_X3_unitFor (some (.inl res.1)) (sk_mm res.2)) 0 0 39 [some (.inr (.inr (some (6, 0)))), some (.inl v1), none] [] (sk_mm d) := by
  unfold q_X3_unitFor_39 at hq
  refine sg_aload_n 40 (sk_td o_X3_unitFor 22 rfl) rfl rfl ?_
  refine sm_getR (12, 0) 43 (sk_td o_X3_unitFor 23 rfl) rfl kf_X3_33 rfl rfl sz_6 rfl ?_
  refine sg_iload_n 44 (sk_td o_X3_unitFor 24 rfl) rfl rfl ?_
  obtain ⟨hb1, hq⟩ := sk_ifn hq
  refine sm_iald 45 (sk_td o_X3_unitFor 25 rfl) rfl rfl sz_12 hb1 ?_
  obtain rfl := Option.some.inj hq
  exact sg_iret (sk_td o_X3_unitFor 26 rfl) rfl rfl
def q_X3_unitFor_0 (d : sk_D) (v1 : Int32) : Option (Int32 × sk_D) :=
  (q_X8_isFamily d v1).bind fun x1 => if x1 = 0 then (q_X3_unitFor_13 d) else if sk_bi v1 8 = true then if (d.1 5 0 v1.toNatClampNeg) = 0 then (q_X3_unitFor_13 d) else if sk_bi v1 8 = true then if (d.1 12 0 v1.toNatClampNeg) = (-9 : Int32) then (q_X3_newUnit d).bind fun x4 => if sk_bi v1 8 = true then (q_X3_unitFor_39 (sk_wi x4.2 12 0 v1.toNatClampNeg x4.1) v1) else none else (q_X3_unitFor_39 d v1) else none else none
set_option maxRecDepth 100000 in
set_option maxHeartbeats 4000000 in
theorem t_X3_unitFor_0 {l : Launch} {d : sk_D} {v1 : Int32} {res : Int32 × sk_D} (hq : q_X3_unitFor_0 d v1 = some res) :
    sk_G l (sk_rm 3 0 0) m_X3_unitFor sk_Ex0 (sk_Zm m_X3_unitFor (some (.inl res.1)) (sk_mm res.2)) 0 0 0 [some (.inr (.inr (some (6, 0)))), some (.inl v1), some (.inr (.inr (some (5, 0))))] [] (sk_mm d) := by
  unfold q_X3_unitFor_0 at hq
  refine sg_iload_n 1 (sk_td o_X3_unitFor 0 rfl) rfl rfl ?_
  obtain ⟨x1, hr_x1, hq⟩ := sk_bnd hq
  refine sm_callN1i 4 (s_X8_isFamily hr_x1) (sk_td o_X3_unitFor 1 rfl) rfl ln_X3_107 rfl (sk_rok (Nat.le_of_ble_eq_true rfl) (Nat.le_of_ble_eq_true rfl) rfl rfl) (Nat.le_of_ble_eq_true rfl) ?_
  refine sg_if_eq 13 7 (sk_td o_X3_unitFor 2 rfl) (by decide) rfl (fun hc => ?_) (fun hc => ?_)
  · rw [if_pos hc] at hq
    refine sk_wk [true, false, false] (ls' := [some (.inr (.inr (some (6, 0)))), none, none]) rfl ?_
    exact t_X3_unitFor_13 hq
  · rw [if_neg hc] at hq
    refine sg_aload_n 8 (sk_td o_X3_unitFor 3 rfl) rfl rfl ?_
    refine sg_iload_n 9 (sk_td o_X3_unitFor 4 rfl) rfl rfl ?_
    obtain ⟨hb2, hq⟩ := sk_ifn hq
    refine sm_zald 10 (sk_td o_X3_unitFor 5 rfl) rfl rfl sz_5 hb2 ?_
    refine sg_if_ne 18 13 (sk_td o_X3_unitFor 6 rfl) (by decide) rfl (fun hc => ?_) (fun hc => ?_)
    · rw [if_neg hc] at hq
      refine sg_aload_n 19 (sk_td o_X3_unitFor 10 rfl) rfl rfl ?_
      refine sm_getR (12, 0) 22 (sk_td o_X3_unitFor 11 rfl) rfl kf_X3_33 rfl rfl sz_6 rfl ?_
      refine sg_iload_n 23 (sk_td o_X3_unitFor 12 rfl) rfl rfl ?_
      obtain ⟨hb3, hq⟩ := sk_ifn hq
      refine sm_iald 24 (sk_td o_X3_unitFor 13 rfl) rfl rfl sz_12 hb3 ?_
      refine sg_bipush (v := (-9 : Int32)) 26 (sk_td o_X3_unitFor 14 rfl) rfl (by decide) ?_
      refine sg_ic_ne 39 29 (sk_td o_X3_unitFor 15 rfl) (by decide) rfl (fun hc => ?_) (fun hc => ?_)
      · rw [if_neg hc] at hq
        refine sk_wk [true, true, false] (ls' := [some (.inr (.inr (some (6, 0)))), some (.inl v1), none]) rfl ?_
        exact t_X3_unitFor_39 hq
      · rw [if_pos hc] at hq
        refine sg_aload_n 30 (sk_td o_X3_unitFor 16 rfl) rfl rfl ?_
        refine sm_getR (12, 0) 33 (sk_td o_X3_unitFor 17 rfl) rfl kf_X3_33 rfl rfl sz_6 rfl ?_
        refine sg_iload_n 34 (sk_td o_X3_unitFor 18 rfl) rfl rfl ?_
        refine sg_aload_n 35 (sk_td o_X3_unitFor 19 rfl) rfl rfl ?_
        obtain ⟨x4, hr_x4, hq⟩ := sk_bnd hq
        refine sm_callV0i 38 (s_X3_newUnit hr_x4) (sk_td o_X3_unitFor 20 rfl) rfl lv_X3_110 rfl rfl rfl sz_6 (sk_rok (Nat.le_of_ble_eq_true rfl) (Nat.le_of_ble_eq_true rfl) rfl rfl) (Nat.le_of_ble_eq_true rfl) ?_
        obtain ⟨hb5, hq⟩ := sk_ifn hq
        refine sm_iast 39 (sk_td o_X3_unitFor 21 rfl) rfl rfl sz_12 hb5 ?_
        refine sk_wk [true, true, false] (ls' := [some (.inr (.inr (some (6, 0)))), some (.inl v1), none]) rfl ?_
        exact t_X3_unitFor_39 hq
    · rw [if_pos hc] at hq
      refine sk_wk [true, false, false] (ls' := [some (.inr (.inr (some (6, 0)))), none, none]) rfl ?_
      exact t_X3_unitFor_13 hq
def q_X3_unitFor (d : sk_D) (v1 : Int32) : Option (Int32 × sk_D) := q_X3_unitFor_0 d v1 
theorem s_X3_unitFor {l : Launch} {d : sk_D} {v1 : Int32} {res : Int32 × sk_D} (hq : q_X3_unitFor d v1 = some res) : sk_M l 3 m_X3_unitFor [.inr (.inr (some (6, 0))), .inl v1, .inr (.inr (some (5, 0)))] (sk_mm d) (some (.inl res.1)) (sk_mm res.2) :=
  sk_enter (by decide) (fun _ => Nat.le_of_ble_eq_true rfl) (Nat.le_of_ble_eq_true rfl) (t_X3_unitFor_0 hq )
def q_X3_isUnit_0 (d : sk_D) (v0 : Int32) : Option (Int32) :=
  (q_X8_within d v0 (0 : Int32) (19 : Int32)).bind fun x1 => if sk_nb x1 = true then some x1 else none
set_option maxRecDepth 100000 in
set_option maxHeartbeats 4000000 in
theorem t_X3_isUnit_0 {l : Launch} {d : sk_D} {v0 : Int32} {res : Int32} (hq : q_X3_isUnit_0 d v0 = some res) :
    sk_G l (sk_rm 2 0 0) m_X3_isUnit sk_Ex0 (sk_Zm m_X3_isUnit (some (.inl res)) (sk_mm d)) 0 0 0 [some (.inl v0)] [] (sk_mm d) := by
  unfold q_X3_isUnit_0 at hq
  refine sg_iload_n 1 (sk_td o_X3_isUnit 0 rfl) rfl rfl ?_
  refine sg_iconst (v := (0 : Int32)) 2 (sk_td o_X3_isUnit 1 rfl) rfl (by decide) ?_
  refine sg_bipush (v := (19 : Int32)) 4 (sk_td o_X3_isUnit 2 rfl) rfl (by decide) ?_
  obtain ⟨x1, hr_x1, hq⟩ := sk_bnd hq
  refine sm_callN3i 7 (s_X8_within hr_x1) (sk_td o_X3_isUnit 3 rfl) rfl ln_X3_76 rfl (sk_rok (Nat.le_of_ble_eq_true rfl) (Nat.le_of_ble_eq_true rfl) rfl rfl) (Nat.le_of_ble_eq_true rfl) ?_
  obtain ⟨hn2, hq⟩ := sk_ifn hq
  obtain rfl := Option.some.inj hq
  exact sg_iret (sk_td o_X3_isUnit 4 rfl) rfl (sk_nb.z hn2)
def q_X3_isUnit (d : sk_D) (v0 : Int32) : Option (Int32) := q_X3_isUnit_0 d v0 
theorem s_X3_isUnit {l : Launch} {d : sk_D} {v0 : Int32} {res : Int32} (hq : q_X3_isUnit d v0 = some res) : sk_M l 2 m_X3_isUnit [.inl v0] (sk_mm d) (some (.inl res)) (sk_mm d) :=
  sk_enter (by decide) (fun _ => Nat.le_of_ble_eq_true rfl) (Nat.le_of_ble_eq_true rfl) (t_X3_isUnit_0 hq )
def q_X3_addHead_101 (rec21 : (sk_D × Int32 × Nat × Int32) → Option (sk_D)) (d : sk_D) (v1 : Int32) (k2 : Nat) (v4 : Int32) : Option (sk_D) :=
  (rec21 (d, v1, k2, (v4 + (1 : Int32))))
set_option maxRecDepth 100000 in
set_option maxHeartbeats 4000000 in
theorem t_X3_addHead_101 {l : Launch} {rec21 : (sk_D × Int32 × Nat × Int32) → Option (sk_D)} {d : sk_D} {v1 : Int32} {k2 : Nat} {v4 : Int32} (hrec21 : ∀ (a : (sk_D × Int32 × Nat × Int32)) (res : sk_D), rec21 a = some res → a.2.2.1 < sk_cnt 37 → sk_G l (sk_rm 3 0 0) m_X3_addHead sk_Ex0 (sk_Zm m_X3_addHead none (sk_mm res)) 0 0 21 [some (.inr (.inr (some (6, 0)))), some (.inl a.2.1), some (.inr (.inr (some (37, a.2.2.1)))), some (.inr (.inr (some (2, 0)))), some (.inl a.2.2.2)] [] (sk_mm a.1)) {res : sk_D} (hq : q_X3_addHead_101 rec21 d v1 k2 v4 = some res) (hk_k2 : k2 < sk_cnt 37) :
    sk_G l (sk_rm 3 0 0) m_X3_addHead sk_Ex0 (sk_Zm m_X3_addHead none (sk_mm res)) 0 0 101 [some (.inr (.inr (some (6, 0)))), some (.inl v1), some (.inr (.inr (some (37, k2)))), some (.inr (.inr (some (2, 0)))), some (.inl v4)] [] (sk_mm d) := by
  unfold q_X3_addHead_101 at hq
  refine sg_iinc (v4 + (1 : Int32)) 104 [some (.inr (.inr (some (6, 0)))), some (.inl v1), some (.inr (.inr (some (37, k2)))), some (.inr (.inr (some (2, 0)))), some (.inl (v4 + (1 : Int32)))] (sk_td o_X3_addHead 61 rfl) rfl rfl rfl rfl (Nat.le_of_ble_eq_true rfl) rfl ?_
  refine sg_goto 21 (sk_td o_X3_addHead 62 rfl) (by decide) ?_
  exact hrec21 (d, v1, k2, (v4 + (1 : Int32))) _ hq hk_k2
def q_X3_addHead_48 (rec21 : (sk_D × Int32 × Nat × Int32) → Option (sk_D)) (d : sk_D) (v1 : Int32) (k2 : Nat) (v4 : Int32) : Option (sk_D) :=
  if sk_bi v1 20 = true then if sk_bi v4 4 = true then (q_X3_addHead_101 rec21 (sk_wi d 10 v1.toNatClampNeg v4.toNatClampNeg (-1 : Int32)) v1 k2 v4) else none else none
set_option maxRecDepth 100000 in
set_option maxHeartbeats 4000000 in
theorem t_X3_addHead_48 {l : Launch} {rec21 : (sk_D × Int32 × Nat × Int32) → Option (sk_D)} {d : sk_D} {v1 : Int32} {k2 : Nat} {v4 : Int32} (hrec21 : ∀ (a : (sk_D × Int32 × Nat × Int32)) (res : sk_D), rec21 a = some res → a.2.2.1 < sk_cnt 37 → sk_G l (sk_rm 3 0 0) m_X3_addHead sk_Ex0 (sk_Zm m_X3_addHead none (sk_mm res)) 0 0 21 [some (.inr (.inr (some (6, 0)))), some (.inl a.2.1), some (.inr (.inr (some (37, a.2.2.1)))), some (.inr (.inr (some (2, 0)))), some (.inl a.2.2.2)] [] (sk_mm a.1)) {res : sk_D} (hq : q_X3_addHead_48 rec21 d v1 k2 v4 = some res) (hk_k2 : k2 < sk_cnt 37) :
    sk_G l (sk_rm 3 0 0) m_X3_addHead sk_Ex0 (sk_Zm m_X3_addHead none (sk_mm res)) 0 0 48 [some (.inr (.inr (some (6, 0)))), some (.inl v1), some (.inr (.inr (some (37, k2)))), some (.inr (.inr (some (2, 0)))), some (.inl v4)] [] (sk_mm d) := by
  unfold q_X3_addHead_48 at hq
  refine sg_aload_n 49 (sk_td o_X3_addHead 28 rfl) rfl rfl ?_
  refine sm_getR (9, 0) 52 (sk_td o_X3_addHead 29 rfl) rfl kf_X3_27 rfl rfl sz_6 rfl ?_
  refine sg_iload_n 53 (sk_td o_X3_addHead 30 rfl) rfl rfl ?_
  obtain ⟨hb1, hq⟩ := sk_ifn hq
  refine sm_aald (10, v1.toNatClampNeg) 54 (sk_td o_X3_addHead 31 rfl) rfl rfl (by decide) sz_9 hb1 (sr_9 (sk_bi.lt hb1)) ?_
  refine sg_iload 56 (sk_td o_X3_addHead 32 rfl) rfl rfl ?_
  refine sg_iconst (v := (-1 : Int32)) 57 (sk_td o_X3_addHead 33 rfl) rfl (by decide) ?_
  obtain ⟨hb2, hq⟩ := sk_ifn hq
  refine sm_iast 58 (sk_td o_X3_addHead 34 rfl) rfl rfl (sk_bi.lt hb1) hb2 ?_
  refine sg_goto 101 (sk_td o_X3_addHead 35 rfl) (by decide) ?_
  exact t_X3_addHead_101 hrec21 hq hk_k2
def q_X3_addHead_21 (rec21 : (sk_D × Int32 × Nat × Int32) → Option (sk_D)) (d : sk_D) (v1 : Int32) (k2 : Nat) (v4 : Int32) : Option (sk_D) :=
  if (4 : Int32) ≤ v4 then some d else if sk_bi v4 4 = true then if (d.1 39 v4.toNatClampNeg 0) = 0 then (q_X3_addHead_48 rec21 d v1 k2 v4) else if sk_bi v4 4 = true then (q_X0_suits d v4.toNatClampNeg k2).bind fun x3 => if x3 = 0 then (q_X3_addHead_48 rec21 d v1 k2 v4) else if sk_bi v1 20 = true then if sk_bi v4 4 = true then if (d.1 10 v1.toNatClampNeg v4.toNatClampNeg) = (-1 : Int32) then (q_X3_addHead_101 rec21 d v1 k2 v4) else if sk_bi v4 4 = true then if (d.1 39 v4.toNatClampNeg 1) = (d.1 37 k2 1) then (q_X3_addHead_101 rec21 d v1 k2 v4) else if sk_bi v1 20 = true then if sk_bi v4 4 = true then if sk_bi v4 4 = true then (q_X3_addHead_101 rec21 (sk_wi d 10 v1.toNatClampNeg v4.toNatClampNeg ((d.1 10 v1.toNatClampNeg v4.toNatClampNeg) + (1 : Int32))) v1 k2 v4) else none else none else none else none else none else none else none else none
set_option maxRecDepth 100000 in
set_option maxHeartbeats 4000000 in
theorem t_X3_addHead_21 {l : Launch} {rec21 : (sk_D × Int32 × Nat × Int32) → Option (sk_D)} {d : sk_D} {v1 : Int32} {k2 : Nat} {v4 : Int32} (hrec21 : ∀ (a : (sk_D × Int32 × Nat × Int32)) (res : sk_D), rec21 a = some res → a.2.2.1 < sk_cnt 37 → sk_G l (sk_rm 3 0 0) m_X3_addHead sk_Ex0 (sk_Zm m_X3_addHead none (sk_mm res)) 0 0 21 [some (.inr (.inr (some (6, 0)))), some (.inl a.2.1), some (.inr (.inr (some (37, a.2.2.1)))), some (.inr (.inr (some (2, 0)))), some (.inl a.2.2.2)] [] (sk_mm a.1)) {res : sk_D} (hq : q_X3_addHead_21 rec21 d v1 k2 v4 = some res) (hk_k2 : k2 < sk_cnt 37) :
    sk_G l (sk_rm 3 0 0) m_X3_addHead sk_Ex0 (sk_Zm m_X3_addHead none (sk_mm res)) 0 0 21 [some (.inr (.inr (some (6, 0)))), some (.inl v1), some (.inr (.inr (some (37, k2)))), some (.inr (.inr (some (2, 0)))), some (.inl v4)] [] (sk_mm d) := by
  unfold q_X3_addHead_21 at hq
  refine sg_iload 23 (sk_td o_X3_addHead 14 rfl) rfl rfl ?_
  refine sg_iconst (v := (4 : Int32)) 24 (sk_td o_X3_addHead 15 rfl) rfl (by decide) ?_
  refine sg_ic_ge 107 27 (sk_td o_X3_addHead 16 rfl) (by decide) rfl (fun hc => ?_) (fun hc => ?_)
  · rw [if_pos hc] at hq
    obtain rfl := Option.some.inj hq
    exact sg_vret (sk_td o_X3_addHead 63 rfl) rfl
  · rw [if_neg hc] at hq
    refine sg_aload_n 28 (sk_td o_X3_addHead 17 rfl) rfl rfl ?_
    refine sg_iload 30 (sk_td o_X3_addHead 18 rfl) rfl rfl ?_
    obtain ⟨hb1, hq⟩ := sk_ifn hq
    refine sm_aald (39, v4.toNatClampNeg) 31 (sk_td o_X3_addHead 19 rfl) rfl rfl (by decide) sz_2 hb1 (sr_2 (sk_bi.lt hb1)) ?_
    refine sm_getI 34 (sk_td o_X3_addHead 20 rfl) rfl kf_X3_114 rfl rfl (sk_bi.lt hb1) ?_
    refine sg_if_eq 48 37 (sk_td o_X3_addHead 21 rfl) (by decide) rfl (fun hc => ?_) (fun hc => ?_)
    · rw [if_pos hc] at hq
      exact t_X3_addHead_48 hrec21 hq hk_k2
    · rw [if_neg hc] at hq
      refine sg_aload_n 38 (sk_td o_X3_addHead 22 rfl) rfl rfl ?_
      refine sg_iload 40 (sk_td o_X3_addHead 23 rfl) rfl rfl ?_
      obtain ⟨hb2, hq⟩ := sk_ifn hq
      refine sm_aald (39, v4.toNatClampNeg) 41 (sk_td o_X3_addHead 24 rfl) rfl rfl (by decide) sz_2 hb2 (sr_2 (sk_bi.lt hb2)) ?_
      refine sg_aload_n 42 (sk_td o_X3_addHead 25 rfl) rfl rfl ?_
      obtain ⟨x3, hr_x3, hq⟩ := sk_bnd hq
      refine sm_callV1i 45 (s_X0_suits hr_x3 (sk_bi.lt hb2) hk_k2) (sk_td o_X3_addHead 26 rfl) rfl lv_X3_119 rfl rfl rfl (sk_bi.lt hb2) (sk_rok (Nat.le_of_ble_eq_true rfl) (Nat.le_of_ble_eq_true rfl) rfl rfl) (Nat.le_of_ble_eq_true rfl) ?_
      refine sg_if_ne 61 48 (sk_td o_X3_addHead 27 rfl) (by decide) rfl (fun hc => ?_) (fun hc => ?_)
      · rw [if_neg hc] at hq
        refine sg_aload_n 62 (sk_td o_X3_addHead 36 rfl) rfl rfl ?_
        refine sm_getR (9, 0) 65 (sk_td o_X3_addHead 37 rfl) rfl kf_X3_27 rfl rfl sz_6 rfl ?_
        refine sg_iload_n 66 (sk_td o_X3_addHead 38 rfl) rfl rfl ?_
        obtain ⟨hb4, hq⟩ := sk_ifn hq
        refine sm_aald (10, v1.toNatClampNeg) 67 (sk_td o_X3_addHead 39 rfl) rfl rfl (by decide) sz_9 hb4 (sr_9 (sk_bi.lt hb4)) ?_
        refine sg_iload 69 (sk_td o_X3_addHead 40 rfl) rfl rfl ?_
        obtain ⟨hb5, hq⟩ := sk_ifn hq
        refine sm_iald 70 (sk_td o_X3_addHead 41 rfl) rfl rfl (sk_bi.lt hb4) hb5 ?_
        refine sg_iconst (v := (-1 : Int32)) 71 (sk_td o_X3_addHead 42 rfl) rfl (by decide) ?_
        refine sg_ic_eq 101 74 (sk_td o_X3_addHead 43 rfl) (by decide) rfl (fun hc => ?_) (fun hc => ?_)
        · rw [if_pos hc] at hq
          exact t_X3_addHead_101 hrec21 hq hk_k2
        · rw [if_neg hc] at hq
          refine sg_aload_n 75 (sk_td o_X3_addHead 44 rfl) rfl rfl ?_
          refine sg_iload 77 (sk_td o_X3_addHead 45 rfl) rfl rfl ?_
          obtain ⟨hb6, hq⟩ := sk_ifn hq
          refine sm_aald (39, v4.toNatClampNeg) 78 (sk_td o_X3_addHead 46 rfl) rfl rfl (by decide) sz_2 hb6 (sr_2 (sk_bi.lt hb6)) ?_
          refine sm_getI 81 (sk_td o_X3_addHead 47 rfl) rfl kf_X3_123 rfl rfl (sk_bi.lt hb6) ?_
          refine sg_aload_n 82 (sk_td o_X3_addHead 48 rfl) rfl rfl ?_
          refine sm_getI 85 (sk_td o_X3_addHead 49 rfl) rfl kf_X3_126 rfl rfl hk_k2 ?_
          refine sg_ic_eq 101 88 (sk_td o_X3_addHead 50 rfl) (by decide) rfl (fun hc => ?_) (fun hc => ?_)
          · rw [if_pos hc] at hq
            exact t_X3_addHead_101 hrec21 hq hk_k2
          · rw [if_neg hc] at hq
            refine sg_aload_n 89 (sk_td o_X3_addHead 51 rfl) rfl rfl ?_
            refine sm_getR (9, 0) 92 (sk_td o_X3_addHead 52 rfl) rfl kf_X3_27 rfl rfl sz_6 rfl ?_
            refine sg_iload_n 93 (sk_td o_X3_addHead 53 rfl) rfl rfl ?_
            obtain ⟨hb7, hq⟩ := sk_ifn hq
            refine sm_aald (10, v1.toNatClampNeg) 94 (sk_td o_X3_addHead 54 rfl) rfl rfl (by decide) sz_9 hb7 (sr_9 (sk_bi.lt hb7)) ?_
            refine sg_iload 96 (sk_td o_X3_addHead 55 rfl) rfl rfl ?_
            refine sg_dup2 97 (sk_td o_X3_addHead 56 rfl) rfl ?_
            obtain ⟨hb8, hq⟩ := sk_ifn hq
            refine sm_iald 98 (sk_td o_X3_addHead 57 rfl) rfl rfl (sk_bi.lt hb7) hb8 ?_
            refine sg_iconst (v := (1 : Int32)) 99 (sk_td o_X3_addHead 58 rfl) rfl (by decide) ?_
            refine sg_iadd 100 (sk_td o_X3_addHead 59 rfl) rfl ?_
            obtain ⟨hb9, hq⟩ := sk_ifn hq
            refine sm_iast 101 (sk_td o_X3_addHead 60 rfl) rfl rfl (sk_bi.lt hb7) hb9 ?_
            exact t_X3_addHead_101 hrec21 hq hk_k2
      · rw [if_pos hc] at hq
        exact t_X3_addHead_48 hrec21 hq hk_k2
def l_X3_addHead_21 (fl : Nat) (a : (sk_D × Int32 × Nat × Int32)) : Option (sk_D) := sk_it (fun rec21 a => q_X3_addHead_21 rec21 a.1 a.2.1 a.2.2.1 a.2.2.2) fl a
theorem lt_X3_addHead_21 {l : Launch} : ∀ (fl : Nat) (a : (sk_D × Int32 × Nat × Int32)) (res : sk_D), l_X3_addHead_21 fl a = some res → a.2.2.1 < sk_cnt 37 → sk_G l (sk_rm 3 0 0) m_X3_addHead sk_Ex0 (sk_Zm m_X3_addHead none (sk_mm res)) 0 0 21 [some (.inr (.inr (some (6, 0)))), some (.inl a.2.1), some (.inr (.inr (some (37, a.2.2.1)))), some (.inr (.inr (some (2, 0)))), some (.inl a.2.2.2)] [] (sk_mm a.1) :=
  sk_it_ind (P := fun (a : (sk_D × Int32 × Nat × Int32)) (res : sk_D) => a.2.2.1 < sk_cnt 37 → sk_G l (sk_rm 3 0 0) m_X3_addHead sk_Ex0 (sk_Zm m_X3_addHead none (sk_mm res)) 0 0 21 [some (.inr (.inr (some (6, 0)))), some (.inl a.2.1), some (.inr (.inr (some (37, a.2.2.1)))), some (.inr (.inr (some (2, 0)))), some (.inl a.2.2.2)] [] (sk_mm a.1)) (fun rec21 hrec21 a res hq k0_ => t_X3_addHead_21 hrec21 hq k0_)
def q_X3_addHead_0 (d : sk_D) (v1 : Int32) (k2 : Nat) : Option (sk_D) :=
  (q_X3_isUnit d v1).bind fun x1 => if x1 = 0 then some d else if sk_bi v1 20 = true then if sk_bi v1 20 = true then (l_X3_addHead_21 sk_fu ((sk_wi d 8 0 v1.toNatClampNeg ((d.1 8 0 v1.toNatClampNeg) + (1 : Int32))), v1, k2, (0 : Int32))) else none else none
set_option maxRecDepth 100000 in
set_option maxHeartbeats 4000000 in
theorem t_X3_addHead_0 {l : Launch} {d : sk_D} {v1 : Int32} {k2 : Nat} {res : sk_D} (hq : q_X3_addHead_0 d v1 k2 = some res) (hk_k2 : k2 < sk_cnt 37) :
    sk_G l (sk_rm 3 0 0) m_X3_addHead sk_Ex0 (sk_Zm m_X3_addHead none (sk_mm res)) 0 0 0 [some (.inr (.inr (some (6, 0)))), some (.inl v1), some (.inr (.inr (some (37, k2)))), some (.inr (.inr (some (2, 0)))), none] [] (sk_mm d) := by
  unfold q_X3_addHead_0 at hq
  refine sg_iload_n 1 (sk_td o_X3_addHead 0 rfl) rfl rfl ?_
  obtain ⟨x1, hr_x1, hq⟩ := sk_bnd hq
  refine sm_callS1i 4 (s_X3_isUnit hr_x1) (sk_td o_X3_addHead 1 rfl) rfl ls_X3_80 rfl (sk_rok (Nat.le_of_ble_eq_true rfl) (Nat.le_of_ble_eq_true rfl) rfl rfl) (Nat.le_of_ble_eq_true rfl) ?_
  refine sg_if_ne 8 7 (sk_td o_X3_addHead 2 rfl) (by decide) rfl (fun hc => ?_) (fun hc => ?_)
  · rw [if_neg hc] at hq
    refine sg_aload_n 9 (sk_td o_X3_addHead 4 rfl) rfl rfl ?_
    refine sm_getR (8, 0) 12 (sk_td o_X3_addHead 5 rfl) rfl kf_X3_22 rfl rfl sz_6 rfl ?_
    refine sg_iload_n 13 (sk_td o_X3_addHead 6 rfl) rfl rfl ?_
    refine sg_dup2 14 (sk_td o_X3_addHead 7 rfl) rfl ?_
    obtain ⟨hb2, hq⟩ := sk_ifn hq
    refine sm_iald 15 (sk_td o_X3_addHead 8 rfl) rfl rfl sz_8 hb2 ?_
    refine sg_iconst (v := (1 : Int32)) 16 (sk_td o_X3_addHead 9 rfl) rfl (by decide) ?_
    refine sg_iadd 17 (sk_td o_X3_addHead 10 rfl) rfl ?_
    obtain ⟨hb3, hq⟩ := sk_ifn hq
    refine sm_iast 18 (sk_td o_X3_addHead 11 rfl) rfl rfl sz_8 hb3 ?_
    refine sg_iconst (v := (0 : Int32)) 19 (sk_td o_X3_addHead 12 rfl) rfl (by decide) ?_
    refine sg_istore 21 [some (.inr (.inr (some (6, 0)))), some (.inl v1), some (.inr (.inr (some (37, k2)))), some (.inr (.inr (some (2, 0)))), some (.inl (0 : Int32))] (sk_td o_X3_addHead 13 rfl) rfl rfl (Nat.le_of_ble_eq_true rfl) rfl ?_
    exact lt_X3_addHead_21 sk_fu ((sk_wi d 8 0 v1.toNatClampNeg ((d.1 8 0 v1.toNatClampNeg) + (1 : Int32))), v1, k2, (0 : Int32)) _ hq hk_k2
  · rw [if_pos hc] at hq
    obtain rfl := Option.some.inj hq
    exact sg_vret (sk_td o_X3_addHead 3 rfl) rfl
def q_X3_addHead (d : sk_D) (v1 : Int32) (k2 : Nat) : Option (sk_D) := q_X3_addHead_0 d v1 k2 
theorem s_X3_addHead {l : Launch} {d : sk_D} {v1 : Int32} {k2 : Nat} {res : sk_D} (hq : q_X3_addHead d v1 k2 = some res) (hk_k2 : k2 < sk_cnt 37) : sk_M l 3 m_X3_addHead [.inr (.inr (some (6, 0))), .inl v1, .inr (.inr (some (37, k2))), .inr (.inr (some (2, 0)))] (sk_mm d) none (sk_mm res) :=
  sk_enter (by decide) (fun _ => Nat.le_of_ble_eq_true rfl) (Nat.le_of_ble_eq_true rfl) (t_X3_addHead_0 hq hk_k2 )
def q_X3_gatherUnits_78 (rec17 : (sk_D × Int32) → Option (sk_D)) (d : sk_D) (v4 : Int32) : Option (sk_D) :=
  (rec17 (d, (v4 + (1 : Int32))))
set_option maxRecDepth 100000 in
set_option maxHeartbeats 4000000 in
theorem t_X3_gatherUnits_78 {l : Launch} {rec17 : (sk_D × Int32) → Option (sk_D)} {d : sk_D} {v4 : Int32} (hrec17 : ∀ (a : (sk_D × Int32)) (res : sk_D), rec17 a = some res → sk_G l (sk_rm 4 0 0) m_X3_gatherUnits sk_Ex0 (sk_Zm m_X3_gatherUnits none (sk_mm res)) 0 0 17 [some (.inr (.inr (some (6, 0)))), some (.inr (.inr (some (1, 0)))), some (.inr (.inr (some (2, 0)))), some (.inr (.inr (some (5, 0)))), some (.inl a.2)] [] (sk_mm a.1)) {res : sk_D} (hq : q_X3_gatherUnits_78 rec17 d v4 = some res) :
    sk_G l (sk_rm 4 0 0) m_X3_gatherUnits sk_Ex0 (sk_Zm m_X3_gatherUnits none (sk_mm res)) 0 0 78 [some (.inr (.inr (some (6, 0)))), some (.inr (.inr (some (1, 0)))), some (.inr (.inr (some (2, 0)))), some (.inr (.inr (some (5, 0)))), some (.inl v4)] [] (sk_mm d) := by
  unfold q_X3_gatherUnits_78 at hq
  refine sg_iinc (v4 + (1 : Int32)) 81 [some (.inr (.inr (some (6, 0)))), some (.inr (.inr (some (1, 0)))), some (.inr (.inr (some (2, 0)))), some (.inr (.inr (some (5, 0)))), some (.inl (v4 + (1 : Int32)))] (sk_td o_X3_gatherUnits 43 rfl) rfl rfl rfl rfl (Nat.le_of_ble_eq_true rfl) rfl ?_
  refine sg_goto 17 (sk_td o_X3_gatherUnits 44 rfl) (by decide) ?_
  exact hrec17 (d, (v4 + (1 : Int32))) _ hq
def q_X3_gatherUnits_69 (rec17 : (sk_D × Int32) → Option (sk_D)) (d : sk_D) (v4 : Int32) (s2 : Int32) : Option (sk_D) :=
  if sk_bi s2 20 = true then if sk_bi v4 20 = true then (q_X3_addHead d (d.1 7 0 s2.toNatClampNeg) v4.toNatClampNeg).bind fun x3 => (q_X3_gatherUnits_78 rec17 x3 v4) else none else none
set_option maxRecDepth 100000 in
set_option maxHeartbeats 4000000 in
theorem t_X3_gatherUnits_69 {l : Launch} {rec17 : (sk_D × Int32) → Option (sk_D)} {d : sk_D} {v4 : Int32} {s2 : Int32} (hrec17 : ∀ (a : (sk_D × Int32)) (res : sk_D), rec17 a = some res → sk_G l (sk_rm 4 0 0) m_X3_gatherUnits sk_Ex0 (sk_Zm m_X3_gatherUnits none (sk_mm res)) 0 0 17 [some (.inr (.inr (some (6, 0)))), some (.inr (.inr (some (1, 0)))), some (.inr (.inr (some (2, 0)))), some (.inr (.inr (some (5, 0)))), some (.inl a.2)] [] (sk_mm a.1)) {res : sk_D} (hq : q_X3_gatherUnits_69 rec17 d v4 s2 = some res) :
    sk_G l (sk_rm 4 0 0) m_X3_gatherUnits sk_Ex0 (sk_Zm m_X3_gatherUnits none (sk_mm res)) 0 0 69 [some (.inr (.inr (some (6, 0)))), some (.inr (.inr (some (1, 0)))), some (.inr (.inr (some (2, 0)))), some (.inr (.inr (some (5, 0)))), some (.inl v4)] [.inl s2, .inr (.inr (some (7, 0))), .inr (.inr (some (6, 0)))] (sk_mm d) := by
  unfold q_X3_gatherUnits_69 at hq
  obtain ⟨hb1, hq⟩ := sk_ifn hq
  refine sm_iald 70 (sk_td o_X3_gatherUnits 37 rfl) rfl rfl sz_7 hb1 ?_
  refine sg_aload_n 71 (sk_td o_X3_gatherUnits 38 rfl) rfl rfl ?_
  refine sg_iload 73 (sk_td o_X3_gatherUnits 39 rfl) rfl rfl ?_
  obtain ⟨hb2, hq⟩ := sk_ifn hq
  refine sm_aald (37, v4.toNatClampNeg) 74 (sk_td o_X3_gatherUnits 40 rfl) rfl rfl (by decide) sz_1 hb2 (sr_1 (sk_bi.lt hb2)) ?_
  refine sg_aload_n 75 (sk_td o_X3_gatherUnits 41 rfl) rfl rfl ?_
  obtain ⟨x3, hr_x3, hq⟩ := sk_bnd hq
  refine sm_callV3v 78 (s_X3_addHead hr_x3 (sk_bi.lt hb2)) (sk_td o_X3_gatherUnits 42 rfl) rfl lv_X3_103 rfl rfl rfl sz_6 (sk_rok (Nat.le_of_ble_eq_true rfl) (Nat.le_of_ble_eq_true rfl) rfl rfl) (Nat.le_of_ble_eq_true rfl) ?_
  exact t_X3_gatherUnits_78 hrec17 hq
def q_X3_gatherUnits_37 (rec17 : (sk_D × Int32) → Option (sk_D)) (d : sk_D) (v4 : Int32) (h0 : Nat) : Option (sk_D) :=
  if (d.1 37 h0 0) = 0 then (q_X3_gatherUnits_78 rec17 d v4) else if sk_bi v4 20 = true then (q_X3_unitFor d (d.1 37 v4.toNatClampNeg 3)).bind fun x2 => if sk_bi v4 20 = true then (q_X3_gatherUnits_69 rec17 (sk_wi x2.2 7 0 v4.toNatClampNeg x2.1) v4 v4) else none else none
set_option maxRecDepth 100000 in
set_option maxHeartbeats 4000000 in
theorem t_X3_gatherUnits_37 {l : Launch} {rec17 : (sk_D × Int32) → Option (sk_D)} {d : sk_D} {v4 : Int32} {h0 : Nat} (hrec17 : ∀ (a : (sk_D × Int32)) (res : sk_D), rec17 a = some res → sk_G l (sk_rm 4 0 0) m_X3_gatherUnits sk_Ex0 (sk_Zm m_X3_gatherUnits none (sk_mm res)) 0 0 17 [some (.inr (.inr (some (6, 0)))), some (.inr (.inr (some (1, 0)))), some (.inr (.inr (some (2, 0)))), some (.inr (.inr (some (5, 0)))), some (.inl a.2)] [] (sk_mm a.1)) {res : sk_D} (hq : q_X3_gatherUnits_37 rec17 d v4 h0 = some res) (hk_h0 : h0 < sk_cnt 37) :
    sk_G l (sk_rm 4 0 0) m_X3_gatherUnits sk_Ex0 (sk_Zm m_X3_gatherUnits none (sk_mm res)) 0 0 37 [some (.inr (.inr (some (6, 0)))), some (.inr (.inr (some (1, 0)))), some (.inr (.inr (some (2, 0)))), some (.inr (.inr (some (5, 0)))), some (.inl v4)] [.inr (.inr (some (37, h0)))] (sk_mm d) := by
  unfold q_X3_gatherUnits_37 at hq
  refine sm_getI 40 (sk_td o_X3_gatherUnits 20 rfl) rfl kf_X3_90 rfl rfl hk_h0 ?_
  refine sg_if_eq 78 43 (sk_td o_X3_gatherUnits 21 rfl) (by decide) rfl (fun hc => ?_) (fun hc => ?_)
  · rw [if_pos hc] at hq
    exact t_X3_gatherUnits_78 hrec17 hq
  · rw [if_neg hc] at hq
    refine sg_aload_n 44 (sk_td o_X3_gatherUnits 22 rfl) rfl rfl ?_
    refine sm_getR (7, 0) 47 (sk_td o_X3_gatherUnits 23 rfl) rfl kf_X3_18 rfl rfl sz_6 rfl ?_
    refine sg_iload 49 (sk_td o_X3_gatherUnits 24 rfl) rfl rfl ?_
    refine sg_aload_n 50 (sk_td o_X3_gatherUnits 25 rfl) rfl rfl ?_
    refine sg_aload_n 51 (sk_td o_X3_gatherUnits 26 rfl) rfl rfl ?_
    refine sg_iload 53 (sk_td o_X3_gatherUnits 27 rfl) rfl rfl ?_
    obtain ⟨hb1, hq⟩ := sk_ifn hq
    refine sm_aald (37, v4.toNatClampNeg) 54 (sk_td o_X3_gatherUnits 28 rfl) rfl rfl (by decide) sz_1 hb1 (sr_1 (sk_bi.lt hb1)) ?_
    refine sm_getI 57 (sk_td o_X3_gatherUnits 29 rfl) rfl kf_X3_96 rfl rfl (sk_bi.lt hb1) ?_
    refine sg_aload_n 58 (sk_td o_X3_gatherUnits 30 rfl) rfl rfl ?_
    obtain ⟨x2, hr_x2, hq⟩ := sk_bnd hq
    refine sm_callV2i 61 (s_X3_unitFor hr_x2) (sk_td o_X3_gatherUnits 31 rfl) rfl lv_X3_99 rfl rfl rfl sz_6 (sk_rok (Nat.le_of_ble_eq_true rfl) (Nat.le_of_ble_eq_true rfl) rfl rfl) (Nat.le_of_ble_eq_true rfl) ?_
    obtain ⟨hb3, hq⟩ := sk_ifn hq
    refine sm_iast 62 (sk_td o_X3_gatherUnits 32 rfl) rfl rfl sz_7 hb3 ?_
    refine sg_aload_n 63 (sk_td o_X3_gatherUnits 33 rfl) rfl rfl ?_
    refine sg_aload_n 64 (sk_td o_X3_gatherUnits 34 rfl) rfl rfl ?_
    refine sm_getR (7, 0) 67 (sk_td o_X3_gatherUnits 35 rfl) rfl kf_X3_18 rfl rfl sz_6 rfl ?_
    refine sg_iload 69 (sk_td o_X3_gatherUnits 36 rfl) rfl rfl ?_
    exact t_X3_gatherUnits_69 hrec17 hq
def q_X3_gatherUnits_17 (rec17 : (sk_D × Int32) → Option (sk_D)) (d : sk_D) (v4 : Int32) : Option (sk_D) :=
  if (20 : Int32) ≤ v4 then some d else if sk_bi v4 20 = true then if sk_bi v4 20 = true then (q_X3_gatherUnits_37 rec17 (sk_wi d 7 0 v4.toNatClampNeg (-9 : Int32)) v4 v4.toNatClampNeg) else none else none
set_option maxRecDepth 100000 in
set_option maxHeartbeats 4000000 in
theorem t_X3_gatherUnits_17 {l : Launch} {rec17 : (sk_D × Int32) → Option (sk_D)} {d : sk_D} {v4 : Int32} (hrec17 : ∀ (a : (sk_D × Int32)) (res : sk_D), rec17 a = some res → sk_G l (sk_rm 4 0 0) m_X3_gatherUnits sk_Ex0 (sk_Zm m_X3_gatherUnits none (sk_mm res)) 0 0 17 [some (.inr (.inr (some (6, 0)))), some (.inr (.inr (some (1, 0)))), some (.inr (.inr (some (2, 0)))), some (.inr (.inr (some (5, 0)))), some (.inl a.2)] [] (sk_mm a.1)) {res : sk_D} (hq : q_X3_gatherUnits_17 rec17 d v4 = some res) :
    sk_G l (sk_rm 4 0 0) m_X3_gatherUnits sk_Ex0 (sk_Zm m_X3_gatherUnits none (sk_mm res)) 0 0 17 [some (.inr (.inr (some (6, 0)))), some (.inr (.inr (some (1, 0)))), some (.inr (.inr (some (2, 0)))), some (.inr (.inr (some (5, 0)))), some (.inl v4)] [] (sk_mm d) := by
  unfold q_X3_gatherUnits_17 at hq
  refine sg_iload 19 (sk_td o_X3_gatherUnits 9 rfl) rfl rfl ?_
  refine sg_bipush (v := (20 : Int32)) 21 (sk_td o_X3_gatherUnits 10 rfl) rfl (by decide) ?_
  refine sg_ic_ge 84 24 (sk_td o_X3_gatherUnits 11 rfl) (by decide) rfl (fun hc => ?_) (fun hc => ?_)
  · rw [if_pos hc] at hq
    obtain rfl := Option.some.inj hq
    exact sg_vret (sk_td o_X3_gatherUnits 45 rfl) rfl
  · rw [if_neg hc] at hq
    refine sg_aload_n 25 (sk_td o_X3_gatherUnits 12 rfl) rfl rfl ?_
    refine sm_getR (7, 0) 28 (sk_td o_X3_gatherUnits 13 rfl) rfl kf_X3_18 rfl rfl sz_6 rfl ?_
    refine sg_iload 30 (sk_td o_X3_gatherUnits 14 rfl) rfl rfl ?_
    refine sg_bipush (v := (-9 : Int32)) 32 (sk_td o_X3_gatherUnits 15 rfl) rfl (by decide) ?_
    obtain ⟨hb1, hq⟩ := sk_ifn hq
    refine sm_iast 33 (sk_td o_X3_gatherUnits 16 rfl) rfl rfl sz_7 hb1 ?_
    refine sg_aload_n 34 (sk_td o_X3_gatherUnits 17 rfl) rfl rfl ?_
    refine sg_iload 36 (sk_td o_X3_gatherUnits 18 rfl) rfl rfl ?_
    obtain ⟨hb2, hq⟩ := sk_ifn hq
    refine sm_aald (37, v4.toNatClampNeg) 37 (sk_td o_X3_gatherUnits 19 rfl) rfl rfl (by decide) sz_1 hb2 (sr_1 (sk_bi.lt hb2)) ?_
    exact t_X3_gatherUnits_37 hrec17 hq (sk_bi.lt hb2)
def l_X3_gatherUnits_17 (fl : Nat) (a : (sk_D × Int32)) : Option (sk_D) := sk_it (fun rec17 a => q_X3_gatherUnits_17 rec17 a.1 a.2) fl a
theorem lt_X3_gatherUnits_17 {l : Launch} : ∀ (fl : Nat) (a : (sk_D × Int32)) (res : sk_D), l_X3_gatherUnits_17 fl a = some res → sk_G l (sk_rm 4 0 0) m_X3_gatherUnits sk_Ex0 (sk_Zm m_X3_gatherUnits none (sk_mm res)) 0 0 17 [some (.inr (.inr (some (6, 0)))), some (.inr (.inr (some (1, 0)))), some (.inr (.inr (some (2, 0)))), some (.inr (.inr (some (5, 0)))), some (.inl a.2)] [] (sk_mm a.1) :=
  sk_it_ind (P := fun (a : (sk_D × Int32)) (res : sk_D) => sk_G l (sk_rm 4 0 0) m_X3_gatherUnits sk_Ex0 (sk_Zm m_X3_gatherUnits none (sk_mm res)) 0 0 17 [some (.inr (.inr (some (6, 0)))), some (.inr (.inr (some (1, 0)))), some (.inr (.inr (some (2, 0)))), some (.inr (.inr (some (5, 0)))), some (.inl a.2)] [] (sk_mm a.1)) (fun rec17 hrec17 a res hq  => t_X3_gatherUnits_17 hrec17 hq )
def q_X3_gatherUnits_11 (d : sk_D) : Option (sk_D) :=
  (l_X3_gatherUnits_17 sk_fu ((sk_fi d 12 0 8 (-9 : Int32)), (0 : Int32)))
set_option maxRecDepth 100000 in
set_option maxHeartbeats 4000000 in
theorem t_X3_gatherUnits_11 {l : Launch} {d : sk_D} {res : sk_D} (hq : q_X3_gatherUnits_11 d = some res) :
    sk_G l (sk_rm 4 0 0) m_X3_gatherUnits sk_Ex0 (sk_Zm m_X3_gatherUnits none (sk_mm res)) 0 0 11 [some (.inr (.inr (some (6, 0)))), some (.inr (.inr (some (1, 0)))), some (.inr (.inr (some (2, 0)))), some (.inr (.inr (some (5, 0)))), none] [.inl (-9 : Int32), .inr (.inr (some (12, 0)))] (sk_mm d) := by
  unfold q_X3_gatherUnits_11 at hq
  refine sm_callS2v 14 (s_J7_fill_53178 (n := 8) rfl sz_12 (by decide)) (sk_td o_X3_gatherUnits 6 rfl) rfl ls_X3_84 rfl (sk_rok (Nat.le_of_ble_eq_true rfl) (Nat.le_of_ble_eq_true rfl) rfl rfl) (Nat.le_of_ble_eq_true rfl) ?_
  refine sg_iconst (v := (0 : Int32)) 15 (sk_td o_X3_gatherUnits 7 rfl) rfl (by decide) ?_
  refine sg_istore 17 [some (.inr (.inr (some (6, 0)))), some (.inr (.inr (some (1, 0)))), some (.inr (.inr (some (2, 0)))), some (.inr (.inr (some (5, 0)))), some (.inl (0 : Int32))] (sk_td o_X3_gatherUnits 8 rfl) rfl rfl (Nat.le_of_ble_eq_true rfl) rfl ?_
  exact lt_X3_gatherUnits_17 sk_fu ((sk_fi d 12 0 8 (-9 : Int32)), (0 : Int32)) _ hq
def q_X3_gatherUnits_0 (d : sk_D) : Option (sk_D) :=
  (q_X3_gatherUnits_11 (sk_wi d 6 0 0 (0 : Int32)))
set_option maxRecDepth 100000 in
set_option maxHeartbeats 4000000 in
theorem t_X3_gatherUnits_0 {l : Launch} {d : sk_D} {res : sk_D} (hq : q_X3_gatherUnits_0 d = some res) :
    sk_G l (sk_rm 4 0 0) m_X3_gatherUnits sk_Ex0 (sk_Zm m_X3_gatherUnits none (sk_mm res)) 0 0 0 [some (.inr (.inr (some (6, 0)))), some (.inr (.inr (some (1, 0)))), some (.inr (.inr (some (2, 0)))), some (.inr (.inr (some (5, 0)))), none] [] (sk_mm d) := by
  unfold q_X3_gatherUnits_0 at hq
  refine sg_aload_n 1 (sk_td o_X3_gatherUnits 0 rfl) rfl rfl ?_
  refine sg_iconst (v := (0 : Int32)) 2 (sk_td o_X3_gatherUnits 1 rfl) rfl (by decide) ?_
  refine sm_putI 5 (sk_td o_X3_gatherUnits 2 rfl) rfl kp_X3_9 rfl rfl sz_6 ?_
  refine sg_aload_n 6 (sk_td o_X3_gatherUnits 3 rfl) rfl rfl ?_
  refine sm_getR (12, 0) 9 (sk_td o_X3_gatherUnits 4 rfl) rfl kf_X3_33 rfl rfl sz_6 rfl ?_
  refine sg_bipush (v := (-9 : Int32)) 11 (sk_td o_X3_gatherUnits 5 rfl) rfl (by decide) ?_
  exact t_X3_gatherUnits_11 hq
def q_X3_gatherUnits (d : sk_D) : Option (sk_D) := q_X3_gatherUnits_0 d 
theorem s_X3_gatherUnits {l : Launch} {d : sk_D} {res : sk_D} (hq : q_X3_gatherUnits d = some res) : sk_M l 4 m_X3_gatherUnits [.inr (.inr (some (6, 0))), .inr (.inr (some (1, 0))), .inr (.inr (some (2, 0))), .inr (.inr (some (5, 0)))] (sk_mm d) none (sk_mm res) :=
  sk_enter (by decide) (fun _ => Nat.le_of_ble_eq_true rfl) (Nat.le_of_ble_eq_true rfl) (t_X3_gatherUnits_0 hq )
def q_X3_limitSeats_112 (rec7 : (sk_D × Int32) → Option (sk_D)) (d : sk_D) (v2 : Int32) : Option (sk_D) :=
  if sk_bi v2 4 = true then (rec7 ((sk_wi d 6 0 1 ((d.1 6 0 1) * ((d.1 13 0 v2.toNatClampNeg) + (1 : Int32)))), (v2 + (1 : Int32)))) else none
set_option maxRecDepth 100000 in
set_option maxHeartbeats 4000000 in
theorem t_X3_limitSeats_112 {l : Launch} {rec7 : (sk_D × Int32) → Option (sk_D)} {d : sk_D} {v2 : Int32} (hrec7 : ∀ (a : (sk_D × Int32)) (res : sk_D), rec7 a = some res → sk_G l (sk_rm 1 0 0) m_X3_limitSeats sk_Ex0 (sk_Zm m_X3_limitSeats none (sk_mm res)) 0 0 7 [some (.inr (.inr (some (6, 0)))), some (.inr (.inr (some (2, 0)))), some (.inl a.2), none, none] [] (sk_mm a.1)) {res : sk_D} (hq : q_X3_limitSeats_112 rec7 d v2 = some res) :
    sk_G l (sk_rm 1 0 0) m_X3_limitSeats sk_Ex0 (sk_Zm m_X3_limitSeats none (sk_mm res)) 0 0 112 [some (.inr (.inr (some (6, 0)))), some (.inr (.inr (some (2, 0)))), some (.inl v2), none, none] [.inr (.inr (some (6, 0))), .inr (.inr (some (6, 0)))] (sk_mm d) := by
  unfold q_X3_limitSeats_112 at hq
  refine sm_getI 115 (sk_td o_X3_limitSeats 65 rfl) rfl kf_X3_15 rfl rfl sz_6 ?_
  refine sg_aload_n 116 (sk_td o_X3_limitSeats 66 rfl) rfl rfl ?_
  refine sm_getR (13, 0) 119 (sk_td o_X3_limitSeats 67 rfl) rfl kf_X3_36 rfl rfl sz_6 rfl ?_
  refine sg_iload_n 120 (sk_td o_X3_limitSeats 68 rfl) rfl rfl ?_
  obtain ⟨hb1, hq⟩ := sk_ifn hq
  refine sm_iald 121 (sk_td o_X3_limitSeats 69 rfl) rfl rfl sz_13 hb1 ?_
  refine sg_iconst (v := (1 : Int32)) 122 (sk_td o_X3_limitSeats 70 rfl) rfl (by decide) ?_
  refine sg_iadd 123 (sk_td o_X3_limitSeats 71 rfl) rfl ?_
  refine sg_imul 124 (sk_td o_X3_limitSeats 72 rfl) rfl ?_
  refine sm_putI 127 (sk_td o_X3_limitSeats 73 rfl) rfl kp_X3_15 rfl rfl sz_6 ?_
  refine sg_iinc (v2 + (1 : Int32)) 130 [some (.inr (.inr (some (6, 0)))), some (.inr (.inr (some (2, 0)))), some (.inl (v2 + (1 : Int32))), none, none] (sk_td o_X3_limitSeats 74 rfl) rfl rfl rfl rfl (Nat.le_of_ble_eq_true rfl) rfl ?_
  refine sg_goto 7 (sk_td o_X3_limitSeats 75 rfl) (by decide) ?_
  exact hrec7 ((sk_wi d 6 0 1 ((d.1 6 0 1) * ((d.1 13 0 v2.toNatClampNeg) + (1 : Int32)))), (v2 + (1 : Int32))) _ hq
def q_X3_limitSeats_106 (rec7 : (sk_D × Int32) → Option (sk_D)) (d : sk_D) (v2 : Int32) (s1 : Int32) : Option (sk_D) :=
  if sk_bi s1 4 = true then (q_X3_limitSeats_112 rec7 (sk_wi d 14 0 s1.toNatClampNeg (d.1 6 0 1)) v2) else none
set_option maxRecDepth 100000 in
set_option maxHeartbeats 4000000 in
theorem t_X3_limitSeats_106 {l : Launch} {rec7 : (sk_D × Int32) → Option (sk_D)} {d : sk_D} {v2 : Int32} {s1 : Int32} (hrec7 : ∀ (a : (sk_D × Int32)) (res : sk_D), rec7 a = some res → sk_G l (sk_rm 1 0 0) m_X3_limitSeats sk_Ex0 (sk_Zm m_X3_limitSeats none (sk_mm res)) 0 0 7 [some (.inr (.inr (some (6, 0)))), some (.inr (.inr (some (2, 0)))), some (.inl a.2), none, none] [] (sk_mm a.1)) {res : sk_D} (hq : q_X3_limitSeats_106 rec7 d v2 s1 = some res) :
    sk_G l (sk_rm 1 0 0) m_X3_limitSeats sk_Ex0 (sk_Zm m_X3_limitSeats none (sk_mm res)) 0 0 106 [some (.inr (.inr (some (6, 0)))), some (.inr (.inr (some (2, 0)))), some (.inl v2), none, none] [.inr (.inr (some (6, 0))), .inl s1, .inr (.inr (some (14, 0)))] (sk_mm d) := by
  unfold q_X3_limitSeats_106 at hq
  refine sm_getI 109 (sk_td o_X3_limitSeats 61 rfl) rfl kf_X3_15 rfl rfl sz_6 ?_
  obtain ⟨hb1, hq⟩ := sk_ifn hq
  refine sm_iast 110 (sk_td o_X3_limitSeats 62 rfl) rfl rfl sz_14 hb1 ?_
  refine sg_aload_n 111 (sk_td o_X3_limitSeats 63 rfl) rfl rfl ?_
  refine sg_dupR 112 (sk_td o_X3_limitSeats 64 rfl) rfl ?_
  exact t_X3_limitSeats_112 hrec7 hq
def q_X3_limitSeats_86 (rec7 : (sk_D × Int32) → Option (sk_D)) (d : sk_D) (v2 : Int32) (v3 : Int32) (s0 : Int32) : Option (sk_D) :=
  if sk_bi v2 4 = true then (q_X3_limitSeats_106 rec7 (sk_wi d 13 0 v2.toNatClampNeg (if s0 < v3 then s0 else v3)) v2 v2) else none
set_option maxRecDepth 100000 in
set_option maxHeartbeats 4000000 in
theorem t_X3_limitSeats_86 {l : Launch} {rec7 : (sk_D × Int32) → Option (sk_D)} {d : sk_D} {v2 : Int32} {v3 : Int32} {s0 : Int32} (hrec7 : ∀ (a : (sk_D × Int32)) (res : sk_D), rec7 a = some res → sk_G l (sk_rm 1 0 0) m_X3_limitSeats sk_Ex0 (sk_Zm m_X3_limitSeats none (sk_mm res)) 0 0 7 [some (.inr (.inr (some (6, 0)))), some (.inr (.inr (some (2, 0)))), some (.inl a.2), none, none] [] (sk_mm a.1)) {res : sk_D} (hq : q_X3_limitSeats_86 rec7 d v2 v3 s0 = some res) :
    sk_G l (sk_rm 1 0 0) m_X3_limitSeats sk_Ex0 (sk_Zm m_X3_limitSeats none (sk_mm res)) 0 0 86 [some (.inr (.inr (some (6, 0)))), some (.inr (.inr (some (2, 0)))), some (.inl v2), some (.inl v3), none] [.inl s0] (sk_mm d) := by
  unfold q_X3_limitSeats_86 at hq
  refine sg_istore 88 [some (.inr (.inr (some (6, 0)))), some (.inr (.inr (some (2, 0)))), some (.inl v2), some (.inl v3), some (.inl s0)] (sk_td o_X3_limitSeats 49 rfl) rfl rfl (Nat.le_of_ble_eq_true rfl) rfl ?_
  refine sg_aload_n 89 (sk_td o_X3_limitSeats 50 rfl) rfl rfl ?_
  refine sm_getR (13, 0) 92 (sk_td o_X3_limitSeats 51 rfl) rfl kf_X3_36 rfl rfl sz_6 rfl ?_
  refine sg_iload_n 93 (sk_td o_X3_limitSeats 52 rfl) rfl rfl ?_
  refine sg_iload_n 94 (sk_td o_X3_limitSeats 53 rfl) rfl rfl ?_
  refine sg_iload 96 (sk_td o_X3_limitSeats 54 rfl) rfl rfl ?_
  refine sm_min 99 (sk_td o_X3_limitSeats 55 rfl) rfl kM_X3_63 (Nat.le_of_ble_eq_true rfl) (Nat.le_of_ble_eq_true rfl) (Nat.le_of_ble_eq_true rfl) ?_
  obtain ⟨hb1, hq⟩ := sk_ifn hq
  refine sm_iast 100 (sk_td o_X3_limitSeats 56 rfl) rfl rfl sz_13 hb1 ?_
  refine sg_aload_n 101 (sk_td o_X3_limitSeats 57 rfl) rfl rfl ?_
  refine sm_getR (14, 0) 104 (sk_td o_X3_limitSeats 58 rfl) rfl kf_X3_39 rfl rfl sz_6 rfl ?_
  refine sg_iload_n 105 (sk_td o_X3_limitSeats 59 rfl) rfl rfl ?_
  refine sg_aload_n 106 (sk_td o_X3_limitSeats 60 rfl) rfl rfl ?_
  refine sk_wk [true, true, true, false, false] (ls' := [some (.inr (.inr (some (6, 0)))), some (.inr (.inr (some (2, 0)))), some (.inl v2), none, none]) rfl ?_
  exact t_X3_limitSeats_106 hrec7 hq
def q_X3_limitSeats_62 (rec7 : (sk_D × Int32) → Option (sk_D)) (d : sk_D) (v2 : Int32) (v3 : Int32) : Option (sk_D) :=
  if sk_bi v2 4 = true then if (d.1 39 v2.toNatClampNeg 0) = 0 then (q_X3_limitSeats_86 rec7 d v2 v3 (0 : Int32)) else if sk_bi v2 4 = true then (q_X3_limitSeats_86 rec7 d v2 v3 (if (6 : Int32) < (d.1 39 v2.toNatClampNeg 3) then (6 : Int32) else (d.1 39 v2.toNatClampNeg 3))) else none else none
set_option maxRecDepth 100000 in
set_option maxHeartbeats 4000000 in
theorem t_X3_limitSeats_62 {l : Launch} {rec7 : (sk_D × Int32) → Option (sk_D)} {d : sk_D} {v2 : Int32} {v3 : Int32} (hrec7 : ∀ (a : (sk_D × Int32)) (res : sk_D), rec7 a = some res → sk_G l (sk_rm 1 0 0) m_X3_limitSeats sk_Ex0 (sk_Zm m_X3_limitSeats none (sk_mm res)) 0 0 7 [some (.inr (.inr (some (6, 0)))), some (.inr (.inr (some (2, 0)))), some (.inl a.2), none, none] [] (sk_mm a.1)) {res : sk_D} (hq : q_X3_limitSeats_62 rec7 d v2 v3 = some res) :
    sk_G l (sk_rm 1 0 0) m_X3_limitSeats sk_Ex0 (sk_Zm m_X3_limitSeats none (sk_mm res)) 0 0 62 [some (.inr (.inr (some (6, 0)))), some (.inr (.inr (some (2, 0)))), some (.inl v2), some (.inl v3), none] [] (sk_mm d) := by
  unfold q_X3_limitSeats_62 at hq
  refine sg_aload_n 63 (sk_td o_X3_limitSeats 36 rfl) rfl rfl ?_
  refine sg_iload_n 64 (sk_td o_X3_limitSeats 37 rfl) rfl rfl ?_
  obtain ⟨hb1, hq⟩ := sk_ifn hq
  refine sm_aald (39, v2.toNatClampNeg) 65 (sk_td o_X3_limitSeats 38 rfl) rfl rfl (by decide) sz_2 hb1 (sr_2 (sk_bi.lt hb1)) ?_
  refine sm_getI 68 (sk_td o_X3_limitSeats 39 rfl) rfl kf_X3_114 rfl rfl (sk_bi.lt hb1) ?_
  refine sg_if_eq 85 71 (sk_td o_X3_limitSeats 40 rfl) (by decide) rfl (fun hc => ?_) (fun hc => ?_)
  · rw [if_pos hc] at hq
    refine sg_iconst (v := (0 : Int32)) 86 (sk_td o_X3_limitSeats 48 rfl) rfl (by decide) ?_
    exact t_X3_limitSeats_86 hrec7 hq
  · rw [if_neg hc] at hq
    refine sg_aload_n 72 (sk_td o_X3_limitSeats 41 rfl) rfl rfl ?_
    refine sg_iload_n 73 (sk_td o_X3_limitSeats 42 rfl) rfl rfl ?_
    obtain ⟨hb2, hq⟩ := sk_ifn hq
    refine sm_aald (39, v2.toNatClampNeg) 74 (sk_td o_X3_limitSeats 43 rfl) rfl rfl (by decide) sz_2 hb2 (sr_2 (sk_bi.lt hb2)) ?_
    refine sm_getI 77 (sk_td o_X3_limitSeats 44 rfl) rfl kf_X3_127 rfl rfl (sk_bi.lt hb2) ?_
    refine sg_bipush (v := (6 : Int32)) 79 (sk_td o_X3_limitSeats 45 rfl) rfl (by decide) ?_
    refine sm_min 82 (sk_td o_X3_limitSeats 46 rfl) rfl kM_X3_63 (Nat.le_of_ble_eq_true rfl) (Nat.le_of_ble_eq_true rfl) (Nat.le_of_ble_eq_true rfl) ?_
    refine sg_goto 86 (sk_td o_X3_limitSeats 47 rfl) (by decide) ?_
    exact t_X3_limitSeats_86 hrec7 hq
def q_X3_limitSeats_56 (rec7 : (sk_D × Int32) → Option (sk_D)) (rec17 : (sk_D × Int32 × Int32 × Int32) → Option (sk_D)) (d : sk_D) (v2 : Int32) (v3 : Int32) (v4 : Int32) : Option (sk_D) :=
  (rec17 (d, v2, v3, (v4 + (1 : Int32))))
set_option maxRecDepth 100000 in
set_option maxHeartbeats 4000000 in
theorem t_X3_limitSeats_56 {l : Launch} {rec7 : (sk_D × Int32) → Option (sk_D)} {rec17 : (sk_D × Int32 × Int32 × Int32) → Option (sk_D)} {d : sk_D} {v2 : Int32} {v3 : Int32} {v4 : Int32} (hrec7 : ∀ (a : (sk_D × Int32)) (res : sk_D), rec7 a = some res → sk_G l (sk_rm 1 0 0) m_X3_limitSeats sk_Ex0 (sk_Zm m_X3_limitSeats none (sk_mm res)) 0 0 7 [some (.inr (.inr (some (6, 0)))), some (.inr (.inr (some (2, 0)))), some (.inl a.2), none, none] [] (sk_mm a.1)) (hrec17 : ∀ (a : (sk_D × Int32 × Int32 × Int32)) (res : sk_D), rec17 a = some res → sk_G l (sk_rm 1 0 0) m_X3_limitSeats sk_Ex0 (sk_Zm m_X3_limitSeats none (sk_mm res)) 0 0 17 [some (.inr (.inr (some (6, 0)))), some (.inr (.inr (some (2, 0)))), some (.inl a.2.1), some (.inl a.2.2.1), some (.inl a.2.2.2)] [] (sk_mm a.1)) {res : sk_D} (hq : q_X3_limitSeats_56 rec7 rec17 d v2 v3 v4 = some res) :
    sk_G l (sk_rm 1 0 0) m_X3_limitSeats sk_Ex0 (sk_Zm m_X3_limitSeats none (sk_mm res)) 0 0 56 [some (.inr (.inr (some (6, 0)))), some (.inr (.inr (some (2, 0)))), some (.inl v2), some (.inl v3), some (.inl v4)] [] (sk_mm d) := by
  unfold q_X3_limitSeats_56 at hq
  refine sg_iinc (v4 + (1 : Int32)) 59 [some (.inr (.inr (some (6, 0)))), some (.inr (.inr (some (2, 0)))), some (.inl v2), some (.inl v3), some (.inl (v4 + (1 : Int32)))] (sk_td o_X3_limitSeats 34 rfl) rfl rfl rfl rfl (Nat.le_of_ble_eq_true rfl) rfl ?_
  refine sg_goto 17 (sk_td o_X3_limitSeats 35 rfl) (by decide) ?_
  exact hrec17 (d, v2, v3, (v4 + (1 : Int32))) _ hq
def q_X3_limitSeats_17 (rec7 : (sk_D × Int32) → Option (sk_D)) (rec17 : (sk_D × Int32 × Int32 × Int32) → Option (sk_D)) (d : sk_D) (v2 : Int32) (v3 : Int32) (v4 : Int32) : Option (sk_D) :=
  if (d.1 6 0 0) ≤ v4 then (q_X3_limitSeats_62 rec7 d v2 v3) else if (20 : Int32) ≤ v4 then (q_X3_limitSeats_62 rec7 d v2 v3) else if sk_bi v4 20 = true then if sk_bi v2 4 = true then if (d.1 10 v4.toNatClampNeg v2.toNatClampNeg) = (-1 : Int32) then (q_X3_limitSeats_56 rec7 rec17 d v2 v3 v4) else if sk_bi v4 20 = true then (q_X3_limitSeats_56 rec7 rec17 d v2 (v3 + (d.1 8 0 v4.toNatClampNeg)) v4) else none else none else none
set_option maxRecDepth 100000 in
set_option maxHeartbeats 4000000 in
theorem t_X3_limitSeats_17 {l : Launch} {rec7 : (sk_D × Int32) → Option (sk_D)} {rec17 : (sk_D × Int32 × Int32 × Int32) → Option (sk_D)} {d : sk_D} {v2 : Int32} {v3 : Int32} {v4 : Int32} (hrec7 : ∀ (a : (sk_D × Int32)) (res : sk_D), rec7 a = some res → sk_G l (sk_rm 1 0 0) m_X3_limitSeats sk_Ex0 (sk_Zm m_X3_limitSeats none (sk_mm res)) 0 0 7 [some (.inr (.inr (some (6, 0)))), some (.inr (.inr (some (2, 0)))), some (.inl a.2), none, none] [] (sk_mm a.1)) (hrec17 : ∀ (a : (sk_D × Int32 × Int32 × Int32)) (res : sk_D), rec17 a = some res → sk_G l (sk_rm 1 0 0) m_X3_limitSeats sk_Ex0 (sk_Zm m_X3_limitSeats none (sk_mm res)) 0 0 17 [some (.inr (.inr (some (6, 0)))), some (.inr (.inr (some (2, 0)))), some (.inl a.2.1), some (.inl a.2.2.1), some (.inl a.2.2.2)] [] (sk_mm a.1)) {res : sk_D} (hq : q_X3_limitSeats_17 rec7 rec17 d v2 v3 v4 = some res) :
    sk_G l (sk_rm 1 0 0) m_X3_limitSeats sk_Ex0 (sk_Zm m_X3_limitSeats none (sk_mm res)) 0 0 17 [some (.inr (.inr (some (6, 0)))), some (.inr (.inr (some (2, 0)))), some (.inl v2), some (.inl v3), some (.inl v4)] [] (sk_mm d) := by
  unfold q_X3_limitSeats_17 at hq
  refine sg_iload 19 (sk_td o_X3_limitSeats 12 rfl) rfl rfl ?_
  refine sg_aload_n 20 (sk_td o_X3_limitSeats 13 rfl) rfl rfl ?_
  refine sm_getI 23 (sk_td o_X3_limitSeats 14 rfl) rfl kf_X3_9 rfl rfl sz_6 ?_
  refine sg_ic_ge 62 26 (sk_td o_X3_limitSeats 15 rfl) (by decide) rfl (fun hc => ?_) (fun hc => ?_)
  · rw [if_pos hc] at hq
    refine sk_wk [true, true, true, true, false] (ls' := [some (.inr (.inr (some (6, 0)))), some (.inr (.inr (some (2, 0)))), some (.inl v2), some (.inl v3), none]) rfl ?_
    exact t_X3_limitSeats_62 hrec7 hq
  · rw [if_neg hc] at hq
    refine sg_iload 28 (sk_td o_X3_limitSeats 16 rfl) rfl rfl ?_
    refine sg_bipush (v := (20 : Int32)) 30 (sk_td o_X3_limitSeats 17 rfl) rfl (by decide) ?_
    refine sg_ic_ge 62 33 (sk_td o_X3_limitSeats 18 rfl) (by decide) rfl (fun hc => ?_) (fun hc => ?_)
    · rw [if_pos hc] at hq
      refine sk_wk [true, true, true, true, false] (ls' := [some (.inr (.inr (some (6, 0)))), some (.inr (.inr (some (2, 0)))), some (.inl v2), some (.inl v3), none]) rfl ?_
      exact t_X3_limitSeats_62 hrec7 hq
    · rw [if_neg hc] at hq
      refine sg_aload_n 34 (sk_td o_X3_limitSeats 19 rfl) rfl rfl ?_
      refine sm_getR (9, 0) 37 (sk_td o_X3_limitSeats 20 rfl) rfl kf_X3_27 rfl rfl sz_6 rfl ?_
      refine sg_iload 39 (sk_td o_X3_limitSeats 21 rfl) rfl rfl ?_
      obtain ⟨hb1, hq⟩ := sk_ifn hq
      refine sm_aald (10, v4.toNatClampNeg) 40 (sk_td o_X3_limitSeats 22 rfl) rfl rfl (by decide) sz_9 hb1 (sr_9 (sk_bi.lt hb1)) ?_
      refine sg_iload_n 41 (sk_td o_X3_limitSeats 23 rfl) rfl rfl ?_
      obtain ⟨hb2, hq⟩ := sk_ifn hq
      refine sm_iald 42 (sk_td o_X3_limitSeats 24 rfl) rfl rfl (sk_bi.lt hb1) hb2 ?_
      refine sg_iconst (v := (-1 : Int32)) 43 (sk_td o_X3_limitSeats 25 rfl) rfl (by decide) ?_
      refine sg_ic_eq 56 46 (sk_td o_X3_limitSeats 26 rfl) (by decide) rfl (fun hc => ?_) (fun hc => ?_)
      · rw [if_pos hc] at hq
        exact t_X3_limitSeats_56 hrec7 hrec17 hq
      · rw [if_neg hc] at hq
        refine sg_iload_n 47 (sk_td o_X3_limitSeats 27 rfl) rfl rfl ?_
        refine sg_aload_n 48 (sk_td o_X3_limitSeats 28 rfl) rfl rfl ?_
        refine sm_getR (8, 0) 51 (sk_td o_X3_limitSeats 29 rfl) rfl kf_X3_22 rfl rfl sz_6 rfl ?_
        refine sg_iload 53 (sk_td o_X3_limitSeats 30 rfl) rfl rfl ?_
        obtain ⟨hb3, hq⟩ := sk_ifn hq
        refine sm_iald 54 (sk_td o_X3_limitSeats 31 rfl) rfl rfl sz_8 hb3 ?_
        refine sg_iadd 55 (sk_td o_X3_limitSeats 32 rfl) rfl ?_
        refine sg_istore_n 56 [some (.inr (.inr (some (6, 0)))), some (.inr (.inr (some (2, 0)))), some (.inl v2), some (.inl (v3 + (d.1 8 0 v4.toNatClampNeg))), some (.inl v4)] (sk_td o_X3_limitSeats 33 rfl) rfl rfl (Nat.le_of_ble_eq_true rfl) rfl ?_
        exact t_X3_limitSeats_56 hrec7 hrec17 hq
def l_X3_limitSeats_17 (rec7 : (sk_D × Int32) → Option (sk_D)) (fl : Nat) (a : (sk_D × Int32 × Int32 × Int32)) : Option (sk_D) := sk_it (fun rec17 a => q_X3_limitSeats_17 rec7 rec17 a.1 a.2.1 a.2.2.1 a.2.2.2) fl a
theorem lt_X3_limitSeats_17 {l : Launch} {rec7 : (sk_D × Int32) → Option (sk_D)} (hrec7 : ∀ (a : (sk_D × Int32)) (res : sk_D), rec7 a = some res → sk_G l (sk_rm 1 0 0) m_X3_limitSeats sk_Ex0 (sk_Zm m_X3_limitSeats none (sk_mm res)) 0 0 7 [some (.inr (.inr (some (6, 0)))), some (.inr (.inr (some (2, 0)))), some (.inl a.2), none, none] [] (sk_mm a.1)) : ∀ (fl : Nat) (a : (sk_D × Int32 × Int32 × Int32)) (res : sk_D), l_X3_limitSeats_17 rec7 fl a = some res → sk_G l (sk_rm 1 0 0) m_X3_limitSeats sk_Ex0 (sk_Zm m_X3_limitSeats none (sk_mm res)) 0 0 17 [some (.inr (.inr (some (6, 0)))), some (.inr (.inr (some (2, 0)))), some (.inl a.2.1), some (.inl a.2.2.1), some (.inl a.2.2.2)] [] (sk_mm a.1) :=
  sk_it_ind (P := fun (a : (sk_D × Int32 × Int32 × Int32)) (res : sk_D) => sk_G l (sk_rm 1 0 0) m_X3_limitSeats sk_Ex0 (sk_Zm m_X3_limitSeats none (sk_mm res)) 0 0 17 [some (.inr (.inr (some (6, 0)))), some (.inr (.inr (some (2, 0)))), some (.inl a.2.1), some (.inl a.2.2.1), some (.inl a.2.2.2)] [] (sk_mm a.1)) (fun rec17 hrec17 a res hq  => t_X3_limitSeats_17 hrec7 hrec17 hq )
def q_X3_limitSeats_7 (rec7 : (sk_D × Int32) → Option (sk_D)) (d : sk_D) (v2 : Int32) : Option (sk_D) :=
  if (4 : Int32) ≤ v2 then some (sk_wi d 6 0 1 (if (1 : Int32) < (if (2401 : Int32) < (d.1 6 0 1) then (2401 : Int32) else (d.1 6 0 1)) then (if (2401 : Int32) < (d.1 6 0 1) then (2401 : Int32) else (d.1 6 0 1)) else (1 : Int32))) else (l_X3_limitSeats_17 rec7 sk_fu (d, v2, (0 : Int32), (0 : Int32)))
set_option maxRecDepth 100000 in
set_option maxHeartbeats 4000000 in
theorem t_X3_limitSeats_7 {l : Launch} {rec7 : (sk_D × Int32) → Option (sk_D)} {d : sk_D} {v2 : Int32} (hrec7 : ∀ (a : (sk_D × Int32)) (res : sk_D), rec7 a = some res → sk_G l (sk_rm 1 0 0) m_X3_limitSeats sk_Ex0 (sk_Zm m_X3_limitSeats none (sk_mm res)) 0 0 7 [some (.inr (.inr (some (6, 0)))), some (.inr (.inr (some (2, 0)))), some (.inl a.2), none, none] [] (sk_mm a.1)) {res : sk_D} (hq : q_X3_limitSeats_7 rec7 d v2 = some res) :
    sk_G l (sk_rm 1 0 0) m_X3_limitSeats sk_Ex0 (sk_Zm m_X3_limitSeats none (sk_mm res)) 0 0 7 [some (.inr (.inr (some (6, 0)))), some (.inr (.inr (some (2, 0)))), some (.inl v2), none, none] [] (sk_mm d) := by
  unfold q_X3_limitSeats_7 at hq
  refine sg_iload_n 8 (sk_td o_X3_limitSeats 5 rfl) rfl rfl ?_
  refine sg_iconst (v := (4 : Int32)) 9 (sk_td o_X3_limitSeats 6 rfl) rfl (by decide) ?_
  refine sg_ic_ge 133 12 (sk_td o_X3_limitSeats 7 rfl) (by decide) rfl (fun hc => ?_) (fun hc => ?_)
  · rw [if_pos hc] at hq
    refine sg_aload_n 134 (sk_td o_X3_limitSeats 76 rfl) rfl rfl ?_
    refine sg_iconst (v := (1 : Int32)) 135 (sk_td o_X3_limitSeats 77 rfl) rfl (by decide) ?_
    refine sg_aload_n 136 (sk_td o_X3_limitSeats 78 rfl) rfl rfl ?_
    refine sm_getI 139 (sk_td o_X3_limitSeats 79 rfl) rfl kf_X3_15 rfl rfl sz_6 ?_
    refine sg_sipush (v := (2401 : Int32)) 142 (sk_td o_X3_limitSeats 80 rfl) rfl (by decide) ?_
    refine sm_min 145 (sk_td o_X3_limitSeats 81 rfl) rfl kM_X3_63 (Nat.le_of_ble_eq_true rfl) (Nat.le_of_ble_eq_true rfl) (Nat.le_of_ble_eq_true rfl) ?_
    refine sm_max 148 (sk_td o_X3_limitSeats 82 rfl) rfl kM_X3_130 (Nat.le_of_ble_eq_true rfl) (Nat.le_of_ble_eq_true rfl) (Nat.le_of_ble_eq_true rfl) ?_
    refine sm_putI 151 (sk_td o_X3_limitSeats 83 rfl) rfl kp_X3_15 rfl rfl sz_6 ?_
    obtain rfl := Option.some.inj hq
    exact sg_vret (sk_td o_X3_limitSeats 84 rfl) rfl
  · rw [if_neg hc] at hq
    refine sg_iconst (v := (0 : Int32)) 13 (sk_td o_X3_limitSeats 8 rfl) rfl (by decide) ?_
    refine sg_istore_n 14 [some (.inr (.inr (some (6, 0)))), some (.inr (.inr (some (2, 0)))), some (.inl v2), some (.inl (0 : Int32)), none] (sk_td o_X3_limitSeats 9 rfl) rfl rfl (Nat.le_of_ble_eq_true rfl) rfl ?_
    refine sg_iconst (v := (0 : Int32)) 15 (sk_td o_X3_limitSeats 10 rfl) rfl (by decide) ?_
    refine sg_istore 17 [some (.inr (.inr (some (6, 0)))), some (.inr (.inr (some (2, 0)))), some (.inl v2), some (.inl (0 : Int32)), some (.inl (0 : Int32))] (sk_td o_X3_limitSeats 11 rfl) rfl rfl (Nat.le_of_ble_eq_true rfl) rfl ?_
    exact lt_X3_limitSeats_17 hrec7 sk_fu (d, v2, (0 : Int32), (0 : Int32)) _ hq
def l_X3_limitSeats_7 (fl : Nat) (a : (sk_D × Int32)) : Option (sk_D) := sk_it (fun rec7 a => q_X3_limitSeats_7 rec7 a.1 a.2) fl a
theorem lt_X3_limitSeats_7 {l : Launch} : ∀ (fl : Nat) (a : (sk_D × Int32)) (res : sk_D), l_X3_limitSeats_7 fl a = some res → sk_G l (sk_rm 1 0 0) m_X3_limitSeats sk_Ex0 (sk_Zm m_X3_limitSeats none (sk_mm res)) 0 0 7 [some (.inr (.inr (some (6, 0)))), some (.inr (.inr (some (2, 0)))), some (.inl a.2), none, none] [] (sk_mm a.1) :=
  sk_it_ind (P := fun (a : (sk_D × Int32)) (res : sk_D) => sk_G l (sk_rm 1 0 0) m_X3_limitSeats sk_Ex0 (sk_Zm m_X3_limitSeats none (sk_mm res)) 0 0 7 [some (.inr (.inr (some (6, 0)))), some (.inr (.inr (some (2, 0)))), some (.inl a.2), none, none] [] (sk_mm a.1)) (fun rec7 hrec7 a res hq  => t_X3_limitSeats_7 hrec7 hq )
def q_X3_limitSeats_0 (d : sk_D) : Option (sk_D) :=
  (l_X3_limitSeats_7 sk_fu ((sk_wi d 6 0 1 (1 : Int32)), (0 : Int32)))
set_option maxRecDepth 100000 in
set_option maxHeartbeats 4000000 in
theorem t_X3_limitSeats_0 {l : Launch} {d : sk_D} {res : sk_D} (hq : q_X3_limitSeats_0 d = some res) :
    sk_G l (sk_rm 1 0 0) m_X3_limitSeats sk_Ex0 (sk_Zm m_X3_limitSeats none (sk_mm res)) 0 0 0 [some (.inr (.inr (some (6, 0)))), some (.inr (.inr (some (2, 0)))), none, none, none] [] (sk_mm d) := by
  unfold q_X3_limitSeats_0 at hq
  refine sg_aload_n 1 (sk_td o_X3_limitSeats 0 rfl) rfl rfl ?_
  refine sg_iconst (v := (1 : Int32)) 2 (sk_td o_X3_limitSeats 1 rfl) rfl (by decide) ?_
  refine sm_putI 5 (sk_td o_X3_limitSeats 2 rfl) rfl kp_X3_15 rfl rfl sz_6 ?_
  refine sg_iconst (v := (0 : Int32)) 6 (sk_td o_X3_limitSeats 3 rfl) rfl (by decide) ?_
  refine sg_istore_n 7 [some (.inr (.inr (some (6, 0)))), some (.inr (.inr (some (2, 0)))), some (.inl (0 : Int32)), none, none] (sk_td o_X3_limitSeats 4 rfl) rfl rfl (Nat.le_of_ble_eq_true rfl) rfl ?_
  exact lt_X3_limitSeats_7 sk_fu ((sk_wi d 6 0 1 (1 : Int32)), (0 : Int32)) _ hq
def q_X3_limitSeats (d : sk_D) : Option (sk_D) := q_X3_limitSeats_0 d 
theorem s_X3_limitSeats {l : Launch} {d : sk_D} {res : sk_D} (hq : q_X3_limitSeats d = some res) : sk_M l 1 m_X3_limitSeats [.inr (.inr (some (6, 0))), .inr (.inr (some (2, 0)))] (sk_mm d) none (sk_mm res) :=
  sk_enter (by decide) (fun _ => Nat.le_of_ble_eq_true rfl) (Nat.le_of_ble_eq_true rfl) (t_X3_limitSeats_0 hq )
def q_X3_listOptions_45 (rec4 : (sk_D × Int32 × Int32 × Int32) → Option (Int32 × sk_D)) (d : sk_D) (v1 : Int32) (v2 : Int32) (v3 : Int32) : Option (Int32 × sk_D) :=
  (rec4 (d, v1, v2, (v3 + (-1 : Int32))))
set_option maxRecDepth 100000 in
set_option maxHeartbeats 4000000 in
theorem t_X3_listOptions_45 {l : Launch} {rec4 : (sk_D × Int32 × Int32 × Int32) → Option (Int32 × sk_D)} {d : sk_D} {v1 : Int32} {v2 : Int32} {v3 : Int32} (hrec4 : ∀ (a : (sk_D × Int32 × Int32 × Int32)) (res : Int32 × sk_D), rec4 a = some res → sk_G l (sk_rm 1 0 0) m_X3_listOptions sk_Ex0 (sk_Zm m_X3_listOptions (some (.inl res.1)) (sk_mm res.2)) 0 0 4 [some (.inr (.inr (some (6, 0)))), some (.inl a.2.1), some (.inl a.2.2.1), some (.inl a.2.2.2)] [] (sk_mm a.1)) {res : Int32 × sk_D} (hq : q_X3_listOptions_45 rec4 d v1 v2 v3 = some res) :
    sk_G l (sk_rm 1 0 0) m_X3_listOptions sk_Ex0 (sk_Zm m_X3_listOptions (some (.inl res.1)) (sk_mm res.2)) 0 0 45 [some (.inr (.inr (some (6, 0)))), some (.inl v1), some (.inl v2), some (.inl v3)] [] (sk_mm d) := by
  unfold q_X3_listOptions_45 at hq
  refine sg_iinc (v3 + (-1 : Int32)) 48 [some (.inr (.inr (some (6, 0)))), some (.inl v1), some (.inl v2), some (.inl (v3 + (-1 : Int32)))] (sk_td o_X3_listOptions 29 rfl) rfl rfl rfl rfl (Nat.le_of_ble_eq_true rfl) rfl ?_
  refine sg_goto 4 (sk_td o_X3_listOptions 30 rfl) (by decide) ?_
  exact hrec4 (d, v1, v2, (v3 + (-1 : Int32))) _ hq
def q_X3_listOptions_4 (rec4 : (sk_D × Int32 × Int32 × Int32) → Option (Int32 × sk_D)) (d : sk_D) (v1 : Int32) (v2 : Int32) (v3 : Int32) : Option (Int32 × sk_D) :=
  if v3 < 0 then some (v2, d) else if sk_bi v1 20 = true then if sk_bi v3 4 = true then if (d.1 10 v1.toNatClampNeg v3.toNatClampNeg) = (-1 : Int32) then (q_X3_listOptions_45 rec4 d v1 v2 v3) else if sk_bi v3 4 = true then if sk_bi v1 20 = true then if (d.1 13 0 v3.toNatClampNeg) < (d.1 8 0 v1.toNatClampNeg) then (q_X3_listOptions_45 rec4 d v1 v2 v3) else if sk_bi v2 4 = true then (q_X3_listOptions_45 rec4 (sk_wi d 16 0 v2.toNatClampNeg v3) v1 (v2 + (1 : Int32)) v3) else none else none else none else none else none
set_option maxRecDepth 100000 in
set_option maxHeartbeats 4000000 in
theorem t_X3_listOptions_4 {l : Launch} {rec4 : (sk_D × Int32 × Int32 × Int32) → Option (Int32 × sk_D)} {d : sk_D} {v1 : Int32} {v2 : Int32} {v3 : Int32} (hrec4 : ∀ (a : (sk_D × Int32 × Int32 × Int32)) (res : Int32 × sk_D), rec4 a = some res → sk_G l (sk_rm 1 0 0) m_X3_listOptions sk_Ex0 (sk_Zm m_X3_listOptions (some (.inl res.1)) (sk_mm res.2)) 0 0 4 [some (.inr (.inr (some (6, 0)))), some (.inl a.2.1), some (.inl a.2.2.1), some (.inl a.2.2.2)] [] (sk_mm a.1)) {res : Int32 × sk_D} (hq : q_X3_listOptions_4 rec4 d v1 v2 v3 = some res) :
    sk_G l (sk_rm 1 0 0) m_X3_listOptions sk_Ex0 (sk_Zm m_X3_listOptions (some (.inl res.1)) (sk_mm res.2)) 0 0 4 [some (.inr (.inr (some (6, 0)))), some (.inl v1), some (.inl v2), some (.inl v3)] [] (sk_mm d) := by
  unfold q_X3_listOptions_4 at hq
  refine sg_iload_n 5 (sk_td o_X3_listOptions 4 rfl) rfl rfl ?_
  refine sg_if_lt 51 8 (sk_td o_X3_listOptions 5 rfl) (by decide) rfl (fun hc => ?_) (fun hc => ?_)
  · rw [if_pos hc] at hq
    refine sg_iload_n 52 (sk_td o_X3_listOptions 31 rfl) rfl rfl ?_
    obtain rfl := Option.some.inj hq
    exact sg_iret (sk_td o_X3_listOptions 32 rfl) rfl rfl
  · rw [if_neg hc] at hq
    refine sg_aload_n 9 (sk_td o_X3_listOptions 6 rfl) rfl rfl ?_
    refine sm_getR (9, 0) 12 (sk_td o_X3_listOptions 7 rfl) rfl kf_X3_27 rfl rfl sz_6 rfl ?_
    refine sg_iload_n 13 (sk_td o_X3_listOptions 8 rfl) rfl rfl ?_
    obtain ⟨hb1, hq⟩ := sk_ifn hq
    refine sm_aald (10, v1.toNatClampNeg) 14 (sk_td o_X3_listOptions 9 rfl) rfl rfl (by decide) sz_9 hb1 (sr_9 (sk_bi.lt hb1)) ?_
    refine sg_iload_n 15 (sk_td o_X3_listOptions 10 rfl) rfl rfl ?_
    obtain ⟨hb2, hq⟩ := sk_ifn hq
    refine sm_iald 16 (sk_td o_X3_listOptions 11 rfl) rfl rfl (sk_bi.lt hb1) hb2 ?_
    refine sg_iconst (v := (-1 : Int32)) 17 (sk_td o_X3_listOptions 12 rfl) rfl (by decide) ?_
    refine sg_ic_eq 45 20 (sk_td o_X3_listOptions 13 rfl) (by decide) rfl (fun hc => ?_) (fun hc => ?_)
    · rw [if_pos hc] at hq
      exact t_X3_listOptions_45 hrec4 hq
    · rw [if_neg hc] at hq
      refine sg_aload_n 21 (sk_td o_X3_listOptions 14 rfl) rfl rfl ?_
      refine sm_getR (13, 0) 24 (sk_td o_X3_listOptions 15 rfl) rfl kf_X3_36 rfl rfl sz_6 rfl ?_
      refine sg_iload_n 25 (sk_td o_X3_listOptions 16 rfl) rfl rfl ?_
      obtain ⟨hb3, hq⟩ := sk_ifn hq
      refine sm_iald 26 (sk_td o_X3_listOptions 17 rfl) rfl rfl sz_13 hb3 ?_
      refine sg_aload_n 27 (sk_td o_X3_listOptions 18 rfl) rfl rfl ?_
      refine sm_getR (8, 0) 30 (sk_td o_X3_listOptions 19 rfl) rfl kf_X3_22 rfl rfl sz_6 rfl ?_
      refine sg_iload_n 31 (sk_td o_X3_listOptions 20 rfl) rfl rfl ?_
      obtain ⟨hb4, hq⟩ := sk_ifn hq
      refine sm_iald 32 (sk_td o_X3_listOptions 21 rfl) rfl rfl sz_8 hb4 ?_
      refine sg_ic_lt 45 35 (sk_td o_X3_listOptions 22 rfl) (by decide) rfl (fun hc => ?_) (fun hc => ?_)
      · rw [if_pos hc] at hq
        exact t_X3_listOptions_45 hrec4 hq
      · rw [if_neg hc] at hq
        refine sg_aload_n 36 (sk_td o_X3_listOptions 23 rfl) rfl rfl ?_
        refine sm_getR (16, 0) 39 (sk_td o_X3_listOptions 24 rfl) rfl kf_X3_45 rfl rfl sz_6 rfl ?_
        refine sg_iload_n 40 (sk_td o_X3_listOptions 25 rfl) rfl rfl ?_
        refine sg_iload_n 41 (sk_td o_X3_listOptions 26 rfl) rfl rfl ?_
        obtain ⟨hb5, hq⟩ := sk_ifn hq
        refine sm_iast 42 (sk_td o_X3_listOptions 27 rfl) rfl rfl sz_16 hb5 ?_
        refine sg_iinc (v2 + (1 : Int32)) 45 [some (.inr (.inr (some (6, 0)))), some (.inl v1), some (.inl (v2 + (1 : Int32))), some (.inl v3)] (sk_td o_X3_listOptions 28 rfl) rfl rfl rfl rfl (Nat.le_of_ble_eq_true rfl) rfl ?_
        exact t_X3_listOptions_45 hrec4 hq
def l_X3_listOptions_4 (fl : Nat) (a : (sk_D × Int32 × Int32 × Int32)) : Option (Int32 × sk_D) := sk_it (fun rec4 a => q_X3_listOptions_4 rec4 a.1 a.2.1 a.2.2.1 a.2.2.2) fl a
theorem lt_X3_listOptions_4 {l : Launch} : ∀ (fl : Nat) (a : (sk_D × Int32 × Int32 × Int32)) (res : Int32 × sk_D), l_X3_listOptions_4 fl a = some res → sk_G l (sk_rm 1 0 0) m_X3_listOptions sk_Ex0 (sk_Zm m_X3_listOptions (some (.inl res.1)) (sk_mm res.2)) 0 0 4 [some (.inr (.inr (some (6, 0)))), some (.inl a.2.1), some (.inl a.2.2.1), some (.inl a.2.2.2)] [] (sk_mm a.1) :=
  sk_it_ind (P := fun (a : (sk_D × Int32 × Int32 × Int32)) (res : Int32 × sk_D) => sk_G l (sk_rm 1 0 0) m_X3_listOptions sk_Ex0 (sk_Zm m_X3_listOptions (some (.inl res.1)) (sk_mm res.2)) 0 0 4 [some (.inr (.inr (some (6, 0)))), some (.inl a.2.1), some (.inl a.2.2.1), some (.inl a.2.2.2)] [] (sk_mm a.1)) (fun rec4 hrec4 a res hq  => t_X3_listOptions_4 hrec4 hq )
def q_X3_listOptions_0 (d : sk_D) (v1 : Int32) : Option (Int32 × sk_D) :=
  (l_X3_listOptions_4 sk_fu (d, v1, (0 : Int32), (3 : Int32)))
set_option maxRecDepth 100000 in
set_option maxHeartbeats 4000000 in
theorem t_X3_listOptions_0 {l : Launch} {d : sk_D} {v1 : Int32} {res : Int32 × sk_D} (hq : q_X3_listOptions_0 d v1 = some res) :
    sk_G l (sk_rm 1 0 0) m_X3_listOptions sk_Ex0 (sk_Zm m_X3_listOptions (some (.inl res.1)) (sk_mm res.2)) 0 0 0 [some (.inr (.inr (some (6, 0)))), some (.inl v1), none, none] [] (sk_mm d) := by
  unfold q_X3_listOptions_0 at hq
  refine sg_iconst (v := (0 : Int32)) 1 (sk_td o_X3_listOptions 0 rfl) rfl (by decide) ?_
  refine sg_istore_n 2 [some (.inr (.inr (some (6, 0)))), some (.inl v1), some (.inl (0 : Int32)), none] (sk_td o_X3_listOptions 1 rfl) rfl rfl (Nat.le_of_ble_eq_true rfl) rfl ?_
  refine sg_iconst (v := (3 : Int32)) 3 (sk_td o_X3_listOptions 2 rfl) rfl (by decide) ?_
  refine sg_istore_n 4 [some (.inr (.inr (some (6, 0)))), some (.inl v1), some (.inl (0 : Int32)), some (.inl (3 : Int32))] (sk_td o_X3_listOptions 3 rfl) rfl rfl (Nat.le_of_ble_eq_true rfl) rfl ?_
  exact lt_X3_listOptions_4 sk_fu (d, v1, (0 : Int32), (3 : Int32)) _ hq
def q_X3_listOptions (d : sk_D) (v1 : Int32) : Option (Int32 × sk_D) := q_X3_listOptions_0 d v1 
theorem s_X3_listOptions {l : Launch} {d : sk_D} {v1 : Int32} {res : Int32 × sk_D} (hq : q_X3_listOptions d v1 = some res) : sk_M l 1 m_X3_listOptions [.inr (.inr (some (6, 0))), .inl v1] (sk_mm d) (some (.inl res.1)) (sk_mm res.2) :=
  sk_enter (by decide) (fun _ => Nat.le_of_ble_eq_true rfl) (Nat.le_of_ble_eq_true rfl) (t_X3_listOptions_0 hq )
def q_X3_countDown_2 (rec2 : (sk_D × Int32) → Option (sk_D)) (d : sk_D) (v1 : Int32) : Option (sk_D) :=
  if (4 : Int32) ≤ v1 then some d else if sk_bi v1 4 = true then if (d.1 15 0 v1.toNatClampNeg) ≤ 0 then if sk_bi v1 4 = true then if sk_bi v1 4 = true then (rec2 ((sk_wi d 15 0 v1.toNatClampNeg (d.1 13 0 v1.toNatClampNeg)), (v1 + (1 : Int32)))) else none else none else if sk_bi v1 4 = true then if sk_bi v1 4 = true then some (sk_wi d 15 0 v1.toNatClampNeg ((d.1 15 0 v1.toNatClampNeg) - (1 : Int32))) else none else none else none
set_option maxRecDepth 100000 in
set_option maxHeartbeats 4000000 in
theorem t_X3_countDown_2 {l : Launch} {rec2 : (sk_D × Int32) → Option (sk_D)} {d : sk_D} {v1 : Int32} (hrec2 : ∀ (a : (sk_D × Int32)) (res : sk_D), rec2 a = some res → sk_G l (sk_rm 1 0 0) m_X3_countDown sk_Ex0 (sk_Zm m_X3_countDown none (sk_mm res)) 0 0 2 [some (.inr (.inr (some (6, 0)))), some (.inl a.2)] [] (sk_mm a.1)) {res : sk_D} (hq : q_X3_countDown_2 rec2 d v1 = some res) :
    sk_G l (sk_rm 1 0 0) m_X3_countDown sk_Ex0 (sk_Zm m_X3_countDown none (sk_mm res)) 0 0 2 [some (.inr (.inr (some (6, 0)))), some (.inl v1)] [] (sk_mm d) := by
  unfold q_X3_countDown_2 at hq
  refine sg_iload_n 3 (sk_td o_X3_countDown 2 rfl) rfl rfl ?_
  refine sg_iconst (v := (4 : Int32)) 4 (sk_td o_X3_countDown 3 rfl) rfl (by decide) ?_
  refine sg_ic_ge 45 7 (sk_td o_X3_countDown 4 rfl) (by decide) rfl (fun hc => ?_) (fun hc => ?_)
  · rw [if_pos hc] at hq
    obtain rfl := Option.some.inj hq
    exact sg_vret (sk_td o_X3_countDown 29 rfl) rfl
  · rw [if_neg hc] at hq
    refine sg_aload_n 8 (sk_td o_X3_countDown 5 rfl) rfl rfl ?_
    refine sm_getR (15, 0) 11 (sk_td o_X3_countDown 6 rfl) rfl kf_X3_42 rfl rfl sz_6 rfl ?_
    refine sg_iload_n 12 (sk_td o_X3_countDown 7 rfl) rfl rfl ?_
    obtain ⟨hb1, hq⟩ := sk_ifn hq
    refine sm_iald 13 (sk_td o_X3_countDown 8 rfl) rfl rfl sz_15 hb1 ?_
    refine sg_if_le 27 16 (sk_td o_X3_countDown 9 rfl) (by decide) rfl (fun hc => ?_) (fun hc => ?_)
    · rw [if_pos hc] at hq
      refine sg_aload_n 28 (sk_td o_X3_countDown 19 rfl) rfl rfl ?_
      refine sm_getR (15, 0) 31 (sk_td o_X3_countDown 20 rfl) rfl kf_X3_42 rfl rfl sz_6 rfl ?_
      refine sg_iload_n 32 (sk_td o_X3_countDown 21 rfl) rfl rfl ?_
      refine sg_aload_n 33 (sk_td o_X3_countDown 22 rfl) rfl rfl ?_
      refine sm_getR (13, 0) 36 (sk_td o_X3_countDown 23 rfl) rfl kf_X3_36 rfl rfl sz_6 rfl ?_
      refine sg_iload_n 37 (sk_td o_X3_countDown 24 rfl) rfl rfl ?_
      obtain ⟨hb2, hq⟩ := sk_ifn hq
      refine sm_iald 38 (sk_td o_X3_countDown 25 rfl) rfl rfl sz_13 hb2 ?_
      obtain ⟨hb3, hq⟩ := sk_ifn hq
      refine sm_iast 39 (sk_td o_X3_countDown 26 rfl) rfl rfl sz_15 hb3 ?_
      refine sg_iinc (v1 + (1 : Int32)) 42 [some (.inr (.inr (some (6, 0)))), some (.inl (v1 + (1 : Int32)))] (sk_td o_X3_countDown 27 rfl) rfl rfl rfl rfl (Nat.le_of_ble_eq_true rfl) rfl ?_
      refine sg_goto 2 (sk_td o_X3_countDown 28 rfl) (by decide) ?_
      exact hrec2 ((sk_wi d 15 0 v1.toNatClampNeg (d.1 13 0 v1.toNatClampNeg)), (v1 + (1 : Int32))) _ hq
    · rw [if_neg hc] at hq
      refine sg_aload_n 17 (sk_td o_X3_countDown 10 rfl) rfl rfl ?_
      refine sm_getR (15, 0) 20 (sk_td o_X3_countDown 11 rfl) rfl kf_X3_42 rfl rfl sz_6 rfl ?_
      refine sg_iload_n 21 (sk_td o_X3_countDown 12 rfl) rfl rfl ?_
      refine sg_dup2 22 (sk_td o_X3_countDown 13 rfl) rfl ?_
      obtain ⟨hb4, hq⟩ := sk_ifn hq
      refine sm_iald 23 (sk_td o_X3_countDown 14 rfl) rfl rfl sz_15 hb4 ?_
      refine sg_iconst (v := (1 : Int32)) 24 (sk_td o_X3_countDown 15 rfl) rfl (by decide) ?_
      refine sg_isub 25 (sk_td o_X3_countDown 16 rfl) rfl ?_
      obtain ⟨hb5, hq⟩ := sk_ifn hq
      refine sm_iast 26 (sk_td o_X3_countDown 17 rfl) rfl rfl sz_15 hb5 ?_
      obtain rfl := Option.some.inj hq
      exact sg_vret (sk_td o_X3_countDown 18 rfl) rfl
def l_X3_countDown_2 (fl : Nat) (a : (sk_D × Int32)) : Option (sk_D) := sk_it (fun rec2 a => q_X3_countDown_2 rec2 a.1 a.2) fl a
theorem lt_X3_countDown_2 {l : Launch} : ∀ (fl : Nat) (a : (sk_D × Int32)) (res : sk_D), l_X3_countDown_2 fl a = some res → sk_G l (sk_rm 1 0 0) m_X3_countDown sk_Ex0 (sk_Zm m_X3_countDown none (sk_mm res)) 0 0 2 [some (.inr (.inr (some (6, 0)))), some (.inl a.2)] [] (sk_mm a.1) :=
  sk_it_ind (P := fun (a : (sk_D × Int32)) (res : sk_D) => sk_G l (sk_rm 1 0 0) m_X3_countDown sk_Ex0 (sk_Zm m_X3_countDown none (sk_mm res)) 0 0 2 [some (.inr (.inr (some (6, 0)))), some (.inl a.2)] [] (sk_mm a.1)) (fun rec2 hrec2 a res hq  => t_X3_countDown_2 hrec2 hq )
def q_X3_countDown_0 (d : sk_D) : Option (sk_D) :=
  (l_X3_countDown_2 sk_fu (d, (0 : Int32)))
set_option maxRecDepth 100000 in
set_option maxHeartbeats 4000000 in
theorem t_X3_countDown_0 {l : Launch} {d : sk_D} {res : sk_D} (hq : q_X3_countDown_0 d = some res) :
    sk_G l (sk_rm 1 0 0) m_X3_countDown sk_Ex0 (sk_Zm m_X3_countDown none (sk_mm res)) 0 0 0 [some (.inr (.inr (some (6, 0)))), none] [] (sk_mm d) := by
  unfold q_X3_countDown_0 at hq
  refine sg_iconst (v := (0 : Int32)) 1 (sk_td o_X3_countDown 0 rfl) rfl (by decide) ?_
  refine sg_istore_n 2 [some (.inr (.inr (some (6, 0)))), some (.inl (0 : Int32))] (sk_td o_X3_countDown 1 rfl) rfl rfl (Nat.le_of_ble_eq_true rfl) rfl ?_
  exact lt_X3_countDown_2 sk_fu (d, (0 : Int32)) _ hq
def q_X3_countDown (d : sk_D) : Option (sk_D) := q_X3_countDown_0 d 
theorem s_X3_countDown {l : Launch} {d : sk_D} {res : sk_D} (hq : q_X3_countDown d = some res) : sk_M l 1 m_X3_countDown [.inr (.inr (some (6, 0)))] (sk_mm d) none (sk_mm res) :=
  sk_enter (by decide) (fun _ => Nat.le_of_ble_eq_true rfl) (Nat.le_of_ble_eq_true rfl) (t_X3_countDown_0 hq )
def q_X3_chooseFor_190 (rec32 : (sk_D × Int32 × Int32 × Int32) → Option (sk_D)) (d : sk_D) (v1 : Int32) (v2 : Int32) (v3 : Int32) : Option (sk_D) :=
  (q_X3_countDown d).bind fun x1 => (rec32 (x1, v1, v2, (v3 + (-1 : Int32))))
set_option maxRecDepth 100000 in
set_option maxHeartbeats 4000000 in
theorem t_X3_chooseFor_190 {l : Launch} {rec32 : (sk_D × Int32 × Int32 × Int32) → Option (sk_D)} {d : sk_D} {v1 : Int32} {v2 : Int32} {v3 : Int32} (hrec32 : ∀ (a : (sk_D × Int32 × Int32 × Int32)) (res : sk_D), rec32 a = some res → sk_G l (sk_rm 2 0 0) m_X3_chooseFor sk_Ex0 (sk_Zm m_X3_chooseFor none (sk_mm res)) 0 0 32 [some (.inr (.inr (some (6, 0)))), some (.inl a.2.1), some (.inl a.2.2.1), some (.inl a.2.2.2), none, none, none, none, none, none, none] [] (sk_mm a.1)) {res : sk_D} (hq : q_X3_chooseFor_190 rec32 d v1 v2 v3 = some res) :
    sk_G l (sk_rm 2 0 0) m_X3_chooseFor sk_Ex0 (sk_Zm m_X3_chooseFor none (sk_mm res)) 0 0 190 [some (.inr (.inr (some (6, 0)))), some (.inl v1), some (.inl v2), some (.inl v3), none, none, none, none, none, none, none] [.inr (.inr (some (6, 0)))] (sk_mm d) := by
  unfold q_X3_chooseFor_190 at hq
  obtain ⟨x1, hr_x1, hq⟩ := sk_bnd hq
  refine sm_callV0v 193 (s_X3_countDown hr_x1) (sk_td o_X3_chooseFor 115 rfl) rfl lv_X3_143 rfl rfl rfl sz_6 (sk_rok (Nat.le_of_ble_eq_true rfl) (Nat.le_of_ble_eq_true rfl) rfl rfl) (Nat.le_of_ble_eq_true rfl) ?_
  refine sg_iinc (v3 + (-1 : Int32)) 196 [some (.inr (.inr (some (6, 0)))), some (.inl v1), some (.inl v2), some (.inl (v3 + (-1 : Int32))), none, none, none, none, none, none, none] (sk_td o_X3_chooseFor 116 rfl) rfl rfl rfl rfl (Nat.le_of_ble_eq_true rfl) rfl ?_
  refine sg_goto 32 (sk_td o_X3_chooseFor 117 rfl) (by decide) ?_
  exact hrec32 (x1, v1, v2, (v3 + (-1 : Int32))) _ hq
def q_X3_chooseFor_180 (rec32 : (sk_D × Int32 × Int32 × Int32) → Option (sk_D)) (d : sk_D) (v1 : Int32) (v2 : Int32) (v3 : Int32) (w5 : Int64) (s1 : Int32) (s3 : Int32) : Option (sk_D) :=
  if sk_bi s3 2401 = true then if sk_bi s1 2401 = true then (q_X3_chooseFor_190 rec32 (sk_wl d 18 0 s1.toNatClampNeg ((d.2 18 0 s3.toNatClampNeg) ||| (w5 <<< (((3 : Int32) * v1).toInt64 &&& 63)))) v1 v2 v3) else none else none
set_option maxRecDepth 100000 in
set_option maxHeartbeats 4000000 in
theorem t_X3_chooseFor_180 {l : Launch} {rec32 : (sk_D × Int32 × Int32 × Int32) → Option (sk_D)} {d : sk_D} {v1 : Int32} {v2 : Int32} {v3 : Int32} {w5 : Int64} {s1 : Int32} {s3 : Int32} (hrec32 : ∀ (a : (sk_D × Int32 × Int32 × Int32)) (res : sk_D), rec32 a = some res → sk_G l (sk_rm 2 0 0) m_X3_chooseFor sk_Ex0 (sk_Zm m_X3_chooseFor none (sk_mm res)) 0 0 32 [some (.inr (.inr (some (6, 0)))), some (.inl a.2.1), some (.inl a.2.2.1), some (.inl a.2.2.2), none, none, none, none, none, none, none] [] (sk_mm a.1)) {res : sk_D} (hq : q_X3_chooseFor_180 rec32 d v1 v2 v3 w5 s1 s3 = some res) :
    sk_G l (sk_rm 2 0 0) m_X3_chooseFor sk_Ex0 (sk_Zm m_X3_chooseFor none (sk_mm res)) 0 0 180 [some (.inr (.inr (some (6, 0)))), some (.inl v1), some (.inl v2), some (.inl v3), none, some (.inr (.inl w5)), none, none, none, none, none] [.inl s3, .inr (.inr (some (18, 0))), .inl s1, .inr (.inr (some (18, 0)))] (sk_mm d) := by
  unfold q_X3_chooseFor_180 at hq
  obtain ⟨hb1, hq⟩ := sk_ifn hq
  refine sm_lald 181 (sk_td o_X3_chooseFor 106 rfl) rfl rfl sz_18 hb1 ?_
  refine sg_lload 183 (sk_td o_X3_chooseFor 107 rfl) rfl rfl ?_
  refine sg_iconst (v := (3 : Int32)) 184 (sk_td o_X3_chooseFor 108 rfl) rfl (by decide) ?_
  refine sg_iload_n 185 (sk_td o_X3_chooseFor 109 rfl) rfl rfl ?_
  refine sg_imul 186 (sk_td o_X3_chooseFor 110 rfl) rfl ?_
  refine sg_lshl 187 (sk_td o_X3_chooseFor 111 rfl) rfl ?_
  refine sg_lor 188 (sk_td o_X3_chooseFor 112 rfl) rfl ?_
  obtain ⟨hb2, hq⟩ := sk_ifn hq
  refine sm_last 189 (sk_td o_X3_chooseFor 113 rfl) rfl rfl sz_18 hb2 ?_
  refine sg_aload_n 190 (sk_td o_X3_chooseFor 114 rfl) rfl rfl ?_
  refine sk_wk [true, true, true, true, true, false, true, true, true, true, true] (ls' := [some (.inr (.inr (some (6, 0)))), some (.inl v1), some (.inl v2), some (.inl v3), none, none, none, none, none, none, none]) rfl ?_
  exact t_X3_chooseFor_190 hrec32 hq
def q_X3_chooseFor_160 (rec32 : (sk_D × Int32 × Int32 × Int32) → Option (sk_D)) (rec50 : (sk_D × Int32 × Int32 × Int32 × Int32 × Int64 × Int32) → Option (sk_D)) (d : sk_D) (v1 : Int32) (v2 : Int32) (v3 : Int32) (v4 : Int32) (w5 : Int64) (v7 : Int32) : Option (sk_D) :=
  (rec50 (d, v1, v2, v3, v4, w5, (v7 + (1 : Int32))))
set_option maxRecDepth 100000 in
set_option maxHeartbeats 4000000 in
theorem t_X3_chooseFor_160 {l : Launch} {rec32 : (sk_D × Int32 × Int32 × Int32) → Option (sk_D)} {rec50 : (sk_D × Int32 × Int32 × Int32 × Int32 × Int64 × Int32) → Option (sk_D)} {d : sk_D} {v1 : Int32} {v2 : Int32} {v3 : Int32} {v4 : Int32} {w5 : Int64} {v7 : Int32} (hrec32 : ∀ (a : (sk_D × Int32 × Int32 × Int32)) (res : sk_D), rec32 a = some res → sk_G l (sk_rm 2 0 0) m_X3_chooseFor sk_Ex0 (sk_Zm m_X3_chooseFor none (sk_mm res)) 0 0 32 [some (.inr (.inr (some (6, 0)))), some (.inl a.2.1), some (.inl a.2.2.1), some (.inl a.2.2.2), none, none, none, none, none, none, none] [] (sk_mm a.1)) (hrec50 : ∀ (a : (sk_D × Int32 × Int32 × Int32 × Int32 × Int64 × Int32)) (res : sk_D), rec50 a = some res → sk_G l (sk_rm 2 0 0) m_X3_chooseFor sk_Ex0 (sk_Zm m_X3_chooseFor none (sk_mm res)) 0 0 50 [some (.inr (.inr (some (6, 0)))), some (.inl a.2.1), some (.inl a.2.2.1), some (.inl a.2.2.2.1), some (.inl a.2.2.2.2.1), some (.inr (.inl a.2.2.2.2.2.1)), none, some (.inl a.2.2.2.2.2.2), none, none, none] [] (sk_mm a.1)) {res : sk_D} (hq : q_X3_chooseFor_160 rec32 rec50 d v1 v2 v3 v4 w5 v7 = some res) :
    sk_G l (sk_rm 2 0 0) m_X3_chooseFor sk_Ex0 (sk_Zm m_X3_chooseFor none (sk_mm res)) 0 0 160 [some (.inr (.inr (some (6, 0)))), some (.inl v1), some (.inl v2), some (.inl v3), some (.inl v4), some (.inr (.inl w5)), none, some (.inl v7), none, none, none] [] (sk_mm d) := by
  unfold q_X3_chooseFor_160 at hq
  refine sg_iinc (v7 + (1 : Int32)) 163 [some (.inr (.inr (some (6, 0)))), some (.inl v1), some (.inl v2), some (.inl v3), some (.inl v4), some (.inr (.inl w5)), none, some (.inl (v7 + (1 : Int32))), none, none, none] (sk_td o_X3_chooseFor 95 rfl) rfl rfl rfl rfl (Nat.le_of_ble_eq_true rfl) rfl ?_
  refine sg_goto 50 (sk_td o_X3_chooseFor 96 rfl) (by decide) ?_
  exact hrec50 (d, v1, v2, v3, v4, w5, (v7 + (1 : Int32))) _ hq
def q_X3_chooseFor_50 (rec32 : (sk_D × Int32 × Int32 × Int32) → Option (sk_D)) (rec50 : (sk_D × Int32 × Int32 × Int32 × Int32 × Int64 × Int32) → Option (sk_D)) (d : sk_D) (v1 : Int32) (v2 : Int32) (v3 : Int32) (v4 : Int32) (w5 : Int64) (v7 : Int32) : Option (sk_D) :=
  if v2 ≤ v7 then if sk_bi v3 2401 = true then (q_X3_chooseFor_180 rec32 (sk_wi d 17 0 v3.toNatClampNeg v4) v1 v2 v3 w5 v3 v3) else none else if sk_bi v7 4 = true then if sk_bi v1 20 = true then if sk_bi (d.1 16 0 v7.toNatClampNeg) 4 = true then if sk_bi (d.1 16 0 v7.toNatClampNeg) 4 = true then if sk_bi v1 20 = true then if (d.1 15 0 (d.1 16 0 v7.toNatClampNeg).toNatClampNeg) < (d.1 8 0 v1.toNatClampNeg) then (q_X3_chooseFor_160 rec32 rec50 d v1 v2 v3 v4 w5 v7) else if (v3 - ((d.1 8 0 v1.toNatClampNeg) * (d.1 14 0 (d.1 16 0 v7.toNatClampNeg).toNatClampNeg))) < 0 then (q_X3_chooseFor_160 rec32 rec50 d v1 v2 v3 v4 w5 v7) else if (d.1 6 0 1) ≤ (v3 - ((d.1 8 0 v1.toNatClampNeg) * (d.1 14 0 (d.1 16 0 v7.toNatClampNeg).toNatClampNeg))) then (q_X3_chooseFor_160 rec32 rec50 d v1 v2 v3 v4 w5 v7) else if sk_bi (v3 - ((d.1 8 0 v1.toNatClampNeg) * (d.1 14 0 (d.1 16 0 v7.toNatClampNeg).toNatClampNeg))) 2401 = true then if sk_bi v1 20 = true then if sk_bi v1 20 = true then if sk_bi (d.1 16 0 v7.toNatClampNeg) 4 = true then if (((d.1 17 0 (v3 - ((d.1 8 0 v1.toNatClampNeg) * (d.1 14 0 (d.1 16 0 v7.toNatClampNeg).toNatClampNeg))).toNatClampNeg) + ((d.1 8 0 v1.toNatClampNeg) * (32 : Int32))) - (d.1 10 v1.toNatClampNeg (d.1 16 0 v7.toNatClampNeg).toNatClampNeg)) < v4 then (q_X3_chooseFor_160 rec32 rec50 d v1 v2 v3 v4 w5 v7) else (q_X3_chooseFor_160 rec32 rec50 d v1 v2 v3 (((d.1 17 0 (v3 - ((d.1 8 0 v1.toNatClampNeg) * (d.1 14 0 (d.1 16 0 v7.toNatClampNeg).toNatClampNeg))).toNatClampNeg) + ((d.1 8 0 v1.toNatClampNeg) * (32 : Int32))) - (d.1 10 v1.toNatClampNeg (d.1 16 0 v7.toNatClampNeg).toNatClampNeg)) ((d.1 16 0 v7.toNatClampNeg) + (1 : Int32)).toInt64 v7) else none else none else none else none else none else none else none else none else none
set_option maxRecDepth 100000 in
set_option maxHeartbeats 4000000 in
theorem t_X3_chooseFor_50 {l : Launch} {rec32 : (sk_D × Int32 × Int32 × Int32) → Option (sk_D)} {rec50 : (sk_D × Int32 × Int32 × Int32 × Int32 × Int64 × Int32) → Option (sk_D)} {d : sk_D} {v1 : Int32} {v2 : Int32} {v3 : Int32} {v4 : Int32} {w5 : Int64} {v7 : Int32} (hrec32 : ∀ (a : (sk_D × Int32 × Int32 × Int32)) (res : sk_D), rec32 a = some res → sk_G l (sk_rm 2 0 0) m_X3_chooseFor sk_Ex0 (sk_Zm m_X3_chooseFor none (sk_mm res)) 0 0 32 [some (.inr (.inr (some (6, 0)))), some (.inl a.2.1), some (.inl a.2.2.1), some (.inl a.2.2.2), none, none, none, none, none, none, none] [] (sk_mm a.1)) (hrec50 : ∀ (a : (sk_D × Int32 × Int32 × Int32 × Int32 × Int64 × Int32)) (res : sk_D), rec50 a = some res → sk_G l (sk_rm 2 0 0) m_X3_chooseFor sk_Ex0 (sk_Zm m_X3_chooseFor none (sk_mm res)) 0 0 50 [some (.inr (.inr (some (6, 0)))), some (.inl a.2.1), some (.inl a.2.2.1), some (.inl a.2.2.2.1), some (.inl a.2.2.2.2.1), some (.inr (.inl a.2.2.2.2.2.1)), none, some (.inl a.2.2.2.2.2.2), none, none, none] [] (sk_mm a.1)) {res : sk_D} (hq : q_X3_chooseFor_50 rec32 rec50 d v1 v2 v3 v4 w5 v7 = some res) :
    sk_G l (sk_rm 2 0 0) m_X3_chooseFor sk_Ex0 (sk_Zm m_X3_chooseFor none (sk_mm res)) 0 0 50 [some (.inr (.inr (some (6, 0)))), some (.inl v1), some (.inl v2), some (.inl v3), some (.inl v4), some (.inr (.inl w5)), none, some (.inl v7), none, none, none] [] (sk_mm d) := by
  unfold q_X3_chooseFor_50 at hq
  refine sg_iload 52 (sk_td o_X3_chooseFor 31 rfl) rfl rfl ?_
  refine sg_iload_n 53 (sk_td o_X3_chooseFor 32 rfl) rfl rfl ?_
  refine sg_ic_ge 166 56 (sk_td o_X3_chooseFor 33 rfl) (by decide) rfl (fun hc => ?_) (fun hc => ?_)
  · rw [if_pos hc] at hq
    refine sg_aload_n 167 (sk_td o_X3_chooseFor 97 rfl) rfl rfl ?_
    refine sm_getR (17, 0) 170 (sk_td o_X3_chooseFor 98 rfl) rfl kf_X3_48 rfl rfl sz_6 rfl ?_
    refine sg_iload_n 171 (sk_td o_X3_chooseFor 99 rfl) rfl rfl ?_
    refine sg_iload 173 (sk_td o_X3_chooseFor 100 rfl) rfl rfl ?_
    obtain ⟨hb1, hq⟩ := sk_ifn hq
    refine sm_iast 174 (sk_td o_X3_chooseFor 101 rfl) rfl rfl sz_17 hb1 ?_
    refine sg_aload_n 175 (sk_td o_X3_chooseFor 102 rfl) rfl rfl ?_
    refine sm_getR (18, 0) 178 (sk_td o_X3_chooseFor 103 rfl) rfl kf_X3_51 rfl rfl sz_6 rfl ?_
    refine sg_iload_n 179 (sk_td o_X3_chooseFor 104 rfl) rfl rfl ?_
    refine sg_dup2 180 (sk_td o_X3_chooseFor 105 rfl) rfl ?_
    refine sk_wk [true, true, true, true, false, true, true, false, true, true, true] (ls' := [some (.inr (.inr (some (6, 0)))), some (.inl v1), some (.inl v2), some (.inl v3), none, some (.inr (.inl w5)), none, none, none, none, none]) rfl ?_
    exact t_X3_chooseFor_180 hrec32 hq
  · rw [if_neg hc] at hq
    refine sg_aload_n 57 (sk_td o_X3_chooseFor 34 rfl) rfl rfl ?_
    refine sm_getR (16, 0) 60 (sk_td o_X3_chooseFor 35 rfl) rfl kf_X3_45 rfl rfl sz_6 rfl ?_
    refine sg_iload 62 (sk_td o_X3_chooseFor 36 rfl) rfl rfl ?_
    obtain ⟨hb2, hq⟩ := sk_ifn hq
    refine sm_iald 63 (sk_td o_X3_chooseFor 37 rfl) rfl rfl sz_16 hb2 ?_
    refine sg_istore 65 [some (.inr (.inr (some (6, 0)))), some (.inl v1), some (.inl v2), some (.inl v3), some (.inl v4), some (.inr (.inl w5)), none, some (.inl v7), some (.inl (d.1 16 0 v7.toNatClampNeg)), none, none] (sk_td o_X3_chooseFor 38 rfl) rfl rfl (Nat.le_of_ble_eq_true rfl) rfl ?_
    refine sg_iload_n 66 (sk_td o_X3_chooseFor 39 rfl) rfl rfl ?_
    refine sg_aload_n 67 (sk_td o_X3_chooseFor 40 rfl) rfl rfl ?_
    refine sm_getR (8, 0) 70 (sk_td o_X3_chooseFor 41 rfl) rfl kf_X3_22 rfl rfl sz_6 rfl ?_
    refine sg_iload_n 71 (sk_td o_X3_chooseFor 42 rfl) rfl rfl ?_
    obtain ⟨hb3, hq⟩ := sk_ifn hq
    refine sm_iald 72 (sk_td o_X3_chooseFor 43 rfl) rfl rfl sz_8 hb3 ?_
    refine sg_aload_n 73 (sk_td o_X3_chooseFor 44 rfl) rfl rfl ?_
    refine sm_getR (14, 0) 76 (sk_td o_X3_chooseFor 45 rfl) rfl kf_X3_39 rfl rfl sz_6 rfl ?_
    refine sg_iload 78 (sk_td o_X3_chooseFor 46 rfl) rfl rfl ?_
    obtain ⟨hb4, hq⟩ := sk_ifn hq
    refine sm_iald 79 (sk_td o_X3_chooseFor 47 rfl) rfl rfl sz_14 hb4 ?_
    refine sg_imul 80 (sk_td o_X3_chooseFor 48 rfl) rfl ?_
    refine sg_isub 81 (sk_td o_X3_chooseFor 49 rfl) rfl ?_
    refine sg_istore 83 [some (.inr (.inr (some (6, 0)))), some (.inl v1), some (.inl v2), some (.inl v3), some (.inl v4), some (.inr (.inl w5)), none, some (.inl v7), some (.inl (d.1 16 0 v7.toNatClampNeg)), some (.inl (v3 - ((d.1 8 0 v1.toNatClampNeg) * (d.1 14 0 (d.1 16 0 v7.toNatClampNeg).toNatClampNeg)))), none] (sk_td o_X3_chooseFor 50 rfl) rfl rfl (Nat.le_of_ble_eq_true rfl) rfl ?_
    refine sg_aload_n 84 (sk_td o_X3_chooseFor 51 rfl) rfl rfl ?_
    refine sm_getR (15, 0) 87 (sk_td o_X3_chooseFor 52 rfl) rfl kf_X3_42 rfl rfl sz_6 rfl ?_
    refine sg_iload 89 (sk_td o_X3_chooseFor 53 rfl) rfl rfl ?_
    obtain ⟨hb5, hq⟩ := sk_ifn hq
    refine sm_iald 90 (sk_td o_X3_chooseFor 54 rfl) rfl rfl sz_15 hb5 ?_
    refine sg_aload_n 91 (sk_td o_X3_chooseFor 55 rfl) rfl rfl ?_
    refine sm_getR (8, 0) 94 (sk_td o_X3_chooseFor 56 rfl) rfl kf_X3_22 rfl rfl sz_6 rfl ?_
    refine sg_iload_n 95 (sk_td o_X3_chooseFor 57 rfl) rfl rfl ?_
    obtain ⟨hb6, hq⟩ := sk_ifn hq
    refine sm_iald 96 (sk_td o_X3_chooseFor 58 rfl) rfl rfl sz_8 hb6 ?_
    refine sg_ic_lt 160 99 (sk_td o_X3_chooseFor 59 rfl) (by decide) rfl (fun hc => ?_) (fun hc => ?_)
    · rw [if_pos hc] at hq
      refine sk_wk [true, true, true, true, true, true, true, true, false, false, true] (ls' := [some (.inr (.inr (some (6, 0)))), some (.inl v1), some (.inl v2), some (.inl v3), some (.inl v4), some (.inr (.inl w5)), none, some (.inl v7), none, none, none]) rfl ?_
      exact t_X3_chooseFor_160 hrec32 hrec50 hq
    · rw [if_neg hc] at hq
      refine sg_iload 101 (sk_td o_X3_chooseFor 60 rfl) rfl rfl ?_
      refine sg_if_lt 160 104 (sk_td o_X3_chooseFor 61 rfl) (by decide) rfl (fun hc => ?_) (fun hc => ?_)
      · rw [if_pos hc] at hq
        refine sk_wk [true, true, true, true, true, true, true, true, false, false, true] (ls' := [some (.inr (.inr (some (6, 0)))), some (.inl v1), some (.inl v2), some (.inl v3), some (.inl v4), some (.inr (.inl w5)), none, some (.inl v7), none, none, none]) rfl ?_
        exact t_X3_chooseFor_160 hrec32 hrec50 hq
      · rw [if_neg hc] at hq
        refine sg_iload 106 (sk_td o_X3_chooseFor 62 rfl) rfl rfl ?_
        refine sg_aload_n 107 (sk_td o_X3_chooseFor 63 rfl) rfl rfl ?_
        refine sm_getI 110 (sk_td o_X3_chooseFor 64 rfl) rfl kf_X3_15 rfl rfl sz_6 ?_
        refine sg_ic_ge 160 113 (sk_td o_X3_chooseFor 65 rfl) (by decide) rfl (fun hc => ?_) (fun hc => ?_)
        · rw [if_pos hc] at hq
          refine sk_wk [true, true, true, true, true, true, true, true, false, false, true] (ls' := [some (.inr (.inr (some (6, 0)))), some (.inl v1), some (.inl v2), some (.inl v3), some (.inl v4), some (.inr (.inl w5)), none, some (.inl v7), none, none, none]) rfl ?_
          exact t_X3_chooseFor_160 hrec32 hrec50 hq
        · rw [if_neg hc] at hq
          refine sg_aload_n 114 (sk_td o_X3_chooseFor 66 rfl) rfl rfl ?_
          refine sm_getR (17, 0) 117 (sk_td o_X3_chooseFor 67 rfl) rfl kf_X3_48 rfl rfl sz_6 rfl ?_
          refine sg_iload 119 (sk_td o_X3_chooseFor 68 rfl) rfl rfl ?_
          obtain ⟨hb7, hq⟩ := sk_ifn hq
          refine sm_iald 120 (sk_td o_X3_chooseFor 69 rfl) rfl rfl sz_17 hb7 ?_
          refine sg_aload_n 121 (sk_td o_X3_chooseFor 70 rfl) rfl rfl ?_
          refine sm_getR (8, 0) 124 (sk_td o_X3_chooseFor 71 rfl) rfl kf_X3_22 rfl rfl sz_6 rfl ?_
          refine sg_iload_n 125 (sk_td o_X3_chooseFor 72 rfl) rfl rfl ?_
          obtain ⟨hb8, hq⟩ := sk_ifn hq
          refine sm_iald 126 (sk_td o_X3_chooseFor 73 rfl) rfl rfl sz_8 hb8 ?_
          refine sg_bipush (v := (32 : Int32)) 128 (sk_td o_X3_chooseFor 74 rfl) rfl (by decide) ?_
          refine sg_imul 129 (sk_td o_X3_chooseFor 75 rfl) rfl ?_
          refine sg_iadd 130 (sk_td o_X3_chooseFor 76 rfl) rfl ?_
          refine sg_aload_n 131 (sk_td o_X3_chooseFor 77 rfl) rfl rfl ?_
          refine sm_getR (9, 0) 134 (sk_td o_X3_chooseFor 78 rfl) rfl kf_X3_27 rfl rfl sz_6 rfl ?_
          refine sg_iload_n 135 (sk_td o_X3_chooseFor 79 rfl) rfl rfl ?_
          obtain ⟨hb9, hq⟩ := sk_ifn hq
          refine sm_aald (10, v1.toNatClampNeg) 136 (sk_td o_X3_chooseFor 80 rfl) rfl rfl (by decide) sz_9 hb9 (sr_9 (sk_bi.lt hb9)) ?_
          refine sg_iload 138 (sk_td o_X3_chooseFor 81 rfl) rfl rfl ?_
          obtain ⟨hb10, hq⟩ := sk_ifn hq
          refine sm_iald 139 (sk_td o_X3_chooseFor 82 rfl) rfl rfl (sk_bi.lt hb9) hb10 ?_
          refine sg_isub 140 (sk_td o_X3_chooseFor 83 rfl) rfl ?_
          refine sg_istore 142 [some (.inr (.inr (some (6, 0)))), some (.inl v1), some (.inl v2), some (.inl v3), some (.inl v4), some (.inr (.inl w5)), none, some (.inl v7), some (.inl (d.1 16 0 v7.toNatClampNeg)), some (.inl (v3 - ((d.1 8 0 v1.toNatClampNeg) * (d.1 14 0 (d.1 16 0 v7.toNatClampNeg).toNatClampNeg)))), some (.inl (((d.1 17 0 (v3 - ((d.1 8 0 v1.toNatClampNeg) * (d.1 14 0 (d.1 16 0 v7.toNatClampNeg).toNatClampNeg))).toNatClampNeg) + ((d.1 8 0 v1.toNatClampNeg) * (32 : Int32))) - (d.1 10 v1.toNatClampNeg (d.1 16 0 v7.toNatClampNeg).toNatClampNeg)))] (sk_td o_X3_chooseFor 84 rfl) rfl rfl (Nat.le_of_ble_eq_true rfl) rfl ?_
          refine sg_iload 144 (sk_td o_X3_chooseFor 85 rfl) rfl rfl ?_
          refine sg_iload 146 (sk_td o_X3_chooseFor 86 rfl) rfl rfl ?_
          refine sg_ic_lt 160 149 (sk_td o_X3_chooseFor 87 rfl) (by decide) rfl (fun hc => ?_) (fun hc => ?_)
          · rw [if_pos hc] at hq
            refine sk_wk [true, true, true, true, true, true, true, true, false, false, false] (ls' := [some (.inr (.inr (some (6, 0)))), some (.inl v1), some (.inl v2), some (.inl v3), some (.inl v4), some (.inr (.inl w5)), none, some (.inl v7), none, none, none]) rfl ?_
            exact t_X3_chooseFor_160 hrec32 hrec50 hq
          · rw [if_neg hc] at hq
            refine sg_iload 151 (sk_td o_X3_chooseFor 88 rfl) rfl rfl ?_
            refine sg_istore 153 [some (.inr (.inr (some (6, 0)))), some (.inl v1), some (.inl v2), some (.inl v3), some (.inl (((d.1 17 0 (v3 - ((d.1 8 0 v1.toNatClampNeg) * (d.1 14 0 (d.1 16 0 v7.toNatClampNeg).toNatClampNeg))).toNatClampNeg) + ((d.1 8 0 v1.toNatClampNeg) * (32 : Int32))) - (d.1 10 v1.toNatClampNeg (d.1 16 0 v7.toNatClampNeg).toNatClampNeg))), some (.inr (.inl w5)), none, some (.inl v7), some (.inl (d.1 16 0 v7.toNatClampNeg)), some (.inl (v3 - ((d.1 8 0 v1.toNatClampNeg) * (d.1 14 0 (d.1 16 0 v7.toNatClampNeg).toNatClampNeg)))), some (.inl (((d.1 17 0 (v3 - ((d.1 8 0 v1.toNatClampNeg) * (d.1 14 0 (d.1 16 0 v7.toNatClampNeg).toNatClampNeg))).toNatClampNeg) + ((d.1 8 0 v1.toNatClampNeg) * (32 : Int32))) - (d.1 10 v1.toNatClampNeg (d.1 16 0 v7.toNatClampNeg).toNatClampNeg)))] (sk_td o_X3_chooseFor 89 rfl) rfl rfl (Nat.le_of_ble_eq_true rfl) rfl ?_
            refine sg_iload 155 (sk_td o_X3_chooseFor 90 rfl) rfl rfl ?_
            refine sg_iconst (v := (1 : Int32)) 156 (sk_td o_X3_chooseFor 91 rfl) rfl (by decide) ?_
            refine sg_iadd 157 (sk_td o_X3_chooseFor 92 rfl) rfl ?_
            refine sg_i2l 158 (sk_td o_X3_chooseFor 93 rfl) rfl ?_
            refine sg_lstore 160 [some (.inr (.inr (some (6, 0)))), some (.inl v1), some (.inl v2), some (.inl v3), some (.inl (((d.1 17 0 (v3 - ((d.1 8 0 v1.toNatClampNeg) * (d.1 14 0 (d.1 16 0 v7.toNatClampNeg).toNatClampNeg))).toNatClampNeg) + ((d.1 8 0 v1.toNatClampNeg) * (32 : Int32))) - (d.1 10 v1.toNatClampNeg (d.1 16 0 v7.toNatClampNeg).toNatClampNeg))), some (.inr (.inl ((d.1 16 0 v7.toNatClampNeg) + (1 : Int32)).toInt64)), none, some (.inl v7), some (.inl (d.1 16 0 v7.toNatClampNeg)), some (.inl (v3 - ((d.1 8 0 v1.toNatClampNeg) * (d.1 14 0 (d.1 16 0 v7.toNatClampNeg).toNatClampNeg)))), some (.inl (((d.1 17 0 (v3 - ((d.1 8 0 v1.toNatClampNeg) * (d.1 14 0 (d.1 16 0 v7.toNatClampNeg).toNatClampNeg))).toNatClampNeg) + ((d.1 8 0 v1.toNatClampNeg) * (32 : Int32))) - (d.1 10 v1.toNatClampNeg (d.1 16 0 v7.toNatClampNeg).toNatClampNeg)))] (sk_td o_X3_chooseFor 94 rfl) rfl rfl (Nat.le_of_ble_eq_true rfl) rfl ?_
            refine sk_wk [true, true, true, true, true, true, true, true, false, false, false] (ls' := [some (.inr (.inr (some (6, 0)))), some (.inl v1), some (.inl v2), some (.inl v3), some (.inl (((d.1 17 0 (v3 - ((d.1 8 0 v1.toNatClampNeg) * (d.1 14 0 (d.1 16 0 v7.toNatClampNeg).toNatClampNeg))).toNatClampNeg) + ((d.1 8 0 v1.toNatClampNeg) * (32 : Int32))) - (d.1 10 v1.toNatClampNeg (d.1 16 0 v7.toNatClampNeg).toNatClampNeg))), some (.inr (.inl ((d.1 16 0 v7.toNatClampNeg) + (1 : Int32)).toInt64)), none, some (.inl v7), none, none, none]) rfl ?_
            exact t_X3_chooseFor_160 hrec32 hrec50 hq
def l_X3_chooseFor_50 (rec32 : (sk_D × Int32 × Int32 × Int32) → Option (sk_D)) (fl : Nat) (a : (sk_D × Int32 × Int32 × Int32 × Int32 × Int64 × Int32)) : Option (sk_D) := sk_it (fun rec50 a => q_X3_chooseFor_50 rec32 rec50 a.1 a.2.1 a.2.2.1 a.2.2.2.1 a.2.2.2.2.1 a.2.2.2.2.2.1 a.2.2.2.2.2.2) fl a
theorem lt_X3_chooseFor_50 {l : Launch} {rec32 : (sk_D × Int32 × Int32 × Int32) → Option (sk_D)} (hrec32 : ∀ (a : (sk_D × Int32 × Int32 × Int32)) (res : sk_D), rec32 a = some res → sk_G l (sk_rm 2 0 0) m_X3_chooseFor sk_Ex0 (sk_Zm m_X3_chooseFor none (sk_mm res)) 0 0 32 [some (.inr (.inr (some (6, 0)))), some (.inl a.2.1), some (.inl a.2.2.1), some (.inl a.2.2.2), none, none, none, none, none, none, none] [] (sk_mm a.1)) : ∀ (fl : Nat) (a : (sk_D × Int32 × Int32 × Int32 × Int32 × Int64 × Int32)) (res : sk_D), l_X3_chooseFor_50 rec32 fl a = some res → sk_G l (sk_rm 2 0 0) m_X3_chooseFor sk_Ex0 (sk_Zm m_X3_chooseFor none (sk_mm res)) 0 0 50 [some (.inr (.inr (some (6, 0)))), some (.inl a.2.1), some (.inl a.2.2.1), some (.inl a.2.2.2.1), some (.inl a.2.2.2.2.1), some (.inr (.inl a.2.2.2.2.2.1)), none, some (.inl a.2.2.2.2.2.2), none, none, none] [] (sk_mm a.1) :=
  sk_it_ind (P := fun (a : (sk_D × Int32 × Int32 × Int32 × Int32 × Int64 × Int32)) (res : sk_D) => sk_G l (sk_rm 2 0 0) m_X3_chooseFor sk_Ex0 (sk_Zm m_X3_chooseFor none (sk_mm res)) 0 0 50 [some (.inr (.inr (some (6, 0)))), some (.inl a.2.1), some (.inl a.2.2.1), some (.inl a.2.2.2.1), some (.inl a.2.2.2.2.1), some (.inr (.inl a.2.2.2.2.2.1)), none, some (.inl a.2.2.2.2.2.2), none, none, none] [] (sk_mm a.1)) (fun rec50 hrec50 a res hq  => t_X3_chooseFor_50 hrec32 hrec50 hq )
def q_X3_chooseFor_32 (rec32 : (sk_D × Int32 × Int32 × Int32) → Option (sk_D)) (d : sk_D) (v1 : Int32) (v2 : Int32) (v3 : Int32) : Option (sk_D) :=
  if v3 < 0 then some d else if sk_bi v3 2401 = true then (l_X3_chooseFor_50 rec32 sk_fu (d, v1, v2, v3, (d.1 17 0 v3.toNatClampNeg), (0 : Int64), (0 : Int32))) else none
set_option maxRecDepth 100000 in
set_option maxHeartbeats 4000000 in
theorem t_X3_chooseFor_32 {l : Launch} {rec32 : (sk_D × Int32 × Int32 × Int32) → Option (sk_D)} {d : sk_D} {v1 : Int32} {v2 : Int32} {v3 : Int32} (hrec32 : ∀ (a : (sk_D × Int32 × Int32 × Int32)) (res : sk_D), rec32 a = some res → sk_G l (sk_rm 2 0 0) m_X3_chooseFor sk_Ex0 (sk_Zm m_X3_chooseFor none (sk_mm res)) 0 0 32 [some (.inr (.inr (some (6, 0)))), some (.inl a.2.1), some (.inl a.2.2.1), some (.inl a.2.2.2), none, none, none, none, none, none, none] [] (sk_mm a.1)) {res : sk_D} (hq : q_X3_chooseFor_32 rec32 d v1 v2 v3 = some res) :
    sk_G l (sk_rm 2 0 0) m_X3_chooseFor sk_Ex0 (sk_Zm m_X3_chooseFor none (sk_mm res)) 0 0 32 [some (.inr (.inr (some (6, 0)))), some (.inl v1), some (.inl v2), some (.inl v3), none, none, none, none, none, none, none] [] (sk_mm d) := by
  unfold q_X3_chooseFor_32 at hq
  refine sg_iload_n 33 (sk_td o_X3_chooseFor 20 rfl) rfl rfl ?_
  refine sg_if_lt 199 36 (sk_td o_X3_chooseFor 21 rfl) (by decide) rfl (fun hc => ?_) (fun hc => ?_)
  · rw [if_pos hc] at hq
    obtain rfl := Option.some.inj hq
    exact sg_vret (sk_td o_X3_chooseFor 118 rfl) rfl
  · rw [if_neg hc] at hq
    refine sg_aload_n 37 (sk_td o_X3_chooseFor 22 rfl) rfl rfl ?_
    refine sm_getR (17, 0) 40 (sk_td o_X3_chooseFor 23 rfl) rfl kf_X3_48 rfl rfl sz_6 rfl ?_
    refine sg_iload_n 41 (sk_td o_X3_chooseFor 24 rfl) rfl rfl ?_
    obtain ⟨hb1, hq⟩ := sk_ifn hq
    refine sm_iald 42 (sk_td o_X3_chooseFor 25 rfl) rfl rfl sz_17 hb1 ?_
    refine sg_istore 44 [some (.inr (.inr (some (6, 0)))), some (.inl v1), some (.inl v2), some (.inl v3), some (.inl (d.1 17 0 v3.toNatClampNeg)), none, none, none, none, none, none] (sk_td o_X3_chooseFor 26 rfl) rfl rfl (Nat.le_of_ble_eq_true rfl) rfl ?_
    refine sg_lconst (v := (0 : Int64)) 45 (sk_td o_X3_chooseFor 27 rfl) rfl (by decide) ?_
    refine sg_lstore 47 [some (.inr (.inr (some (6, 0)))), some (.inl v1), some (.inl v2), some (.inl v3), some (.inl (d.1 17 0 v3.toNatClampNeg)), some (.inr (.inl (0 : Int64))), none, none, none, none, none] (sk_td o_X3_chooseFor 28 rfl) rfl rfl (Nat.le_of_ble_eq_true rfl) rfl ?_
    refine sg_iconst (v := (0 : Int32)) 48 (sk_td o_X3_chooseFor 29 rfl) rfl (by decide) ?_
    refine sg_istore 50 [some (.inr (.inr (some (6, 0)))), some (.inl v1), some (.inl v2), some (.inl v3), some (.inl (d.1 17 0 v3.toNatClampNeg)), some (.inr (.inl (0 : Int64))), none, some (.inl (0 : Int32)), none, none, none] (sk_td o_X3_chooseFor 30 rfl) rfl rfl (Nat.le_of_ble_eq_true rfl) rfl ?_
    exact lt_X3_chooseFor_50 hrec32 sk_fu (d, v1, v2, v3, (d.1 17 0 v3.toNatClampNeg), (0 : Int64), (0 : Int32)) _ hq
def l_X3_chooseFor_32 (fl : Nat) (a : (sk_D × Int32 × Int32 × Int32)) : Option (sk_D) := sk_it (fun rec32 a => q_X3_chooseFor_32 rec32 a.1 a.2.1 a.2.2.1 a.2.2.2) fl a
theorem lt_X3_chooseFor_32 {l : Launch} : ∀ (fl : Nat) (a : (sk_D × Int32 × Int32 × Int32)) (res : sk_D), l_X3_chooseFor_32 fl a = some res → sk_G l (sk_rm 2 0 0) m_X3_chooseFor sk_Ex0 (sk_Zm m_X3_chooseFor none (sk_mm res)) 0 0 32 [some (.inr (.inr (some (6, 0)))), some (.inl a.2.1), some (.inl a.2.2.1), some (.inl a.2.2.2), none, none, none, none, none, none, none] [] (sk_mm a.1) :=
  sk_it_ind (P := fun (a : (sk_D × Int32 × Int32 × Int32)) (res : sk_D) => sk_G l (sk_rm 2 0 0) m_X3_chooseFor sk_Ex0 (sk_Zm m_X3_chooseFor none (sk_mm res)) 0 0 32 [some (.inr (.inr (some (6, 0)))), some (.inl a.2.1), some (.inl a.2.2.1), some (.inl a.2.2.2), none, none, none, none, none, none, none] [] (sk_mm a.1)) (fun rec32 hrec32 a res hq  => t_X3_chooseFor_32 hrec32 hq )
def q_X3_chooseFor_26 (d : sk_D) (v1 : Int32) (v2 : Int32) : Option (sk_D) :=
  (l_X3_chooseFor_32 sk_fu (d, v1, v2, ((d.1 6 0 1) - (1 : Int32))))
set_option maxRecDepth 100000 in
set_option maxHeartbeats 4000000 in
theorem t_X3_chooseFor_26 {l : Launch} {d : sk_D} {v1 : Int32} {v2 : Int32} {res : sk_D} (hq : q_X3_chooseFor_26 d v1 v2 = some res) :
    sk_G l (sk_rm 2 0 0) m_X3_chooseFor sk_Ex0 (sk_Zm m_X3_chooseFor none (sk_mm res)) 0 0 26 [some (.inr (.inr (some (6, 0)))), some (.inl v1), some (.inl v2), none, none, none, none, none, none, none, none] [.inr (.inr (some (6, 0)))] (sk_mm d) := by
  unfold q_X3_chooseFor_26 at hq
  refine sm_getI 29 (sk_td o_X3_chooseFor 16 rfl) rfl kf_X3_15 rfl rfl sz_6 ?_
  refine sg_iconst (v := (1 : Int32)) 30 (sk_td o_X3_chooseFor 17 rfl) rfl (by decide) ?_
  refine sg_isub 31 (sk_td o_X3_chooseFor 18 rfl) rfl ?_
  refine sg_istore_n 32 [some (.inr (.inr (some (6, 0)))), some (.inl v1), some (.inl v2), some (.inl ((d.1 6 0 1) - (1 : Int32))), none, none, none, none, none, none, none] (sk_td o_X3_chooseFor 19 rfl) rfl rfl (Nat.le_of_ble_eq_true rfl) rfl ?_
  exact lt_X3_chooseFor_32 sk_fu (d, v1, v2, ((d.1 6 0 1) - (1 : Int32))) _ hq
def q_X3_chooseFor_0 (d : sk_D) (v1 : Int32) : Option (sk_D) :=
  (q_X3_listOptions d v1).bind fun x1 => if x1.1 = 0 then some x1.2 else (q_X3_chooseFor_26 (sk_wf x1.2 15 0 (va_cpy (x1.2.1 13 0) (x1.2.1 15 0) 0 0 4)) v1 x1.1)
set_option maxRecDepth 100000 in
set_option maxHeartbeats 4000000 in
theorem t_X3_chooseFor_0 {l : Launch} {d : sk_D} {v1 : Int32} {res : sk_D} (hq : q_X3_chooseFor_0 d v1 = some res) :
    sk_G l (sk_rm 2 0 0) m_X3_chooseFor sk_Ex0 (sk_Zm m_X3_chooseFor none (sk_mm res)) 0 0 0 [some (.inr (.inr (some (6, 0)))), some (.inl v1), none, none, none, none, none, none, none, none, none] [] (sk_mm d) := by
  unfold q_X3_chooseFor_0 at hq
  refine sg_aload_n 1 (sk_td o_X3_chooseFor 0 rfl) rfl rfl ?_
  refine sg_iload_n 2 (sk_td o_X3_chooseFor 1 rfl) rfl rfl ?_
  obtain ⟨x1, hr_x1, hq⟩ := sk_bnd hq
  refine sm_callV1i 5 (s_X3_listOptions hr_x1) (sk_td o_X3_chooseFor 2 rfl) rfl lv_X3_133 rfl rfl rfl sz_6 (sk_rok (Nat.le_of_ble_eq_true rfl) (Nat.le_of_ble_eq_true rfl) rfl rfl) (Nat.le_of_ble_eq_true rfl) ?_
  refine sg_istore_n 6 [some (.inr (.inr (some (6, 0)))), some (.inl v1), some (.inl x1.1), none, none, none, none, none, none, none, none] (sk_td o_X3_chooseFor 3 rfl) rfl rfl (Nat.le_of_ble_eq_true rfl) rfl ?_
  refine sg_iload_n 7 (sk_td o_X3_chooseFor 4 rfl) rfl rfl ?_
  refine sg_if_ne 11 10 (sk_td o_X3_chooseFor 5 rfl) (by decide) rfl (fun hc => ?_) (fun hc => ?_)
  · rw [if_neg hc] at hq
    refine sg_aload_n 12 (sk_td o_X3_chooseFor 7 rfl) rfl rfl ?_
    refine sm_getR (13, 0) 15 (sk_td o_X3_chooseFor 8 rfl) rfl kf_X3_36 rfl rfl sz_6 rfl ?_
    refine sg_iconst (v := (0 : Int32)) 16 (sk_td o_X3_chooseFor 9 rfl) rfl (by decide) ?_
    refine sg_aload_n 17 (sk_td o_X3_chooseFor 10 rfl) rfl rfl ?_
    refine sm_getR (15, 0) 20 (sk_td o_X3_chooseFor 11 rfl) rfl kf_X3_42 rfl rfl sz_6 rfl ?_
    refine sg_iconst (v := (0 : Int32)) 21 (sk_td o_X3_chooseFor 12 rfl) rfl (by decide) ?_
    refine sg_iconst (v := (4 : Int32)) 22 (sk_td o_X3_chooseFor 13 rfl) rfl (by decide) ?_
    refine sm_copy 25 (sk_td o_X3_chooseFor 14 rfl) rfl ka_X3_137 sk_acN sk_acS sk_acI rfl rfl sz_13 sz_15 (by decide) (by decide) (Nat.le_of_ble_eq_true rfl) (Nat.le_of_ble_eq_true rfl) (Nat.le_of_ble_eq_true rfl) ?_
    refine sg_aload_n 26 (sk_td o_X3_chooseFor 15 rfl) rfl rfl ?_
    exact t_X3_chooseFor_26 hq
  · rw [if_pos hc] at hq
    obtain rfl := Option.some.inj hq
    exact sg_vret (sk_td o_X3_chooseFor 6 rfl) rfl
def q_X3_chooseFor (d : sk_D) (v1 : Int32) : Option (sk_D) := q_X3_chooseFor_0 d v1 
theorem s_X3_chooseFor {l : Launch} {d : sk_D} {v1 : Int32} {res : sk_D} (hq : q_X3_chooseFor d v1 = some res) : sk_M l 2 m_X3_chooseFor [.inr (.inr (some (6, 0))), .inl v1] (sk_mm d) none (sk_mm res) :=
  sk_enter (by decide) (fun _ => Nat.le_of_ble_eq_true rfl) (Nat.le_of_ble_eq_true rfl) (t_X3_chooseFor_0 hq )
def q_X3_followChoices_86 (rec9 : (sk_D × Int32 × Int32) → Option (sk_D)) (d : sk_D) (v1 : Int32) (v2 : Int32) : Option (sk_D) :=
  (rec9 (d, v1, (v2 + (1 : Int32))))
set_option maxRecDepth 100000 in
set_option maxHeartbeats 4000000 in
theorem t_X3_followChoices_86 {l : Launch} {rec9 : (sk_D × Int32 × Int32) → Option (sk_D)} {d : sk_D} {v1 : Int32} {v2 : Int32} (hrec9 : ∀ (a : (sk_D × Int32 × Int32)) (res : sk_D), rec9 a = some res → sk_G l (sk_rm 2 0 0) m_X3_followChoices sk_Ex0 (sk_Zm m_X3_followChoices none (sk_mm res)) 0 0 9 [some (.inr (.inr (some (6, 0)))), some (.inl a.2.1), some (.inl a.2.2), none] [] (sk_mm a.1)) {res : sk_D} (hq : q_X3_followChoices_86 rec9 d v1 v2 = some res) :
    sk_G l (sk_rm 2 0 0) m_X3_followChoices sk_Ex0 (sk_Zm m_X3_followChoices none (sk_mm res)) 0 0 86 [some (.inr (.inr (some (6, 0)))), some (.inl v1), some (.inl v2), none] [] (sk_mm d) := by
  unfold q_X3_followChoices_86 at hq
  refine sg_iinc (v2 + (1 : Int32)) 89 [some (.inr (.inr (some (6, 0)))), some (.inl v1), some (.inl (v2 + (1 : Int32))), none] (sk_td o_X3_followChoices 59 rfl) rfl rfl rfl rfl (Nat.le_of_ble_eq_true rfl) rfl ?_
  refine sg_goto 9 (sk_td o_X3_followChoices 60 rfl) (by decide) ?_
  exact hrec9 (d, v1, (v2 + (1 : Int32))) _ hq
def q_X3_followChoices_71 (rec9 : (sk_D × Int32 × Int32) → Option (sk_D)) (d : sk_D) (v2 : Int32) (v3 : Int32) (s1 : Int32) (s3 : Int32) : Option (sk_D) :=
  if sk_bi s3 20 = true then if sk_bi (v3 - (1 : Int32)) 4 = true then (q_X3_followChoices_86 rec9 d (if (0 : Int32) < (s1 - ((d.1 8 0 s3.toNatClampNeg) * (d.1 14 0 (v3 - (1 : Int32)).toNatClampNeg))) then (s1 - ((d.1 8 0 s3.toNatClampNeg) * (d.1 14 0 (v3 - (1 : Int32)).toNatClampNeg))) else (0 : Int32)) v2) else none else none
set_option maxRecDepth 100000 in
set_option maxHeartbeats 4000000 in
theorem t_X3_followChoices_71 {l : Launch} {rec9 : (sk_D × Int32 × Int32) → Option (sk_D)} {d : sk_D} {v2 : Int32} {v3 : Int32} {s1 : Int32} {s3 : Int32} (hrec9 : ∀ (a : (sk_D × Int32 × Int32)) (res : sk_D), rec9 a = some res → sk_G l (sk_rm 2 0 0) m_X3_followChoices sk_Ex0 (sk_Zm m_X3_followChoices none (sk_mm res)) 0 0 9 [some (.inr (.inr (some (6, 0)))), some (.inl a.2.1), some (.inl a.2.2), none] [] (sk_mm a.1)) {res : sk_D} (hq : q_X3_followChoices_71 rec9 d v2 v3 s1 s3 = some res) :
    sk_G l (sk_rm 2 0 0) m_X3_followChoices sk_Ex0 (sk_Zm m_X3_followChoices none (sk_mm res)) 0 0 71 [some (.inr (.inr (some (6, 0)))), none, some (.inl v2), some (.inl v3)] [.inl s3, .inr (.inr (some (8, 0))), .inl s1, .inl (0 : Int32)] (sk_mm d) := by
  unfold q_X3_followChoices_71 at hq
  obtain ⟨hb1, hq⟩ := sk_ifn hq
  refine sm_iald 72 (sk_td o_X3_followChoices 48 rfl) rfl rfl sz_8 hb1 ?_
  refine sg_aload_n 73 (sk_td o_X3_followChoices 49 rfl) rfl rfl ?_
  refine sm_getR (14, 0) 76 (sk_td o_X3_followChoices 50 rfl) rfl kf_X3_39 rfl rfl sz_6 rfl ?_
  refine sg_iload_n 77 (sk_td o_X3_followChoices 51 rfl) rfl rfl ?_
  refine sg_iconst (v := (1 : Int32)) 78 (sk_td o_X3_followChoices 52 rfl) rfl (by decide) ?_
  refine sg_isub 79 (sk_td o_X3_followChoices 53 rfl) rfl ?_
  obtain ⟨hb2, hq⟩ := sk_ifn hq
  refine sm_iald 80 (sk_td o_X3_followChoices 54 rfl) rfl rfl sz_14 hb2 ?_
  refine sg_imul 81 (sk_td o_X3_followChoices 55 rfl) rfl ?_
  refine sg_isub 82 (sk_td o_X3_followChoices 56 rfl) rfl ?_
  refine sm_max 85 (sk_td o_X3_followChoices 57 rfl) rfl kM_X3_130 (Nat.le_of_ble_eq_true rfl) (Nat.le_of_ble_eq_true rfl) (Nat.le_of_ble_eq_true rfl) ?_
  refine sg_istore_n 86 [some (.inr (.inr (some (6, 0)))), some (.inl (if (0 : Int32) < (s1 - ((d.1 8 0 s3.toNatClampNeg) * (d.1 14 0 (v3 - (1 : Int32)).toNatClampNeg))) then (s1 - ((d.1 8 0 s3.toNatClampNeg) * (d.1 14 0 (v3 - (1 : Int32)).toNatClampNeg))) else (0 : Int32))), some (.inl v2), some (.inl v3)] (sk_td o_X3_followChoices 58 rfl) rfl rfl (Nat.le_of_ble_eq_true rfl) rfl ?_
  refine sk_wk [true, true, true, false] (ls' := [some (.inr (.inr (some (6, 0)))), some (.inl (if (0 : Int32) < (s1 - ((d.1 8 0 s3.toNatClampNeg) * (d.1 14 0 (v3 - (1 : Int32)).toNatClampNeg))) then (s1 - ((d.1 8 0 s3.toNatClampNeg) * (d.1 14 0 (v3 - (1 : Int32)).toNatClampNeg))) else (0 : Int32))), some (.inl v2), none]) rfl ?_
  exact t_X3_followChoices_86 hrec9 hq
def q_X3_followChoices_49 (rec9 : (sk_D × Int32 × Int32) → Option (sk_D)) (d : sk_D) (v1 : Int32) (v2 : Int32) (v3 : Int32) (s0 : Int32) : Option (sk_D) :=
  (q_X8_within d s0 (1 : Int32) (4 : Int32)).bind fun x1 => if x1 = 0 then (q_X3_followChoices_86 rec9 d v1 v2) else if sk_bi v2 20 = true then (q_X3_followChoices_71 rec9 (sk_wi d 11 0 v2.toNatClampNeg (v3 - (1 : Int32))) v2 v3 v1 v2) else none
set_option maxRecDepth 100000 in
set_option maxHeartbeats 4000000 in
theorem t_X3_followChoices_49 {l : Launch} {rec9 : (sk_D × Int32 × Int32) → Option (sk_D)} {d : sk_D} {v1 : Int32} {v2 : Int32} {v3 : Int32} {s0 : Int32} (hrec9 : ∀ (a : (sk_D × Int32 × Int32)) (res : sk_D), rec9 a = some res → sk_G l (sk_rm 2 0 0) m_X3_followChoices sk_Ex0 (sk_Zm m_X3_followChoices none (sk_mm res)) 0 0 9 [some (.inr (.inr (some (6, 0)))), some (.inl a.2.1), some (.inl a.2.2), none] [] (sk_mm a.1)) {res : sk_D} (hq : q_X3_followChoices_49 rec9 d v1 v2 v3 s0 = some res) :
    sk_G l (sk_rm 2 0 0) m_X3_followChoices sk_Ex0 (sk_Zm m_X3_followChoices none (sk_mm res)) 0 0 49 [some (.inr (.inr (some (6, 0)))), some (.inl v1), some (.inl v2), some (.inl v3)] [.inl (4 : Int32), .inl (1 : Int32), .inl s0] (sk_mm d) := by
  unfold q_X3_followChoices_49 at hq
  obtain ⟨x1, hr_x1, hq⟩ := sk_bnd hq
  refine sm_callN3i 52 (s_X8_within hr_x1) (sk_td o_X3_followChoices 34 rfl) rfl ln_X3_76 rfl (sk_rok (Nat.le_of_ble_eq_true rfl) (Nat.le_of_ble_eq_true rfl) rfl rfl) (Nat.le_of_ble_eq_true rfl) ?_
  refine sg_if_eq 86 55 (sk_td o_X3_followChoices 35 rfl) (by decide) rfl (fun hc => ?_) (fun hc => ?_)
  · rw [if_pos hc] at hq
    refine sk_wk [true, true, true, false] (ls' := [some (.inr (.inr (some (6, 0)))), some (.inl v1), some (.inl v2), none]) rfl ?_
    exact t_X3_followChoices_86 hrec9 hq
  · rw [if_neg hc] at hq
    refine sg_aload_n 56 (sk_td o_X3_followChoices 36 rfl) rfl rfl ?_
    refine sm_getR (11, 0) 59 (sk_td o_X3_followChoices 37 rfl) rfl kf_X3_30 rfl rfl sz_6 rfl ?_
    refine sg_iload_n 60 (sk_td o_X3_followChoices 38 rfl) rfl rfl ?_
    refine sg_iload_n 61 (sk_td o_X3_followChoices 39 rfl) rfl rfl ?_
    refine sg_iconst (v := (1 : Int32)) 62 (sk_td o_X3_followChoices 40 rfl) rfl (by decide) ?_
    refine sg_isub 63 (sk_td o_X3_followChoices 41 rfl) rfl ?_
    obtain ⟨hb2, hq⟩ := sk_ifn hq
    refine sm_iast 64 (sk_td o_X3_followChoices 42 rfl) rfl rfl sz_11 hb2 ?_
    refine sg_iconst (v := (0 : Int32)) 65 (sk_td o_X3_followChoices 43 rfl) rfl (by decide) ?_
    refine sg_iload_n 66 (sk_td o_X3_followChoices 44 rfl) rfl rfl ?_
    refine sg_aload_n 67 (sk_td o_X3_followChoices 45 rfl) rfl rfl ?_
    refine sm_getR (8, 0) 70 (sk_td o_X3_followChoices 46 rfl) rfl kf_X3_22 rfl rfl sz_6 rfl ?_
    refine sg_iload_n 71 (sk_td o_X3_followChoices 47 rfl) rfl rfl ?_
    refine sk_wk [true, false, true, true] (ls' := [some (.inr (.inr (some (6, 0)))), none, some (.inl v2), some (.inl v3)]) rfl ?_
    exact t_X3_followChoices_71 hrec9 hq
def q_X3_followChoices_9 (rec9 : (sk_D × Int32 × Int32) → Option (sk_D)) (d : sk_D) (v1 : Int32) (v2 : Int32) : Option (sk_D) :=
  if (d.1 6 0 0) ≤ v2 then some d else if (20 : Int32) ≤ v2 then some d else if sk_bi v1 2401 = true then if sk_bi v2 20 = true then (q_X3_followChoices_49 rec9 (sk_wi d 11 0 v2.toNatClampNeg (-9 : Int32)) v1 v2 ((((d.2 18 0 v1.toNatClampNeg).toUInt64 >>> (((3 : Int32) * v2).toInt64.toUInt64 &&& Int64.toUInt64 63)).toInt64).toInt32 &&& (7 : Int32)) ((((d.2 18 0 v1.toNatClampNeg).toUInt64 >>> (((3 : Int32) * v2).toInt64.toUInt64 &&& Int64.toUInt64 63)).toInt64).toInt32 &&& (7 : Int32))) else none else none
set_option maxRecDepth 100000 in
set_option maxHeartbeats 4000000 in
theorem t_X3_followChoices_9 {l : Launch} {rec9 : (sk_D × Int32 × Int32) → Option (sk_D)} {d : sk_D} {v1 : Int32} {v2 : Int32} (hrec9 : ∀ (a : (sk_D × Int32 × Int32)) (res : sk_D), rec9 a = some res → sk_G l (sk_rm 2 0 0) m_X3_followChoices sk_Ex0 (sk_Zm m_X3_followChoices none (sk_mm res)) 0 0 9 [some (.inr (.inr (some (6, 0)))), some (.inl a.2.1), some (.inl a.2.2), none] [] (sk_mm a.1)) {res : sk_D} (hq : q_X3_followChoices_9 rec9 d v1 v2 = some res) :
    sk_G l (sk_rm 2 0 0) m_X3_followChoices sk_Ex0 (sk_Zm m_X3_followChoices none (sk_mm res)) 0 0 9 [some (.inr (.inr (some (6, 0)))), some (.inl v1), some (.inl v2), none] [] (sk_mm d) := by
  unfold q_X3_followChoices_9 at hq
  refine sg_iload_n 10 (sk_td o_X3_followChoices 7 rfl) rfl rfl ?_
  refine sg_aload_n 11 (sk_td o_X3_followChoices 8 rfl) rfl rfl ?_
  refine sm_getI 14 (sk_td o_X3_followChoices 9 rfl) rfl kf_X3_9 rfl rfl sz_6 ?_
  refine sg_ic_ge 92 17 (sk_td o_X3_followChoices 10 rfl) (by decide) rfl (fun hc => ?_) (fun hc => ?_)
  · rw [if_pos hc] at hq
    obtain rfl := Option.some.inj hq
    exact sg_vret (sk_td o_X3_followChoices 61 rfl) rfl
  · rw [if_neg hc] at hq
    refine sg_iload_n 18 (sk_td o_X3_followChoices 11 rfl) rfl rfl ?_
    refine sg_bipush (v := (20 : Int32)) 20 (sk_td o_X3_followChoices 12 rfl) rfl (by decide) ?_
    refine sg_ic_ge 92 23 (sk_td o_X3_followChoices 13 rfl) (by decide) rfl (fun hc => ?_) (fun hc => ?_)
    · rw [if_pos hc] at hq
      obtain rfl := Option.some.inj hq
      exact sg_vret (sk_td o_X3_followChoices 61 rfl) rfl
    · rw [if_neg hc] at hq
      refine sg_aload_n 24 (sk_td o_X3_followChoices 14 rfl) rfl rfl ?_
      refine sm_getR (18, 0) 27 (sk_td o_X3_followChoices 15 rfl) rfl kf_X3_51 rfl rfl sz_6 rfl ?_
      refine sg_iload_n 28 (sk_td o_X3_followChoices 16 rfl) rfl rfl ?_
      obtain ⟨hb1, hq⟩ := sk_ifn hq
      refine sm_lald 29 (sk_td o_X3_followChoices 17 rfl) rfl rfl sz_18 hb1 ?_
      refine sg_iconst (v := (3 : Int32)) 30 (sk_td o_X3_followChoices 18 rfl) rfl (by decide) ?_
      refine sg_iload_n 31 (sk_td o_X3_followChoices 19 rfl) rfl rfl ?_
      refine sg_imul 32 (sk_td o_X3_followChoices 20 rfl) rfl ?_
      refine sg_lushr 33 (sk_td o_X3_followChoices 21 rfl) rfl ?_
      refine sg_l2i 34 (sk_td o_X3_followChoices 22 rfl) rfl ?_
      refine sg_bipush (v := (7 : Int32)) 36 (sk_td o_X3_followChoices 23 rfl) rfl (by decide) ?_
      refine sg_iand 37 (sk_td o_X3_followChoices 24 rfl) rfl ?_
      refine sg_istore_n 38 [some (.inr (.inr (some (6, 0)))), some (.inl v1), some (.inl v2), some (.inl ((((d.2 18 0 v1.toNatClampNeg).toUInt64 >>> (((3 : Int32) * v2).toInt64.toUInt64 &&& Int64.toUInt64 63)).toInt64).toInt32 &&& (7 : Int32)))] (sk_td o_X3_followChoices 25 rfl) rfl rfl (Nat.le_of_ble_eq_true rfl) rfl ?_
      refine sg_aload_n 39 (sk_td o_X3_followChoices 26 rfl) rfl rfl ?_
      refine sm_getR (11, 0) 42 (sk_td o_X3_followChoices 27 rfl) rfl kf_X3_30 rfl rfl sz_6 rfl ?_
      refine sg_iload_n 43 (sk_td o_X3_followChoices 28 rfl) rfl rfl ?_
      refine sg_bipush (v := (-9 : Int32)) 45 (sk_td o_X3_followChoices 29 rfl) rfl (by decide) ?_
      obtain ⟨hb2, hq⟩ := sk_ifn hq
      refine sm_iast 46 (sk_td o_X3_followChoices 30 rfl) rfl rfl sz_11 hb2 ?_
      refine sg_iload_n 47 (sk_td o_X3_followChoices 31 rfl) rfl rfl ?_
      refine sg_iconst (v := (1 : Int32)) 48 (sk_td o_X3_followChoices 32 rfl) rfl (by decide) ?_
      refine sg_iconst (v := (4 : Int32)) 49 (sk_td o_X3_followChoices 33 rfl) rfl (by decide) ?_
      exact t_X3_followChoices_49 hrec9 hq
def l_X3_followChoices_9 (fl : Nat) (a : (sk_D × Int32 × Int32)) : Option (sk_D) := sk_it (fun rec9 a => q_X3_followChoices_9 rec9 a.1 a.2.1 a.2.2) fl a
theorem lt_X3_followChoices_9 {l : Launch} : ∀ (fl : Nat) (a : (sk_D × Int32 × Int32)) (res : sk_D), l_X3_followChoices_9 fl a = some res → sk_G l (sk_rm 2 0 0) m_X3_followChoices sk_Ex0 (sk_Zm m_X3_followChoices none (sk_mm res)) 0 0 9 [some (.inr (.inr (some (6, 0)))), some (.inl a.2.1), some (.inl a.2.2), none] [] (sk_mm a.1) :=
  sk_it_ind (P := fun (a : (sk_D × Int32 × Int32)) (res : sk_D) => sk_G l (sk_rm 2 0 0) m_X3_followChoices sk_Ex0 (sk_Zm m_X3_followChoices none (sk_mm res)) 0 0 9 [some (.inr (.inr (some (6, 0)))), some (.inl a.2.1), some (.inl a.2.2), none] [] (sk_mm a.1)) (fun rec9 hrec9 a res hq  => t_X3_followChoices_9 hrec9 hq )
def q_X3_followChoices_0 (d : sk_D) : Option (sk_D) :=
  (l_X3_followChoices_9 sk_fu (d, ((d.1 6 0 1) - (1 : Int32)), (0 : Int32)))
set_option maxRecDepth 100000 in
set_option maxHeartbeats 4000000 in
theorem t_X3_followChoices_0 {l : Launch} {d : sk_D} {res : sk_D} (hq : q_X3_followChoices_0 d = some res) :
    sk_G l (sk_rm 2 0 0) m_X3_followChoices sk_Ex0 (sk_Zm m_X3_followChoices none (sk_mm res)) 0 0 0 [some (.inr (.inr (some (6, 0)))), none, none, none] [] (sk_mm d) := by
  unfold q_X3_followChoices_0 at hq
  refine sg_aload_n 1 (sk_td o_X3_followChoices 0 rfl) rfl rfl ?_
  refine sm_getI 4 (sk_td o_X3_followChoices 1 rfl) rfl kf_X3_15 rfl rfl sz_6 ?_
  refine sg_iconst (v := (1 : Int32)) 5 (sk_td o_X3_followChoices 2 rfl) rfl (by decide) ?_
  refine sg_isub 6 (sk_td o_X3_followChoices 3 rfl) rfl ?_
  refine sg_istore_n 7 [some (.inr (.inr (some (6, 0)))), some (.inl ((d.1 6 0 1) - (1 : Int32))), none, none] (sk_td o_X3_followChoices 4 rfl) rfl rfl (Nat.le_of_ble_eq_true rfl) rfl ?_
  refine sg_iconst (v := (0 : Int32)) 8 (sk_td o_X3_followChoices 5 rfl) rfl (by decide) ?_
  refine sg_istore_n 9 [some (.inr (.inr (some (6, 0)))), some (.inl ((d.1 6 0 1) - (1 : Int32))), some (.inl (0 : Int32)), none] (sk_td o_X3_followChoices 6 rfl) rfl rfl (Nat.le_of_ble_eq_true rfl) rfl ?_
  exact lt_X3_followChoices_9 sk_fu (d, ((d.1 6 0 1) - (1 : Int32)), (0 : Int32)) _ hq
def q_X3_followChoices (d : sk_D) : Option (sk_D) := q_X3_followChoices_0 d 
theorem s_X3_followChoices {l : Launch} {d : sk_D} {res : sk_D} (hq : q_X3_followChoices d = some res) : sk_M l 2 m_X3_followChoices [.inr (.inr (some (6, 0)))] (sk_mm d) none (sk_mm res) :=
  sk_enter (by decide) (fun _ => Nat.le_of_ble_eq_true rfl) (Nat.le_of_ble_eq_true rfl) (t_X3_followChoices_0 hq )
def q_X3_findBest_59 (rec59 : (sk_D × Int32) → Option (Int32 × sk_D)) (d : sk_D) (v4 : Int32) : Option (Int32 × sk_D) :=
  if v4 < 0 then (q_X3_followChoices d).bind fun x1 => if sk_bi ((x1.1 6 0 1) - (1 : Int32)) 2401 = true then some (((((x1.1 17 0 ((x1.1 6 0 1) - (1 : Int32)).toNatClampNeg) + (32 : Int32)) - (1 : Int32)) / (32 : Int32)), x1) else none else (q_X3_chooseFor d v4).bind fun x3 => (rec59 (x3, (v4 + (-1 : Int32))))
set_option maxRecDepth 100000 in
set_option maxHeartbeats 4000000 in
theorem t_X3_findBest_59 {l : Launch} {rec59 : (sk_D × Int32) → Option (Int32 × sk_D)} {d : sk_D} {v4 : Int32} (hrec59 : ∀ (a : (sk_D × Int32)) (res : Int32 × sk_D), rec59 a = some res → sk_G l (sk_rm 5 0 0) m_X3_findBest sk_Ex0 (sk_Zm m_X3_findBest (some (.inl res.1)) (sk_mm res.2)) 0 0 59 [some (.inr (.inr (some (6, 0)))), none, none, none, some (.inl a.2)] [] (sk_mm a.1)) {res : Int32 × sk_D} (hq : q_X3_findBest_59 rec59 d v4 = some res) :
    sk_G l (sk_rm 5 0 0) m_X3_findBest sk_Ex0 (sk_Zm m_X3_findBest (some (.inl res.1)) (sk_mm res.2)) 0 0 59 [some (.inr (.inr (some (6, 0)))), none, none, none, some (.inl v4)] [] (sk_mm d) := by
  unfold q_X3_findBest_59 at hq
  refine sg_iload 61 (sk_td o_X3_findBest 33 rfl) rfl rfl ?_
  refine sg_if_lt 76 64 (sk_td o_X3_findBest 34 rfl) (by decide) rfl (fun hc => ?_) (fun hc => ?_)
  · rw [if_pos hc] at hq
    refine sg_aload_n 77 (sk_td o_X3_findBest 40 rfl) rfl rfl ?_
    obtain ⟨x1, hr_x1, hq⟩ := sk_bnd hq
    refine sm_callV0v 80 (s_X3_followChoices hr_x1) (sk_td o_X3_findBest 41 rfl) rfl lv_X3_73 rfl rfl rfl sz_6 (sk_rok (Nat.le_of_ble_eq_true rfl) (Nat.le_of_ble_eq_true rfl) rfl rfl) (Nat.le_of_ble_eq_true rfl) ?_
    refine sg_aload_n 81 (sk_td o_X3_findBest 42 rfl) rfl rfl ?_
    refine sm_getR (17, 0) 84 (sk_td o_X3_findBest 43 rfl) rfl kf_X3_48 rfl rfl sz_6 rfl ?_
    refine sg_aload_n 85 (sk_td o_X3_findBest 44 rfl) rfl rfl ?_
    refine sm_getI 88 (sk_td o_X3_findBest 45 rfl) rfl kf_X3_15 rfl rfl sz_6 ?_
    refine sg_iconst (v := (1 : Int32)) 89 (sk_td o_X3_findBest 46 rfl) rfl (by decide) ?_
    refine sg_isub 90 (sk_td o_X3_findBest 47 rfl) rfl ?_
    obtain ⟨hb2, hq⟩ := sk_ifn hq
    refine sm_iald 91 (sk_td o_X3_findBest 48 rfl) rfl rfl sz_17 hb2 ?_
    refine sg_bipush (v := (32 : Int32)) 93 (sk_td o_X3_findBest 49 rfl) rfl (by decide) ?_
    refine sg_iadd 94 (sk_td o_X3_findBest 50 rfl) rfl ?_
    refine sg_iconst (v := (1 : Int32)) 95 (sk_td o_X3_findBest 51 rfl) rfl (by decide) ?_
    refine sg_isub 96 (sk_td o_X3_findBest 52 rfl) rfl ?_
    refine sg_bipush (v := (32 : Int32)) 98 (sk_td o_X3_findBest 53 rfl) rfl (by decide) ?_
    refine sg_idiv 99 (sk_td o_X3_findBest 54 rfl) rfl (by decide) ?_
    obtain rfl := Option.some.inj hq
    exact sg_iret (sk_td o_X3_findBest 55 rfl) rfl rfl
  · rw [if_neg hc] at hq
    refine sg_aload_n 65 (sk_td o_X3_findBest 35 rfl) rfl rfl ?_
    refine sg_iload 67 (sk_td o_X3_findBest 36 rfl) rfl rfl ?_
    obtain ⟨x3, hr_x3, hq⟩ := sk_bnd hq
    refine sm_callV1v 70 (s_X3_chooseFor hr_x3) (sk_td o_X3_findBest 37 rfl) rfl lv_X3_69 rfl rfl rfl sz_6 (sk_rok (Nat.le_of_ble_eq_true rfl) (Nat.le_of_ble_eq_true rfl) rfl rfl) (Nat.le_of_ble_eq_true rfl) ?_
    refine sg_iinc (v4 + (-1 : Int32)) 73 [some (.inr (.inr (some (6, 0)))), none, none, none, some (.inl (v4 + (-1 : Int32)))] (sk_td o_X3_findBest 38 rfl) rfl rfl rfl rfl (Nat.le_of_ble_eq_true rfl) rfl ?_
    refine sg_goto 59 (sk_td o_X3_findBest 39 rfl) (by decide) ?_
    exact hrec59 (x3, (v4 + (-1 : Int32))) _ hq
def l_X3_findBest_59 (fl : Nat) (a : (sk_D × Int32)) : Option (Int32 × sk_D) := sk_it (fun rec59 a => q_X3_findBest_59 rec59 a.1 a.2) fl a
theorem lt_X3_findBest_59 {l : Launch} : ∀ (fl : Nat) (a : (sk_D × Int32)) (res : Int32 × sk_D), l_X3_findBest_59 fl a = some res → sk_G l (sk_rm 5 0 0) m_X3_findBest sk_Ex0 (sk_Zm m_X3_findBest (some (.inl res.1)) (sk_mm res.2)) 0 0 59 [some (.inr (.inr (some (6, 0)))), none, none, none, some (.inl a.2)] [] (sk_mm a.1) :=
  sk_it_ind (P := fun (a : (sk_D × Int32)) (res : Int32 × sk_D) => sk_G l (sk_rm 5 0 0) m_X3_findBest sk_Ex0 (sk_Zm m_X3_findBest (some (.inl res.1)) (sk_mm res.2)) 0 0 59 [some (.inr (.inr (some (6, 0)))), none, none, none, some (.inl a.2)] [] (sk_mm a.1)) (fun rec59 hrec59 a res hq  => t_X3_findBest_59 hrec59 hq )
def q_X3_findBest_15 (rec15 : (sk_D × Int32) → Option (Int32 × sk_D)) (d : sk_D) (v4 : Int32) : Option (Int32 × sk_D) :=
  if (d.1 6 0 1) ≤ v4 then (l_X3_findBest_59 sk_fu (d, ((if (20 : Int32) < (d.1 6 0 0) then (20 : Int32) else (d.1 6 0 0)) - (1 : Int32)))) else if sk_bi v4 2401 = true then if sk_bi v4 2401 = true then (rec15 ((sk_wl (sk_wi d 17 0 v4.toNatClampNeg (0 : Int32)) 18 0 v4.toNatClampNeg (0 : Int64)), (v4 + (1 : Int32)))) else none else none
set_option maxRecDepth 100000 in
set_option maxHeartbeats 4000000 in
theorem t_X3_findBest_15 {l : Launch} {rec15 : (sk_D × Int32) → Option (Int32 × sk_D)} {d : sk_D} {v4 : Int32} (hrec15 : ∀ (a : (sk_D × Int32)) (res : Int32 × sk_D), rec15 a = some res → sk_G l (sk_rm 5 0 0) m_X3_findBest sk_Ex0 (sk_Zm m_X3_findBest (some (.inl res.1)) (sk_mm res.2)) 0 0 15 [some (.inr (.inr (some (6, 0)))), none, none, none, some (.inl a.2)] [] (sk_mm a.1)) {res : Int32 × sk_D} (hq : q_X3_findBest_15 rec15 d v4 = some res) :
    sk_G l (sk_rm 5 0 0) m_X3_findBest sk_Ex0 (sk_Zm m_X3_findBest (some (.inl res.1)) (sk_mm res.2)) 0 0 15 [some (.inr (.inr (some (6, 0)))), none, none, none, some (.inl v4)] [] (sk_mm d) := by
  unfold q_X3_findBest_15 at hq
  refine sg_iload 17 (sk_td o_X3_findBest 10 rfl) rfl rfl ?_
  refine sg_aload_n 18 (sk_td o_X3_findBest 11 rfl) rfl rfl ?_
  refine sm_getI 21 (sk_td o_X3_findBest 12 rfl) rfl kf_X3_15 rfl rfl sz_6 ?_
  refine sg_ic_ge 46 24 (sk_td o_X3_findBest 13 rfl) (by decide) rfl (fun hc => ?_) (fun hc => ?_)
  · rw [if_pos hc] at hq
    refine sg_aload_n 47 (sk_td o_X3_findBest 26 rfl) rfl rfl ?_
    refine sm_getI 50 (sk_td o_X3_findBest 27 rfl) rfl kf_X3_9 rfl rfl sz_6 ?_
    refine sg_bipush (v := (20 : Int32)) 52 (sk_td o_X3_findBest 28 rfl) rfl (by decide) ?_
    refine sm_min 55 (sk_td o_X3_findBest 29 rfl) rfl kM_X3_63 (Nat.le_of_ble_eq_true rfl) (Nat.le_of_ble_eq_true rfl) (Nat.le_of_ble_eq_true rfl) ?_
    refine sg_iconst (v := (1 : Int32)) 56 (sk_td o_X3_findBest 30 rfl) rfl (by decide) ?_
    refine sg_isub 57 (sk_td o_X3_findBest 31 rfl) rfl ?_
    refine sg_istore 59 [some (.inr (.inr (some (6, 0)))), none, none, none, some (.inl ((if (20 : Int32) < (d.1 6 0 0) then (20 : Int32) else (d.1 6 0 0)) - (1 : Int32)))] (sk_td o_X3_findBest 32 rfl) rfl rfl (Nat.le_of_ble_eq_true rfl) rfl ?_
    exact lt_X3_findBest_59 sk_fu (d, ((if (20 : Int32) < (d.1 6 0 0) then (20 : Int32) else (d.1 6 0 0)) - (1 : Int32))) _ hq
  · rw [if_neg hc] at hq
    refine sg_aload_n 25 (sk_td o_X3_findBest 14 rfl) rfl rfl ?_
    refine sm_getR (17, 0) 28 (sk_td o_X3_findBest 15 rfl) rfl kf_X3_48 rfl rfl sz_6 rfl ?_
    refine sg_iload 30 (sk_td o_X3_findBest 16 rfl) rfl rfl ?_
    refine sg_iconst (v := (0 : Int32)) 31 (sk_td o_X3_findBest 17 rfl) rfl (by decide) ?_
    obtain ⟨hb1, hq⟩ := sk_ifn hq
    refine sm_iast 32 (sk_td o_X3_findBest 18 rfl) rfl rfl sz_17 hb1 ?_
    refine sg_aload_n 33 (sk_td o_X3_findBest 19 rfl) rfl rfl ?_
    refine sm_getR (18, 0) 36 (sk_td o_X3_findBest 20 rfl) rfl kf_X3_51 rfl rfl sz_6 rfl ?_
    refine sg_iload 38 (sk_td o_X3_findBest 21 rfl) rfl rfl ?_
    refine sg_lconst (v := (0 : Int64)) 39 (sk_td o_X3_findBest 22 rfl) rfl (by decide) ?_
    obtain ⟨hb2, hq⟩ := sk_ifn hq
    refine sm_last 40 (sk_td o_X3_findBest 23 rfl) rfl rfl sz_18 hb2 ?_
    refine sg_iinc (v4 + (1 : Int32)) 43 [some (.inr (.inr (some (6, 0)))), none, none, none, some (.inl (v4 + (1 : Int32)))] (sk_td o_X3_findBest 24 rfl) rfl rfl rfl rfl (Nat.le_of_ble_eq_true rfl) rfl ?_
    refine sg_goto 15 (sk_td o_X3_findBest 25 rfl) (by decide) ?_
    exact hrec15 ((sk_wl (sk_wi d 17 0 v4.toNatClampNeg (0 : Int32)) 18 0 v4.toNatClampNeg (0 : Int64)), (v4 + (1 : Int32))) _ hq
def l_X3_findBest_15 (fl : Nat) (a : (sk_D × Int32)) : Option (Int32 × sk_D) := sk_it (fun rec15 a => q_X3_findBest_15 rec15 a.1 a.2) fl a
theorem lt_X3_findBest_15 {l : Launch} : ∀ (fl : Nat) (a : (sk_D × Int32)) (res : Int32 × sk_D), l_X3_findBest_15 fl a = some res → sk_G l (sk_rm 5 0 0) m_X3_findBest sk_Ex0 (sk_Zm m_X3_findBest (some (.inl res.1)) (sk_mm res.2)) 0 0 15 [some (.inr (.inr (some (6, 0)))), none, none, none, some (.inl a.2)] [] (sk_mm a.1) :=
  sk_it_ind (P := fun (a : (sk_D × Int32)) (res : Int32 × sk_D) => sk_G l (sk_rm 5 0 0) m_X3_findBest sk_Ex0 (sk_Zm m_X3_findBest (some (.inl res.1)) (sk_mm res.2)) 0 0 15 [some (.inr (.inr (some (6, 0)))), none, none, none, some (.inl a.2)] [] (sk_mm a.1)) (fun rec15 hrec15 a res hq  => t_X3_findBest_15 hrec15 hq )
def q_X3_findBest_0 (d : sk_D) : Option (Int32 × sk_D) :=
  (q_X3_gatherUnits d).bind fun x1 => (q_X3_limitSeats x1).bind fun x2 => (l_X3_findBest_15 sk_fu (x2, (0 : Int32)))
set_option maxRecDepth 100000 in
set_option maxHeartbeats 4000000 in
theorem t_X3_findBest_0 {l : Launch} {d : sk_D} {res : Int32 × sk_D} (hq : q_X3_findBest_0 d = some res) :
    sk_G l (sk_rm 5 0 0) m_X3_findBest sk_Ex0 (sk_Zm m_X3_findBest (some (.inl res.1)) (sk_mm res.2)) 0 0 0 [some (.inr (.inr (some (6, 0)))), some (.inr (.inr (some (1, 0)))), some (.inr (.inr (some (2, 0)))), some (.inr (.inr (some (5, 0)))), none] [] (sk_mm d) := by
  unfold q_X3_findBest_0 at hq
  refine sg_aload_n 1 (sk_td o_X3_findBest 0 rfl) rfl rfl ?_
  refine sg_aload_n 2 (sk_td o_X3_findBest 1 rfl) rfl rfl ?_
  refine sg_aload_n 3 (sk_td o_X3_findBest 2 rfl) rfl rfl ?_
  refine sg_aload_n 4 (sk_td o_X3_findBest 3 rfl) rfl rfl ?_
  obtain ⟨x1, hr_x1, hq⟩ := sk_bnd hq
  refine sm_callV3v 7 (s_X3_gatherUnits hr_x1) (sk_td o_X3_findBest 4 rfl) rfl lv_X3_55 rfl rfl rfl sz_6 (sk_rok (Nat.le_of_ble_eq_true rfl) (Nat.le_of_ble_eq_true rfl) rfl rfl) (Nat.le_of_ble_eq_true rfl) ?_
  refine sg_aload_n 8 (sk_td o_X3_findBest 5 rfl) rfl rfl ?_
  refine sg_aload_n 9 (sk_td o_X3_findBest 6 rfl) rfl rfl ?_
  obtain ⟨x2, hr_x2, hq⟩ := sk_bnd hq
  refine sm_callV1v 12 (s_X3_limitSeats hr_x2) (sk_td o_X3_findBest 7 rfl) rfl lv_X3_59 rfl rfl rfl sz_6 (sk_rok (Nat.le_of_ble_eq_true rfl) (Nat.le_of_ble_eq_true rfl) rfl rfl) (Nat.le_of_ble_eq_true rfl) ?_
  refine sg_iconst (v := (0 : Int32)) 13 (sk_td o_X3_findBest 8 rfl) rfl (by decide) ?_
  refine sg_istore 15 [some (.inr (.inr (some (6, 0)))), some (.inr (.inr (some (1, 0)))), some (.inr (.inr (some (2, 0)))), some (.inr (.inr (some (5, 0)))), some (.inl (0 : Int32))] (sk_td o_X3_findBest 9 rfl) rfl rfl (Nat.le_of_ble_eq_true rfl) rfl ?_
  refine sk_wk [true, false, false, false, true] (ls' := [some (.inr (.inr (some (6, 0)))), none, none, none, some (.inl (0 : Int32))]) rfl ?_
  exact lt_X3_findBest_15 sk_fu (x2, (0 : Int32)) _ hq
def q_X3_findBest (d : sk_D) : Option (Int32 × sk_D) := q_X3_findBest_0 d 
theorem s_X3_findBest {l : Launch} {d : sk_D} {res : Int32 × sk_D} (hq : q_X3_findBest d = some res) : sk_M l 5 m_X3_findBest [.inr (.inr (some (6, 0))), .inr (.inr (some (1, 0))), .inr (.inr (some (2, 0))), .inr (.inr (some (5, 0)))] (sk_mm d) (some (.inl res.1)) (sk_mm res.2) :=
  sk_enter (by decide) (fun _ => Nat.le_of_ble_eq_true rfl) (Nat.le_of_ble_eq_true rfl) (t_X3_findBest_0 hq )
def q_X3_groupOf_21 (d : sk_D) (s0 : Int32) : Option (Int32) :=
  (q_X3_isUnit d s0).bind fun x1 => if x1 = 0 then some (-9 : Int32) else if sk_bi s0 20 = true then some (d.1 11 0 s0.toNatClampNeg) else none
set_option maxRecDepth 100000 in
set_option maxHeartbeats 4000000 in
theorem t_X3_groupOf_21 {l : Launch} {d : sk_D} {s0 : Int32} {res : Int32} (hq : q_X3_groupOf_21 d s0 = some res) :
    sk_G l (sk_rm 3 0 0) m_X3_groupOf sk_Ex0 (sk_Zm m_X3_groupOf (some (.inl res)) (sk_mm d)) 0 0 21 [some (.inr (.inr (some (6, 0)))), none, none] [.inl s0] (sk_mm d) := by
  unfold q_X3_groupOf_21 at hq
  refine sg_istore_n 22 [some (.inr (.inr (some (6, 0)))), none, some (.inl s0)] (sk_td o_X3_groupOf 11 rfl) rfl rfl (Nat.le_of_ble_eq_true rfl) rfl ?_
  refine sg_iload_n 23 (sk_td o_X3_groupOf 12 rfl) rfl rfl ?_
  obtain ⟨x1, hr_x1, hq⟩ := sk_bnd hq
  refine sm_callS1i 26 (s_X3_isUnit hr_x1) (sk_td o_X3_groupOf 13 rfl) rfl ls_X3_80 rfl (sk_rok (Nat.le_of_ble_eq_true rfl) (Nat.le_of_ble_eq_true rfl) rfl rfl) (Nat.le_of_ble_eq_true rfl) ?_
  refine sg_if_eq 38 29 (sk_td o_X3_groupOf 14 rfl) (by decide) rfl (fun hc => ?_) (fun hc => ?_)
  · rw [if_pos hc] at hq
    refine sg_bipush (v := (-9 : Int32)) 40 (sk_td o_X3_groupOf 20 rfl) rfl (by decide) ?_
    obtain rfl := Option.some.inj hq
    exact sg_iret (sk_td o_X3_groupOf 21 rfl) rfl rfl
  · rw [if_neg hc] at hq
    refine sg_aload_n 30 (sk_td o_X3_groupOf 15 rfl) rfl rfl ?_
    refine sm_getR (11, 0) 33 (sk_td o_X3_groupOf 16 rfl) rfl kf_X3_30 rfl rfl sz_6 rfl ?_
    refine sg_iload_n 34 (sk_td o_X3_groupOf 17 rfl) rfl rfl ?_
    obtain ⟨hb2, hq⟩ := sk_ifn hq
    refine sm_iald 35 (sk_td o_X3_groupOf 18 rfl) rfl rfl sz_11 hb2 ?_
    refine sg_goto 40 (sk_td o_X3_groupOf 19 rfl) (by decide) ?_
    obtain rfl := Option.some.inj hq
    exact sg_iret (sk_td o_X3_groupOf 21 rfl) rfl rfl
def q_X3_groupOf_0 (d : sk_D) (v1 : Int32) : Option (Int32) :=
  (q_X8_within d v1 (0 : Int32) (19 : Int32)).bind fun x1 => if x1 = 0 then (q_X3_groupOf_21 d (-9 : Int32)) else if sk_bi v1 20 = true then (q_X3_groupOf_21 d (d.1 7 0 v1.toNatClampNeg)) else none
set_option maxRecDepth 100000 in
set_option maxHeartbeats 4000000 in
theorem t_X3_groupOf_0 {l : Launch} {d : sk_D} {v1 : Int32} {res : Int32} (hq : q_X3_groupOf_0 d v1 = some res) :
    sk_G l (sk_rm 3 0 0) m_X3_groupOf sk_Ex0 (sk_Zm m_X3_groupOf (some (.inl res)) (sk_mm d)) 0 0 0 [some (.inr (.inr (some (6, 0)))), some (.inl v1), none] [] (sk_mm d) := by
  unfold q_X3_groupOf_0 at hq
  refine sg_iload_n 1 (sk_td o_X3_groupOf 0 rfl) rfl rfl ?_
  refine sg_iconst (v := (0 : Int32)) 2 (sk_td o_X3_groupOf 1 rfl) rfl (by decide) ?_
  refine sg_bipush (v := (19 : Int32)) 4 (sk_td o_X3_groupOf 2 rfl) rfl (by decide) ?_
  obtain ⟨x1, hr_x1, hq⟩ := sk_bnd hq
  refine sm_callN3i 7 (s_X8_within hr_x1) (sk_td o_X3_groupOf 3 rfl) rfl ln_X3_76 rfl (sk_rok (Nat.le_of_ble_eq_true rfl) (Nat.le_of_ble_eq_true rfl) rfl rfl) (Nat.le_of_ble_eq_true rfl) ?_
  refine sg_if_eq 19 10 (sk_td o_X3_groupOf 4 rfl) (by decide) rfl (fun hc => ?_) (fun hc => ?_)
  · rw [if_pos hc] at hq
    refine sg_bipush (v := (-9 : Int32)) 21 (sk_td o_X3_groupOf 10 rfl) rfl (by decide) ?_
    refine sk_wk [true, false, true] (ls' := [some (.inr (.inr (some (6, 0)))), none, none]) rfl ?_
    exact t_X3_groupOf_21 hq
  · rw [if_neg hc] at hq
    refine sg_aload_n 11 (sk_td o_X3_groupOf 5 rfl) rfl rfl ?_
    refine sm_getR (7, 0) 14 (sk_td o_X3_groupOf 6 rfl) rfl kf_X3_18 rfl rfl sz_6 rfl ?_
    refine sg_iload_n 15 (sk_td o_X3_groupOf 7 rfl) rfl rfl ?_
    obtain ⟨hb2, hq⟩ := sk_ifn hq
    refine sm_iald 16 (sk_td o_X3_groupOf 8 rfl) rfl rfl sz_7 hb2 ?_
    refine sg_goto 21 (sk_td o_X3_groupOf 9 rfl) (by decide) ?_
    refine sk_wk [true, false, true] (ls' := [some (.inr (.inr (some (6, 0)))), none, none]) rfl ?_
    exact t_X3_groupOf_21 hq
def q_X3_groupOf (d : sk_D) (v1 : Int32) : Option (Int32) := q_X3_groupOf_0 d v1 
theorem s_X3_groupOf {l : Launch} {d : sk_D} {v1 : Int32} {res : Int32} (hq : q_X3_groupOf d v1 = some res) : sk_M l 3 m_X3_groupOf [.inr (.inr (some (6, 0))), .inl v1] (sk_mm d) (some (.inl res)) (sk_mm d) :=
  sk_enter (by decide) (fun _ => Nat.le_of_ble_eq_true rfl) (Nat.le_of_ble_eq_true rfl) (t_X3_groupOf_0 hq )
def q_X4_clearScores_0 (d : sk_D) (k0 : Nat) : Option (sk_D) :=
  some (sk_fi d 38 k0 4 (-9 : Int32))
set_option maxRecDepth 100000 in
set_option maxHeartbeats 4000000 in
theorem t_X4_clearScores_0 {l : Launch} {d : sk_D} {k0 : Nat} {res : sk_D} (hq : q_X4_clearScores_0 d k0 = some res) (hk_k0 : k0 < sk_cnt 37) :
    sk_G l (sk_rm 2 0 0) m_X4_clearScores sk_Ex0 (sk_Zm m_X4_clearScores none (sk_mm res)) 0 0 0 [some (.inr (.inr (some (37, k0))))] [] (sk_mm d) := by
  unfold q_X4_clearScores_0 at hq
  refine sg_aload_n 1 (sk_td o_X4_clearScores 0 rfl) rfl rfl ?_
  refine sm_getR (38, k0) 4 (sk_td o_X4_clearScores 1 rfl) rfl kf_X4_31 rfl rfl hk_k0 rfl ?_
  refine sg_bipush (v := (-9 : Int32)) 6 (sk_td o_X4_clearScores 2 rfl) rfl (by decide) ?_
  refine sm_callS2v 9 (s_J7_fill_53178 (n := 4) rfl hk_k0 (by decide)) (sk_td o_X4_clearScores 3 rfl) rfl ls_X4_38 rfl (sk_rok (Nat.le_of_ble_eq_true rfl) (Nat.le_of_ble_eq_true rfl) rfl rfl) (Nat.le_of_ble_eq_true rfl) ?_
  obtain rfl := Option.some.inj hq
  exact sg_vret (sk_td o_X4_clearScores 4 rfl) rfl
def q_X4_clearScores (d : sk_D) (k0 : Nat) : Option (sk_D) := q_X4_clearScores_0 d k0 
theorem s_X4_clearScores {l : Launch} {d : sk_D} {k0 : Nat} {res : sk_D} (hq : q_X4_clearScores d k0 = some res) (hk_k0 : k0 < sk_cnt 37) : sk_M l 2 m_X4_clearScores [.inr (.inr (some (37, k0)))] (sk_mm d) none (sk_mm res) :=
  sk_enter (by decide) (fun _ => Nat.le_of_ble_eq_true rfl) (Nat.le_of_ble_eq_true rfl) (t_X4_clearScores_0 hq hk_k0 )
def q_X4_enrol_33 (d : sk_D) (h0 : Nat) : Option (sk_D) :=
  (q_X4_clearScores d h0).bind fun x1 => some x1
set_option maxRecDepth 100000 in
set_option maxHeartbeats 4000000 in
theorem t_X4_enrol_33 {l : Launch} {d : sk_D} {h0 : Nat} {res : sk_D} (hq : q_X4_enrol_33 d h0 = some res) (hk_h0 : h0 < sk_cnt 37) :
    sk_G l (sk_rm 3 0 0) m_X4_enrol sk_Ex0 (sk_Zm m_X4_enrol none (sk_mm res)) 0 0 33 [none, none, none, none] [.inr (.inr (some (37, h0)))] (sk_mm d) := by
  unfold q_X4_enrol_33 at hq
  obtain ⟨x1, hr_x1, hq⟩ := sk_bnd hq
  refine sm_callV0v 36 (s_X4_clearScores hr_x1 hk_h0) (sk_td o_X4_enrol 19 rfl) rfl lv_X4_35 rfl rfl rfl hk_h0 (sk_rok (Nat.le_of_ble_eq_true rfl) (Nat.le_of_ble_eq_true rfl) rfl rfl) (Nat.le_of_ble_eq_true rfl) ?_
  obtain rfl := Option.some.inj hq
  exact sg_vret (sk_td o_X4_enrol 20 rfl) rfl
def q_X4_enrol_0 (d : sk_D) (k0 : Nat) (v1 : Int32) (v2 : Int32) (v3 : Int32) : Option (sk_D) :=
  (q_X4_enrol_33 (sk_wi (sk_wi (sk_wi (sk_wi (sk_wi (sk_wi d 37 k0 0 (1 : Int32)) 37 k0 1 v1) 37 k0 2 v2) 37 k0 3 v3) 37 k0 4 (-9 : Int32)) 37 k0 5 (-9 : Int32)) k0)
set_option maxRecDepth 100000 in
set_option maxHeartbeats 4000000 in
theorem t_X4_enrol_0 {l : Launch} {d : sk_D} {k0 : Nat} {v1 : Int32} {v2 : Int32} {v3 : Int32} {res : sk_D} (hq : q_X4_enrol_0 d k0 v1 v2 v3 = some res) (hk_k0 : k0 < sk_cnt 37) :
    sk_G l (sk_rm 3 0 0) m_X4_enrol sk_Ex0 (sk_Zm m_X4_enrol none (sk_mm res)) 0 0 0 [some (.inr (.inr (some (37, k0)))), some (.inl v1), some (.inl v2), some (.inl v3)] [] (sk_mm d) := by
  unfold q_X4_enrol_0 at hq
  refine sg_aload_n 1 (sk_td o_X4_enrol 0 rfl) rfl rfl ?_
  refine sg_iconst (v := (1 : Int32)) 2 (sk_td o_X4_enrol 1 rfl) rfl (by decide) ?_
  refine sm_putZ 5 (sk_td o_X4_enrol 2 rfl) rfl kp_X4_9 rfl rfl hk_k0 (by decide) (by decide) ?_
  refine sg_aload_n 6 (sk_td o_X4_enrol 3 rfl) rfl rfl ?_
  refine sg_iload_n 7 (sk_td o_X4_enrol 4 rfl) rfl rfl ?_
  refine sm_putI 10 (sk_td o_X4_enrol 5 rfl) rfl kp_X4_15 rfl rfl hk_k0 ?_
  refine sg_aload_n 11 (sk_td o_X4_enrol 6 rfl) rfl rfl ?_
  refine sg_iload_n 12 (sk_td o_X4_enrol 7 rfl) rfl rfl ?_
  refine sm_putI 15 (sk_td o_X4_enrol 8 rfl) rfl kp_X4_19 rfl rfl hk_k0 ?_
  refine sg_aload_n 16 (sk_td o_X4_enrol 9 rfl) rfl rfl ?_
  refine sg_iload_n 17 (sk_td o_X4_enrol 10 rfl) rfl rfl ?_
  refine sm_putI 20 (sk_td o_X4_enrol 11 rfl) rfl kp_X4_22 rfl rfl hk_k0 ?_
  refine sg_aload_n 21 (sk_td o_X4_enrol 12 rfl) rfl rfl ?_
  refine sg_bipush (v := (-9 : Int32)) 23 (sk_td o_X4_enrol 13 rfl) rfl (by decide) ?_
  refine sm_putI 26 (sk_td o_X4_enrol 14 rfl) rfl kp_X4_25 rfl rfl hk_k0 ?_
  refine sg_aload_n 27 (sk_td o_X4_enrol 15 rfl) rfl rfl ?_
  refine sg_bipush (v := (-9 : Int32)) 29 (sk_td o_X4_enrol 16 rfl) rfl (by decide) ?_
  refine sm_putI 32 (sk_td o_X4_enrol 17 rfl) rfl kp_X4_28 rfl rfl hk_k0 ?_
  refine sg_aload_n 33 (sk_td o_X4_enrol 18 rfl) rfl rfl ?_
  refine sk_wk [false, false, false, false] (ls' := [none, none, none, none]) rfl ?_
  exact t_X4_enrol_33 hq hk_k0
def q_X4_enrol (d : sk_D) (k0 : Nat) (v1 : Int32) (v2 : Int32) (v3 : Int32) : Option (sk_D) := q_X4_enrol_0 d k0 v1 v2 v3 
theorem s_X4_enrol {l : Launch} {d : sk_D} {k0 : Nat} {v1 : Int32} {v2 : Int32} {v3 : Int32} {res : sk_D} (hq : q_X4_enrol d k0 v1 v2 v3 = some res) (hk_k0 : k0 < sk_cnt 37) : sk_M l 3 m_X4_enrol [.inr (.inr (some (37, k0))), .inl v1, .inl v2, .inl v3] (sk_mm d) none (sk_mm res) :=
  sk_enter (by decide) (fun _ => Nat.le_of_ble_eq_true rfl) (Nat.le_of_ble_eq_true rfl) (t_X4_enrol_0 hq hk_k0 )
def q_X4_isMember_0 (d : sk_D) (k0 : Nat) (v1 : Int32) : Option (Int32) :=
  if (d.1 37 k0 0) = 0 then some (0 : Int32) else if (d.1 37 k0 3) = v1 then some (1 : Int32) else some (0 : Int32)
set_option maxRecDepth 100000 in
set_option maxHeartbeats 4000000 in
theorem t_X4_isMember_0 {l : Launch} {d : sk_D} {k0 : Nat} {v1 : Int32} {res : Int32} (hq : q_X4_isMember_0 d k0 v1 = some res) (hk_k0 : k0 < sk_cnt 37) :
    sk_G l (sk_rm 1 0 0) m_X4_isMember sk_Ex0 (sk_Zm m_X4_isMember (some (.inl res)) (sk_mm d)) 0 0 0 [some (.inr (.inr (some (37, k0)))), some (.inl v1)] [] (sk_mm d) := by
  unfold q_X4_isMember_0 at hq
  refine sg_aload_n 1 (sk_td o_X4_isMember 0 rfl) rfl rfl ?_
  refine sm_getI 4 (sk_td o_X4_isMember 1 rfl) rfl kf_X4_9 rfl rfl hk_k0 ?_
  refine sg_if_eq 19 7 (sk_td o_X4_isMember 2 rfl) (by decide) rfl (fun hc => ?_) (fun hc => ?_)
  · rw [if_pos hc] at hq
    refine sg_iconst (v := (0 : Int32)) 20 (sk_td o_X4_isMember 9 rfl) rfl (by decide) ?_
    obtain rfl := Option.some.inj hq
    exact sg_iret (sk_td o_X4_isMember 10 rfl) rfl (show narrow .boolean (.int (0 : Int32)) = .int (0 : Int32) by decide)
  · rw [if_neg hc] at hq
    refine sg_aload_n 8 (sk_td o_X4_isMember 3 rfl) rfl rfl ?_
    refine sm_getI 11 (sk_td o_X4_isMember 4 rfl) rfl kf_X4_22 rfl rfl hk_k0 ?_
    refine sg_iload_n 12 (sk_td o_X4_isMember 5 rfl) rfl rfl ?_
    refine sg_ic_ne 19 15 (sk_td o_X4_isMember 6 rfl) (by decide) rfl (fun hc => ?_) (fun hc => ?_)
    · rw [if_neg hc] at hq
      refine sg_iconst (v := (0 : Int32)) 20 (sk_td o_X4_isMember 9 rfl) rfl (by decide) ?_
      obtain rfl := Option.some.inj hq
      exact sg_iret (sk_td o_X4_isMember 10 rfl) rfl (show narrow .boolean (.int (0 : Int32)) = .int (0 : Int32) by decide)
    · rw [if_pos hc] at hq
      refine sg_iconst (v := (1 : Int32)) 16 (sk_td o_X4_isMember 7 rfl) rfl (by decide) ?_
      refine sg_goto 20 (sk_td o_X4_isMember 8 rfl) (by decide) ?_
      obtain rfl := Option.some.inj hq
      exact sg_iret (sk_td o_X4_isMember 10 rfl) rfl (show narrow .boolean (.int (1 : Int32)) = .int (1 : Int32) by decide)
def q_X4_isMember (d : sk_D) (k0 : Nat) (v1 : Int32) : Option (Int32) := q_X4_isMember_0 d k0 v1 
theorem s_X4_isMember {l : Launch} {d : sk_D} {k0 : Nat} {v1 : Int32} {res : Int32} (hq : q_X4_isMember d k0 v1 = some res) (hk_k0 : k0 < sk_cnt 37) : sk_M l 1 m_X4_isMember [.inr (.inr (some (37, k0))), .inl v1] (sk_mm d) (some (.inl res)) (sk_mm d) :=
  sk_enter (by decide) (fun _ => Nat.le_of_ble_eq_true rfl) (Nat.le_of_ble_eq_true rfl) (t_X4_isMember_0 hq hk_k0 )
def q_X4_isIn_0 (d : sk_D) (k0 : Nat) (v1 : Int32) : Option (Int32) :=
  if (d.1 37 k0 0) = 0 then some (0 : Int32) else if (d.1 37 k0 4) = v1 then some (1 : Int32) else some (0 : Int32)
set_option maxRecDepth 100000 in
set_option maxHeartbeats 4000000 in
theorem t_X4_isIn_0 {l : Launch} {d : sk_D} {k0 : Nat} {v1 : Int32} {res : Int32} (hq : q_X4_isIn_0 d k0 v1 = some res) (hk_k0 : k0 < sk_cnt 37) :
    sk_G l (sk_rm 1 0 0) m_X4_isIn sk_Ex0 (sk_Zm m_X4_isIn (some (.inl res)) (sk_mm d)) 0 0 0 [some (.inr (.inr (some (37, k0)))), some (.inl v1)] [] (sk_mm d) := by
  unfold q_X4_isIn_0 at hq
  refine sg_aload_n 1 (sk_td o_X4_isIn 0 rfl) rfl rfl ?_
  refine sm_getI 4 (sk_td o_X4_isIn 1 rfl) rfl kf_X4_9 rfl rfl hk_k0 ?_
  refine sg_if_eq 19 7 (sk_td o_X4_isIn 2 rfl) (by decide) rfl (fun hc => ?_) (fun hc => ?_)
  · rw [if_pos hc] at hq
    refine sg_iconst (v := (0 : Int32)) 20 (sk_td o_X4_isIn 9 rfl) rfl (by decide) ?_
    obtain rfl := Option.some.inj hq
    exact sg_iret (sk_td o_X4_isIn 10 rfl) rfl (show narrow .boolean (.int (0 : Int32)) = .int (0 : Int32) by decide)
  · rw [if_neg hc] at hq
    refine sg_aload_n 8 (sk_td o_X4_isIn 3 rfl) rfl rfl ?_
    refine sm_getI 11 (sk_td o_X4_isIn 4 rfl) rfl kf_X4_25 rfl rfl hk_k0 ?_
    refine sg_iload_n 12 (sk_td o_X4_isIn 5 rfl) rfl rfl ?_
    refine sg_ic_ne 19 15 (sk_td o_X4_isIn 6 rfl) (by decide) rfl (fun hc => ?_) (fun hc => ?_)
    · rw [if_neg hc] at hq
      refine sg_iconst (v := (0 : Int32)) 20 (sk_td o_X4_isIn 9 rfl) rfl (by decide) ?_
      obtain rfl := Option.some.inj hq
      exact sg_iret (sk_td o_X4_isIn 10 rfl) rfl (show narrow .boolean (.int (0 : Int32)) = .int (0 : Int32) by decide)
    · rw [if_pos hc] at hq
      refine sg_iconst (v := (1 : Int32)) 16 (sk_td o_X4_isIn 7 rfl) rfl (by decide) ?_
      refine sg_goto 20 (sk_td o_X4_isIn 8 rfl) (by decide) ?_
      obtain rfl := Option.some.inj hq
      exact sg_iret (sk_td o_X4_isIn 10 rfl) rfl (show narrow .boolean (.int (1 : Int32)) = .int (1 : Int32) by decide)
def q_X4_isIn (d : sk_D) (k0 : Nat) (v1 : Int32) : Option (Int32) := q_X4_isIn_0 d k0 v1 
theorem s_X4_isIn {l : Launch} {d : sk_D} {k0 : Nat} {v1 : Int32} {res : Int32} (hq : q_X4_isIn d k0 v1 = some res) (hk_k0 : k0 < sk_cnt 37) : sk_M l 1 m_X4_isIn [.inr (.inr (some (37, k0))), .inl v1] (sk_mm d) (some (.inl res)) (sk_mm d) :=
  sk_enter (by decide) (fun _ => Nat.le_of_ble_eq_true rfl) (Nat.le_of_ble_eq_true rfl) (t_X4_isIn_0 hq hk_k0 )
