/-! decompiled: X6_begin X6_joinQueues X6_leaveQueue X6_completeRide X6_depart X6_waitAMinute X6_run X7_tryFrom X7_findBest X8_freePupilNumber X8_isInOnePlace X8_separateIfBroken X8_addPupil X8_hasPupil X8_group X8_setTogether X8_isGroupKind X8_freeGroupNumber X8_openGroup -/
def q_X6_begin_78 (d : sk_D) : Option (sk_D) :=
  some (sk_fi d 34 0 3 (0 : Int32))
set_option maxRecDepth 100000 in
set_option maxHeartbeats 4000000 in
theorem t_X6_begin_78 {l : Launch} {d : sk_D} {res : sk_D} (hq : q_X6_begin_78 d = some res) :
    sk_G l (sk_rm 2 0 0) m_X6_begin sk_Ex0 (sk_Zm m_X6_begin none (sk_mm res)) 0 0 78 [none, none, none] [.inl (0 : Int32), .inr (.inr (some (34, 0)))] (sk_mm d) := by
  unfold q_X6_begin_78 at hq
  refine sm_callS2v 81 (s_J7_fill_53178 (n := 3) rfl sz_34 (by decide)) (sk_td o_X6_begin 42 rfl) rfl ls_X6_50 rfl (sk_rok (Nat.le_of_ble_eq_true rfl) (Nat.le_of_ble_eq_true rfl) rfl rfl) (Nat.le_of_ble_eq_true rfl) ?_
  obtain rfl := Option.some.inj hq
  exact sg_vret (sk_td o_X6_begin 43 rfl) rfl
def q_X6_begin_70 (d : sk_D) : Option (sk_D) :=
  (q_X6_begin_78 (sk_fi d 31 0 4 (0 : Int32)))
set_option maxRecDepth 100000 in
set_option maxHeartbeats 4000000 in
theorem t_X6_begin_70 {l : Launch} {d : sk_D} {res : sk_D} (hq : q_X6_begin_70 d = some res) :
    sk_G l (sk_rm 2 0 0) m_X6_begin sk_Ex0 (sk_Zm m_X6_begin none (sk_mm res)) 0 0 70 [some (.inr (.inr (some (23, 0)))), none, none] [.inl (0 : Int32), .inr (.inr (some (31, 0)))] (sk_mm d) := by
  unfold q_X6_begin_70 at hq
  refine sm_callS2v 73 (s_J7_fill_53178 (n := 4) rfl sz_31 (by decide)) (sk_td o_X6_begin 38 rfl) rfl ls_X6_50 rfl (sk_rok (Nat.le_of_ble_eq_true rfl) (Nat.le_of_ble_eq_true rfl) rfl rfl) (Nat.le_of_ble_eq_true rfl) ?_
  refine sg_aload_n 74 (sk_td o_X6_begin 39 rfl) rfl rfl ?_
  refine sm_getR (34, 0) 77 (sk_td o_X6_begin 40 rfl) rfl kf_X6_41 rfl rfl sz_23 rfl ?_
  refine sg_iconst (v := (0 : Int32)) 78 (sk_td o_X6_begin 41 rfl) rfl (by decide) ?_
  refine sk_wk [false, true, true] (ls' := [none, none, none]) rfl ?_
  exact t_X6_begin_78 hq
def q_X6_begin_62 (d : sk_D) : Option (sk_D) :=
  (q_X6_begin_70 (sk_fi d 30 0 4 (0 : Int32)))
set_option maxRecDepth 100000 in
set_option maxHeartbeats 4000000 in
theorem t_X6_begin_62 {l : Launch} {d : sk_D} {res : sk_D} (hq : q_X6_begin_62 d = some res) :
    sk_G l (sk_rm 2 0 0) m_X6_begin sk_Ex0 (sk_Zm m_X6_begin none (sk_mm res)) 0 0 62 [some (.inr (.inr (some (23, 0)))), none, none] [.inl (0 : Int32), .inr (.inr (some (30, 0)))] (sk_mm d) := by
  unfold q_X6_begin_62 at hq
  refine sm_callS2v 65 (s_J7_fill_53178 (n := 4) rfl sz_30 (by decide)) (sk_td o_X6_begin 34 rfl) rfl ls_X6_50 rfl (sk_rok (Nat.le_of_ble_eq_true rfl) (Nat.le_of_ble_eq_true rfl) rfl rfl) (Nat.le_of_ble_eq_true rfl) ?_
  refine sg_aload_n 66 (sk_td o_X6_begin 35 rfl) rfl rfl ?_
  refine sm_getR (31, 0) 69 (sk_td o_X6_begin 36 rfl) rfl kf_X6_33 rfl rfl sz_23 rfl ?_
  refine sg_iconst (v := (0 : Int32)) 70 (sk_td o_X6_begin 37 rfl) rfl (by decide) ?_
  exact t_X6_begin_70 hq
def q_X6_begin_54 (d : sk_D) : Option (sk_D) :=
  (q_X6_begin_62 (sk_fi d 29 0 3 (0 : Int32)))
set_option maxRecDepth 100000 in
set_option maxHeartbeats 4000000 in
theorem t_X6_begin_54 {l : Launch} {d : sk_D} {res : sk_D} (hq : q_X6_begin_54 d = some res) :
    sk_G l (sk_rm 2 0 0) m_X6_begin sk_Ex0 (sk_Zm m_X6_begin none (sk_mm res)) 0 0 54 [some (.inr (.inr (some (23, 0)))), none, none] [.inl (0 : Int32), .inr (.inr (some (29, 0)))] (sk_mm d) := by
  unfold q_X6_begin_54 at hq
  refine sm_callS2v 57 (s_J7_fill_53178 (n := 3) rfl sz_29 (by decide)) (sk_td o_X6_begin 30 rfl) rfl ls_X6_50 rfl (sk_rok (Nat.le_of_ble_eq_true rfl) (Nat.le_of_ble_eq_true rfl) rfl rfl) (Nat.le_of_ble_eq_true rfl) ?_
  refine sg_aload_n 58 (sk_td o_X6_begin 31 rfl) rfl rfl ?_
  refine sm_getR (30, 0) 61 (sk_td o_X6_begin 32 rfl) rfl kf_X6_30 rfl rfl sz_23 rfl ?_
  refine sg_iconst (v := (0 : Int32)) 62 (sk_td o_X6_begin 33 rfl) rfl (by decide) ?_
  exact t_X6_begin_62 hq
def q_X6_begin_46 (d : sk_D) : Option (sk_D) :=
  (q_X6_begin_54 (sk_fi d 28 0 3 (0 : Int32)))
set_option maxRecDepth 100000 in
set_option maxHeartbeats 4000000 in
theorem t_X6_begin_46 {l : Launch} {d : sk_D} {res : sk_D} (hq : q_X6_begin_46 d = some res) :
    sk_G l (sk_rm 2 0 0) m_X6_begin sk_Ex0 (sk_Zm m_X6_begin none (sk_mm res)) 0 0 46 [some (.inr (.inr (some (23, 0)))), none, none] [.inl (0 : Int32), .inr (.inr (some (28, 0)))] (sk_mm d) := by
  unfold q_X6_begin_46 at hq
  refine sm_callS2v 49 (s_J7_fill_53178 (n := 3) rfl sz_28 (by decide)) (sk_td o_X6_begin 26 rfl) rfl ls_X6_50 rfl (sk_rok (Nat.le_of_ble_eq_true rfl) (Nat.le_of_ble_eq_true rfl) rfl rfl) (Nat.le_of_ble_eq_true rfl) ?_
  refine sg_aload_n 50 (sk_td o_X6_begin 27 rfl) rfl rfl ?_
  refine sm_getR (29, 0) 53 (sk_td o_X6_begin 28 rfl) rfl kf_X6_27 rfl rfl sz_23 rfl ?_
  refine sg_iconst (v := (0 : Int32)) 54 (sk_td o_X6_begin 29 rfl) rfl (by decide) ?_
  exact t_X6_begin_54 hq
def q_X6_begin_38 (d : sk_D) : Option (sk_D) :=
  (q_X6_begin_46 (sk_fi d 27 0 4 (0 : Int32)))
set_option maxRecDepth 100000 in
set_option maxHeartbeats 4000000 in
theorem t_X6_begin_38 {l : Launch} {d : sk_D} {res : sk_D} (hq : q_X6_begin_38 d = some res) :
    sk_G l (sk_rm 2 0 0) m_X6_begin sk_Ex0 (sk_Zm m_X6_begin none (sk_mm res)) 0 0 38 [some (.inr (.inr (some (23, 0)))), none, none] [.inl (0 : Int32), .inr (.inr (some (27, 0)))] (sk_mm d) := by
  unfold q_X6_begin_38 at hq
  refine sm_callS2v 41 (s_J7_fill_53178 (n := 4) rfl sz_27 (by decide)) (sk_td o_X6_begin 22 rfl) rfl ls_X6_50 rfl (sk_rok (Nat.le_of_ble_eq_true rfl) (Nat.le_of_ble_eq_true rfl) rfl rfl) (Nat.le_of_ble_eq_true rfl) ?_
  refine sg_aload_n 42 (sk_td o_X6_begin 23 rfl) rfl rfl ?_
  refine sm_getR (28, 0) 45 (sk_td o_X6_begin 24 rfl) rfl kf_X6_24 rfl rfl sz_23 rfl ?_
  refine sg_iconst (v := (0 : Int32)) 46 (sk_td o_X6_begin 25 rfl) rfl (by decide) ?_
  exact t_X6_begin_46 hq
def q_X6_begin_2 (rec2 : (sk_D × Int32) → Option (sk_D)) (d : sk_D) (v2 : Int32) : Option (sk_D) :=
  if (4 : Int32) ≤ v2 then (q_X6_begin_38 (sk_fi d 26 0 4 (0 : Int32))) else if sk_bi v2 4 = true then if sk_bi v2 4 = true then (rec2 ((sk_wi d 25 0 v2.toNatClampNeg (d.1 39 v2.toNatClampNeg 5)), (v2 + (1 : Int32)))) else none else none
set_option maxRecDepth 100000 in
set_option maxHeartbeats 4000000 in
theorem t_X6_begin_2 {l : Launch} {rec2 : (sk_D × Int32) → Option (sk_D)} {d : sk_D} {v2 : Int32} (hrec2 : ∀ (a : (sk_D × Int32)) (res : sk_D), rec2 a = some res → sk_G l (sk_rm 2 0 0) m_X6_begin sk_Ex0 (sk_Zm m_X6_begin none (sk_mm res)) 0 0 2 [some (.inr (.inr (some (23, 0)))), some (.inr (.inr (some (2, 0)))), some (.inl a.2)] [] (sk_mm a.1)) {res : sk_D} (hq : q_X6_begin_2 rec2 d v2 = some res) :
    sk_G l (sk_rm 2 0 0) m_X6_begin sk_Ex0 (sk_Zm m_X6_begin none (sk_mm res)) 0 0 2 [some (.inr (.inr (some (23, 0)))), some (.inr (.inr (some (2, 0)))), some (.inl v2)] [] (sk_mm d) := by
  unfold q_X6_begin_2 at hq
  refine sg_iload_n 3 (sk_td o_X6_begin 2 rfl) rfl rfl ?_
  refine sg_iconst (v := (4 : Int32)) 4 (sk_td o_X6_begin 3 rfl) rfl (by decide) ?_
  refine sg_ic_ge 25 7 (sk_td o_X6_begin 4 rfl) (by decide) rfl (fun hc => ?_) (fun hc => ?_)
  · rw [if_pos hc] at hq
    refine sg_aload_n 26 (sk_td o_X6_begin 15 rfl) rfl rfl ?_
    refine sm_getR (26, 0) 29 (sk_td o_X6_begin 16 rfl) rfl kf_X6_18 rfl rfl sz_23 rfl ?_
    refine sg_iconst (v := (0 : Int32)) 30 (sk_td o_X6_begin 17 rfl) rfl (by decide) ?_
    refine sm_callS2v 33 (s_J7_fill_53178 (n := 4) rfl sz_26 (by decide)) (sk_td o_X6_begin 18 rfl) rfl ls_X6_50 rfl (sk_rok (Nat.le_of_ble_eq_true rfl) (Nat.le_of_ble_eq_true rfl) rfl rfl) (Nat.le_of_ble_eq_true rfl) ?_
    refine sg_aload_n 34 (sk_td o_X6_begin 19 rfl) rfl rfl ?_
    refine sm_getR (27, 0) 37 (sk_td o_X6_begin 20 rfl) rfl kf_X6_21 rfl rfl sz_23 rfl ?_
    refine sg_iconst (v := (0 : Int32)) 38 (sk_td o_X6_begin 21 rfl) rfl (by decide) ?_
    refine sk_wk [true, false, false] (ls' := [some (.inr (.inr (some (23, 0)))), none, none]) rfl ?_
    exact t_X6_begin_38 hq
  · rw [if_neg hc] at hq
    refine sg_aload_n 8 (sk_td o_X6_begin 5 rfl) rfl rfl ?_
    refine sm_getR (25, 0) 11 (sk_td o_X6_begin 6 rfl) rfl kf_X6_15 rfl rfl sz_23 rfl ?_
    refine sg_iload_n 12 (sk_td o_X6_begin 7 rfl) rfl rfl ?_
    refine sg_aload_n 13 (sk_td o_X6_begin 8 rfl) rfl rfl ?_
    refine sg_iload_n 14 (sk_td o_X6_begin 9 rfl) rfl rfl ?_
    obtain ⟨hb1, hq⟩ := sk_ifn hq
    refine sm_aald (39, v2.toNatClampNeg) 15 (sk_td o_X6_begin 10 rfl) rfl rfl (by decide) sz_2 hb1 (sr_2 (sk_bi.lt hb1)) ?_
    refine sm_getI 18 (sk_td o_X6_begin 11 rfl) rfl kf_X6_44 rfl rfl (sk_bi.lt hb1) ?_
    obtain ⟨hb2, hq⟩ := sk_ifn hq
    refine sm_iast 19 (sk_td o_X6_begin 12 rfl) rfl rfl sz_25 hb2 ?_
    refine sg_iinc (v2 + (1 : Int32)) 22 [some (.inr (.inr (some (23, 0)))), some (.inr (.inr (some (2, 0)))), some (.inl (v2 + (1 : Int32)))] (sk_td o_X6_begin 13 rfl) rfl rfl rfl rfl (Nat.le_of_ble_eq_true rfl) rfl ?_
    refine sg_goto 2 (sk_td o_X6_begin 14 rfl) (by decide) ?_
    exact hrec2 ((sk_wi d 25 0 v2.toNatClampNeg (d.1 39 v2.toNatClampNeg 5)), (v2 + (1 : Int32))) _ hq
def l_X6_begin_2 (fl : Nat) (a : (sk_D × Int32)) : Option (sk_D) := sk_it (fun rec2 a => q_X6_begin_2 rec2 a.1 a.2) fl a
theorem lt_X6_begin_2 {l : Launch} : ∀ (fl : Nat) (a : (sk_D × Int32)) (res : sk_D), l_X6_begin_2 fl a = some res → sk_G l (sk_rm 2 0 0) m_X6_begin sk_Ex0 (sk_Zm m_X6_begin none (sk_mm res)) 0 0 2 [some (.inr (.inr (some (23, 0)))), some (.inr (.inr (some (2, 0)))), some (.inl a.2)] [] (sk_mm a.1) :=
  sk_it_ind (P := fun (a : (sk_D × Int32)) (res : sk_D) => sk_G l (sk_rm 2 0 0) m_X6_begin sk_Ex0 (sk_Zm m_X6_begin none (sk_mm res)) 0 0 2 [some (.inr (.inr (some (23, 0)))), some (.inr (.inr (some (2, 0)))), some (.inl a.2)] [] (sk_mm a.1)) (fun rec2 hrec2 a res hq  => t_X6_begin_2 hrec2 hq )
def q_X6_begin_0 (d : sk_D) : Option (sk_D) :=
  (l_X6_begin_2 sk_fu (d, (0 : Int32)))
set_option maxRecDepth 100000 in
set_option maxHeartbeats 4000000 in
theorem t_X6_begin_0 {l : Launch} {d : sk_D} {res : sk_D} (hq : q_X6_begin_0 d = some res) :
    sk_G l (sk_rm 2 0 0) m_X6_begin sk_Ex0 (sk_Zm m_X6_begin none (sk_mm res)) 0 0 0 [some (.inr (.inr (some (23, 0)))), some (.inr (.inr (some (2, 0)))), none] [] (sk_mm d) := by
  unfold q_X6_begin_0 at hq
  refine sg_iconst (v := (0 : Int32)) 1 (sk_td o_X6_begin 0 rfl) rfl (by decide) ?_
  refine sg_istore_n 2 [some (.inr (.inr (some (23, 0)))), some (.inr (.inr (some (2, 0)))), some (.inl (0 : Int32))] (sk_td o_X6_begin 1 rfl) rfl rfl (Nat.le_of_ble_eq_true rfl) rfl ?_
  exact lt_X6_begin_2 sk_fu (d, (0 : Int32)) _ hq
def q_X6_begin (d : sk_D) : Option (sk_D) := q_X6_begin_0 d 
theorem s_X6_begin {l : Launch} {d : sk_D} {res : sk_D} (hq : q_X6_begin d = some res) : sk_M l 2 m_X6_begin [.inr (.inr (some (23, 0))), .inr (.inr (some (2, 0)))] (sk_mm d) none (sk_mm res) :=
  sk_enter (by decide) (fun _ => Nat.le_of_ble_eq_true rfl) (Nat.le_of_ble_eq_true rfl) (t_X6_begin_0 hq )
def q_X6_joinQueues_119 (rec2 : (sk_D × Int32 × Int32) → Option (sk_D)) (d : sk_D) (v2 : Int32) (v3 : Int32) : Option (sk_D) :=
  (rec2 (d, v2, (v3 + (1 : Int32))))
set_option maxRecDepth 100000 in
set_option maxHeartbeats 4000000 in
theorem t_X6_joinQueues_119 {l : Launch} {rec2 : (sk_D × Int32 × Int32) → Option (sk_D)} {d : sk_D} {v2 : Int32} {v3 : Int32} (hrec2 : ∀ (a : (sk_D × Int32 × Int32)) (res : sk_D), rec2 a = some res → sk_G l (sk_rm 2 0 0) m_X6_joinQueues sk_Ex0 (sk_Zm m_X6_joinQueues none (sk_mm res)) 0 0 2 [some (.inr (.inr (some (23, 0)))), some (.inr (.inr (some (2, 0)))), some (.inl a.2.1), some (.inl a.2.2), none] [] (sk_mm a.1)) {res : sk_D} (hq : q_X6_joinQueues_119 rec2 d v2 v3 = some res) :
    sk_G l (sk_rm 2 0 0) m_X6_joinQueues sk_Ex0 (sk_Zm m_X6_joinQueues none (sk_mm res)) 0 0 119 [some (.inr (.inr (some (23, 0)))), some (.inr (.inr (some (2, 0)))), some (.inl v2), some (.inl v3), none] [] (sk_mm d) := by
  unfold q_X6_joinQueues_119 at hq
  refine sg_iinc (v3 + (1 : Int32)) 122 [some (.inr (.inr (some (23, 0)))), some (.inr (.inr (some (2, 0)))), some (.inl v2), some (.inl (v3 + (1 : Int32))), none] (sk_td o_X6_joinQueues 73 rfl) rfl rfl rfl rfl (Nat.le_of_ble_eq_true rfl) rfl ?_
  refine sg_goto 2 (sk_td o_X6_joinQueues 74 rfl) (by decide) ?_
  exact hrec2 (d, v2, (v3 + (1 : Int32))) _ hq
def q_X6_joinQueues_117 (rec2 : (sk_D × Int32 × Int32) → Option (sk_D)) (d : sk_D) (v2 : Int32) (v3 : Int32) (s1 : Int32) (s3 : Int32) : Option (sk_D) :=
  if sk_bi s3 4 = true then if sk_bi s1 4 = true then (q_X6_joinQueues_119 rec2 (sk_wi d 31 0 s1.toNatClampNeg (d.1 24 0 s3.toNatClampNeg)) v2 v3) else none else none
set_option maxRecDepth 100000 in
set_option maxHeartbeats 4000000 in
theorem t_X6_joinQueues_117 {l : Launch} {rec2 : (sk_D × Int32 × Int32) → Option (sk_D)} {d : sk_D} {v2 : Int32} {v3 : Int32} {s1 : Int32} {s3 : Int32} (hrec2 : ∀ (a : (sk_D × Int32 × Int32)) (res : sk_D), rec2 a = some res → sk_G l (sk_rm 2 0 0) m_X6_joinQueues sk_Ex0 (sk_Zm m_X6_joinQueues none (sk_mm res)) 0 0 2 [some (.inr (.inr (some (23, 0)))), some (.inr (.inr (some (2, 0)))), some (.inl a.2.1), some (.inl a.2.2), none] [] (sk_mm a.1)) {res : sk_D} (hq : q_X6_joinQueues_117 rec2 d v2 v3 s1 s3 = some res) :
    sk_G l (sk_rm 2 0 0) m_X6_joinQueues sk_Ex0 (sk_Zm m_X6_joinQueues none (sk_mm res)) 0 0 117 [some (.inr (.inr (some (23, 0)))), some (.inr (.inr (some (2, 0)))), some (.inl v2), some (.inl v3), none] [.inl s3, .inr (.inr (some (24, 0))), .inl s1, .inr (.inr (some (31, 0)))] (sk_mm d) := by
  unfold q_X6_joinQueues_117 at hq
  obtain ⟨hb1, hq⟩ := sk_ifn hq
  refine sm_iald 118 (sk_td o_X6_joinQueues 71 rfl) rfl rfl sz_24 hb1 ?_
  obtain ⟨hb2, hq⟩ := sk_ifn hq
  refine sm_iast 119 (sk_td o_X6_joinQueues 72 rfl) rfl rfl sz_31 hb2 ?_
  exact t_X6_joinQueues_119 hrec2 hq
def q_X6_joinQueues_103 (rec2 : (sk_D × Int32 × Int32) → Option (sk_D)) (d : sk_D) (v2 : Int32) (v3 : Int32) (s1 : Int32) (s3 : Int32) : Option (sk_D) :=
  if sk_bi s3 3 = true then if sk_bi s1 3 = true then (q_X6_joinQueues_117 rec2 (sk_wi d 34 0 s1.toNatClampNeg ((d.1 34 0 s3.toNatClampNeg) + (1 : Int32))) v2 v3 v3 v3) else none else none
set_option maxRecDepth 100000 in
set_option maxHeartbeats 4000000 in
theorem t_X6_joinQueues_103 {l : Launch} {rec2 : (sk_D × Int32 × Int32) → Option (sk_D)} {d : sk_D} {v2 : Int32} {v3 : Int32} {s1 : Int32} {s3 : Int32} (hrec2 : ∀ (a : (sk_D × Int32 × Int32)) (res : sk_D), rec2 a = some res → sk_G l (sk_rm 2 0 0) m_X6_joinQueues sk_Ex0 (sk_Zm m_X6_joinQueues none (sk_mm res)) 0 0 2 [some (.inr (.inr (some (23, 0)))), some (.inr (.inr (some (2, 0)))), some (.inl a.2.1), some (.inl a.2.2), none] [] (sk_mm a.1)) {res : sk_D} (hq : q_X6_joinQueues_103 rec2 d v2 v3 s1 s3 = some res) :
    sk_G l (sk_rm 2 0 0) m_X6_joinQueues sk_Ex0 (sk_Zm m_X6_joinQueues none (sk_mm res)) 0 0 103 [some (.inr (.inr (some (23, 0)))), some (.inr (.inr (some (2, 0)))), some (.inl v2), some (.inl v3), none] [.inl s3, .inr (.inr (some (34, 0))), .inl s1, .inr (.inr (some (34, 0)))] (sk_mm d) := by
  unfold q_X6_joinQueues_103 at hq
  obtain ⟨hb1, hq⟩ := sk_ifn hq
  refine sm_iald 104 (sk_td o_X6_joinQueues 61 rfl) rfl rfl sz_34 hb1 ?_
  refine sg_iconst (v := (1 : Int32)) 105 (sk_td o_X6_joinQueues 62 rfl) rfl (by decide) ?_
  refine sg_iadd 106 (sk_td o_X6_joinQueues 63 rfl) rfl ?_
  obtain ⟨hb2, hq⟩ := sk_ifn hq
  refine sm_iast 107 (sk_td o_X6_joinQueues 64 rfl) rfl rfl sz_34 hb2 ?_
  refine sg_aload_n 108 (sk_td o_X6_joinQueues 65 rfl) rfl rfl ?_
  refine sm_getR (31, 0) 111 (sk_td o_X6_joinQueues 66 rfl) rfl kf_X6_33 rfl rfl sz_23 rfl ?_
  refine sg_iload_n 112 (sk_td o_X6_joinQueues 67 rfl) rfl rfl ?_
  refine sg_aload_n 113 (sk_td o_X6_joinQueues 68 rfl) rfl rfl ?_
  refine sm_getR (24, 0) 116 (sk_td o_X6_joinQueues 69 rfl) rfl kf_X6_9 rfl rfl sz_23 rfl ?_
  refine sg_iload_n 117 (sk_td o_X6_joinQueues 70 rfl) rfl rfl ?_
  exact t_X6_joinQueues_117 hrec2 hq
def q_X6_joinQueues_2 (rec2 : (sk_D × Int32 × Int32) → Option (sk_D)) (d : sk_D) (v2 : Int32) (v3 : Int32) : Option (sk_D) :=
  if (4 : Int32) ≤ v3 then some d else if sk_bi v3 4 = true then if (d.1 24 0 v3.toNatClampNeg) ≤ 0 then (q_X6_joinQueues_119 rec2 d v2 v3) else if sk_bi v3 4 = true then if (d.1 25 0 v3.toNatClampNeg) = v2 then if sk_bi v3 4 = true then (q_X8_within d (d.1 30 0 v3.toNatClampNeg) (0 : Int32) (3 : Int32)).bind fun x4 => if x4 = 0 then (q_X6_joinQueues_119 rec2 d v2 v3) else if sk_bi v3 4 = true then if sk_bi v3 4 = true then if sk_bi (d.1 30 0 v3.toNatClampNeg) 4 = true then (q_X8_within d (d.1 40 v3.toNatClampNeg (d.1 30 0 v3.toNatClampNeg).toNatClampNeg) (0 : Int32) (2 : Int32)).bind fun x8 => if x8 = 0 then (q_X6_joinQueues_119 rec2 d v2 v3) else if sk_bi (d.1 40 v3.toNatClampNeg (d.1 30 0 v3.toNatClampNeg).toNatClampNeg) 3 = true then (q_X8_within d (d.1 34 0 (d.1 40 v3.toNatClampNeg (d.1 30 0 v3.toNatClampNeg).toNatClampNeg).toNatClampNeg) (0 : Int32) (3 : Int32)).bind fun x10 => if x10 = 0 then (q_X6_joinQueues_119 rec2 d v2 v3) else if sk_bi (d.1 40 v3.toNatClampNeg (d.1 30 0 v3.toNatClampNeg).toNatClampNeg) 3 = true then if sk_bi (d.1 40 v3.toNatClampNeg (d.1 30 0 v3.toNatClampNeg).toNatClampNeg) 3 = true then if sk_bi (d.1 34 0 (d.1 40 v3.toNatClampNeg (d.1 30 0 v3.toNatClampNeg).toNatClampNeg).toNatClampNeg) 4 = true then (q_X6_joinQueues_103 rec2 (sk_wi d 33 ((d.1 40 v3.toNatClampNeg (d.1 30 0 v3.toNatClampNeg).toNatClampNeg).toNatClampNeg) (d.1 34 0 (d.1 40 v3.toNatClampNeg (d.1 30 0 v3.toNatClampNeg).toNatClampNeg).toNatClampNeg).toNatClampNeg v3) v2 v3 (d.1 40 v3.toNatClampNeg (d.1 30 0 v3.toNatClampNeg).toNatClampNeg) (d.1 40 v3.toNatClampNeg (d.1 30 0 v3.toNatClampNeg).toNatClampNeg)) else none else none else none else none else none else none else none else none else (q_X6_joinQueues_119 rec2 d v2 v3) else none else none
set_option maxRecDepth 100000 in
set_option maxHeartbeats 4000000 in
theorem t_X6_joinQueues_2 {l : Launch} {rec2 : (sk_D × Int32 × Int32) → Option (sk_D)} {d : sk_D} {v2 : Int32} {v3 : Int32} (hrec2 : ∀ (a : (sk_D × Int32 × Int32)) (res : sk_D), rec2 a = some res → sk_G l (sk_rm 2 0 0) m_X6_joinQueues sk_Ex0 (sk_Zm m_X6_joinQueues none (sk_mm res)) 0 0 2 [some (.inr (.inr (some (23, 0)))), some (.inr (.inr (some (2, 0)))), some (.inl a.2.1), some (.inl a.2.2), none] [] (sk_mm a.1)) {res : sk_D} (hq : q_X6_joinQueues_2 rec2 d v2 v3 = some res) :
    sk_G l (sk_rm 2 0 0) m_X6_joinQueues sk_Ex0 (sk_Zm m_X6_joinQueues none (sk_mm res)) 0 0 2 [some (.inr (.inr (some (23, 0)))), some (.inr (.inr (some (2, 0)))), some (.inl v2), some (.inl v3), none] [] (sk_mm d) := by
  unfold q_X6_joinQueues_2 at hq
  refine sg_iload_n 3 (sk_td o_X6_joinQueues 2 rfl) rfl rfl ?_
  refine sg_iconst (v := (4 : Int32)) 4 (sk_td o_X6_joinQueues 3 rfl) rfl (by decide) ?_
  refine sg_ic_ge 125 7 (sk_td o_X6_joinQueues 4 rfl) (by decide) rfl (fun hc => ?_) (fun hc => ?_)
  · rw [if_pos hc] at hq
    obtain rfl := Option.some.inj hq
    exact sg_vret (sk_td o_X6_joinQueues 75 rfl) rfl
  · rw [if_neg hc] at hq
    refine sg_aload_n 8 (sk_td o_X6_joinQueues 5 rfl) rfl rfl ?_
    refine sm_getR (24, 0) 11 (sk_td o_X6_joinQueues 6 rfl) rfl kf_X6_9 rfl rfl sz_23 rfl ?_
    refine sg_iload_n 12 (sk_td o_X6_joinQueues 7 rfl) rfl rfl ?_
    obtain ⟨hb1, hq⟩ := sk_ifn hq
    refine sm_iald 13 (sk_td o_X6_joinQueues 8 rfl) rfl rfl sz_24 hb1 ?_
    refine sg_if_le 119 16 (sk_td o_X6_joinQueues 9 rfl) (by decide) rfl (fun hc => ?_) (fun hc => ?_)
    · rw [if_pos hc] at hq
      exact t_X6_joinQueues_119 hrec2 hq
    · rw [if_neg hc] at hq
      refine sg_aload_n 17 (sk_td o_X6_joinQueues 10 rfl) rfl rfl ?_
      refine sm_getR (25, 0) 20 (sk_td o_X6_joinQueues 11 rfl) rfl kf_X6_15 rfl rfl sz_23 rfl ?_
      refine sg_iload_n 21 (sk_td o_X6_joinQueues 12 rfl) rfl rfl ?_
      obtain ⟨hb2, hq⟩ := sk_ifn hq
      refine sm_iald 22 (sk_td o_X6_joinQueues 13 rfl) rfl rfl sz_25 hb2 ?_
      refine sg_iload_n 23 (sk_td o_X6_joinQueues 14 rfl) rfl rfl ?_
      refine sg_ic_ne 119 26 (sk_td o_X6_joinQueues 15 rfl) (by decide) rfl (fun hc => ?_) (fun hc => ?_)
      · rw [if_neg hc] at hq
        exact t_X6_joinQueues_119 hrec2 hq
      · rw [if_pos hc] at hq
        refine sg_aload_n 27 (sk_td o_X6_joinQueues 16 rfl) rfl rfl ?_
        refine sm_getR (30, 0) 30 (sk_td o_X6_joinQueues 17 rfl) rfl kf_X6_30 rfl rfl sz_23 rfl ?_
        refine sg_iload_n 31 (sk_td o_X6_joinQueues 18 rfl) rfl rfl ?_
        obtain ⟨hb3, hq⟩ := sk_ifn hq
        refine sm_iald 32 (sk_td o_X6_joinQueues 19 rfl) rfl rfl sz_30 hb3 ?_
        refine sg_iconst (v := (0 : Int32)) 33 (sk_td o_X6_joinQueues 20 rfl) rfl (by decide) ?_
        refine sg_iconst (v := (3 : Int32)) 34 (sk_td o_X6_joinQueues 21 rfl) rfl (by decide) ?_
        obtain ⟨x4, hr_x4, hq⟩ := sk_bnd hq
        refine sm_callN3i 37 (s_X8_within hr_x4) (sk_td o_X6_joinQueues 22 rfl) rfl ln_X6_80 rfl (sk_rok (Nat.le_of_ble_eq_true rfl) (Nat.le_of_ble_eq_true rfl) rfl rfl) (Nat.le_of_ble_eq_true rfl) ?_
        refine sg_if_eq 119 40 (sk_td o_X6_joinQueues 23 rfl) (by decide) rfl (fun hc => ?_) (fun hc => ?_)
        · rw [if_pos hc] at hq
          exact t_X6_joinQueues_119 hrec2 hq
        · rw [if_neg hc] at hq
          refine sg_aload_n 41 (sk_td o_X6_joinQueues 24 rfl) rfl rfl ?_
          refine sg_iload_n 42 (sk_td o_X6_joinQueues 25 rfl) rfl rfl ?_
          obtain ⟨hb5, hq⟩ := sk_ifn hq
          refine sm_aald (39, v3.toNatClampNeg) 43 (sk_td o_X6_joinQueues 26 rfl) rfl rfl (by decide) sz_2 hb5 (sr_2 (sk_bi.lt hb5)) ?_
          refine sm_getR (40, v3.toNatClampNeg) 46 (sk_td o_X6_joinQueues 27 rfl) rfl kf_X6_84 rfl rfl (sk_bi.lt hb5) rfl ?_
          refine sg_aload_n 47 (sk_td o_X6_joinQueues 28 rfl) rfl rfl ?_
          refine sm_getR (30, 0) 50 (sk_td o_X6_joinQueues 29 rfl) rfl kf_X6_30 rfl rfl sz_23 rfl ?_
          refine sg_iload_n 51 (sk_td o_X6_joinQueues 30 rfl) rfl rfl ?_
          obtain ⟨hb6, hq⟩ := sk_ifn hq
          refine sm_iald 52 (sk_td o_X6_joinQueues 31 rfl) rfl rfl sz_30 hb6 ?_
          obtain ⟨hb7, hq⟩ := sk_ifn hq
          refine sm_iald 53 (sk_td o_X6_joinQueues 32 rfl) rfl rfl (sk_bi.lt hb5) hb7 ?_
          refine sg_istore 55 [some (.inr (.inr (some (23, 0)))), some (.inr (.inr (some (2, 0)))), some (.inl v2), some (.inl v3), some (.inl (d.1 40 v3.toNatClampNeg (d.1 30 0 v3.toNatClampNeg).toNatClampNeg))] (sk_td o_X6_joinQueues 33 rfl) rfl rfl (Nat.le_of_ble_eq_true rfl) rfl ?_
          refine sg_iload 57 (sk_td o_X6_joinQueues 34 rfl) rfl rfl ?_
          refine sg_iconst (v := (0 : Int32)) 58 (sk_td o_X6_joinQueues 35 rfl) rfl (by decide) ?_
          refine sg_iconst (v := (2 : Int32)) 59 (sk_td o_X6_joinQueues 36 rfl) rfl (by decide) ?_
          obtain ⟨x8, hr_x8, hq⟩ := sk_bnd hq
          refine sm_callN3i 62 (s_X8_within hr_x8) (sk_td o_X6_joinQueues 37 rfl) rfl ln_X6_80 rfl (sk_rok (Nat.le_of_ble_eq_true rfl) (Nat.le_of_ble_eq_true rfl) rfl rfl) (Nat.le_of_ble_eq_true rfl) ?_
          refine sg_if_eq 119 65 (sk_td o_X6_joinQueues 38 rfl) (by decide) rfl (fun hc => ?_) (fun hc => ?_)
          · rw [if_pos hc] at hq
            refine sk_wk [true, true, true, true, false] (ls' := [some (.inr (.inr (some (23, 0)))), some (.inr (.inr (some (2, 0)))), some (.inl v2), some (.inl v3), none]) rfl ?_
            exact t_X6_joinQueues_119 hrec2 hq
          · rw [if_neg hc] at hq
            refine sg_aload_n 66 (sk_td o_X6_joinQueues 39 rfl) rfl rfl ?_
            refine sm_getR (34, 0) 69 (sk_td o_X6_joinQueues 40 rfl) rfl kf_X6_41 rfl rfl sz_23 rfl ?_
            refine sg_iload 71 (sk_td o_X6_joinQueues 41 rfl) rfl rfl ?_
            obtain ⟨hb9, hq⟩ := sk_ifn hq
            refine sm_iald 72 (sk_td o_X6_joinQueues 42 rfl) rfl rfl sz_34 hb9 ?_
            refine sg_iconst (v := (0 : Int32)) 73 (sk_td o_X6_joinQueues 43 rfl) rfl (by decide) ?_
            refine sg_iconst (v := (3 : Int32)) 74 (sk_td o_X6_joinQueues 44 rfl) rfl (by decide) ?_
            obtain ⟨x10, hr_x10, hq⟩ := sk_bnd hq
            refine sm_callN3i 77 (s_X8_within hr_x10) (sk_td o_X6_joinQueues 45 rfl) rfl ln_X6_80 rfl (sk_rok (Nat.le_of_ble_eq_true rfl) (Nat.le_of_ble_eq_true rfl) rfl rfl) (Nat.le_of_ble_eq_true rfl) ?_
            refine sg_if_eq 119 80 (sk_td o_X6_joinQueues 46 rfl) (by decide) rfl (fun hc => ?_) (fun hc => ?_)
            · rw [if_pos hc] at hq
              refine sk_wk [true, true, true, true, false] (ls' := [some (.inr (.inr (some (23, 0)))), some (.inr (.inr (some (2, 0)))), some (.inl v2), some (.inl v3), none]) rfl ?_
              exact t_X6_joinQueues_119 hrec2 hq
            · rw [if_neg hc] at hq
              refine sg_aload_n 81 (sk_td o_X6_joinQueues 47 rfl) rfl rfl ?_
              refine sm_getR (32, 0) 84 (sk_td o_X6_joinQueues 48 rfl) rfl kf_X6_38 rfl rfl sz_23 rfl ?_
              refine sg_iload 86 (sk_td o_X6_joinQueues 49 rfl) rfl rfl ?_
              obtain ⟨hb11, hq⟩ := sk_ifn hq
              refine sm_aald (33, (d.1 40 v3.toNatClampNeg (d.1 30 0 v3.toNatClampNeg).toNatClampNeg).toNatClampNeg) 87 (sk_td o_X6_joinQueues 50 rfl) rfl rfl (by decide) sz_32 hb11 (sr_32 (sk_bi.lt hb11)) ?_
              refine sg_aload_n 88 (sk_td o_X6_joinQueues 51 rfl) rfl rfl ?_
              refine sm_getR (34, 0) 91 (sk_td o_X6_joinQueues 52 rfl) rfl kf_X6_41 rfl rfl sz_23 rfl ?_
              refine sg_iload 93 (sk_td o_X6_joinQueues 53 rfl) rfl rfl ?_
              obtain ⟨hb12, hq⟩ := sk_ifn hq
              refine sm_iald 94 (sk_td o_X6_joinQueues 54 rfl) rfl rfl sz_34 hb12 ?_
              refine sg_iload_n 95 (sk_td o_X6_joinQueues 55 rfl) rfl rfl ?_
              obtain ⟨hb13, hq⟩ := sk_ifn hq
              refine sm_iast 96 (sk_td o_X6_joinQueues 56 rfl) rfl rfl (sk_bi.lt hb11) hb13 ?_
              refine sg_aload_n 97 (sk_td o_X6_joinQueues 57 rfl) rfl rfl ?_
              refine sm_getR (34, 0) 100 (sk_td o_X6_joinQueues 58 rfl) rfl kf_X6_41 rfl rfl sz_23 rfl ?_
              refine sg_iload 102 (sk_td o_X6_joinQueues 59 rfl) rfl rfl ?_
              refine sg_dup2 103 (sk_td o_X6_joinQueues 60 rfl) rfl ?_
              refine sk_wk [true, true, true, true, false] (ls' := [some (.inr (.inr (some (23, 0)))), some (.inr (.inr (some (2, 0)))), some (.inl v2), some (.inl v3), none]) rfl ?_
              exact t_X6_joinQueues_103 hrec2 hq
def l_X6_joinQueues_2 (fl : Nat) (a : (sk_D × Int32 × Int32)) : Option (sk_D) := sk_it (fun rec2 a => q_X6_joinQueues_2 rec2 a.1 a.2.1 a.2.2) fl a
theorem lt_X6_joinQueues_2 {l : Launch} : ∀ (fl : Nat) (a : (sk_D × Int32 × Int32)) (res : sk_D), l_X6_joinQueues_2 fl a = some res → sk_G l (sk_rm 2 0 0) m_X6_joinQueues sk_Ex0 (sk_Zm m_X6_joinQueues none (sk_mm res)) 0 0 2 [some (.inr (.inr (some (23, 0)))), some (.inr (.inr (some (2, 0)))), some (.inl a.2.1), some (.inl a.2.2), none] [] (sk_mm a.1) :=
  sk_it_ind (P := fun (a : (sk_D × Int32 × Int32)) (res : sk_D) => sk_G l (sk_rm 2 0 0) m_X6_joinQueues sk_Ex0 (sk_Zm m_X6_joinQueues none (sk_mm res)) 0 0 2 [some (.inr (.inr (some (23, 0)))), some (.inr (.inr (some (2, 0)))), some (.inl a.2.1), some (.inl a.2.2), none] [] (sk_mm a.1)) (fun rec2 hrec2 a res hq  => t_X6_joinQueues_2 hrec2 hq )
def q_X6_joinQueues_0 (d : sk_D) (v2 : Int32) : Option (sk_D) :=
  (l_X6_joinQueues_2 sk_fu (d, v2, (0 : Int32)))
set_option maxRecDepth 100000 in
set_option maxHeartbeats 4000000 in
theorem t_X6_joinQueues_0 {l : Launch} {d : sk_D} {v2 : Int32} {res : sk_D} (hq : q_X6_joinQueues_0 d v2 = some res) :
    sk_G l (sk_rm 2 0 0) m_X6_joinQueues sk_Ex0 (sk_Zm m_X6_joinQueues none (sk_mm res)) 0 0 0 [some (.inr (.inr (some (23, 0)))), some (.inr (.inr (some (2, 0)))), some (.inl v2), none, none] [] (sk_mm d) := by
  unfold q_X6_joinQueues_0 at hq
  refine sg_iconst (v := (0 : Int32)) 1 (sk_td o_X6_joinQueues 0 rfl) rfl (by decide) ?_
  refine sg_istore_n 2 [some (.inr (.inr (some (23, 0)))), some (.inr (.inr (some (2, 0)))), some (.inl v2), some (.inl (0 : Int32)), none] (sk_td o_X6_joinQueues 1 rfl) rfl rfl (Nat.le_of_ble_eq_true rfl) rfl ?_
  exact lt_X6_joinQueues_2 sk_fu (d, v2, (0 : Int32)) _ hq
def q_X6_joinQueues (d : sk_D) (v2 : Int32) : Option (sk_D) := q_X6_joinQueues_0 d v2 
theorem s_X6_joinQueues {l : Launch} {d : sk_D} {v2 : Int32} {res : sk_D} (hq : q_X6_joinQueues d v2 = some res) : sk_M l 2 m_X6_joinQueues [.inr (.inr (some (23, 0))), .inr (.inr (some (2, 0))), .inl v2] (sk_mm d) none (sk_mm res) :=
  sk_enter (by decide) (fun _ => Nat.le_of_ble_eq_true rfl) (Nat.le_of_ble_eq_true rfl) (t_X6_joinQueues_0 hq )
def q_X6_leaveQueue_41 (d : sk_D) (v1 : Int32) : Option (sk_D) :=
  if sk_bi v1 3 = true then if sk_bi v1 3 = true then some (sk_wi d 34 0 v1.toNatClampNeg ((d.1 34 0 v1.toNatClampNeg) - (1 : Int32))) else none else none
set_option maxRecDepth 100000 in
set_option maxHeartbeats 4000000 in
theorem t_X6_leaveQueue_41 {l : Launch} {d : sk_D} {v1 : Int32} {res : sk_D} (hq : q_X6_leaveQueue_41 d v1 = some res) :
    sk_G l (sk_rm 1 0 0) m_X6_leaveQueue sk_Ex0 (sk_Zm m_X6_leaveQueue none (sk_mm res)) 0 0 41 [some (.inr (.inr (some (23, 0)))), some (.inl v1), none] [] (sk_mm d) := by
  unfold q_X6_leaveQueue_41 at hq
  refine sg_aload_n 42 (sk_td o_X6_leaveQueue 27 rfl) rfl rfl ?_
  refine sm_getR (34, 0) 45 (sk_td o_X6_leaveQueue 28 rfl) rfl kf_X6_41 rfl rfl sz_23 rfl ?_
  refine sg_iload_n 46 (sk_td o_X6_leaveQueue 29 rfl) rfl rfl ?_
  refine sg_dup2 47 (sk_td o_X6_leaveQueue 30 rfl) rfl ?_
  obtain ⟨hb1, hq⟩ := sk_ifn hq
  refine sm_iald 48 (sk_td o_X6_leaveQueue 31 rfl) rfl rfl sz_34 hb1 ?_
  refine sg_iconst (v := (1 : Int32)) 49 (sk_td o_X6_leaveQueue 32 rfl) rfl (by decide) ?_
  refine sg_isub 50 (sk_td o_X6_leaveQueue 33 rfl) rfl ?_
  obtain ⟨hb2, hq⟩ := sk_ifn hq
  refine sm_iast 51 (sk_td o_X6_leaveQueue 34 rfl) rfl rfl sz_34 hb2 ?_
  obtain rfl := Option.some.inj hq
  exact sg_vret (sk_td o_X6_leaveQueue 35 rfl) rfl
def q_X6_leaveQueue_2 (rec2 : (sk_D × Int32 × Int32) → Option (sk_D)) (d : sk_D) (v1 : Int32) (v2 : Int32) : Option (sk_D) :=
  if sk_bi v1 3 = true then if (d.1 34 0 v1.toNatClampNeg) ≤ v2 then (q_X6_leaveQueue_41 d v1) else if (4 : Int32) ≤ v2 then (q_X6_leaveQueue_41 d v1) else if sk_bi v1 3 = true then if sk_bi v1 3 = true then if sk_bi v2 4 = true then if sk_bi (v2 - (1 : Int32)) 4 = true then (rec2 ((sk_wi d 33 v1.toNatClampNeg (v2 - (1 : Int32)).toNatClampNeg (d.1 33 v1.toNatClampNeg v2.toNatClampNeg)), v1, (v2 + (1 : Int32)))) else none else none else none else none else none
set_option maxRecDepth 100000 in
set_option maxHeartbeats 4000000 in
theorem t_X6_leaveQueue_2 {l : Launch} {rec2 : (sk_D × Int32 × Int32) → Option (sk_D)} {d : sk_D} {v1 : Int32} {v2 : Int32} (hrec2 : ∀ (a : (sk_D × Int32 × Int32)) (res : sk_D), rec2 a = some res → sk_G l (sk_rm 1 0 0) m_X6_leaveQueue sk_Ex0 (sk_Zm m_X6_leaveQueue none (sk_mm res)) 0 0 2 [some (.inr (.inr (some (23, 0)))), some (.inl a.2.1), some (.inl a.2.2)] [] (sk_mm a.1)) {res : sk_D} (hq : q_X6_leaveQueue_2 rec2 d v1 v2 = some res) :
    sk_G l (sk_rm 1 0 0) m_X6_leaveQueue sk_Ex0 (sk_Zm m_X6_leaveQueue none (sk_mm res)) 0 0 2 [some (.inr (.inr (some (23, 0)))), some (.inl v1), some (.inl v2)] [] (sk_mm d) := by
  unfold q_X6_leaveQueue_2 at hq
  refine sg_iload_n 3 (sk_td o_X6_leaveQueue 2 rfl) rfl rfl ?_
  refine sg_aload_n 4 (sk_td o_X6_leaveQueue 3 rfl) rfl rfl ?_
  refine sm_getR (34, 0) 7 (sk_td o_X6_leaveQueue 4 rfl) rfl kf_X6_41 rfl rfl sz_23 rfl ?_
  refine sg_iload_n 8 (sk_td o_X6_leaveQueue 5 rfl) rfl rfl ?_
  obtain ⟨hb1, hq⟩ := sk_ifn hq
  refine sm_iald 9 (sk_td o_X6_leaveQueue 6 rfl) rfl rfl sz_34 hb1 ?_
  refine sg_ic_ge 41 12 (sk_td o_X6_leaveQueue 7 rfl) (by decide) rfl (fun hc => ?_) (fun hc => ?_)
  · rw [if_pos hc] at hq
    refine sk_wk [true, true, false] (ls' := [some (.inr (.inr (some (23, 0)))), some (.inl v1), none]) rfl ?_
    exact t_X6_leaveQueue_41 hq
  · rw [if_neg hc] at hq
    refine sg_iload_n 13 (sk_td o_X6_leaveQueue 8 rfl) rfl rfl ?_
    refine sg_iconst (v := (4 : Int32)) 14 (sk_td o_X6_leaveQueue 9 rfl) rfl (by decide) ?_
    refine sg_ic_ge 41 17 (sk_td o_X6_leaveQueue 10 rfl) (by decide) rfl (fun hc => ?_) (fun hc => ?_)
    · rw [if_pos hc] at hq
      refine sk_wk [true, true, false] (ls' := [some (.inr (.inr (some (23, 0)))), some (.inl v1), none]) rfl ?_
      exact t_X6_leaveQueue_41 hq
    · rw [if_neg hc] at hq
      refine sg_aload_n 18 (sk_td o_X6_leaveQueue 11 rfl) rfl rfl ?_
      refine sm_getR (32, 0) 21 (sk_td o_X6_leaveQueue 12 rfl) rfl kf_X6_38 rfl rfl sz_23 rfl ?_
      refine sg_iload_n 22 (sk_td o_X6_leaveQueue 13 rfl) rfl rfl ?_
      obtain ⟨hb2, hq⟩ := sk_ifn hq
      refine sm_aald (33, v1.toNatClampNeg) 23 (sk_td o_X6_leaveQueue 14 rfl) rfl rfl (by decide) sz_32 hb2 (sr_32 (sk_bi.lt hb2)) ?_
      refine sg_iload_n 24 (sk_td o_X6_leaveQueue 15 rfl) rfl rfl ?_
      refine sg_iconst (v := (1 : Int32)) 25 (sk_td o_X6_leaveQueue 16 rfl) rfl (by decide) ?_
      refine sg_isub 26 (sk_td o_X6_leaveQueue 17 rfl) rfl ?_
      refine sg_aload_n 27 (sk_td o_X6_leaveQueue 18 rfl) rfl rfl ?_
      refine sm_getR (32, 0) 30 (sk_td o_X6_leaveQueue 19 rfl) rfl kf_X6_38 rfl rfl sz_23 rfl ?_
      refine sg_iload_n 31 (sk_td o_X6_leaveQueue 20 rfl) rfl rfl ?_
      obtain ⟨hb3, hq⟩ := sk_ifn hq
      refine sm_aald (33, v1.toNatClampNeg) 32 (sk_td o_X6_leaveQueue 21 rfl) rfl rfl (by decide) sz_32 hb3 (sr_32 (sk_bi.lt hb3)) ?_
      refine sg_iload_n 33 (sk_td o_X6_leaveQueue 22 rfl) rfl rfl ?_
      obtain ⟨hb4, hq⟩ := sk_ifn hq
      refine sm_iald 34 (sk_td o_X6_leaveQueue 23 rfl) rfl rfl (sk_bi.lt hb3) hb4 ?_
      obtain ⟨hb5, hq⟩ := sk_ifn hq
      refine sm_iast 35 (sk_td o_X6_leaveQueue 24 rfl) rfl rfl (sk_bi.lt hb2) hb5 ?_
      refine sg_iinc (v2 + (1 : Int32)) 38 [some (.inr (.inr (some (23, 0)))), some (.inl v1), some (.inl (v2 + (1 : Int32)))] (sk_td o_X6_leaveQueue 25 rfl) rfl rfl rfl rfl (Nat.le_of_ble_eq_true rfl) rfl ?_
      refine sg_goto 2 (sk_td o_X6_leaveQueue 26 rfl) (by decide) ?_
      exact hrec2 ((sk_wi d 33 v1.toNatClampNeg (v2 - (1 : Int32)).toNatClampNeg (d.1 33 v1.toNatClampNeg v2.toNatClampNeg)), v1, (v2 + (1 : Int32))) _ hq
def l_X6_leaveQueue_2 (fl : Nat) (a : (sk_D × Int32 × Int32)) : Option (sk_D) := sk_it (fun rec2 a => q_X6_leaveQueue_2 rec2 a.1 a.2.1 a.2.2) fl a
theorem lt_X6_leaveQueue_2 {l : Launch} : ∀ (fl : Nat) (a : (sk_D × Int32 × Int32)) (res : sk_D), l_X6_leaveQueue_2 fl a = some res → sk_G l (sk_rm 1 0 0) m_X6_leaveQueue sk_Ex0 (sk_Zm m_X6_leaveQueue none (sk_mm res)) 0 0 2 [some (.inr (.inr (some (23, 0)))), some (.inl a.2.1), some (.inl a.2.2)] [] (sk_mm a.1) :=
  sk_it_ind (P := fun (a : (sk_D × Int32 × Int32)) (res : sk_D) => sk_G l (sk_rm 1 0 0) m_X6_leaveQueue sk_Ex0 (sk_Zm m_X6_leaveQueue none (sk_mm res)) 0 0 2 [some (.inr (.inr (some (23, 0)))), some (.inl a.2.1), some (.inl a.2.2)] [] (sk_mm a.1)) (fun rec2 hrec2 a res hq  => t_X6_leaveQueue_2 hrec2 hq )
def q_X6_leaveQueue_0 (d : sk_D) (v1 : Int32) : Option (sk_D) :=
  (l_X6_leaveQueue_2 sk_fu (d, v1, (1 : Int32)))
set_option maxRecDepth 100000 in
set_option maxHeartbeats 4000000 in
theorem t_X6_leaveQueue_0 {l : Launch} {d : sk_D} {v1 : Int32} {res : sk_D} (hq : q_X6_leaveQueue_0 d v1 = some res) :
    sk_G l (sk_rm 1 0 0) m_X6_leaveQueue sk_Ex0 (sk_Zm m_X6_leaveQueue none (sk_mm res)) 0 0 0 [some (.inr (.inr (some (23, 0)))), some (.inl v1), none] [] (sk_mm d) := by
  unfold q_X6_leaveQueue_0 at hq
  refine sg_iconst (v := (1 : Int32)) 1 (sk_td o_X6_leaveQueue 0 rfl) rfl (by decide) ?_
  refine sg_istore_n 2 [some (.inr (.inr (some (23, 0)))), some (.inl v1), some (.inl (1 : Int32))] (sk_td o_X6_leaveQueue 1 rfl) rfl rfl (Nat.le_of_ble_eq_true rfl) rfl ?_
  exact lt_X6_leaveQueue_2 sk_fu (d, v1, (1 : Int32)) _ hq
def q_X6_leaveQueue (d : sk_D) (v1 : Int32) : Option (sk_D) := q_X6_leaveQueue_0 d v1 
theorem s_X6_leaveQueue {l : Launch} {d : sk_D} {v1 : Int32} {res : sk_D} (hq : q_X6_leaveQueue d v1 = some res) : sk_M l 1 m_X6_leaveQueue [.inr (.inr (some (23, 0))), .inl v1] (sk_mm d) none (sk_mm res) :=
  sk_enter (by decide) (fun _ => Nat.le_of_ble_eq_true rfl) (Nat.le_of_ble_eq_true rfl) (t_X6_leaveQueue_0 hq )
def q_X6_completeRide_58 (d : sk_D) (v1 : Int32) (k2 : Nat) (s1 : Int32) : Option (sk_D) :=
  if sk_bi s1 4 = true then if (d.1 30 0 s1.toNatClampNeg) < (d.1 39 k2 6) then some d else if sk_bi v1 4 = true then some (sk_wi d 30 0 v1.toNatClampNeg (0 : Int32)) else none else none
set_option maxRecDepth 100000 in
set_option maxHeartbeats 4000000 in
theorem t_X6_completeRide_58 {l : Launch} {d : sk_D} {v1 : Int32} {k2 : Nat} {s1 : Int32} {res : sk_D} (hq : q_X6_completeRide_58 d v1 k2 s1 = some res) (hk_k2 : k2 < sk_cnt 39) :
    sk_G l (sk_rm 2 0 0) m_X6_completeRide sk_Ex0 (sk_Zm m_X6_completeRide none (sk_mm res)) 0 0 58 [some (.inr (.inr (some (23, 0)))), some (.inl v1), some (.inr (.inr (some (39, k2)))), none] [.inl s1, .inr (.inr (some (30, 0)))] (sk_mm d) := by
  unfold q_X6_completeRide_58 at hq
  obtain ⟨hb1, hq⟩ := sk_ifn hq
  refine sm_iald 59 (sk_td o_X6_completeRide 40 rfl) rfl rfl sz_30 hb1 ?_
  refine sg_aload_n 60 (sk_td o_X6_completeRide 41 rfl) rfl rfl ?_
  refine sm_getI 63 (sk_td o_X6_completeRide 42 rfl) rfl kf_X6_103 rfl rfl hk_k2 ?_
  refine sg_ic_lt 73 66 (sk_td o_X6_completeRide 43 rfl) (by decide) rfl (fun hc => ?_) (fun hc => ?_)
  · rw [if_pos hc] at hq
    obtain rfl := Option.some.inj hq
    exact sg_vret (sk_td o_X6_completeRide 49 rfl) rfl
  · rw [if_neg hc] at hq
    refine sg_aload_n 67 (sk_td o_X6_completeRide 44 rfl) rfl rfl ?_
    refine sm_getR (30, 0) 70 (sk_td o_X6_completeRide 45 rfl) rfl kf_X6_30 rfl rfl sz_23 rfl ?_
    refine sg_iload_n 71 (sk_td o_X6_completeRide 46 rfl) rfl rfl ?_
    refine sg_iconst (v := (0 : Int32)) 72 (sk_td o_X6_completeRide 47 rfl) rfl (by decide) ?_
    obtain ⟨hb2, hq⟩ := sk_ifn hq
    refine sm_iast 73 (sk_td o_X6_completeRide 48 rfl) rfl rfl sz_30 hb2 ?_
    obtain rfl := Option.some.inj hq
    exact sg_vret (sk_td o_X6_completeRide 49 rfl) rfl
def q_X6_completeRide_43 (d : sk_D) (v1 : Int32) (k2 : Nat) : Option (sk_D) :=
  if sk_bi v1 4 = true then if sk_bi v1 4 = true then (q_X6_completeRide_58 (sk_wi d 30 0 v1.toNatClampNeg ((d.1 30 0 v1.toNatClampNeg) + (1 : Int32))) v1 k2 v1) else none else none
set_option maxRecDepth 100000 in
set_option maxHeartbeats 4000000 in
theorem t_X6_completeRide_43 {l : Launch} {d : sk_D} {v1 : Int32} {k2 : Nat} {res : sk_D} (hq : q_X6_completeRide_43 d v1 k2 = some res) (hk_k2 : k2 < sk_cnt 39) :
    sk_G l (sk_rm 2 0 0) m_X6_completeRide sk_Ex0 (sk_Zm m_X6_completeRide none (sk_mm res)) 0 0 43 [some (.inr (.inr (some (23, 0)))), some (.inl v1), some (.inr (.inr (some (39, k2)))), none] [] (sk_mm d) := by
  unfold q_X6_completeRide_43 at hq
  refine sg_aload_n 44 (sk_td o_X6_completeRide 29 rfl) rfl rfl ?_
  refine sm_getR (30, 0) 47 (sk_td o_X6_completeRide 30 rfl) rfl kf_X6_30 rfl rfl sz_23 rfl ?_
  refine sg_iload_n 48 (sk_td o_X6_completeRide 31 rfl) rfl rfl ?_
  refine sg_dup2 49 (sk_td o_X6_completeRide 32 rfl) rfl ?_
  obtain ⟨hb1, hq⟩ := sk_ifn hq
  refine sm_iald 50 (sk_td o_X6_completeRide 33 rfl) rfl rfl sz_30 hb1 ?_
  refine sg_iconst (v := (1 : Int32)) 51 (sk_td o_X6_completeRide 34 rfl) rfl (by decide) ?_
  refine sg_iadd 52 (sk_td o_X6_completeRide 35 rfl) rfl ?_
  obtain ⟨hb2, hq⟩ := sk_ifn hq
  refine sm_iast 53 (sk_td o_X6_completeRide 36 rfl) rfl rfl sz_30 hb2 ?_
  refine sg_aload_n 54 (sk_td o_X6_completeRide 37 rfl) rfl rfl ?_
  refine sm_getR (30, 0) 57 (sk_td o_X6_completeRide 38 rfl) rfl kf_X6_30 rfl rfl sz_23 rfl ?_
  refine sg_iload_n 58 (sk_td o_X6_completeRide 39 rfl) rfl rfl ?_
  exact t_X6_completeRide_58 hq hk_k2
def q_X6_completeRide_15 (d : sk_D) (v1 : Int32) (k2 : Nat) (v3 : Int32) (s1 : Int32) : Option (sk_D) :=
  if sk_bi s1 4 = true then (q_X8_within d (d.1 30 0 s1.toNatClampNeg) (0 : Int32) (3 : Int32)).bind fun x2 => if x2 = 0 then (q_X6_completeRide_43 d v1 k2) else if sk_bi v1 4 = true then if sk_bi (d.1 30 0 v1.toNatClampNeg) 4 = true then if sk_bi v1 4 = true then (q_X6_completeRide_43 (sk_wi d 25 0 v1.toNatClampNeg (v3 + (d.1 41 k2 (d.1 30 0 v1.toNatClampNeg).toNatClampNeg))) v1 k2) else none else none else none else none
set_option maxRecDepth 100000 in
set_option maxHeartbeats 4000000 in
theorem t_X6_completeRide_15 {l : Launch} {d : sk_D} {v1 : Int32} {k2 : Nat} {v3 : Int32} {s1 : Int32} {res : sk_D} (hq : q_X6_completeRide_15 d v1 k2 v3 s1 = some res) (hk_k2 : k2 < sk_cnt 39) :
    sk_G l (sk_rm 2 0 0) m_X6_completeRide sk_Ex0 (sk_Zm m_X6_completeRide none (sk_mm res)) 0 0 15 [some (.inr (.inr (some (23, 0)))), some (.inl v1), some (.inr (.inr (some (39, k2)))), some (.inl v3)] [.inl s1, .inr (.inr (some (30, 0)))] (sk_mm d) := by
  unfold q_X6_completeRide_15 at hq
  obtain ⟨hb1, hq⟩ := sk_ifn hq
  refine sm_iald 16 (sk_td o_X6_completeRide 11 rfl) rfl rfl sz_30 hb1 ?_
  refine sg_iconst (v := (0 : Int32)) 17 (sk_td o_X6_completeRide 12 rfl) rfl (by decide) ?_
  refine sg_iconst (v := (3 : Int32)) 18 (sk_td o_X6_completeRide 13 rfl) rfl (by decide) ?_
  obtain ⟨x2, hr_x2, hq⟩ := sk_bnd hq
  refine sm_callN3i 21 (s_X8_within hr_x2) (sk_td o_X6_completeRide 14 rfl) rfl ln_X6_80 rfl (sk_rok (Nat.le_of_ble_eq_true rfl) (Nat.le_of_ble_eq_true rfl) rfl rfl) (Nat.le_of_ble_eq_true rfl) ?_
  refine sg_if_eq 43 24 (sk_td o_X6_completeRide 15 rfl) (by decide) rfl (fun hc => ?_) (fun hc => ?_)
  · rw [if_pos hc] at hq
    refine sk_wk [true, true, true, false] (ls' := [some (.inr (.inr (some (23, 0)))), some (.inl v1), some (.inr (.inr (some (39, k2)))), none]) rfl ?_
    exact t_X6_completeRide_43 hq hk_k2
  · rw [if_neg hc] at hq
    refine sg_aload_n 25 (sk_td o_X6_completeRide 16 rfl) rfl rfl ?_
    refine sm_getR (25, 0) 28 (sk_td o_X6_completeRide 17 rfl) rfl kf_X6_15 rfl rfl sz_23 rfl ?_
    refine sg_iload_n 29 (sk_td o_X6_completeRide 18 rfl) rfl rfl ?_
    refine sg_iload_n 30 (sk_td o_X6_completeRide 19 rfl) rfl rfl ?_
    refine sg_aload_n 31 (sk_td o_X6_completeRide 20 rfl) rfl rfl ?_
    refine sm_getR (41, k2) 34 (sk_td o_X6_completeRide 21 rfl) rfl kf_X6_100 rfl rfl hk_k2 rfl ?_
    refine sg_aload_n 35 (sk_td o_X6_completeRide 22 rfl) rfl rfl ?_
    refine sm_getR (30, 0) 38 (sk_td o_X6_completeRide 23 rfl) rfl kf_X6_30 rfl rfl sz_23 rfl ?_
    refine sg_iload_n 39 (sk_td o_X6_completeRide 24 rfl) rfl rfl ?_
    obtain ⟨hb3, hq⟩ := sk_ifn hq
    refine sm_iald 40 (sk_td o_X6_completeRide 25 rfl) rfl rfl sz_30 hb3 ?_
    obtain ⟨hb4, hq⟩ := sk_ifn hq
    refine sm_iald 41 (sk_td o_X6_completeRide 26 rfl) rfl rfl hk_k2 hb4 ?_
    refine sg_iadd 42 (sk_td o_X6_completeRide 27 rfl) rfl ?_
    obtain ⟨hb5, hq⟩ := sk_ifn hq
    refine sm_iast 43 (sk_td o_X6_completeRide 28 rfl) rfl rfl sz_25 hb5 ?_
    refine sk_wk [true, true, true, false] (ls' := [some (.inr (.inr (some (23, 0)))), some (.inl v1), some (.inr (.inr (some (39, k2)))), none]) rfl ?_
    exact t_X6_completeRide_43 hq hk_k2
def q_X6_completeRide_0 (d : sk_D) (v1 : Int32) (k2 : Nat) (v3 : Int32) : Option (sk_D) :=
  if sk_bi v1 4 = true then if sk_bi v1 4 = true then (q_X6_completeRide_15 (sk_wi d 27 0 v1.toNatClampNeg ((d.1 27 0 v1.toNatClampNeg) + (1 : Int32))) v1 k2 v3 v1) else none else none
set_option maxRecDepth 100000 in
set_option maxHeartbeats 4000000 in
theorem t_X6_completeRide_0 {l : Launch} {d : sk_D} {v1 : Int32} {k2 : Nat} {v3 : Int32} {res : sk_D} (hq : q_X6_completeRide_0 d v1 k2 v3 = some res) (hk_k2 : k2 < sk_cnt 39) :
    sk_G l (sk_rm 2 0 0) m_X6_completeRide sk_Ex0 (sk_Zm m_X6_completeRide none (sk_mm res)) 0 0 0 [some (.inr (.inr (some (23, 0)))), some (.inl v1), some (.inr (.inr (some (39, k2)))), some (.inl v3)] [] (sk_mm d) := by
  unfold q_X6_completeRide_0 at hq
  refine sg_aload_n 1 (sk_td o_X6_completeRide 0 rfl) rfl rfl ?_
  refine sm_getR (27, 0) 4 (sk_td o_X6_completeRide 1 rfl) rfl kf_X6_21 rfl rfl sz_23 rfl ?_
  refine sg_iload_n 5 (sk_td o_X6_completeRide 2 rfl) rfl rfl ?_
  refine sg_dup2 6 (sk_td o_X6_completeRide 3 rfl) rfl ?_
  obtain ⟨hb1, hq⟩ := sk_ifn hq
  refine sm_iald 7 (sk_td o_X6_completeRide 4 rfl) rfl rfl sz_27 hb1 ?_
  refine sg_iconst (v := (1 : Int32)) 8 (sk_td o_X6_completeRide 5 rfl) rfl (by decide) ?_
  refine sg_iadd 9 (sk_td o_X6_completeRide 6 rfl) rfl ?_
  obtain ⟨hb2, hq⟩ := sk_ifn hq
  refine sm_iast 10 (sk_td o_X6_completeRide 7 rfl) rfl rfl sz_27 hb2 ?_
  refine sg_aload_n 11 (sk_td o_X6_completeRide 8 rfl) rfl rfl ?_
  refine sm_getR (30, 0) 14 (sk_td o_X6_completeRide 9 rfl) rfl kf_X6_30 rfl rfl sz_23 rfl ?_
  refine sg_iload_n 15 (sk_td o_X6_completeRide 10 rfl) rfl rfl ?_
  exact t_X6_completeRide_15 hq hk_k2
def q_X6_completeRide (d : sk_D) (v1 : Int32) (k2 : Nat) (v3 : Int32) : Option (sk_D) := q_X6_completeRide_0 d v1 k2 v3 
theorem s_X6_completeRide {l : Launch} {d : sk_D} {v1 : Int32} {k2 : Nat} {v3 : Int32} {res : sk_D} (hq : q_X6_completeRide d v1 k2 v3 = some res) (hk_k2 : k2 < sk_cnt 39) : sk_M l 2 m_X6_completeRide [.inr (.inr (some (23, 0))), .inl v1, .inr (.inr (some (39, k2))), .inl v3] (sk_mm d) none (sk_mm res) :=
  sk_enter (by decide) (fun _ => Nat.le_of_ble_eq_true rfl) (Nat.le_of_ble_eq_true rfl) (t_X6_completeRide_0 hq hk_k2 )
def q_X6_depart_126 (rec9 : (sk_D × Int32 × Nat × Int32 × Int32 × Int32) → Option (sk_D)) (d : sk_D) (v1 : Int32) (k2 : Nat) (v4 : Int32) (v5 : Int32) (v6 : Int32) : Option (sk_D) :=
  (rec9 (d, v1, k2, v4, v5, (v6 + (1 : Int32))))
set_option maxRecDepth 100000 in
set_option maxHeartbeats 4000000 in
theorem t_X6_depart_126 {l : Launch} {rec9 : (sk_D × Int32 × Nat × Int32 × Int32 × Int32) → Option (sk_D)} {d : sk_D} {v1 : Int32} {k2 : Nat} {v4 : Int32} {v5 : Int32} {v6 : Int32} (hrec9 : ∀ (a : (sk_D × Int32 × Nat × Int32 × Int32 × Int32)) (res : sk_D), rec9 a = some res → a.2.2.1 < sk_cnt 43 → sk_G l (sk_rm 3 0 0) m_X6_depart sk_Ex0 (sk_Zm m_X6_depart none (sk_mm res)) 0 0 9 [some (.inr (.inr (some (23, 0)))), some (.inl a.2.1), some (.inr (.inr (some (43, a.2.2.1)))), some (.inr (.inr (some (2, 0)))), some (.inl a.2.2.2.1), some (.inl a.2.2.2.2.1), some (.inl a.2.2.2.2.2), none, none] [] (sk_mm a.1)) {res : sk_D} (hq : q_X6_depart_126 rec9 d v1 k2 v4 v5 v6 = some res) (hk_k2 : k2 < sk_cnt 43) :
    sk_G l (sk_rm 3 0 0) m_X6_depart sk_Ex0 (sk_Zm m_X6_depart none (sk_mm res)) 0 0 126 [some (.inr (.inr (some (23, 0)))), some (.inl v1), some (.inr (.inr (some (43, k2)))), some (.inr (.inr (some (2, 0)))), some (.inl v4), some (.inl v5), some (.inl v6), none, none] [] (sk_mm d) := by
  unfold q_X6_depart_126 at hq
  refine sg_iinc (v6 + (1 : Int32)) 129 [some (.inr (.inr (some (23, 0)))), some (.inl v1), some (.inr (.inr (some (43, k2)))), some (.inr (.inr (some (2, 0)))), some (.inl v4), some (.inl v5), some (.inl (v6 + (1 : Int32))), none, none] (sk_td o_X6_depart 73 rfl) rfl rfl rfl rfl (Nat.le_of_ble_eq_true rfl) rfl ?_
  refine sg_goto 9 (sk_td o_X6_depart 74 rfl) (by decide) ?_
  exact hrec9 (d, v1, k2, v4, v5, (v6 + (1 : Int32))) _ hq hk_k2
def q_X6_depart_100 (rec9 : (sk_D × Int32 × Nat × Int32 × Int32 × Int32) → Option (sk_D)) (d : sk_D) (v1 : Int32) (k2 : Nat) (v4 : Int32) (v5 : Int32) (v6 : Int32) (v7 : Int32) (s1 : Int32) : Option (sk_D) :=
  if sk_bi s1 4 = true then if (d.1 31 0 s1.toNatClampNeg) = 0 then (q_X6_leaveQueue d v1).bind fun x2 => if sk_bi v7 4 = true then (q_X6_completeRide x2 v7 v7.toNatClampNeg (v4 + (x2.1 43 k2 2))).bind fun x4 => (q_X6_depart_126 rec9 x4 v1 k2 v4 v5 v6) else none else (q_X6_depart_126 rec9 d v1 k2 v4 v5 v6) else none
set_option maxRecDepth 100000 in
set_option maxHeartbeats 4000000 in
theorem t_X6_depart_100 {l : Launch} {rec9 : (sk_D × Int32 × Nat × Int32 × Int32 × Int32) → Option (sk_D)} {d : sk_D} {v1 : Int32} {k2 : Nat} {v4 : Int32} {v5 : Int32} {v6 : Int32} {v7 : Int32} {s1 : Int32} (hrec9 : ∀ (a : (sk_D × Int32 × Nat × Int32 × Int32 × Int32)) (res : sk_D), rec9 a = some res → a.2.2.1 < sk_cnt 43 → sk_G l (sk_rm 3 0 0) m_X6_depart sk_Ex0 (sk_Zm m_X6_depart none (sk_mm res)) 0 0 9 [some (.inr (.inr (some (23, 0)))), some (.inl a.2.1), some (.inr (.inr (some (43, a.2.2.1)))), some (.inr (.inr (some (2, 0)))), some (.inl a.2.2.2.1), some (.inl a.2.2.2.2.1), some (.inl a.2.2.2.2.2), none, none] [] (sk_mm a.1)) {res : sk_D} (hq : q_X6_depart_100 rec9 d v1 k2 v4 v5 v6 v7 s1 = some res) (hk_k2 : k2 < sk_cnt 43) :
    sk_G l (sk_rm 3 0 0) m_X6_depart sk_Ex0 (sk_Zm m_X6_depart none (sk_mm res)) 0 0 100 [some (.inr (.inr (some (23, 0)))), some (.inl v1), some (.inr (.inr (some (43, k2)))), some (.inr (.inr (some (2, 0)))), some (.inl v4), some (.inl v5), some (.inl v6), some (.inl v7), none] [.inl s1, .inr (.inr (some (31, 0)))] (sk_mm d) := by
  unfold q_X6_depart_100 at hq
  obtain ⟨hb1, hq⟩ := sk_ifn hq
  refine sm_iald 101 (sk_td o_X6_depart 58 rfl) rfl rfl sz_31 hb1 ?_
  refine sg_if_ne 126 104 (sk_td o_X6_depart 59 rfl) (by decide) rfl (fun hc => ?_) (fun hc => ?_)
  · rw [if_neg hc] at hq
    refine sk_wk [true, true, true, true, true, true, true, false, true] (ls' := [some (.inr (.inr (some (23, 0)))), some (.inl v1), some (.inr (.inr (some (43, k2)))), some (.inr (.inr (some (2, 0)))), some (.inl v4), some (.inl v5), some (.inl v6), none, none]) rfl ?_
    exact t_X6_depart_126 hrec9 hq hk_k2
  · rw [if_pos hc] at hq
    refine sg_aload_n 105 (sk_td o_X6_depart 60 rfl) rfl rfl ?_
    refine sg_iload_n 106 (sk_td o_X6_depart 61 rfl) rfl rfl ?_
    obtain ⟨x2, hr_x2, hq⟩ := sk_bnd hq
    refine sm_callV1v 109 (s_X6_leaveQueue hr_x2) (sk_td o_X6_depart 62 rfl) rfl lv_X6_90 rfl rfl rfl sz_23 (sk_rok (Nat.le_of_ble_eq_true rfl) (Nat.le_of_ble_eq_true rfl) rfl rfl) (Nat.le_of_ble_eq_true rfl) ?_
    refine sg_aload_n 110 (sk_td o_X6_depart 63 rfl) rfl rfl ?_
    refine sg_iload 112 (sk_td o_X6_depart 64 rfl) rfl rfl ?_
    refine sg_aload_n 113 (sk_td o_X6_depart 65 rfl) rfl rfl ?_
    refine sg_iload 115 (sk_td o_X6_depart 66 rfl) rfl rfl ?_
    obtain ⟨hb3, hq⟩ := sk_ifn hq
    refine sm_aald (39, v7.toNatClampNeg) 116 (sk_td o_X6_depart 67 rfl) rfl rfl (by decide) sz_2 hb3 (sr_2 (sk_bi.lt hb3)) ?_
    refine sg_iload 118 (sk_td o_X6_depart 68 rfl) rfl rfl ?_
    refine sg_aload_n 119 (sk_td o_X6_depart 69 rfl) rfl rfl ?_
    refine sm_getI 122 (sk_td o_X6_depart 70 rfl) rfl kf_X6_93 rfl rfl hk_k2 ?_
    refine sg_iadd 123 (sk_td o_X6_depart 71 rfl) rfl ?_
    obtain ⟨x4, hr_x4, hq⟩ := sk_bnd hq
    refine sm_callV3v 126 (s_X6_completeRide hr_x4 (sk_bi.lt hb3)) (sk_td o_X6_depart 72 rfl) rfl lv_X6_96 rfl rfl rfl sz_23 (sk_rok (Nat.le_of_ble_eq_true rfl) (Nat.le_of_ble_eq_true rfl) rfl rfl) (Nat.le_of_ble_eq_true rfl) ?_
    refine sk_wk [true, true, true, true, true, true, true, false, true] (ls' := [some (.inr (.inr (some (23, 0)))), some (.inl v1), some (.inr (.inr (some (43, k2)))), some (.inr (.inr (some (2, 0)))), some (.inl v4), some (.inl v5), some (.inl v6), none, none]) rfl ?_
    exact t_X6_depart_126 hrec9 hq hk_k2
def q_X6_depart_89 (rec9 : (sk_D × Int32 × Nat × Int32 × Int32 × Int32) → Option (sk_D)) (d : sk_D) (v1 : Int32) (k2 : Nat) (v4 : Int32) (v5 : Int32) (v6 : Int32) (v7 : Int32) (v8 : Int32) (s1 : Int32) (s3 : Int32) : Option (sk_D) :=
  if sk_bi s3 3 = true then if sk_bi s1 3 = true then (q_X6_depart_100 rec9 (sk_wi d 29 0 s1.toNatClampNeg ((d.1 29 0 s3.toNatClampNeg) + v8)) v1 k2 v4 v5 v6 v7 v7) else none else none
set_option maxRecDepth 100000 in
set_option maxHeartbeats 4000000 in
theorem t_X6_depart_89 {l : Launch} {rec9 : (sk_D × Int32 × Nat × Int32 × Int32 × Int32) → Option (sk_D)} {d : sk_D} {v1 : Int32} {k2 : Nat} {v4 : Int32} {v5 : Int32} {v6 : Int32} {v7 : Int32} {v8 : Int32} {s1 : Int32} {s3 : Int32} (hrec9 : ∀ (a : (sk_D × Int32 × Nat × Int32 × Int32 × Int32)) (res : sk_D), rec9 a = some res → a.2.2.1 < sk_cnt 43 → sk_G l (sk_rm 3 0 0) m_X6_depart sk_Ex0 (sk_Zm m_X6_depart none (sk_mm res)) 0 0 9 [some (.inr (.inr (some (23, 0)))), some (.inl a.2.1), some (.inr (.inr (some (43, a.2.2.1)))), some (.inr (.inr (some (2, 0)))), some (.inl a.2.2.2.1), some (.inl a.2.2.2.2.1), some (.inl a.2.2.2.2.2), none, none] [] (sk_mm a.1)) {res : sk_D} (hq : q_X6_depart_89 rec9 d v1 k2 v4 v5 v6 v7 v8 s1 s3 = some res) (hk_k2 : k2 < sk_cnt 43) :
    sk_G l (sk_rm 3 0 0) m_X6_depart sk_Ex0 (sk_Zm m_X6_depart none (sk_mm res)) 0 0 89 [some (.inr (.inr (some (23, 0)))), some (.inl v1), some (.inr (.inr (some (43, k2)))), some (.inr (.inr (some (2, 0)))), some (.inl v4), some (.inl v5), some (.inl v6), some (.inl v7), some (.inl v8)] [.inl s3, .inr (.inr (some (29, 0))), .inl s1, .inr (.inr (some (29, 0)))] (sk_mm d) := by
  unfold q_X6_depart_89 at hq
  obtain ⟨hb1, hq⟩ := sk_ifn hq
  refine sm_iald 90 (sk_td o_X6_depart 51 rfl) rfl rfl sz_29 hb1 ?_
  refine sg_iload 92 (sk_td o_X6_depart 52 rfl) rfl rfl ?_
  refine sg_iadd 93 (sk_td o_X6_depart 53 rfl) rfl ?_
  obtain ⟨hb2, hq⟩ := sk_ifn hq
  refine sm_iast 94 (sk_td o_X6_depart 54 rfl) rfl rfl sz_29 hb2 ?_
  refine sg_aload_n 95 (sk_td o_X6_depart 55 rfl) rfl rfl ?_
  refine sm_getR (31, 0) 98 (sk_td o_X6_depart 56 rfl) rfl kf_X6_33 rfl rfl sz_23 rfl ?_
  refine sg_iload 100 (sk_td o_X6_depart 57 rfl) rfl rfl ?_
  refine sk_wk [true, true, true, true, true, true, true, true, false] (ls' := [some (.inr (.inr (some (23, 0)))), some (.inl v1), some (.inr (.inr (some (43, k2)))), some (.inr (.inr (some (2, 0)))), some (.inl v4), some (.inl v5), some (.inl v6), some (.inl v7), none]) rfl ?_
  exact t_X6_depart_100 hrec9 hq hk_k2
def q_X6_depart_9 (rec9 : (sk_D × Int32 × Nat × Int32 × Int32 × Int32) → Option (sk_D)) (d : sk_D) (v1 : Int32) (k2 : Nat) (v4 : Int32) (v5 : Int32) (v6 : Int32) : Option (sk_D) :=
  if (4 : Int32) ≤ v6 then some d else if v5 ≤ 0 then some d else if sk_bi v1 3 = true then if (d.1 34 0 v1.toNatClampNeg) ≤ 0 then some d else if sk_bi v1 3 = true then if sk_bi (0 : Int32) 4 = true then (q_X8_within d (d.1 33 v1.toNatClampNeg (0 : Int32).toNatClampNeg) (0 : Int32) (3 : Int32)).bind fun x4 => if x4 = 0 then some d else if sk_bi (d.1 33 v1.toNatClampNeg (0 : Int32).toNatClampNeg) 4 = true then if sk_bi (d.1 33 v1.toNatClampNeg (0 : Int32).toNatClampNeg) 4 = true then if sk_bi (d.1 33 v1.toNatClampNeg (0 : Int32).toNatClampNeg) 4 = true then (q_X6_depart_89 rec9 (sk_wi d 31 0 (d.1 33 v1.toNatClampNeg (0 : Int32).toNatClampNeg).toNatClampNeg ((d.1 31 0 (d.1 33 v1.toNatClampNeg (0 : Int32).toNatClampNeg).toNatClampNeg) - (if (d.1 31 0 (d.1 33 v1.toNatClampNeg (0 : Int32).toNatClampNeg).toNatClampNeg) < v5 then (d.1 31 0 (d.1 33 v1.toNatClampNeg (0 : Int32).toNatClampNeg).toNatClampNeg) else v5))) v1 k2 v4 (v5 - (if (d.1 31 0 (d.1 33 v1.toNatClampNeg (0 : Int32).toNatClampNeg).toNatClampNeg) < v5 then (d.1 31 0 (d.1 33 v1.toNatClampNeg (0 : Int32).toNatClampNeg).toNatClampNeg) else v5)) v6 (d.1 33 v1.toNatClampNeg (0 : Int32).toNatClampNeg) (if (d.1 31 0 (d.1 33 v1.toNatClampNeg (0 : Int32).toNatClampNeg).toNatClampNeg) < v5 then (d.1 31 0 (d.1 33 v1.toNatClampNeg (0 : Int32).toNatClampNeg).toNatClampNeg) else v5) v1 v1) else none else none else none else none else none else none
set_option maxRecDepth 100000 in
set_option maxHeartbeats 4000000 in
theorem t_X6_depart_9 {l : Launch} {rec9 : (sk_D × Int32 × Nat × Int32 × Int32 × Int32) → Option (sk_D)} {d : sk_D} {v1 : Int32} {k2 : Nat} {v4 : Int32} {v5 : Int32} {v6 : Int32} (hrec9 : ∀ (a : (sk_D × Int32 × Nat × Int32 × Int32 × Int32)) (res : sk_D), rec9 a = some res → a.2.2.1 < sk_cnt 43 → sk_G l (sk_rm 3 0 0) m_X6_depart sk_Ex0 (sk_Zm m_X6_depart none (sk_mm res)) 0 0 9 [some (.inr (.inr (some (23, 0)))), some (.inl a.2.1), some (.inr (.inr (some (43, a.2.2.1)))), some (.inr (.inr (some (2, 0)))), some (.inl a.2.2.2.1), some (.inl a.2.2.2.2.1), some (.inl a.2.2.2.2.2), none, none] [] (sk_mm a.1)) {res : sk_D} (hq : q_X6_depart_9 rec9 d v1 k2 v4 v5 v6 = some res) (hk_k2 : k2 < sk_cnt 43) :
    sk_G l (sk_rm 3 0 0) m_X6_depart sk_Ex0 (sk_Zm m_X6_depart none (sk_mm res)) 0 0 9 [some (.inr (.inr (some (23, 0)))), some (.inl v1), some (.inr (.inr (some (43, k2)))), some (.inr (.inr (some (2, 0)))), some (.inl v4), some (.inl v5), some (.inl v6), none, none] [] (sk_mm d) := by
  unfold q_X6_depart_9 at hq
  refine sg_iload 11 (sk_td o_X6_depart 5 rfl) rfl rfl ?_
  refine sg_iconst (v := (4 : Int32)) 12 (sk_td o_X6_depart 6 rfl) rfl (by decide) ?_
  refine sg_ic_ge 132 15 (sk_td o_X6_depart 7 rfl) (by decide) rfl (fun hc => ?_) (fun hc => ?_)
  · rw [if_pos hc] at hq
    obtain rfl := Option.some.inj hq
    exact sg_vret (sk_td o_X6_depart 75 rfl) rfl
  · rw [if_neg hc] at hq
    refine sg_iload 17 (sk_td o_X6_depart 8 rfl) rfl rfl ?_
    refine sg_if_le 132 20 (sk_td o_X6_depart 9 rfl) (by decide) rfl (fun hc => ?_) (fun hc => ?_)
    · rw [if_pos hc] at hq
      obtain rfl := Option.some.inj hq
      exact sg_vret (sk_td o_X6_depart 75 rfl) rfl
    · rw [if_neg hc] at hq
      refine sg_aload_n 21 (sk_td o_X6_depart 10 rfl) rfl rfl ?_
      refine sm_getR (34, 0) 24 (sk_td o_X6_depart 11 rfl) rfl kf_X6_41 rfl rfl sz_23 rfl ?_
      refine sg_iload_n 25 (sk_td o_X6_depart 12 rfl) rfl rfl ?_
      obtain ⟨hb1, hq⟩ := sk_ifn hq
      refine sm_iald 26 (sk_td o_X6_depart 13 rfl) rfl rfl sz_34 hb1 ?_
      refine sg_if_le 132 29 (sk_td o_X6_depart 14 rfl) (by decide) rfl (fun hc => ?_) (fun hc => ?_)
      · rw [if_pos hc] at hq
        obtain rfl := Option.some.inj hq
        exact sg_vret (sk_td o_X6_depart 75 rfl) rfl
      · rw [if_neg hc] at hq
        refine sg_aload_n 30 (sk_td o_X6_depart 15 rfl) rfl rfl ?_
        refine sm_getR (32, 0) 33 (sk_td o_X6_depart 16 rfl) rfl kf_X6_38 rfl rfl sz_23 rfl ?_
        refine sg_iload_n 34 (sk_td o_X6_depart 17 rfl) rfl rfl ?_
        obtain ⟨hb2, hq⟩ := sk_ifn hq
        refine sm_aald (33, v1.toNatClampNeg) 35 (sk_td o_X6_depart 18 rfl) rfl rfl (by decide) sz_32 hb2 (sr_32 (sk_bi.lt hb2)) ?_
        refine sg_iconst (v := (0 : Int32)) 36 (sk_td o_X6_depart 19 rfl) rfl (by decide) ?_
        obtain ⟨hb3, hq⟩ := sk_ifn hq
        refine sm_iald 37 (sk_td o_X6_depart 20 rfl) rfl rfl (sk_bi.lt hb2) hb3 ?_
        refine sg_istore 39 [some (.inr (.inr (some (23, 0)))), some (.inl v1), some (.inr (.inr (some (43, k2)))), some (.inr (.inr (some (2, 0)))), some (.inl v4), some (.inl v5), some (.inl v6), some (.inl (d.1 33 v1.toNatClampNeg (0 : Int32).toNatClampNeg)), none] (sk_td o_X6_depart 21 rfl) rfl rfl (Nat.le_of_ble_eq_true rfl) rfl ?_
        refine sg_iload 41 (sk_td o_X6_depart 22 rfl) rfl rfl ?_
        refine sg_iconst (v := (0 : Int32)) 42 (sk_td o_X6_depart 23 rfl) rfl (by decide) ?_
        refine sg_iconst (v := (3 : Int32)) 43 (sk_td o_X6_depart 24 rfl) rfl (by decide) ?_
        obtain ⟨x4, hr_x4, hq⟩ := sk_bnd hq
        refine sm_callN3i 46 (s_X8_within hr_x4) (sk_td o_X6_depart 25 rfl) rfl ln_X6_80 rfl (sk_rok (Nat.le_of_ble_eq_true rfl) (Nat.le_of_ble_eq_true rfl) rfl rfl) (Nat.le_of_ble_eq_true rfl) ?_
        refine sg_if_ne 50 49 (sk_td o_X6_depart 26 rfl) (by decide) rfl (fun hc => ?_) (fun hc => ?_)
        · rw [if_neg hc] at hq
          refine sg_iload 52 (sk_td o_X6_depart 28 rfl) rfl rfl ?_
          refine sg_aload_n 53 (sk_td o_X6_depart 29 rfl) rfl rfl ?_
          refine sm_getR (31, 0) 56 (sk_td o_X6_depart 30 rfl) rfl kf_X6_33 rfl rfl sz_23 rfl ?_
          refine sg_iload 58 (sk_td o_X6_depart 31 rfl) rfl rfl ?_
          obtain ⟨hb5, hq⟩ := sk_ifn hq
          refine sm_iald 59 (sk_td o_X6_depart 32 rfl) rfl rfl sz_31 hb5 ?_
          refine sm_min 62 (sk_td o_X6_depart 33 rfl) rfl kM_X6_56 (Nat.le_of_ble_eq_true rfl) (Nat.le_of_ble_eq_true rfl) (Nat.le_of_ble_eq_true rfl) ?_
          refine sg_istore 64 [some (.inr (.inr (some (23, 0)))), some (.inl v1), some (.inr (.inr (some (43, k2)))), some (.inr (.inr (some (2, 0)))), some (.inl v4), some (.inl v5), some (.inl v6), some (.inl (d.1 33 v1.toNatClampNeg (0 : Int32).toNatClampNeg)), some (.inl (if (d.1 31 0 (d.1 33 v1.toNatClampNeg (0 : Int32).toNatClampNeg).toNatClampNeg) < v5 then (d.1 31 0 (d.1 33 v1.toNatClampNeg (0 : Int32).toNatClampNeg).toNatClampNeg) else v5))] (sk_td o_X6_depart 34 rfl) rfl rfl (Nat.le_of_ble_eq_true rfl) rfl ?_
          refine sg_aload_n 65 (sk_td o_X6_depart 35 rfl) rfl rfl ?_
          refine sm_getR (31, 0) 68 (sk_td o_X6_depart 36 rfl) rfl kf_X6_33 rfl rfl sz_23 rfl ?_
          refine sg_iload 70 (sk_td o_X6_depart 37 rfl) rfl rfl ?_
          refine sg_dup2 71 (sk_td o_X6_depart 38 rfl) rfl ?_
          obtain ⟨hb6, hq⟩ := sk_ifn hq
          refine sm_iald 72 (sk_td o_X6_depart 39 rfl) rfl rfl sz_31 hb6 ?_
          refine sg_iload 74 (sk_td o_X6_depart 40 rfl) rfl rfl ?_
          refine sg_isub 75 (sk_td o_X6_depart 41 rfl) rfl ?_
          obtain ⟨hb7, hq⟩ := sk_ifn hq
          refine sm_iast 76 (sk_td o_X6_depart 42 rfl) rfl rfl sz_31 hb7 ?_
          refine sg_iload 78 (sk_td o_X6_depart 43 rfl) rfl rfl ?_
          refine sg_iload 80 (sk_td o_X6_depart 44 rfl) rfl rfl ?_
          refine sg_isub 81 (sk_td o_X6_depart 45 rfl) rfl ?_
          refine sg_istore 83 [some (.inr (.inr (some (23, 0)))), some (.inl v1), some (.inr (.inr (some (43, k2)))), some (.inr (.inr (some (2, 0)))), some (.inl v4), some (.inl (v5 - (if (d.1 31 0 (d.1 33 v1.toNatClampNeg (0 : Int32).toNatClampNeg).toNatClampNeg) < v5 then (d.1 31 0 (d.1 33 v1.toNatClampNeg (0 : Int32).toNatClampNeg).toNatClampNeg) else v5))), some (.inl v6), some (.inl (d.1 33 v1.toNatClampNeg (0 : Int32).toNatClampNeg)), some (.inl (if (d.1 31 0 (d.1 33 v1.toNatClampNeg (0 : Int32).toNatClampNeg).toNatClampNeg) < v5 then (d.1 31 0 (d.1 33 v1.toNatClampNeg (0 : Int32).toNatClampNeg).toNatClampNeg) else v5))] (sk_td o_X6_depart 46 rfl) rfl rfl (Nat.le_of_ble_eq_true rfl) rfl ?_
          refine sg_aload_n 84 (sk_td o_X6_depart 47 rfl) rfl rfl ?_
          refine sm_getR (29, 0) 87 (sk_td o_X6_depart 48 rfl) rfl kf_X6_27 rfl rfl sz_23 rfl ?_
          refine sg_iload_n 88 (sk_td o_X6_depart 49 rfl) rfl rfl ?_
          refine sg_dup2 89 (sk_td o_X6_depart 50 rfl) rfl ?_
          exact t_X6_depart_89 hrec9 hq hk_k2
        · rw [if_pos hc] at hq
          obtain rfl := Option.some.inj hq
          exact sg_vret (sk_td o_X6_depart 27 rfl) rfl
def l_X6_depart_9 (fl : Nat) (a : (sk_D × Int32 × Nat × Int32 × Int32 × Int32)) : Option (sk_D) := sk_it (fun rec9 a => q_X6_depart_9 rec9 a.1 a.2.1 a.2.2.1 a.2.2.2.1 a.2.2.2.2.1 a.2.2.2.2.2) fl a
theorem lt_X6_depart_9 {l : Launch} : ∀ (fl : Nat) (a : (sk_D × Int32 × Nat × Int32 × Int32 × Int32)) (res : sk_D), l_X6_depart_9 fl a = some res → a.2.2.1 < sk_cnt 43 → sk_G l (sk_rm 3 0 0) m_X6_depart sk_Ex0 (sk_Zm m_X6_depart none (sk_mm res)) 0 0 9 [some (.inr (.inr (some (23, 0)))), some (.inl a.2.1), some (.inr (.inr (some (43, a.2.2.1)))), some (.inr (.inr (some (2, 0)))), some (.inl a.2.2.2.1), some (.inl a.2.2.2.2.1), some (.inl a.2.2.2.2.2), none, none] [] (sk_mm a.1) :=
  sk_it_ind (P := fun (a : (sk_D × Int32 × Nat × Int32 × Int32 × Int32)) (res : sk_D) => a.2.2.1 < sk_cnt 43 → sk_G l (sk_rm 3 0 0) m_X6_depart sk_Ex0 (sk_Zm m_X6_depart none (sk_mm res)) 0 0 9 [some (.inr (.inr (some (23, 0)))), some (.inl a.2.1), some (.inr (.inr (some (43, a.2.2.1)))), some (.inr (.inr (some (2, 0)))), some (.inl a.2.2.2.1), some (.inl a.2.2.2.2.1), some (.inl a.2.2.2.2.2), none, none] [] (sk_mm a.1)) (fun rec9 hrec9 a res hq k0_ => t_X6_depart_9 hrec9 hq k0_)
def q_X6_depart_0 (d : sk_D) (v1 : Int32) (k2 : Nat) (v4 : Int32) : Option (sk_D) :=
  (l_X6_depart_9 sk_fu (d, v1, k2, v4, (d.1 43 k2 0), (0 : Int32)))
set_option maxRecDepth 100000 in
set_option maxHeartbeats 4000000 in
theorem t_X6_depart_0 {l : Launch} {d : sk_D} {v1 : Int32} {k2 : Nat} {v4 : Int32} {res : sk_D} (hq : q_X6_depart_0 d v1 k2 v4 = some res) (hk_k2 : k2 < sk_cnt 43) :
    sk_G l (sk_rm 3 0 0) m_X6_depart sk_Ex0 (sk_Zm m_X6_depart none (sk_mm res)) 0 0 0 [some (.inr (.inr (some (23, 0)))), some (.inl v1), some (.inr (.inr (some (43, k2)))), some (.inr (.inr (some (2, 0)))), some (.inl v4), none, none, none, none] [] (sk_mm d) := by
  unfold q_X6_depart_0 at hq
  refine sg_aload_n 1 (sk_td o_X6_depart 0 rfl) rfl rfl ?_
  refine sm_getI 4 (sk_td o_X6_depart 1 rfl) rfl kf_X6_87 rfl rfl hk_k2 ?_
  refine sg_istore 6 [some (.inr (.inr (some (23, 0)))), some (.inl v1), some (.inr (.inr (some (43, k2)))), some (.inr (.inr (some (2, 0)))), some (.inl v4), some (.inl (d.1 43 k2 0)), none, none, none] (sk_td o_X6_depart 2 rfl) rfl rfl (Nat.le_of_ble_eq_true rfl) rfl ?_
  refine sg_iconst (v := (0 : Int32)) 7 (sk_td o_X6_depart 3 rfl) rfl (by decide) ?_
  refine sg_istore 9 [some (.inr (.inr (some (23, 0)))), some (.inl v1), some (.inr (.inr (some (43, k2)))), some (.inr (.inr (some (2, 0)))), some (.inl v4), some (.inl (d.1 43 k2 0)), some (.inl (0 : Int32)), none, none] (sk_td o_X6_depart 4 rfl) rfl rfl (Nat.le_of_ble_eq_true rfl) rfl ?_
  exact lt_X6_depart_9 sk_fu (d, v1, k2, v4, (d.1 43 k2 0), (0 : Int32)) _ hq hk_k2
def q_X6_depart (d : sk_D) (v1 : Int32) (k2 : Nat) (v4 : Int32) : Option (sk_D) := q_X6_depart_0 d v1 k2 v4 
theorem s_X6_depart {l : Launch} {d : sk_D} {v1 : Int32} {k2 : Nat} {v4 : Int32} {res : sk_D} (hq : q_X6_depart d v1 k2 v4 = some res) (hk_k2 : k2 < sk_cnt 43) : sk_M l 3 m_X6_depart [.inr (.inr (some (23, 0))), .inl v1, .inr (.inr (some (43, k2))), .inr (.inr (some (2, 0))), .inl v4] (sk_mm d) none (sk_mm res) :=
  sk_enter (by decide) (fun _ => Nat.le_of_ble_eq_true rfl) (Nat.le_of_ble_eq_true rfl) (t_X6_depart_0 hq hk_k2 )
def q_X6_waitAMinute_72 (d : sk_D) (v1 : Int32) (v2 : Int32) : Option (sk_D) :=
  if sk_bi v1 3 = true then if sk_bi v1 3 = true then some (sk_wi d 28 0 v1.toNatClampNeg (if (d.1 28 0 v1.toNatClampNeg) < v2 then v2 else (d.1 28 0 v1.toNatClampNeg))) else none else none
set_option maxRecDepth 100000 in
set_option maxHeartbeats 4000000 in
theorem t_X6_waitAMinute_72 {l : Launch} {d : sk_D} {v1 : Int32} {v2 : Int32} {res : sk_D} (hq : q_X6_waitAMinute_72 d v1 v2 = some res) :
    sk_G l (sk_rm 2 0 0) m_X6_waitAMinute sk_Ex0 (sk_Zm m_X6_waitAMinute none (sk_mm res)) 0 0 72 [some (.inr (.inr (some (23, 0)))), some (.inl v1), some (.inl v2), none, none] [] (sk_mm d) := by
  unfold q_X6_waitAMinute_72 at hq
  refine sg_aload_n 73 (sk_td o_X6_waitAMinute 45 rfl) rfl rfl ?_
  refine sm_getR (28, 0) 76 (sk_td o_X6_waitAMinute 46 rfl) rfl kf_X6_24 rfl rfl sz_23 rfl ?_
  refine sg_iload_n 77 (sk_td o_X6_waitAMinute 47 rfl) rfl rfl ?_
  refine sg_aload_n 78 (sk_td o_X6_waitAMinute 48 rfl) rfl rfl ?_
  refine sm_getR (28, 0) 81 (sk_td o_X6_waitAMinute 49 rfl) rfl kf_X6_24 rfl rfl sz_23 rfl ?_
  refine sg_iload_n 82 (sk_td o_X6_waitAMinute 50 rfl) rfl rfl ?_
  obtain ⟨hb1, hq⟩ := sk_ifn hq
  refine sm_iald 83 (sk_td o_X6_waitAMinute 51 rfl) rfl rfl sz_28 hb1 ?_
  refine sg_iload_n 84 (sk_td o_X6_waitAMinute 52 rfl) rfl rfl ?_
  refine sm_max 87 (sk_td o_X6_waitAMinute 53 rfl) rfl kM_X6_106 (Nat.le_of_ble_eq_true rfl) (Nat.le_of_ble_eq_true rfl) (Nat.le_of_ble_eq_true rfl) ?_
  obtain ⟨hb2, hq⟩ := sk_ifn hq
  refine sm_iast 88 (sk_td o_X6_waitAMinute 54 rfl) rfl rfl sz_28 hb2 ?_
  obtain rfl := Option.some.inj hq
  exact sg_vret (sk_td o_X6_waitAMinute 55 rfl) rfl
def q_X6_waitAMinute_66 (rec4 : (sk_D × Int32 × Int32 × Int32) → Option (sk_D)) (d : sk_D) (v1 : Int32) (v2 : Int32) (v3 : Int32) : Option (sk_D) :=
  (rec4 (d, v1, v2, (v3 + (1 : Int32))))
set_option maxRecDepth 100000 in
set_option maxHeartbeats 4000000 in
theorem t_X6_waitAMinute_66 {l : Launch} {rec4 : (sk_D × Int32 × Int32 × Int32) → Option (sk_D)} {d : sk_D} {v1 : Int32} {v2 : Int32} {v3 : Int32} (hrec4 : ∀ (a : (sk_D × Int32 × Int32 × Int32)) (res : sk_D), rec4 a = some res → sk_G l (sk_rm 2 0 0) m_X6_waitAMinute sk_Ex0 (sk_Zm m_X6_waitAMinute none (sk_mm res)) 0 0 4 [some (.inr (.inr (some (23, 0)))), some (.inl a.2.1), some (.inl a.2.2.1), some (.inl a.2.2.2), none] [] (sk_mm a.1)) {res : sk_D} (hq : q_X6_waitAMinute_66 rec4 d v1 v2 v3 = some res) :
    sk_G l (sk_rm 2 0 0) m_X6_waitAMinute sk_Ex0 (sk_Zm m_X6_waitAMinute none (sk_mm res)) 0 0 66 [some (.inr (.inr (some (23, 0)))), some (.inl v1), some (.inl v2), some (.inl v3), none] [] (sk_mm d) := by
  unfold q_X6_waitAMinute_66 at hq
  refine sg_iinc (v3 + (1 : Int32)) 69 [some (.inr (.inr (some (23, 0)))), some (.inl v1), some (.inl v2), some (.inl (v3 + (1 : Int32))), none] (sk_td o_X6_waitAMinute 43 rfl) rfl rfl rfl rfl (Nat.le_of_ble_eq_true rfl) rfl ?_
  refine sg_goto 4 (sk_td o_X6_waitAMinute 44 rfl) (by decide) ?_
  exact hrec4 (d, v1, v2, (v3 + (1 : Int32))) _ hq
def q_X6_waitAMinute_4 (rec4 : (sk_D × Int32 × Int32 × Int32) → Option (sk_D)) (d : sk_D) (v1 : Int32) (v2 : Int32) (v3 : Int32) : Option (sk_D) :=
  if sk_bi v1 3 = true then if (d.1 34 0 v1.toNatClampNeg) ≤ v3 then (q_X6_waitAMinute_72 d v1 v2) else if (4 : Int32) ≤ v3 then (q_X6_waitAMinute_72 d v1 v2) else if sk_bi v1 3 = true then if sk_bi v3 4 = true then (q_X8_within d (d.1 33 v1.toNatClampNeg v3.toNatClampNeg) (0 : Int32) (3 : Int32)).bind fun x4 => if x4 = 0 then (q_X6_waitAMinute_66 rec4 d v1 v2 v3) else if sk_bi (d.1 33 v1.toNatClampNeg v3.toNatClampNeg) 4 = true then if sk_bi (d.1 33 v1.toNatClampNeg v3.toNatClampNeg) 4 = true then if sk_bi (d.1 33 v1.toNatClampNeg v3.toNatClampNeg) 4 = true then if sk_bi (d.1 33 v1.toNatClampNeg v3.toNatClampNeg) 4 = true then (q_X6_waitAMinute_66 rec4 (sk_wi d 26 0 (d.1 33 v1.toNatClampNeg v3.toNatClampNeg).toNatClampNeg ((d.1 26 0 (d.1 33 v1.toNatClampNeg v3.toNatClampNeg).toNatClampNeg) + (d.1 31 0 (d.1 33 v1.toNatClampNeg v3.toNatClampNeg).toNatClampNeg))) v1 (v2 + (d.1 31 0 (d.1 33 v1.toNatClampNeg v3.toNatClampNeg).toNatClampNeg)) v3) else none else none else none else none else none else none else none
set_option maxRecDepth 100000 in
set_option maxHeartbeats 4000000 in
theorem t_X6_waitAMinute_4 {l : Launch} {rec4 : (sk_D × Int32 × Int32 × Int32) → Option (sk_D)} {d : sk_D} {v1 : Int32} {v2 : Int32} {v3 : Int32} (hrec4 : ∀ (a : (sk_D × Int32 × Int32 × Int32)) (res : sk_D), rec4 a = some res → sk_G l (sk_rm 2 0 0) m_X6_waitAMinute sk_Ex0 (sk_Zm m_X6_waitAMinute none (sk_mm res)) 0 0 4 [some (.inr (.inr (some (23, 0)))), some (.inl a.2.1), some (.inl a.2.2.1), some (.inl a.2.2.2), none] [] (sk_mm a.1)) {res : sk_D} (hq : q_X6_waitAMinute_4 rec4 d v1 v2 v3 = some res) :
    sk_G l (sk_rm 2 0 0) m_X6_waitAMinute sk_Ex0 (sk_Zm m_X6_waitAMinute none (sk_mm res)) 0 0 4 [some (.inr (.inr (some (23, 0)))), some (.inl v1), some (.inl v2), some (.inl v3), none] [] (sk_mm d) := by
  unfold q_X6_waitAMinute_4 at hq
  refine sg_iload_n 5 (sk_td o_X6_waitAMinute 4 rfl) rfl rfl ?_
  refine sg_aload_n 6 (sk_td o_X6_waitAMinute 5 rfl) rfl rfl ?_
  refine sm_getR (34, 0) 9 (sk_td o_X6_waitAMinute 6 rfl) rfl kf_X6_41 rfl rfl sz_23 rfl ?_
  refine sg_iload_n 10 (sk_td o_X6_waitAMinute 7 rfl) rfl rfl ?_
  obtain ⟨hb1, hq⟩ := sk_ifn hq
  refine sm_iald 11 (sk_td o_X6_waitAMinute 8 rfl) rfl rfl sz_34 hb1 ?_
  refine sg_ic_ge 72 14 (sk_td o_X6_waitAMinute 9 rfl) (by decide) rfl (fun hc => ?_) (fun hc => ?_)
  · rw [if_pos hc] at hq
    refine sk_wk [true, true, true, false, true] (ls' := [some (.inr (.inr (some (23, 0)))), some (.inl v1), some (.inl v2), none, none]) rfl ?_
    exact t_X6_waitAMinute_72 hq
  · rw [if_neg hc] at hq
    refine sg_iload_n 15 (sk_td o_X6_waitAMinute 10 rfl) rfl rfl ?_
    refine sg_iconst (v := (4 : Int32)) 16 (sk_td o_X6_waitAMinute 11 rfl) rfl (by decide) ?_
    refine sg_ic_ge 72 19 (sk_td o_X6_waitAMinute 12 rfl) (by decide) rfl (fun hc => ?_) (fun hc => ?_)
    · rw [if_pos hc] at hq
      refine sk_wk [true, true, true, false, true] (ls' := [some (.inr (.inr (some (23, 0)))), some (.inl v1), some (.inl v2), none, none]) rfl ?_
      exact t_X6_waitAMinute_72 hq
    · rw [if_neg hc] at hq
      refine sg_aload_n 20 (sk_td o_X6_waitAMinute 13 rfl) rfl rfl ?_
      refine sm_getR (32, 0) 23 (sk_td o_X6_waitAMinute 14 rfl) rfl kf_X6_38 rfl rfl sz_23 rfl ?_
      refine sg_iload_n 24 (sk_td o_X6_waitAMinute 15 rfl) rfl rfl ?_
      obtain ⟨hb2, hq⟩ := sk_ifn hq
      refine sm_aald (33, v1.toNatClampNeg) 25 (sk_td o_X6_waitAMinute 16 rfl) rfl rfl (by decide) sz_32 hb2 (sr_32 (sk_bi.lt hb2)) ?_
      refine sg_iload_n 26 (sk_td o_X6_waitAMinute 17 rfl) rfl rfl ?_
      obtain ⟨hb3, hq⟩ := sk_ifn hq
      refine sm_iald 27 (sk_td o_X6_waitAMinute 18 rfl) rfl rfl (sk_bi.lt hb2) hb3 ?_
      refine sg_istore 29 [some (.inr (.inr (some (23, 0)))), some (.inl v1), some (.inl v2), some (.inl v3), some (.inl (d.1 33 v1.toNatClampNeg v3.toNatClampNeg))] (sk_td o_X6_waitAMinute 19 rfl) rfl rfl (Nat.le_of_ble_eq_true rfl) rfl ?_
      refine sg_iload 31 (sk_td o_X6_waitAMinute 20 rfl) rfl rfl ?_
      refine sg_iconst (v := (0 : Int32)) 32 (sk_td o_X6_waitAMinute 21 rfl) rfl (by decide) ?_
      refine sg_iconst (v := (3 : Int32)) 33 (sk_td o_X6_waitAMinute 22 rfl) rfl (by decide) ?_
      obtain ⟨x4, hr_x4, hq⟩ := sk_bnd hq
      refine sm_callN3i 36 (s_X8_within hr_x4) (sk_td o_X6_waitAMinute 23 rfl) rfl ln_X6_80 rfl (sk_rok (Nat.le_of_ble_eq_true rfl) (Nat.le_of_ble_eq_true rfl) rfl rfl) (Nat.le_of_ble_eq_true rfl) ?_
      refine sg_if_eq 66 39 (sk_td o_X6_waitAMinute 24 rfl) (by decide) rfl (fun hc => ?_) (fun hc => ?_)
      · rw [if_pos hc] at hq
        refine sk_wk [true, true, true, true, false] (ls' := [some (.inr (.inr (some (23, 0)))), some (.inl v1), some (.inl v2), some (.inl v3), none]) rfl ?_
        exact t_X6_waitAMinute_66 hrec4 hq
      · rw [if_neg hc] at hq
        refine sg_iload_n 40 (sk_td o_X6_waitAMinute 25 rfl) rfl rfl ?_
        refine sg_aload_n 41 (sk_td o_X6_waitAMinute 26 rfl) rfl rfl ?_
        refine sm_getR (31, 0) 44 (sk_td o_X6_waitAMinute 27 rfl) rfl kf_X6_33 rfl rfl sz_23 rfl ?_
        refine sg_iload 46 (sk_td o_X6_waitAMinute 28 rfl) rfl rfl ?_
        obtain ⟨hb5, hq⟩ := sk_ifn hq
        refine sm_iald 47 (sk_td o_X6_waitAMinute 29 rfl) rfl rfl sz_31 hb5 ?_
        refine sg_iadd 48 (sk_td o_X6_waitAMinute 30 rfl) rfl ?_
        refine sg_istore_n 49 [some (.inr (.inr (some (23, 0)))), some (.inl v1), some (.inl (v2 + (d.1 31 0 (d.1 33 v1.toNatClampNeg v3.toNatClampNeg).toNatClampNeg))), some (.inl v3), some (.inl (d.1 33 v1.toNatClampNeg v3.toNatClampNeg))] (sk_td o_X6_waitAMinute 31 rfl) rfl rfl (Nat.le_of_ble_eq_true rfl) rfl ?_
        refine sg_aload_n 50 (sk_td o_X6_waitAMinute 32 rfl) rfl rfl ?_
        refine sm_getR (26, 0) 53 (sk_td o_X6_waitAMinute 33 rfl) rfl kf_X6_18 rfl rfl sz_23 rfl ?_
        refine sg_iload 55 (sk_td o_X6_waitAMinute 34 rfl) rfl rfl ?_
        refine sg_dup2 56 (sk_td o_X6_waitAMinute 35 rfl) rfl ?_
        obtain ⟨hb6, hq⟩ := sk_ifn hq
        refine sm_iald 57 (sk_td o_X6_waitAMinute 36 rfl) rfl rfl sz_26 hb6 ?_
        refine sg_aload_n 58 (sk_td o_X6_waitAMinute 37 rfl) rfl rfl ?_
        refine sm_getR (31, 0) 61 (sk_td o_X6_waitAMinute 38 rfl) rfl kf_X6_33 rfl rfl sz_23 rfl ?_
        refine sg_iload 63 (sk_td o_X6_waitAMinute 39 rfl) rfl rfl ?_
        obtain ⟨hb7, hq⟩ := sk_ifn hq
        refine sm_iald 64 (sk_td o_X6_waitAMinute 40 rfl) rfl rfl sz_31 hb7 ?_
        refine sg_iadd 65 (sk_td o_X6_waitAMinute 41 rfl) rfl ?_
        obtain ⟨hb8, hq⟩ := sk_ifn hq
        refine sm_iast 66 (sk_td o_X6_waitAMinute 42 rfl) rfl rfl sz_26 hb8 ?_
        refine sk_wk [true, true, true, true, false] (ls' := [some (.inr (.inr (some (23, 0)))), some (.inl v1), some (.inl (v2 + (d.1 31 0 (d.1 33 v1.toNatClampNeg v3.toNatClampNeg).toNatClampNeg))), some (.inl v3), none]) rfl ?_
        exact t_X6_waitAMinute_66 hrec4 hq
def l_X6_waitAMinute_4 (fl : Nat) (a : (sk_D × Int32 × Int32 × Int32)) : Option (sk_D) := sk_it (fun rec4 a => q_X6_waitAMinute_4 rec4 a.1 a.2.1 a.2.2.1 a.2.2.2) fl a
theorem lt_X6_waitAMinute_4 {l : Launch} : ∀ (fl : Nat) (a : (sk_D × Int32 × Int32 × Int32)) (res : sk_D), l_X6_waitAMinute_4 fl a = some res → sk_G l (sk_rm 2 0 0) m_X6_waitAMinute sk_Ex0 (sk_Zm m_X6_waitAMinute none (sk_mm res)) 0 0 4 [some (.inr (.inr (some (23, 0)))), some (.inl a.2.1), some (.inl a.2.2.1), some (.inl a.2.2.2), none] [] (sk_mm a.1) :=
  sk_it_ind (P := fun (a : (sk_D × Int32 × Int32 × Int32)) (res : sk_D) => sk_G l (sk_rm 2 0 0) m_X6_waitAMinute sk_Ex0 (sk_Zm m_X6_waitAMinute none (sk_mm res)) 0 0 4 [some (.inr (.inr (some (23, 0)))), some (.inl a.2.1), some (.inl a.2.2.1), some (.inl a.2.2.2), none] [] (sk_mm a.1)) (fun rec4 hrec4 a res hq  => t_X6_waitAMinute_4 hrec4 hq )
def q_X6_waitAMinute_0 (d : sk_D) (v1 : Int32) : Option (sk_D) :=
  (l_X6_waitAMinute_4 sk_fu (d, v1, (0 : Int32), (0 : Int32)))
set_option maxRecDepth 100000 in
set_option maxHeartbeats 4000000 in
theorem t_X6_waitAMinute_0 {l : Launch} {d : sk_D} {v1 : Int32} {res : sk_D} (hq : q_X6_waitAMinute_0 d v1 = some res) :
    sk_G l (sk_rm 2 0 0) m_X6_waitAMinute sk_Ex0 (sk_Zm m_X6_waitAMinute none (sk_mm res)) 0 0 0 [some (.inr (.inr (some (23, 0)))), some (.inl v1), none, none, none] [] (sk_mm d) := by
  unfold q_X6_waitAMinute_0 at hq
  refine sg_iconst (v := (0 : Int32)) 1 (sk_td o_X6_waitAMinute 0 rfl) rfl (by decide) ?_
  refine sg_istore_n 2 [some (.inr (.inr (some (23, 0)))), some (.inl v1), some (.inl (0 : Int32)), none, none] (sk_td o_X6_waitAMinute 1 rfl) rfl rfl (Nat.le_of_ble_eq_true rfl) rfl ?_
  refine sg_iconst (v := (0 : Int32)) 3 (sk_td o_X6_waitAMinute 2 rfl) rfl (by decide) ?_
  refine sg_istore_n 4 [some (.inr (.inr (some (23, 0)))), some (.inl v1), some (.inl (0 : Int32)), some (.inl (0 : Int32)), none] (sk_td o_X6_waitAMinute 3 rfl) rfl rfl (Nat.le_of_ble_eq_true rfl) rfl ?_
  exact lt_X6_waitAMinute_4 sk_fu (d, v1, (0 : Int32), (0 : Int32)) _ hq
def q_X6_waitAMinute (d : sk_D) (v1 : Int32) : Option (sk_D) := q_X6_waitAMinute_0 d v1 
theorem s_X6_waitAMinute {l : Launch} {d : sk_D} {v1 : Int32} {res : sk_D} (hq : q_X6_waitAMinute d v1 = some res) : sk_M l 2 m_X6_waitAMinute [.inr (.inr (some (23, 0))), .inl v1] (sk_mm d) none (sk_mm res) :=
  sk_enter (by decide) (fun _ => Nat.le_of_ble_eq_true rfl) (Nat.le_of_ble_eq_true rfl) (t_X6_waitAMinute_0 hq )
def q_X6_run_68 (rec10 : (sk_D × Int32 × Int32 × Int32) → Option (sk_D)) (rec68 : (sk_D × Int32 × Int32 × Int32 × Int32) → Option (sk_D)) (d : sk_D) (v4 : Int32) (v5 : Int32) (v6 : Int32) (v7 : Int32) : Option (sk_D) :=
  if v5 ≤ v7 then (rec10 (d, v4, v5, (v6 + (1 : Int32)))) else (q_X6_waitAMinute d v7).bind fun x1 => (rec68 (x1, v4, v5, v6, (v7 + (1 : Int32))))
set_option maxRecDepth 100000 in
set_option maxHeartbeats 4000000 in
theorem t_X6_run_68 {l : Launch} {rec10 : (sk_D × Int32 × Int32 × Int32) → Option (sk_D)} {rec68 : (sk_D × Int32 × Int32 × Int32 × Int32) → Option (sk_D)} {d : sk_D} {v4 : Int32} {v5 : Int32} {v6 : Int32} {v7 : Int32} (hrec10 : ∀ (a : (sk_D × Int32 × Int32 × Int32)) (res : sk_D), rec10 a = some res → sk_G l (sk_rm 4 0 0) m_X6_run sk_Ex0 (sk_Zm m_X6_run none (sk_mm res)) 0 0 10 [some (.inr (.inr (some (23, 0)))), some (.inr (.inr (some (2, 0)))), some (.inr (.inr (some (4, 0)))), none, some (.inl a.2.1), some (.inl a.2.2.1), some (.inl a.2.2.2), none] [] (sk_mm a.1)) (hrec68 : ∀ (a : (sk_D × Int32 × Int32 × Int32 × Int32)) (res : sk_D), rec68 a = some res → sk_G l (sk_rm 4 0 0) m_X6_run sk_Ex0 (sk_Zm m_X6_run none (sk_mm res)) 0 0 68 [some (.inr (.inr (some (23, 0)))), some (.inr (.inr (some (2, 0)))), some (.inr (.inr (some (4, 0)))), none, some (.inl a.2.1), some (.inl a.2.2.1), some (.inl a.2.2.2.1), some (.inl a.2.2.2.2)] [] (sk_mm a.1)) {res : sk_D} (hq : q_X6_run_68 rec10 rec68 d v4 v5 v6 v7 = some res) :
    sk_G l (sk_rm 4 0 0) m_X6_run sk_Ex0 (sk_Zm m_X6_run none (sk_mm res)) 0 0 68 [some (.inr (.inr (some (23, 0)))), some (.inr (.inr (some (2, 0)))), some (.inr (.inr (some (4, 0)))), none, some (.inl v4), some (.inl v5), some (.inl v6), some (.inl v7)] [] (sk_mm d) := by
  unfold q_X6_run_68 at hq
  refine sg_iload 70 (sk_td o_X6_run 36 rfl) rfl rfl ?_
  refine sg_iload 72 (sk_td o_X6_run 37 rfl) rfl rfl ?_
  refine sg_ic_ge 87 75 (sk_td o_X6_run 38 rfl) (by decide) rfl (fun hc => ?_) (fun hc => ?_)
  · rw [if_pos hc] at hq
    refine sg_iinc (v6 + (1 : Int32)) 90 [some (.inr (.inr (some (23, 0)))), some (.inr (.inr (some (2, 0)))), some (.inr (.inr (some (4, 0)))), none, some (.inl v4), some (.inl v5), some (.inl (v6 + (1 : Int32))), some (.inl v7)] (sk_td o_X6_run 44 rfl) rfl rfl rfl rfl (Nat.le_of_ble_eq_true rfl) rfl ?_
    refine sg_goto 10 (sk_td o_X6_run 45 rfl) (by decide) ?_
    refine sk_wk [true, true, true, true, true, true, true, false] (ls' := [some (.inr (.inr (some (23, 0)))), some (.inr (.inr (some (2, 0)))), some (.inr (.inr (some (4, 0)))), none, some (.inl v4), some (.inl v5), some (.inl (v6 + (1 : Int32))), none]) rfl ?_
    exact hrec10 (d, v4, v5, (v6 + (1 : Int32))) _ hq
  · rw [if_neg hc] at hq
    refine sg_aload_n 76 (sk_td o_X6_run 39 rfl) rfl rfl ?_
    refine sg_iload 78 (sk_td o_X6_run 40 rfl) rfl rfl ?_
    obtain ⟨x1, hr_x1, hq⟩ := sk_bnd hq
    refine sm_callV1v 81 (s_X6_waitAMinute hr_x1) (sk_td o_X6_run 41 rfl) rfl lv_X6_76 rfl rfl rfl sz_23 (sk_rok (Nat.le_of_ble_eq_true rfl) (Nat.le_of_ble_eq_true rfl) rfl rfl) (Nat.le_of_ble_eq_true rfl) ?_
    refine sg_iinc (v7 + (1 : Int32)) 84 [some (.inr (.inr (some (23, 0)))), some (.inr (.inr (some (2, 0)))), some (.inr (.inr (some (4, 0)))), none, some (.inl v4), some (.inl v5), some (.inl v6), some (.inl (v7 + (1 : Int32)))] (sk_td o_X6_run 42 rfl) rfl rfl rfl rfl (Nat.le_of_ble_eq_true rfl) rfl ?_
    refine sg_goto 68 (sk_td o_X6_run 43 rfl) (by decide) ?_
    exact hrec68 (x1, v4, v5, v6, (v7 + (1 : Int32))) _ hq
def l_X6_run_68 (rec10 : (sk_D × Int32 × Int32 × Int32) → Option (sk_D)) (fl : Nat) (a : (sk_D × Int32 × Int32 × Int32 × Int32)) : Option (sk_D) := sk_it (fun rec68 a => q_X6_run_68 rec10 rec68 a.1 a.2.1 a.2.2.1 a.2.2.2.1 a.2.2.2.2) fl a
theorem lt_X6_run_68 {l : Launch} {rec10 : (sk_D × Int32 × Int32 × Int32) → Option (sk_D)} (hrec10 : ∀ (a : (sk_D × Int32 × Int32 × Int32)) (res : sk_D), rec10 a = some res → sk_G l (sk_rm 4 0 0) m_X6_run sk_Ex0 (sk_Zm m_X6_run none (sk_mm res)) 0 0 10 [some (.inr (.inr (some (23, 0)))), some (.inr (.inr (some (2, 0)))), some (.inr (.inr (some (4, 0)))), none, some (.inl a.2.1), some (.inl a.2.2.1), some (.inl a.2.2.2), none] [] (sk_mm a.1)) : ∀ (fl : Nat) (a : (sk_D × Int32 × Int32 × Int32 × Int32)) (res : sk_D), l_X6_run_68 rec10 fl a = some res → sk_G l (sk_rm 4 0 0) m_X6_run sk_Ex0 (sk_Zm m_X6_run none (sk_mm res)) 0 0 68 [some (.inr (.inr (some (23, 0)))), some (.inr (.inr (some (2, 0)))), some (.inr (.inr (some (4, 0)))), none, some (.inl a.2.1), some (.inl a.2.2.1), some (.inl a.2.2.2.1), some (.inl a.2.2.2.2)] [] (sk_mm a.1) :=
  sk_it_ind (P := fun (a : (sk_D × Int32 × Int32 × Int32 × Int32)) (res : sk_D) => sk_G l (sk_rm 4 0 0) m_X6_run sk_Ex0 (sk_Zm m_X6_run none (sk_mm res)) 0 0 68 [some (.inr (.inr (some (23, 0)))), some (.inr (.inr (some (2, 0)))), some (.inr (.inr (some (4, 0)))), none, some (.inl a.2.1), some (.inl a.2.2.1), some (.inl a.2.2.2.1), some (.inl a.2.2.2.2)] [] (sk_mm a.1)) (fun rec68 hrec68 a res hq  => t_X6_run_68 hrec10 hrec68 hq )
def q_X6_run_59 (rec10 : (sk_D × Int32 × Int32 × Int32) → Option (sk_D)) (rec27 : (sk_D × Int32 × Int32 × Int32 × Int32) → Option (sk_D)) (d : sk_D) (v4 : Int32) (v5 : Int32) (v6 : Int32) (v7 : Int32) : Option (sk_D) :=
  (rec27 (d, v4, v5, v6, (v7 + (1 : Int32))))
set_option maxRecDepth 100000 in
set_option maxHeartbeats 4000000 in
theorem t_X6_run_59 {l : Launch} {rec10 : (sk_D × Int32 × Int32 × Int32) → Option (sk_D)} {rec27 : (sk_D × Int32 × Int32 × Int32 × Int32) → Option (sk_D)} {d : sk_D} {v4 : Int32} {v5 : Int32} {v6 : Int32} {v7 : Int32} (hrec10 : ∀ (a : (sk_D × Int32 × Int32 × Int32)) (res : sk_D), rec10 a = some res → sk_G l (sk_rm 4 0 0) m_X6_run sk_Ex0 (sk_Zm m_X6_run none (sk_mm res)) 0 0 10 [some (.inr (.inr (some (23, 0)))), some (.inr (.inr (some (2, 0)))), some (.inr (.inr (some (4, 0)))), none, some (.inl a.2.1), some (.inl a.2.2.1), some (.inl a.2.2.2), none] [] (sk_mm a.1)) (hrec27 : ∀ (a : (sk_D × Int32 × Int32 × Int32 × Int32)) (res : sk_D), rec27 a = some res → sk_G l (sk_rm 4 0 0) m_X6_run sk_Ex0 (sk_Zm m_X6_run none (sk_mm res)) 0 0 27 [some (.inr (.inr (some (23, 0)))), some (.inr (.inr (some (2, 0)))), some (.inr (.inr (some (4, 0)))), none, some (.inl a.2.1), some (.inl a.2.2.1), some (.inl a.2.2.2.1), some (.inl a.2.2.2.2)] [] (sk_mm a.1)) {res : sk_D} (hq : q_X6_run_59 rec10 rec27 d v4 v5 v6 v7 = some res) :
    sk_G l (sk_rm 4 0 0) m_X6_run sk_Ex0 (sk_Zm m_X6_run none (sk_mm res)) 0 0 59 [some (.inr (.inr (some (23, 0)))), some (.inr (.inr (some (2, 0)))), some (.inr (.inr (some (4, 0)))), none, some (.inl v4), some (.inl v5), some (.inl v6), some (.inl v7)] [] (sk_mm d) := by
  unfold q_X6_run_59 at hq
  refine sg_iinc (v7 + (1 : Int32)) 62 [some (.inr (.inr (some (23, 0)))), some (.inr (.inr (some (2, 0)))), some (.inr (.inr (some (4, 0)))), none, some (.inl v4), some (.inl v5), some (.inl v6), some (.inl (v7 + (1 : Int32)))] (sk_td o_X6_run 32 rfl) rfl rfl rfl rfl (Nat.le_of_ble_eq_true rfl) rfl ?_
  refine sg_goto 27 (sk_td o_X6_run 33 rfl) (by decide) ?_
  exact hrec27 (d, v4, v5, v6, (v7 + (1 : Int32))) _ hq
def q_X6_run_27 (rec10 : (sk_D × Int32 × Int32 × Int32) → Option (sk_D)) (rec27 : (sk_D × Int32 × Int32 × Int32 × Int32) → Option (sk_D)) (d : sk_D) (v4 : Int32) (v5 : Int32) (v6 : Int32) (v7 : Int32) : Option (sk_D) :=
  if v5 ≤ v7 then (l_X6_run_68 rec10 sk_fu (d, v4, v5, v6, (0 : Int32))) else if sk_bi v7 3 = true then (q_X2_departsAt d v7.toNatClampNeg v6).bind fun x2 => if x2 = 0 then (q_X6_run_59 rec10 rec27 d v4 v5 v6 v7) else if sk_bi v7 3 = true then (q_X6_depart d v7 v7.toNatClampNeg v6).bind fun x4 => (q_X6_run_59 rec10 rec27 x4 v4 v5 v6 v7) else none else none
set_option maxRecDepth 100000 in
set_option maxHeartbeats 4000000 in
theorem t_X6_run_27 {l : Launch} {rec10 : (sk_D × Int32 × Int32 × Int32) → Option (sk_D)} {rec27 : (sk_D × Int32 × Int32 × Int32 × Int32) → Option (sk_D)} {d : sk_D} {v4 : Int32} {v5 : Int32} {v6 : Int32} {v7 : Int32} (hrec10 : ∀ (a : (sk_D × Int32 × Int32 × Int32)) (res : sk_D), rec10 a = some res → sk_G l (sk_rm 4 0 0) m_X6_run sk_Ex0 (sk_Zm m_X6_run none (sk_mm res)) 0 0 10 [some (.inr (.inr (some (23, 0)))), some (.inr (.inr (some (2, 0)))), some (.inr (.inr (some (4, 0)))), none, some (.inl a.2.1), some (.inl a.2.2.1), some (.inl a.2.2.2), none] [] (sk_mm a.1)) (hrec27 : ∀ (a : (sk_D × Int32 × Int32 × Int32 × Int32)) (res : sk_D), rec27 a = some res → sk_G l (sk_rm 4 0 0) m_X6_run sk_Ex0 (sk_Zm m_X6_run none (sk_mm res)) 0 0 27 [some (.inr (.inr (some (23, 0)))), some (.inr (.inr (some (2, 0)))), some (.inr (.inr (some (4, 0)))), none, some (.inl a.2.1), some (.inl a.2.2.1), some (.inl a.2.2.2.1), some (.inl a.2.2.2.2)] [] (sk_mm a.1)) {res : sk_D} (hq : q_X6_run_27 rec10 rec27 d v4 v5 v6 v7 = some res) :
    sk_G l (sk_rm 4 0 0) m_X6_run sk_Ex0 (sk_Zm m_X6_run none (sk_mm res)) 0 0 27 [some (.inr (.inr (some (23, 0)))), some (.inr (.inr (some (2, 0)))), some (.inr (.inr (some (4, 0)))), none, some (.inl v4), some (.inl v5), some (.inl v6), some (.inl v7)] [] (sk_mm d) := by
  unfold q_X6_run_27 at hq
  refine sg_iload 29 (sk_td o_X6_run 15 rfl) rfl rfl ?_
  refine sg_iload 31 (sk_td o_X6_run 16 rfl) rfl rfl ?_
  refine sg_ic_ge 65 34 (sk_td o_X6_run 17 rfl) (by decide) rfl (fun hc => ?_) (fun hc => ?_)
  · rw [if_pos hc] at hq
    refine sg_iconst (v := (0 : Int32)) 66 (sk_td o_X6_run 34 rfl) rfl (by decide) ?_
    refine sg_istore 68 [some (.inr (.inr (some (23, 0)))), some (.inr (.inr (some (2, 0)))), some (.inr (.inr (some (4, 0)))), none, some (.inl v4), some (.inl v5), some (.inl v6), some (.inl (0 : Int32))] (sk_td o_X6_run 35 rfl) rfl rfl (Nat.le_of_ble_eq_true rfl) rfl ?_
    exact lt_X6_run_68 hrec10 sk_fu (d, v4, v5, v6, (0 : Int32)) _ hq
  · rw [if_neg hc] at hq
    refine sg_aload_n 35 (sk_td o_X6_run 18 rfl) rfl rfl ?_
    refine sg_iload 37 (sk_td o_X6_run 19 rfl) rfl rfl ?_
    obtain ⟨hb1, hq⟩ := sk_ifn hq
    refine sm_aald (43, v7.toNatClampNeg) 38 (sk_td o_X6_run 20 rfl) rfl rfl (by decide) sz_4 hb1 (sr_4 (sk_bi.lt hb1)) ?_
    refine sg_iload 40 (sk_td o_X6_run 21 rfl) rfl rfl ?_
    obtain ⟨x2, hr_x2, hq⟩ := sk_bnd hq
    refine sm_callV1i 43 (s_X2_departsAt hr_x2 (sk_bi.lt hb1)) (sk_td o_X6_run 22 rfl) rfl lv_X6_66 rfl rfl rfl (sk_bi.lt hb1) (sk_rok (Nat.le_of_ble_eq_true rfl) (Nat.le_of_ble_eq_true rfl) rfl rfl) (Nat.le_of_ble_eq_true rfl) ?_
    refine sg_if_eq 59 46 (sk_td o_X6_run 23 rfl) (by decide) rfl (fun hc => ?_) (fun hc => ?_)
    · rw [if_pos hc] at hq
      exact t_X6_run_59 hrec10 hrec27 hq
    · rw [if_neg hc] at hq
      refine sg_aload_n 47 (sk_td o_X6_run 24 rfl) rfl rfl ?_
      refine sg_iload 49 (sk_td o_X6_run 25 rfl) rfl rfl ?_
      refine sg_aload_n 50 (sk_td o_X6_run 26 rfl) rfl rfl ?_
      refine sg_iload 52 (sk_td o_X6_run 27 rfl) rfl rfl ?_
      obtain ⟨hb3, hq⟩ := sk_ifn hq
      refine sm_aald (43, v7.toNatClampNeg) 53 (sk_td o_X6_run 28 rfl) rfl rfl (by decide) sz_4 hb3 (sr_4 (sk_bi.lt hb3)) ?_
      refine sg_aload_n 54 (sk_td o_X6_run 29 rfl) rfl rfl ?_
      refine sg_iload 56 (sk_td o_X6_run 30 rfl) rfl rfl ?_
      obtain ⟨x4, hr_x4, hq⟩ := sk_bnd hq
      refine sm_callV4v 59 (s_X6_depart hr_x4 (sk_bi.lt hb3)) (sk_td o_X6_run 31 rfl) rfl lv_X6_72 rfl rfl rfl sz_23 (sk_rok (Nat.le_of_ble_eq_true rfl) (Nat.le_of_ble_eq_true rfl) rfl rfl) (Nat.le_of_ble_eq_true rfl) ?_
      exact t_X6_run_59 hrec10 hrec27 hq
def l_X6_run_27 (rec10 : (sk_D × Int32 × Int32 × Int32) → Option (sk_D)) (fl : Nat) (a : (sk_D × Int32 × Int32 × Int32 × Int32)) : Option (sk_D) := sk_it (fun rec27 a => q_X6_run_27 rec10 rec27 a.1 a.2.1 a.2.2.1 a.2.2.2.1 a.2.2.2.2) fl a
theorem lt_X6_run_27 {l : Launch} {rec10 : (sk_D × Int32 × Int32 × Int32) → Option (sk_D)} (hrec10 : ∀ (a : (sk_D × Int32 × Int32 × Int32)) (res : sk_D), rec10 a = some res → sk_G l (sk_rm 4 0 0) m_X6_run sk_Ex0 (sk_Zm m_X6_run none (sk_mm res)) 0 0 10 [some (.inr (.inr (some (23, 0)))), some (.inr (.inr (some (2, 0)))), some (.inr (.inr (some (4, 0)))), none, some (.inl a.2.1), some (.inl a.2.2.1), some (.inl a.2.2.2), none] [] (sk_mm a.1)) : ∀ (fl : Nat) (a : (sk_D × Int32 × Int32 × Int32 × Int32)) (res : sk_D), l_X6_run_27 rec10 fl a = some res → sk_G l (sk_rm 4 0 0) m_X6_run sk_Ex0 (sk_Zm m_X6_run none (sk_mm res)) 0 0 27 [some (.inr (.inr (some (23, 0)))), some (.inr (.inr (some (2, 0)))), some (.inr (.inr (some (4, 0)))), none, some (.inl a.2.1), some (.inl a.2.2.1), some (.inl a.2.2.2.1), some (.inl a.2.2.2.2)] [] (sk_mm a.1) :=
  sk_it_ind (P := fun (a : (sk_D × Int32 × Int32 × Int32 × Int32)) (res : sk_D) => sk_G l (sk_rm 4 0 0) m_X6_run sk_Ex0 (sk_Zm m_X6_run none (sk_mm res)) 0 0 27 [some (.inr (.inr (some (23, 0)))), some (.inr (.inr (some (2, 0)))), some (.inr (.inr (some (4, 0)))), none, some (.inl a.2.1), some (.inl a.2.2.1), some (.inl a.2.2.2.1), some (.inl a.2.2.2.2)] [] (sk_mm a.1)) (fun rec27 hrec27 a res hq  => t_X6_run_27 hrec10 hrec27 hq )
def q_X6_run_10 (rec10 : (sk_D × Int32 × Int32 × Int32) → Option (sk_D)) (d : sk_D) (v4 : Int32) (v5 : Int32) (v6 : Int32) : Option (sk_D) :=
  if v4 ≤ v6 then some d else (q_X6_joinQueues d v6).bind fun x1 => (l_X6_run_27 rec10 sk_fu (x1, v4, v5, v6, (0 : Int32)))
set_option maxRecDepth 100000 in
set_option maxHeartbeats 4000000 in
theorem t_X6_run_10 {l : Launch} {rec10 : (sk_D × Int32 × Int32 × Int32) → Option (sk_D)} {d : sk_D} {v4 : Int32} {v5 : Int32} {v6 : Int32} (hrec10 : ∀ (a : (sk_D × Int32 × Int32 × Int32)) (res : sk_D), rec10 a = some res → sk_G l (sk_rm 4 0 0) m_X6_run sk_Ex0 (sk_Zm m_X6_run none (sk_mm res)) 0 0 10 [some (.inr (.inr (some (23, 0)))), some (.inr (.inr (some (2, 0)))), some (.inr (.inr (some (4, 0)))), none, some (.inl a.2.1), some (.inl a.2.2.1), some (.inl a.2.2.2), none] [] (sk_mm a.1)) {res : sk_D} (hq : q_X6_run_10 rec10 d v4 v5 v6 = some res) :
    sk_G l (sk_rm 4 0 0) m_X6_run sk_Ex0 (sk_Zm m_X6_run none (sk_mm res)) 0 0 10 [some (.inr (.inr (some (23, 0)))), some (.inr (.inr (some (2, 0)))), some (.inr (.inr (some (4, 0)))), none, some (.inl v4), some (.inl v5), some (.inl v6), none] [] (sk_mm d) := by
  unfold q_X6_run_10 at hq
  refine sg_iload 12 (sk_td o_X6_run 6 rfl) rfl rfl ?_
  refine sg_iload 14 (sk_td o_X6_run 7 rfl) rfl rfl ?_
  refine sg_ic_ge 93 17 (sk_td o_X6_run 8 rfl) (by decide) rfl (fun hc => ?_) (fun hc => ?_)
  · rw [if_pos hc] at hq
    obtain rfl := Option.some.inj hq
    exact sg_vret (sk_td o_X6_run 46 rfl) rfl
  · rw [if_neg hc] at hq
    refine sg_aload_n 18 (sk_td o_X6_run 9 rfl) rfl rfl ?_
    refine sg_aload_n 19 (sk_td o_X6_run 10 rfl) rfl rfl ?_
    refine sg_iload 21 (sk_td o_X6_run 11 rfl) rfl rfl ?_
    obtain ⟨x1, hr_x1, hq⟩ := sk_bnd hq
    refine sm_callV2v 24 (s_X6_joinQueues hr_x1) (sk_td o_X6_run 12 rfl) rfl lv_X6_62 rfl rfl rfl sz_23 (sk_rok (Nat.le_of_ble_eq_true rfl) (Nat.le_of_ble_eq_true rfl) rfl rfl) (Nat.le_of_ble_eq_true rfl) ?_
    refine sg_iconst (v := (0 : Int32)) 25 (sk_td o_X6_run 13 rfl) rfl (by decide) ?_
    refine sg_istore 27 [some (.inr (.inr (some (23, 0)))), some (.inr (.inr (some (2, 0)))), some (.inr (.inr (some (4, 0)))), none, some (.inl v4), some (.inl v5), some (.inl v6), some (.inl (0 : Int32))] (sk_td o_X6_run 14 rfl) rfl rfl (Nat.le_of_ble_eq_true rfl) rfl ?_
    exact lt_X6_run_27 hrec10 sk_fu (x1, v4, v5, v6, (0 : Int32)) _ hq
def l_X6_run_10 (fl : Nat) (a : (sk_D × Int32 × Int32 × Int32)) : Option (sk_D) := sk_it (fun rec10 a => q_X6_run_10 rec10 a.1 a.2.1 a.2.2.1 a.2.2.2) fl a
theorem lt_X6_run_10 {l : Launch} : ∀ (fl : Nat) (a : (sk_D × Int32 × Int32 × Int32)) (res : sk_D), l_X6_run_10 fl a = some res → sk_G l (sk_rm 4 0 0) m_X6_run sk_Ex0 (sk_Zm m_X6_run none (sk_mm res)) 0 0 10 [some (.inr (.inr (some (23, 0)))), some (.inr (.inr (some (2, 0)))), some (.inr (.inr (some (4, 0)))), none, some (.inl a.2.1), some (.inl a.2.2.1), some (.inl a.2.2.2), none] [] (sk_mm a.1) :=
  sk_it_ind (P := fun (a : (sk_D × Int32 × Int32 × Int32)) (res : sk_D) => sk_G l (sk_rm 4 0 0) m_X6_run sk_Ex0 (sk_Zm m_X6_run none (sk_mm res)) 0 0 10 [some (.inr (.inr (some (23, 0)))), some (.inr (.inr (some (2, 0)))), some (.inr (.inr (some (4, 0)))), none, some (.inl a.2.1), some (.inl a.2.2.1), some (.inl a.2.2.2), none] [] (sk_mm a.1)) (fun rec10 hrec10 a res hq  => t_X6_run_10 hrec10 hq )
def q_X6_run_0 (d : sk_D) (v3 : Int32) (v4 : Int32) : Option (sk_D) :=
  (l_X6_run_10 sk_fu (d, v4, (if (3 : Int32) < v3 then (3 : Int32) else v3), (0 : Int32)))
set_option maxRecDepth 100000 in
set_option maxHeartbeats 4000000 in
theorem t_X6_run_0 {l : Launch} {d : sk_D} {v3 : Int32} {v4 : Int32} {res : sk_D} (hq : q_X6_run_0 d v3 v4 = some res) :
    sk_G l (sk_rm 4 0 0) m_X6_run sk_Ex0 (sk_Zm m_X6_run none (sk_mm res)) 0 0 0 [some (.inr (.inr (some (23, 0)))), some (.inr (.inr (some (2, 0)))), some (.inr (.inr (some (4, 0)))), some (.inl v3), some (.inl v4), none, none, none] [] (sk_mm d) := by
  unfold q_X6_run_0 at hq
  refine sg_iload_n 1 (sk_td o_X6_run 0 rfl) rfl rfl ?_
  refine sg_iconst (v := (3 : Int32)) 2 (sk_td o_X6_run 1 rfl) rfl (by decide) ?_
  refine sm_min 5 (sk_td o_X6_run 2 rfl) rfl kM_X6_56 (Nat.le_of_ble_eq_true rfl) (Nat.le_of_ble_eq_true rfl) (Nat.le_of_ble_eq_true rfl) ?_
  refine sg_istore 7 [some (.inr (.inr (some (23, 0)))), some (.inr (.inr (some (2, 0)))), some (.inr (.inr (some (4, 0)))), some (.inl v3), some (.inl v4), some (.inl (if (3 : Int32) < v3 then (3 : Int32) else v3)), none, none] (sk_td o_X6_run 3 rfl) rfl rfl (Nat.le_of_ble_eq_true rfl) rfl ?_
  refine sg_iconst (v := (0 : Int32)) 8 (sk_td o_X6_run 4 rfl) rfl (by decide) ?_
  refine sg_istore 10 [some (.inr (.inr (some (23, 0)))), some (.inr (.inr (some (2, 0)))), some (.inr (.inr (some (4, 0)))), some (.inl v3), some (.inl v4), some (.inl (if (3 : Int32) < v3 then (3 : Int32) else v3)), some (.inl (0 : Int32)), none] (sk_td o_X6_run 5 rfl) rfl rfl (Nat.le_of_ble_eq_true rfl) rfl ?_
  refine sk_wk [true, true, true, false, true, true, true, true] (ls' := [some (.inr (.inr (some (23, 0)))), some (.inr (.inr (some (2, 0)))), some (.inr (.inr (some (4, 0)))), none, some (.inl v4), some (.inl (if (3 : Int32) < v3 then (3 : Int32) else v3)), some (.inl (0 : Int32)), none]) rfl ?_
  exact lt_X6_run_10 sk_fu (d, v4, (if (3 : Int32) < v3 then (3 : Int32) else v3), (0 : Int32)) _ hq
def q_X6_run (d : sk_D) (v3 : Int32) (v4 : Int32) : Option (sk_D) := q_X6_run_0 d v3 v4 
theorem s_X6_run {l : Launch} {d : sk_D} {v3 : Int32} {v4 : Int32} {res : sk_D} (hq : q_X6_run d v3 v4 = some res) : sk_M l 4 m_X6_run [.inr (.inr (some (23, 0))), .inr (.inr (some (2, 0))), .inr (.inr (some (4, 0))), .inl v3, .inl v4] (sk_mm d) none (sk_mm res) :=
  sk_enter (by decide) (fun _ => Nat.le_of_ble_eq_true rfl) (Nat.le_of_ble_eq_true rfl) (t_X6_run_0 hq )
def q_X7_tryFrom_157 (rec68 : (sk_D × Int32 × Int32 × Int32 × Int32) → Option (sk_D)) (self : sk_D → Int32 → Int32 → Int32 → Option (sk_D)) (d : sk_D) (v1 : Int32) (v2 : Int32) (v3 : Int32) (v6 : Int32) : Option (sk_D) :=
  (rec68 (d, v1, v2, v3, (v6 + (1 : Int32))))
set_option maxRecDepth 100000 in
set_option maxHeartbeats 4000000 in
theorem t_X7_tryFrom_157 {l : Launch} {fu : Nat} {rec68 : (sk_D × Int32 × Int32 × Int32 × Int32) → Option (sk_D)} {self : sk_D → Int32 → Int32 → Int32 → Option (sk_D)} {d : sk_D} {v1 : Int32} {v2 : Int32} {v3 : Int32} {v6 : Int32} (hrec68 : ∀ (a : (sk_D × Int32 × Int32 × Int32 × Int32)) (res : sk_D), rec68 a = some res → sk_G l (sk_rm (fu + 3) 0 0) m_X7_tryFrom sk_Ex0 (sk_Zm m_X7_tryFrom none (sk_mm res)) 0 0 68 [some (.inr (.inr (some (19, 0)))), some (.inl a.2.1), some (.inl a.2.2.1), some (.inl a.2.2.2.1), some (.inr (.inr (some (2, 0)))), some (.inr (.inr (some (3, 0)))), some (.inl a.2.2.2.2), none] [] (sk_mm a.1)) (hself : ∀ (d : sk_D) (v1 : Int32) (v2 : Int32) (v3 : Int32) (res : sk_D), self d v1 v2 v3 = some res → sk_M l (fu + 2) m_X7_tryFrom [.inr (.inr (some (19, 0))), .inl v1, .inl v2, .inl v3, .inr (.inr (some (2, 0))), .inr (.inr (some (3, 0)))] (sk_mm d) none (sk_mm res)) {res : sk_D} (hq : q_X7_tryFrom_157 rec68 self d v1 v2 v3 v6 = some res) :
    sk_G l (sk_rm (fu + 3) 0 0) m_X7_tryFrom sk_Ex0 (sk_Zm m_X7_tryFrom none (sk_mm res)) 0 0 157 [some (.inr (.inr (some (19, 0)))), some (.inl v1), some (.inl v2), some (.inl v3), some (.inr (.inr (some (2, 0)))), some (.inr (.inr (some (3, 0)))), some (.inl v6), none] [] (sk_mm d) := by
  unfold q_X7_tryFrom_157 at hq
  refine sg_iinc (v6 + (1 : Int32)) 160 [some (.inr (.inr (some (19, 0)))), some (.inl v1), some (.inl v2), some (.inl v3), some (.inr (.inr (some (2, 0)))), some (.inr (.inr (some (3, 0)))), some (.inl (v6 + (1 : Int32))), none] (sk_td o_X7_tryFrom 93 rfl) rfl rfl rfl rfl (Nat.le_of_ble_eq_true rfl) rfl ?_
  refine sg_goto 68 (sk_td o_X7_tryFrom 94 rfl) (by decide) ?_
  exact hrec68 (d, v1, v2, v3, (v6 + (1 : Int32))) _ hq
def q_X7_tryFrom_146 (rec68 : (sk_D × Int32 × Int32 × Int32 × Int32) → Option (sk_D)) (self : sk_D → Int32 → Int32 → Int32 → Option (sk_D)) (d : sk_D) (v1 : Int32) (v2 : Int32) (v3 : Int32) (v6 : Int32) (s1 : Int32) (s2 : Int32) (s3 : Int32) (h4 : Nat) : Option (sk_D) :=
  (self d s1 s2 (s3 + (d.1 42 h4 4))).bind fun x1 => (q_X7_tryFrom_157 rec68 self x1 v1 v2 v3 v6)
set_option maxRecDepth 100000 in
set_option maxHeartbeats 4000000 in
theorem t_X7_tryFrom_146 {l : Launch} {fu : Nat} {rec68 : (sk_D × Int32 × Int32 × Int32 × Int32) → Option (sk_D)} {self : sk_D → Int32 → Int32 → Int32 → Option (sk_D)} {d : sk_D} {v1 : Int32} {v2 : Int32} {v3 : Int32} {v6 : Int32} {s1 : Int32} {s2 : Int32} {s3 : Int32} {h4 : Nat} (hrec68 : ∀ (a : (sk_D × Int32 × Int32 × Int32 × Int32)) (res : sk_D), rec68 a = some res → sk_G l (sk_rm (fu + 3) 0 0) m_X7_tryFrom sk_Ex0 (sk_Zm m_X7_tryFrom none (sk_mm res)) 0 0 68 [some (.inr (.inr (some (19, 0)))), some (.inl a.2.1), some (.inl a.2.2.1), some (.inl a.2.2.2.1), some (.inr (.inr (some (2, 0)))), some (.inr (.inr (some (3, 0)))), some (.inl a.2.2.2.2), none] [] (sk_mm a.1)) (hself : ∀ (d : sk_D) (v1 : Int32) (v2 : Int32) (v3 : Int32) (res : sk_D), self d v1 v2 v3 = some res → sk_M l (fu + 2) m_X7_tryFrom [.inr (.inr (some (19, 0))), .inl v1, .inl v2, .inl v3, .inr (.inr (some (2, 0))), .inr (.inr (some (3, 0)))] (sk_mm d) none (sk_mm res)) {res : sk_D} (hq : q_X7_tryFrom_146 rec68 self d v1 v2 v3 v6 s1 s2 s3 h4 = some res) (hk_h4 : h4 < sk_cnt 42) :
    sk_G l (sk_rm (fu + 3) 0 0) m_X7_tryFrom sk_Ex0 (sk_Zm m_X7_tryFrom none (sk_mm res)) 0 0 146 [some (.inr (.inr (some (19, 0)))), some (.inl v1), some (.inl v2), some (.inl v3), some (.inr (.inr (some (2, 0)))), some (.inr (.inr (some (3, 0)))), some (.inl v6), none] [.inr (.inr (some (42, h4))), .inl s3, .inl s2, .inl s1, .inr (.inr (some (19, 0)))] (sk_mm d) := by
  unfold q_X7_tryFrom_146 at hq
  refine sm_getI 149 (sk_td o_X7_tryFrom 88 rfl) rfl kf_X7_47 rfl rfl hk_h4 ?_
  refine sg_iadd 150 (sk_td o_X7_tryFrom 89 rfl) rfl ?_
  refine sg_aload 152 (sk_td o_X7_tryFrom 90 rfl) rfl rfl ?_
  refine sg_aload 154 (sk_td o_X7_tryFrom 91 rfl) rfl rfl ?_
  obtain ⟨x1, hr_x1, hq⟩ := sk_bnd hq
  refine sm_callS6v 157 (hself _ _ _ _ _ hr_x1) (sk_td o_X7_tryFrom 92 rfl) rfl ls_X7_27 rfl (sk_rok2 (by show (fu + 2) + 1 ≤ fu + 3; omega) (by show 8 + (8 + 11) + 60 * (fu + 2) ≤ 60 * (fu + 3); omega) rfl rfl) (Nat.le_of_ble_eq_true rfl) ?_
  exact t_X7_tryFrom_157 hrec68 hself hq
def q_X7_tryFrom_100 (rec68 : (sk_D × Int32 × Int32 × Int32 × Int32) → Option (sk_D)) (self : sk_D → Int32 → Int32 → Int32 → Option (sk_D)) (d : sk_D) (v1 : Int32) (v2 : Int32) (v3 : Int32) (v6 : Int32) (s0 : Int32) : Option (sk_D) :=
  if s0 = 0 then (q_X7_tryFrom_157 rec68 self d v1 v2 v3 v6) else if sk_bi v6 8 = true then if sk_bi v1 4 = true then (q_X1_teaches d v6.toNatClampNeg v1.toNatClampNeg).bind fun x3 => if x3 = 0 then (q_X7_tryFrom_157 rec68 self d v1 v2 v3 v6) else if sk_bi v1 4 = true then if sk_bi v6 8 = true then (q_X7_tryFrom_146 rec68 self (sk_wi d 22 0 v1.toNatClampNeg v6) v1 v2 v3 v6 (v1 + (1 : Int32)) (v2 ||| ((1 : Int32) <<< (v6 &&& 31))) v3 v6.toNatClampNeg) else none else none else none else none
set_option maxRecDepth 100000 in
set_option maxHeartbeats 4000000 in
theorem t_X7_tryFrom_100 {l : Launch} {fu : Nat} {rec68 : (sk_D × Int32 × Int32 × Int32 × Int32) → Option (sk_D)} {self : sk_D → Int32 → Int32 → Int32 → Option (sk_D)} {d : sk_D} {v1 : Int32} {v2 : Int32} {v3 : Int32} {v6 : Int32} {s0 : Int32} (hrec68 : ∀ (a : (sk_D × Int32 × Int32 × Int32 × Int32)) (res : sk_D), rec68 a = some res → sk_G l (sk_rm (fu + 3) 0 0) m_X7_tryFrom sk_Ex0 (sk_Zm m_X7_tryFrom none (sk_mm res)) 0 0 68 [some (.inr (.inr (some (19, 0)))), some (.inl a.2.1), some (.inl a.2.2.1), some (.inl a.2.2.2.1), some (.inr (.inr (some (2, 0)))), some (.inr (.inr (some (3, 0)))), some (.inl a.2.2.2.2), none] [] (sk_mm a.1)) (hself : ∀ (d : sk_D) (v1 : Int32) (v2 : Int32) (v3 : Int32) (res : sk_D), self d v1 v2 v3 = some res → sk_M l (fu + 2) m_X7_tryFrom [.inr (.inr (some (19, 0))), .inl v1, .inl v2, .inl v3, .inr (.inr (some (2, 0))), .inr (.inr (some (3, 0)))] (sk_mm d) none (sk_mm res)) {res : sk_D} (hq : q_X7_tryFrom_100 rec68 self d v1 v2 v3 v6 s0 = some res) :
    sk_G l (sk_rm (fu + 3) 0 0) m_X7_tryFrom sk_Ex0 (sk_Zm m_X7_tryFrom none (sk_mm res)) 0 0 100 [some (.inr (.inr (some (19, 0)))), some (.inl v1), some (.inl v2), some (.inl v3), some (.inr (.inr (some (2, 0)))), some (.inr (.inr (some (3, 0)))), some (.inl v6), none] [.inl s0] (sk_mm d) := by
  unfold q_X7_tryFrom_100 at hq
  refine sg_istore 102 [some (.inr (.inr (some (19, 0)))), some (.inl v1), some (.inl v2), some (.inl v3), some (.inr (.inr (some (2, 0)))), some (.inr (.inr (some (3, 0)))), some (.inl v6), some (.inl s0)] (sk_td o_X7_tryFrom 59 rfl) rfl rfl (Nat.le_of_ble_eq_true rfl) rfl ?_
  refine sg_iload 104 (sk_td o_X7_tryFrom 60 rfl) rfl rfl ?_
  refine sg_if_eq 157 107 (sk_td o_X7_tryFrom 61 rfl) (by decide) rfl (fun hc => ?_) (fun hc => ?_)
  · rw [if_pos hc] at hq
    refine sk_wk [true, true, true, true, true, true, true, false] (ls' := [some (.inr (.inr (some (19, 0)))), some (.inl v1), some (.inl v2), some (.inl v3), some (.inr (.inr (some (2, 0)))), some (.inr (.inr (some (3, 0)))), some (.inl v6), none]) rfl ?_
    exact t_X7_tryFrom_157 hrec68 hself hq
  · rw [if_neg hc] at hq
    refine sg_aload 109 (sk_td o_X7_tryFrom 62 rfl) rfl rfl ?_
    refine sg_iload 111 (sk_td o_X7_tryFrom 63 rfl) rfl rfl ?_
    obtain ⟨hb1, hq⟩ := sk_ifn hq
    refine sm_aald (42, v6.toNatClampNeg) 112 (sk_td o_X7_tryFrom 64 rfl) rfl rfl (by decide) sz_3 hb1 (sr_3 (sk_bi.lt hb1)) ?_
    refine sg_aload 114 (sk_td o_X7_tryFrom 65 rfl) rfl rfl ?_
    refine sg_iload_n 115 (sk_td o_X7_tryFrom 66 rfl) rfl rfl ?_
    obtain ⟨hb2, hq⟩ := sk_ifn hq
    refine sm_aald (39, v1.toNatClampNeg) 116 (sk_td o_X7_tryFrom 67 rfl) rfl rfl (by decide) sz_2 hb2 (sr_2 (sk_bi.lt hb2)) ?_
    obtain ⟨x3, hr_x3, hq⟩ := sk_bnd hq
    refine sm_callV1i 119 (s_X1_teaches hr_x3 (sk_bi.lt hb1) (sk_bi.lt hb2)) (sk_td o_X7_tryFrom 68 rfl) rfl lv_X7_43 rfl rfl rfl (sk_bi.lt hb1) (sk_rok2 (by show 2 + 1 ≤ fu + 3; omega) (by show 8 + (2 + 11) + 60 * 2 ≤ 60 * (fu + 3); omega) rfl rfl) (Nat.le_of_ble_eq_true rfl) ?_
    refine sg_if_eq 157 122 (sk_td o_X7_tryFrom 69 rfl) (by decide) rfl (fun hc => ?_) (fun hc => ?_)
    · rw [if_pos hc] at hq
      refine sk_wk [true, true, true, true, true, true, true, false] (ls' := [some (.inr (.inr (some (19, 0)))), some (.inl v1), some (.inl v2), some (.inl v3), some (.inr (.inr (some (2, 0)))), some (.inr (.inr (some (3, 0)))), some (.inl v6), none]) rfl ?_
      exact t_X7_tryFrom_157 hrec68 hself hq
    · rw [if_neg hc] at hq
      refine sg_aload_n 123 (sk_td o_X7_tryFrom 70 rfl) rfl rfl ?_
      refine sm_getR (22, 0) 126 (sk_td o_X7_tryFrom 71 rfl) rfl kf_X7_19 rfl rfl sz_19 rfl ?_
      refine sg_iload_n 127 (sk_td o_X7_tryFrom 72 rfl) rfl rfl ?_
      refine sg_iload 129 (sk_td o_X7_tryFrom 73 rfl) rfl rfl ?_
      obtain ⟨hb4, hq⟩ := sk_ifn hq
      refine sm_iast 130 (sk_td o_X7_tryFrom 74 rfl) rfl rfl sz_22 hb4 ?_
      refine sg_aload_n 131 (sk_td o_X7_tryFrom 75 rfl) rfl rfl ?_
      refine sg_iload_n 132 (sk_td o_X7_tryFrom 76 rfl) rfl rfl ?_
      refine sg_iconst (v := (1 : Int32)) 133 (sk_td o_X7_tryFrom 77 rfl) rfl (by decide) ?_
      refine sg_iadd 134 (sk_td o_X7_tryFrom 78 rfl) rfl ?_
      refine sg_iload_n 135 (sk_td o_X7_tryFrom 79 rfl) rfl rfl ?_
      refine sg_iconst (v := (1 : Int32)) 136 (sk_td o_X7_tryFrom 80 rfl) rfl (by decide) ?_
      refine sg_iload 138 (sk_td o_X7_tryFrom 81 rfl) rfl rfl ?_
      refine sg_ishl 139 (sk_td o_X7_tryFrom 82 rfl) rfl ?_
      refine sg_ior 140 (sk_td o_X7_tryFrom 83 rfl) rfl ?_
      refine sg_iload_n 141 (sk_td o_X7_tryFrom 84 rfl) rfl rfl ?_
      refine sg_aload 143 (sk_td o_X7_tryFrom 85 rfl) rfl rfl ?_
      refine sg_iload 145 (sk_td o_X7_tryFrom 86 rfl) rfl rfl ?_
      obtain ⟨hb5, hq⟩ := sk_ifn hq
      refine sm_aald (42, v6.toNatClampNeg) 146 (sk_td o_X7_tryFrom 87 rfl) rfl rfl (by decide) sz_3 hb5 (sr_3 (sk_bi.lt hb5)) ?_
      refine sk_wk [true, true, true, true, true, true, true, false] (ls' := [some (.inr (.inr (some (19, 0)))), some (.inl v1), some (.inl v2), some (.inl v3), some (.inr (.inr (some (2, 0)))), some (.inr (.inr (some (3, 0)))), some (.inl v6), none]) rfl ?_
      exact t_X7_tryFrom_146 hrec68 hself hq (sk_bi.lt hb5)
def q_X7_tryFrom_99 (rec68 : (sk_D × Int32 × Int32 × Int32 × Int32) → Option (sk_D)) (self : sk_D → Int32 → Int32 → Int32 → Option (sk_D)) (d : sk_D) (v1 : Int32) (v2 : Int32) (v3 : Int32) (v6 : Int32) : Option (sk_D) :=
  (q_X7_tryFrom_100 rec68 self d v1 v2 v3 v6 (0 : Int32))
set_option maxRecDepth 100000 in
set_option maxHeartbeats 4000000 in
theorem t_X7_tryFrom_99 {l : Launch} {fu : Nat} {rec68 : (sk_D × Int32 × Int32 × Int32 × Int32) → Option (sk_D)} {self : sk_D → Int32 → Int32 → Int32 → Option (sk_D)} {d : sk_D} {v1 : Int32} {v2 : Int32} {v3 : Int32} {v6 : Int32} (hrec68 : ∀ (a : (sk_D × Int32 × Int32 × Int32 × Int32)) (res : sk_D), rec68 a = some res → sk_G l (sk_rm (fu + 3) 0 0) m_X7_tryFrom sk_Ex0 (sk_Zm m_X7_tryFrom none (sk_mm res)) 0 0 68 [some (.inr (.inr (some (19, 0)))), some (.inl a.2.1), some (.inl a.2.2.1), some (.inl a.2.2.2.1), some (.inr (.inr (some (2, 0)))), some (.inr (.inr (some (3, 0)))), some (.inl a.2.2.2.2), none] [] (sk_mm a.1)) (hself : ∀ (d : sk_D) (v1 : Int32) (v2 : Int32) (v3 : Int32) (res : sk_D), self d v1 v2 v3 = some res → sk_M l (fu + 2) m_X7_tryFrom [.inr (.inr (some (19, 0))), .inl v1, .inl v2, .inl v3, .inr (.inr (some (2, 0))), .inr (.inr (some (3, 0)))] (sk_mm d) none (sk_mm res)) {res : sk_D} (hq : q_X7_tryFrom_99 rec68 self d v1 v2 v3 v6 = some res) :
    sk_G l (sk_rm (fu + 3) 0 0) m_X7_tryFrom sk_Ex0 (sk_Zm m_X7_tryFrom none (sk_mm res)) 0 0 99 [some (.inr (.inr (some (19, 0)))), some (.inl v1), some (.inl v2), some (.inl v3), some (.inr (.inr (some (2, 0)))), some (.inr (.inr (some (3, 0)))), some (.inl v6), none] [] (sk_mm d) := by
  unfold q_X7_tryFrom_99 at hq
  refine sg_iconst (v := (0 : Int32)) 100 (sk_td o_X7_tryFrom 58 rfl) rfl (by decide) ?_
  exact t_X7_tryFrom_100 hrec68 hself hq
def q_X7_tryFrom_68 (rec68 : (sk_D × Int32 × Int32 × Int32 × Int32) → Option (sk_D)) (self : sk_D → Int32 → Int32 → Int32 → Option (sk_D)) (d : sk_D) (v1 : Int32) (v2 : Int32) (v3 : Int32) (v6 : Int32) : Option (sk_D) :=
  if (8 : Int32) ≤ v6 then some d else if sk_bi v6 8 = true then if (d.1 42 v6.toNatClampNeg 0) = 0 then (q_X7_tryFrom_99 rec68 self d v1 v2 v3 v6) else if ((v2 >>> (v6 &&& 31)) &&& (1 : Int32)) = 0 then (q_X7_tryFrom_100 rec68 self d v1 v2 v3 v6 (1 : Int32)) else (q_X7_tryFrom_99 rec68 self d v1 v2 v3 v6) else none
set_option maxRecDepth 100000 in
set_option maxHeartbeats 4000000 in
theorem t_X7_tryFrom_68 {l : Launch} {fu : Nat} {rec68 : (sk_D × Int32 × Int32 × Int32 × Int32) → Option (sk_D)} {self : sk_D → Int32 → Int32 → Int32 → Option (sk_D)} {d : sk_D} {v1 : Int32} {v2 : Int32} {v3 : Int32} {v6 : Int32} (hrec68 : ∀ (a : (sk_D × Int32 × Int32 × Int32 × Int32)) (res : sk_D), rec68 a = some res → sk_G l (sk_rm (fu + 3) 0 0) m_X7_tryFrom sk_Ex0 (sk_Zm m_X7_tryFrom none (sk_mm res)) 0 0 68 [some (.inr (.inr (some (19, 0)))), some (.inl a.2.1), some (.inl a.2.2.1), some (.inl a.2.2.2.1), some (.inr (.inr (some (2, 0)))), some (.inr (.inr (some (3, 0)))), some (.inl a.2.2.2.2), none] [] (sk_mm a.1)) (hself : ∀ (d : sk_D) (v1 : Int32) (v2 : Int32) (v3 : Int32) (res : sk_D), self d v1 v2 v3 = some res → sk_M l (fu + 2) m_X7_tryFrom [.inr (.inr (some (19, 0))), .inl v1, .inl v2, .inl v3, .inr (.inr (some (2, 0))), .inr (.inr (some (3, 0)))] (sk_mm d) none (sk_mm res)) {res : sk_D} (hq : q_X7_tryFrom_68 rec68 self d v1 v2 v3 v6 = some res) :
    sk_G l (sk_rm (fu + 3) 0 0) m_X7_tryFrom sk_Ex0 (sk_Zm m_X7_tryFrom none (sk_mm res)) 0 0 68 [some (.inr (.inr (some (19, 0)))), some (.inl v1), some (.inl v2), some (.inl v3), some (.inr (.inr (some (2, 0)))), some (.inr (.inr (some (3, 0)))), some (.inl v6), none] [] (sk_mm d) := by
  unfold q_X7_tryFrom_68 at hq
  refine sg_iload 70 (sk_td o_X7_tryFrom 42 rfl) rfl rfl ?_
  refine sg_bipush (v := (8 : Int32)) 72 (sk_td o_X7_tryFrom 43 rfl) rfl (by decide) ?_
  refine sg_ic_ge 163 75 (sk_td o_X7_tryFrom 44 rfl) (by decide) rfl (fun hc => ?_) (fun hc => ?_)
  · rw [if_pos hc] at hq
    obtain rfl := Option.some.inj hq
    exact sg_vret (sk_td o_X7_tryFrom 95 rfl) rfl
  · rw [if_neg hc] at hq
    refine sg_aload 77 (sk_td o_X7_tryFrom 45 rfl) rfl rfl ?_
    refine sg_iload 79 (sk_td o_X7_tryFrom 46 rfl) rfl rfl ?_
    obtain ⟨hb1, hq⟩ := sk_ifn hq
    refine sm_aald (42, v6.toNatClampNeg) 80 (sk_td o_X7_tryFrom 47 rfl) rfl rfl (by decide) sz_3 hb1 (sr_3 (sk_bi.lt hb1)) ?_
    refine sm_getI 83 (sk_td o_X7_tryFrom 48 rfl) rfl kf_X7_37 rfl rfl (sk_bi.lt hb1) ?_
    refine sg_if_eq 99 86 (sk_td o_X7_tryFrom 49 rfl) (by decide) rfl (fun hc => ?_) (fun hc => ?_)
    · rw [if_pos hc] at hq
      exact t_X7_tryFrom_99 hrec68 hself hq
    · rw [if_neg hc] at hq
      refine sg_iload_n 87 (sk_td o_X7_tryFrom 50 rfl) rfl rfl ?_
      refine sg_iload 89 (sk_td o_X7_tryFrom 51 rfl) rfl rfl ?_
      refine sg_ishr 90 (sk_td o_X7_tryFrom 52 rfl) rfl ?_
      refine sg_iconst (v := (1 : Int32)) 91 (sk_td o_X7_tryFrom 53 rfl) rfl (by decide) ?_
      refine sg_iand 92 (sk_td o_X7_tryFrom 54 rfl) rfl ?_
      refine sg_if_ne 99 95 (sk_td o_X7_tryFrom 55 rfl) (by decide) rfl (fun hc => ?_) (fun hc => ?_)
      · rw [if_neg hc] at hq
        exact t_X7_tryFrom_99 hrec68 hself hq
      · rw [if_pos hc] at hq
        refine sg_iconst (v := (1 : Int32)) 96 (sk_td o_X7_tryFrom 56 rfl) rfl (by decide) ?_
        refine sg_goto 100 (sk_td o_X7_tryFrom 57 rfl) (by decide) ?_
        exact t_X7_tryFrom_100 hrec68 hself hq
def l_X7_tryFrom_68 (self : sk_D → Int32 → Int32 → Int32 → Option (sk_D)) (fl : Nat) (a : (sk_D × Int32 × Int32 × Int32 × Int32)) : Option (sk_D) := sk_it (fun rec68 a => q_X7_tryFrom_68 rec68 self a.1 a.2.1 a.2.2.1 a.2.2.2.1 a.2.2.2.2) fl a
theorem lt_X7_tryFrom_68 {l : Launch} {fu : Nat} {self : sk_D → Int32 → Int32 → Int32 → Option (sk_D)} (hself : ∀ (d : sk_D) (v1 : Int32) (v2 : Int32) (v3 : Int32) (res : sk_D), self d v1 v2 v3 = some res → sk_M l (fu + 2) m_X7_tryFrom [.inr (.inr (some (19, 0))), .inl v1, .inl v2, .inl v3, .inr (.inr (some (2, 0))), .inr (.inr (some (3, 0)))] (sk_mm d) none (sk_mm res)) : ∀ (fl : Nat) (a : (sk_D × Int32 × Int32 × Int32 × Int32)) (res : sk_D), l_X7_tryFrom_68 self fl a = some res → sk_G l (sk_rm (fu + 3) 0 0) m_X7_tryFrom sk_Ex0 (sk_Zm m_X7_tryFrom none (sk_mm res)) 0 0 68 [some (.inr (.inr (some (19, 0)))), some (.inl a.2.1), some (.inl a.2.2.1), some (.inl a.2.2.2.1), some (.inr (.inr (some (2, 0)))), some (.inr (.inr (some (3, 0)))), some (.inl a.2.2.2.2), none] [] (sk_mm a.1) :=
  sk_it_ind (P := fun (a : (sk_D × Int32 × Int32 × Int32 × Int32)) (res : sk_D) => sk_G l (sk_rm (fu + 3) 0 0) m_X7_tryFrom sk_Ex0 (sk_Zm m_X7_tryFrom none (sk_mm res)) 0 0 68 [some (.inr (.inr (some (19, 0)))), some (.inl a.2.1), some (.inl a.2.2.1), some (.inl a.2.2.2.1), some (.inr (.inr (some (2, 0)))), some (.inr (.inr (some (3, 0)))), some (.inl a.2.2.2.2), none] [] (sk_mm a.1)) (fun rec68 hrec68 a res hq  => t_X7_tryFrom_68 hrec68 hself hq )
def q_X7_tryFrom_47 (self : sk_D → Int32 → Int32 → Int32 → Option (sk_D)) (d : sk_D) (v1 : Int32) (v2 : Int32) (v3 : Int32) (s1 : Int32) : Option (sk_D) :=
  if sk_bi s1 4 = true then if (d.1 20 0 s1.toNatClampNeg) = 0 then (self d (v1 + (1 : Int32)) v2 v3).bind fun x2 => some x2 else (l_X7_tryFrom_68 self sk_fu (d, v1, v2, v3, (0 : Int32))) else none
set_option maxRecDepth 100000 in
set_option maxHeartbeats 4000000 in
theorem t_X7_tryFrom_47 {l : Launch} {fu : Nat} {self : sk_D → Int32 → Int32 → Int32 → Option (sk_D)} {d : sk_D} {v1 : Int32} {v2 : Int32} {v3 : Int32} {s1 : Int32} (hself : ∀ (d : sk_D) (v1 : Int32) (v2 : Int32) (v3 : Int32) (res : sk_D), self d v1 v2 v3 = some res → sk_M l (fu + 2) m_X7_tryFrom [.inr (.inr (some (19, 0))), .inl v1, .inl v2, .inl v3, .inr (.inr (some (2, 0))), .inr (.inr (some (3, 0)))] (sk_mm d) none (sk_mm res)) {res : sk_D} (hq : q_X7_tryFrom_47 self d v1 v2 v3 s1 = some res) :
    sk_G l (sk_rm (fu + 3) 0 0) m_X7_tryFrom sk_Ex0 (sk_Zm m_X7_tryFrom none (sk_mm res)) 0 0 47 [some (.inr (.inr (some (19, 0)))), some (.inl v1), some (.inl v2), some (.inl v3), some (.inr (.inr (some (2, 0)))), some (.inr (.inr (some (3, 0)))), none, none] [.inl s1, .inr (.inr (some (20, 0)))] (sk_mm d) := by
  unfold q_X7_tryFrom_47 at hq
  obtain ⟨hb1, hq⟩ := sk_ifn hq
  refine sm_zald 48 (sk_td o_X7_tryFrom 28 rfl) rfl rfl sz_20 hb1 ?_
  refine sg_if_ne 65 51 (sk_td o_X7_tryFrom 29 rfl) (by decide) rfl (fun hc => ?_) (fun hc => ?_)
  · rw [if_neg hc] at hq
    refine sg_iconst (v := (0 : Int32)) 66 (sk_td o_X7_tryFrom 40 rfl) rfl (by decide) ?_
    refine sg_istore 68 [some (.inr (.inr (some (19, 0)))), some (.inl v1), some (.inl v2), some (.inl v3), some (.inr (.inr (some (2, 0)))), some (.inr (.inr (some (3, 0)))), some (.inl (0 : Int32)), none] (sk_td o_X7_tryFrom 41 rfl) rfl rfl (Nat.le_of_ble_eq_true rfl) rfl ?_
    exact lt_X7_tryFrom_68 hself sk_fu (d, v1, v2, v3, (0 : Int32)) _ hq
  · rw [if_pos hc] at hq
    refine sg_aload_n 52 (sk_td o_X7_tryFrom 30 rfl) rfl rfl ?_
    refine sg_iload_n 53 (sk_td o_X7_tryFrom 31 rfl) rfl rfl ?_
    refine sg_iconst (v := (1 : Int32)) 54 (sk_td o_X7_tryFrom 32 rfl) rfl (by decide) ?_
    refine sg_iadd 55 (sk_td o_X7_tryFrom 33 rfl) rfl ?_
    refine sg_iload_n 56 (sk_td o_X7_tryFrom 34 rfl) rfl rfl ?_
    refine sg_iload_n 57 (sk_td o_X7_tryFrom 35 rfl) rfl rfl ?_
    refine sg_aload 59 (sk_td o_X7_tryFrom 36 rfl) rfl rfl ?_
    refine sg_aload 61 (sk_td o_X7_tryFrom 37 rfl) rfl rfl ?_
    obtain ⟨x2, hr_x2, hq⟩ := sk_bnd hq
    refine sm_callS6v 64 (hself _ _ _ _ _ hr_x2) (sk_td o_X7_tryFrom 38 rfl) rfl ls_X7_27 rfl (sk_rok2 (by show (fu + 2) + 1 ≤ fu + 3; omega) (by show 8 + (8 + 11) + 60 * (fu + 2) ≤ 60 * (fu + 3); omega) rfl rfl) (Nat.le_of_ble_eq_true rfl) ?_
    obtain rfl := Option.some.inj hq
    exact sg_vret (sk_td o_X7_tryFrom 39 rfl) rfl
def q_X7_tryFrom_30 (self : sk_D → Int32 → Int32 → Int32 → Option (sk_D)) (d : sk_D) : Option (sk_D) :=
  some (sk_wf d 21 0 (va_cpy (d.1 22 0) (d.1 21 0) 0 0 4))
set_option maxRecDepth 100000 in
set_option maxHeartbeats 4000000 in
theorem t_X7_tryFrom_30 {l : Launch} {fu : Nat} {self : sk_D → Int32 → Int32 → Int32 → Option (sk_D)} {d : sk_D} (hself : ∀ (d : sk_D) (v1 : Int32) (v2 : Int32) (v3 : Int32) (res : sk_D), self d v1 v2 v3 = some res → sk_M l (fu + 2) m_X7_tryFrom [.inr (.inr (some (19, 0))), .inl v1, .inl v2, .inl v3, .inr (.inr (some (2, 0))), .inr (.inr (some (3, 0)))] (sk_mm d) none (sk_mm res)) {res : sk_D} (hq : q_X7_tryFrom_30 self d = some res) :
    sk_G l (sk_rm (fu + 3) 0 0) m_X7_tryFrom sk_Ex0 (sk_Zm m_X7_tryFrom none (sk_mm res)) 0 0 30 [none, none, none, none, none, none, none, none] [.inl (4 : Int32), .inl (0 : Int32), .inr (.inr (some (21, 0))), .inl (0 : Int32), .inr (.inr (some (22, 0)))] (sk_mm d) := by
  unfold q_X7_tryFrom_30 at hq
  refine sm_copy 33 (sk_td o_X7_tryFrom 18 rfl) rfl ka_X7_31 sk_acN sk_acS sk_acI rfl rfl sz_22 sz_21 (by decide) (by decide) (by show 1 ≤ fu + 3; omega) (by show 40 ≤ 60 * (fu + 3); omega) (Nat.le_of_ble_eq_true rfl) ?_
  obtain rfl := Option.some.inj hq
  exact sg_vret (sk_td o_X7_tryFrom 19 rfl) rfl
def q_X7_tryFrom_0 (self : sk_D → Int32 → Int32 → Int32 → Option (sk_D)) (d : sk_D) (v1 : Int32) (v2 : Int32) (v3 : Int32) : Option (sk_D) :=
  if v3 < (d.1 19 0 3) then if v1 < (4 : Int32) then if sk_bi v1 4 = true then (q_X7_tryFrom_47 self (sk_wi d 22 0 v1.toNatClampNeg (-9 : Int32)) v1 v2 v3 v1) else none else (q_X7_tryFrom_30 self (sk_wi d 19 0 3 v3)) else some d
set_option maxRecDepth 100000 in
set_option maxHeartbeats 4000000 in
theorem t_X7_tryFrom_0 {l : Launch} {fu : Nat} {self : sk_D → Int32 → Int32 → Int32 → Option (sk_D)} {d : sk_D} {v1 : Int32} {v2 : Int32} {v3 : Int32} (hself : ∀ (d : sk_D) (v1 : Int32) (v2 : Int32) (v3 : Int32) (res : sk_D), self d v1 v2 v3 = some res → sk_M l (fu + 2) m_X7_tryFrom [.inr (.inr (some (19, 0))), .inl v1, .inl v2, .inl v3, .inr (.inr (some (2, 0))), .inr (.inr (some (3, 0)))] (sk_mm d) none (sk_mm res)) {res : sk_D} (hq : q_X7_tryFrom_0 self d v1 v2 v3 = some res) :
    sk_G l (sk_rm (fu + 3) 0 0) m_X7_tryFrom sk_Ex0 (sk_Zm m_X7_tryFrom none (sk_mm res)) 0 0 0 [some (.inr (.inr (some (19, 0)))), some (.inl v1), some (.inl v2), some (.inl v3), some (.inr (.inr (some (2, 0)))), some (.inr (.inr (some (3, 0)))), none, none] [] (sk_mm d) := by
  unfold q_X7_tryFrom_0 at hq
  refine sg_iload_n 1 (sk_td o_X7_tryFrom 0 rfl) rfl rfl ?_
  refine sg_aload_n 2 (sk_td o_X7_tryFrom 1 rfl) rfl rfl ?_
  refine sm_getI 5 (sk_td o_X7_tryFrom 2 rfl) rfl kf_X7_23 rfl rfl sz_19 ?_
  refine sg_ic_lt 9 8 (sk_td o_X7_tryFrom 3 rfl) (by decide) rfl (fun hc => ?_) (fun hc => ?_)
  · rw [if_pos hc] at hq
    refine sg_iload_n 10 (sk_td o_X7_tryFrom 5 rfl) rfl rfl ?_
    refine sg_iconst (v := (4 : Int32)) 11 (sk_td o_X7_tryFrom 6 rfl) rfl (by decide) ?_
    refine sg_ic_lt 34 14 (sk_td o_X7_tryFrom 7 rfl) (by decide) rfl (fun hc => ?_) (fun hc => ?_)
    · rw [if_pos hc] at hq
      refine sg_aload_n 35 (sk_td o_X7_tryFrom 20 rfl) rfl rfl ?_
      refine sm_getR (22, 0) 38 (sk_td o_X7_tryFrom 21 rfl) rfl kf_X7_19 rfl rfl sz_19 rfl ?_
      refine sg_iload_n 39 (sk_td o_X7_tryFrom 22 rfl) rfl rfl ?_
      refine sg_bipush (v := (-9 : Int32)) 41 (sk_td o_X7_tryFrom 23 rfl) rfl (by decide) ?_
      obtain ⟨hb1, hq⟩ := sk_ifn hq
      refine sm_iast 42 (sk_td o_X7_tryFrom 24 rfl) rfl rfl sz_22 hb1 ?_
      refine sg_aload_n 43 (sk_td o_X7_tryFrom 25 rfl) rfl rfl ?_
      refine sm_getR (20, 0) 46 (sk_td o_X7_tryFrom 26 rfl) rfl kf_X7_9 rfl rfl sz_19 rfl ?_
      refine sg_iload_n 47 (sk_td o_X7_tryFrom 27 rfl) rfl rfl ?_
      exact t_X7_tryFrom_47 hself hq
    · rw [if_neg hc] at hq
      refine sg_aload_n 15 (sk_td o_X7_tryFrom 8 rfl) rfl rfl ?_
      refine sg_iload_n 16 (sk_td o_X7_tryFrom 9 rfl) rfl rfl ?_
      refine sm_putI 19 (sk_td o_X7_tryFrom 10 rfl) rfl kp_X7_23 rfl rfl sz_19 ?_
      refine sg_aload_n 20 (sk_td o_X7_tryFrom 11 rfl) rfl rfl ?_
      refine sm_getR (22, 0) 23 (sk_td o_X7_tryFrom 12 rfl) rfl kf_X7_19 rfl rfl sz_19 rfl ?_
      refine sg_iconst (v := (0 : Int32)) 24 (sk_td o_X7_tryFrom 13 rfl) rfl (by decide) ?_
      refine sg_aload_n 25 (sk_td o_X7_tryFrom 14 rfl) rfl rfl ?_
      refine sm_getR (21, 0) 28 (sk_td o_X7_tryFrom 15 rfl) rfl kf_X7_15 rfl rfl sz_19 rfl ?_
      refine sg_iconst (v := (0 : Int32)) 29 (sk_td o_X7_tryFrom 16 rfl) rfl (by decide) ?_
      refine sg_iconst (v := (4 : Int32)) 30 (sk_td o_X7_tryFrom 17 rfl) rfl (by decide) ?_
      refine sk_wk [false, false, false, false, false, false, true, true] (ls' := [none, none, none, none, none, none, none, none]) rfl ?_
      exact t_X7_tryFrom_30 hself hq
  · rw [if_neg hc] at hq
    obtain rfl := Option.some.inj hq
    exact sg_vret (sk_td o_X7_tryFrom 4 rfl) rfl
def q_X7_tryFrom : Nat → sk_D → Int32 → Int32 → Int32 → Option (sk_D)
  | 0 => fun _ _ _ _ => none
  | fu + 1 => fun d v1 v2 v3 => q_X7_tryFrom_0 (q_X7_tryFrom fu) d v1 v2 v3 
theorem s_X7_tryFrom {l : Launch} : ∀ {fu : Nat} {d : sk_D} {v1 : Int32} {v2 : Int32} {v3 : Int32} {res : sk_D} (hq : q_X7_tryFrom fu d v1 v2 v3 = some res) , sk_M l (fu + 2) m_X7_tryFrom [.inr (.inr (some (19, 0))), .inl v1, .inl v2, .inl v3, .inr (.inr (some (2, 0))), .inr (.inr (some (3, 0)))] (sk_mm d) none (sk_mm res)
  | 0, _, _, _, _, _, hq => by cases hq
  | fu + 1, d, v1, v2, v3, res, hq => by
    have h : sk_M l (fu + 3) m_X7_tryFrom [.inr (.inr (some (19, 0))), .inl v1, .inl v2, .inl v3, .inr (.inr (some (2, 0))), .inr (.inr (some (3, 0)))] (sk_mm d) none (sk_mm res) := sk_enter (by decide) (fun _ => Nat.le_of_ble_eq_true rfl) (Nat.le_of_ble_eq_true rfl) (t_X7_tryFrom_0 (fun d v1 v2 v3  res hq => s_X7_tryFrom hq) hq )
    rw [show fu + 1 + 2 = fu + 3 by omega]
    exact h
def q_X7_findBest_12 (d : sk_D) : Option (Int32 × sk_D) :=
  (q_X7_tryFrom 9 d (0 : Int32) (0 : Int32) (0 : Int32)).bind fun x1 => if (x1.1 19 0 3) = (3999997 : Int32) then some ((-9 : Int32), x1) else some ((x1.1 19 0 3), x1)
set_option maxRecDepth 100000 in
set_option maxHeartbeats 4000000 in
theorem t_X7_findBest_12 {l : Launch} {d : sk_D} {res : Int32 × sk_D} (hq : q_X7_findBest_12 d = some res) :
    sk_G l (sk_rm 12 0 0) m_X7_findBest sk_Ex0 (sk_Zm m_X7_findBest (some (.inl res.1)) (sk_mm res.2)) 0 0 12 [some (.inr (.inr (some (19, 0)))), none, none] [.inr (.inr (some (3, 0))), .inr (.inr (some (2, 0))), .inl (0 : Int32), .inl (0 : Int32), .inl (0 : Int32), .inr (.inr (some (19, 0)))] (sk_mm d) := by
  unfold q_X7_findBest_12 at hq
  obtain ⟨x1, hr_x1, hq⟩ := sk_bnd hq
  refine sm_callS6v 15 (s_X7_tryFrom (fu := 9) hr_x1) (sk_td o_X7_findBest 9 rfl) rfl ls_X7_27 rfl (sk_rok (Nat.le_of_ble_eq_true rfl) (Nat.le_of_ble_eq_true rfl) rfl rfl) (Nat.le_of_ble_eq_true rfl) ?_
  refine sg_aload_n 16 (sk_td o_X7_findBest 10 rfl) rfl rfl ?_
  refine sm_getI 19 (sk_td o_X7_findBest 11 rfl) rfl kf_X7_23 rfl rfl sz_19 ?_
  refine sg_ldc 21 (sk_td o_X7_findBest 12 rfl) rfl kc_X7_22 ?_
  refine sg_ic_ne 29 24 (sk_td o_X7_findBest 13 rfl) (by decide) rfl (fun hc => ?_) (fun hc => ?_)
  · rw [if_neg hc] at hq
    refine sg_aload_n 30 (sk_td o_X7_findBest 16 rfl) rfl rfl ?_
    refine sm_getI 33 (sk_td o_X7_findBest 17 rfl) rfl kf_X7_23 rfl rfl sz_19 ?_
    obtain rfl := Option.some.inj hq
    exact sg_iret (sk_td o_X7_findBest 18 rfl) rfl rfl
  · rw [if_pos hc] at hq
    refine sg_bipush (v := (-9 : Int32)) 26 (sk_td o_X7_findBest 14 rfl) rfl (by decide) ?_
    refine sg_goto 33 (sk_td o_X7_findBest 15 rfl) (by decide) ?_
    obtain rfl := Option.some.inj hq
    exact sg_iret (sk_td o_X7_findBest 18 rfl) rfl rfl
def q_X7_findBest_0 (d : sk_D) : Option (Int32 × sk_D) :=
  (q_X7_findBest_12 (sk_wi d 19 0 3 (3999997 : Int32)))
set_option maxRecDepth 100000 in
set_option maxHeartbeats 4000000 in
theorem t_X7_findBest_0 {l : Launch} {d : sk_D} {res : Int32 × sk_D} (hq : q_X7_findBest_0 d = some res) :
    sk_G l (sk_rm 12 0 0) m_X7_findBest sk_Ex0 (sk_Zm m_X7_findBest (some (.inl res.1)) (sk_mm res.2)) 0 0 0 [some (.inr (.inr (some (19, 0)))), some (.inr (.inr (some (2, 0)))), some (.inr (.inr (some (3, 0))))] [] (sk_mm d) := by
  unfold q_X7_findBest_0 at hq
  refine sg_aload_n 1 (sk_td o_X7_findBest 0 rfl) rfl rfl ?_
  refine sg_ldc 3 (sk_td o_X7_findBest 1 rfl) rfl kc_X7_22 ?_
  refine sm_putI 6 (sk_td o_X7_findBest 2 rfl) rfl kp_X7_23 rfl rfl sz_19 ?_
  refine sg_aload_n 7 (sk_td o_X7_findBest 3 rfl) rfl rfl ?_
  refine sg_iconst (v := (0 : Int32)) 8 (sk_td o_X7_findBest 4 rfl) rfl (by decide) ?_
  refine sg_iconst (v := (0 : Int32)) 9 (sk_td o_X7_findBest 5 rfl) rfl (by decide) ?_
  refine sg_iconst (v := (0 : Int32)) 10 (sk_td o_X7_findBest 6 rfl) rfl (by decide) ?_
  refine sg_aload_n 11 (sk_td o_X7_findBest 7 rfl) rfl rfl ?_
  refine sg_aload_n 12 (sk_td o_X7_findBest 8 rfl) rfl rfl ?_
  refine sk_wk [true, false, false] (ls' := [some (.inr (.inr (some (19, 0)))), none, none]) rfl ?_
  exact t_X7_findBest_12 hq
def q_X7_findBest (d : sk_D) : Option (Int32 × sk_D) := q_X7_findBest_0 d 
theorem s_X7_findBest {l : Launch} {d : sk_D} {res : Int32 × sk_D} (hq : q_X7_findBest d = some res) : sk_M l 12 m_X7_findBest [.inr (.inr (some (19, 0))), .inr (.inr (some (2, 0))), .inr (.inr (some (3, 0)))] (sk_mm d) (some (.inl res.1)) (sk_mm res.2) :=
  sk_enter (by decide) (fun _ => Nat.le_of_ble_eq_true rfl) (Nat.le_of_ble_eq_true rfl) (t_X7_findBest_0 hq )
def q_X8_freePupilNumber_2 (rec2 : (Int32) → Option (Int32)) (d : sk_D) (v1 : Int32) : Option (Int32) :=
  if (20 : Int32) ≤ v1 then some (-9 : Int32) else if sk_bi v1 20 = true then if (d.1 37 v1.toNatClampNeg 0) = 0 then some v1 else (rec2 (v1 + (1 : Int32))) else none
set_option maxRecDepth 100000 in
set_option maxHeartbeats 4000000 in
theorem t_X8_freePupilNumber_2 {l : Launch} {rec2 : (Int32) → Option (Int32)} {d : sk_D} {v1 : Int32} (hrec2 : ∀ (a : (Int32)) (res : Int32), rec2 a = some res → sk_G l (sk_rm 1 0 0) m_X8_freePupilNumber sk_Ex0 (sk_Zm m_X8_freePupilNumber (some (.inl res)) (sk_mm d)) 0 0 2 [some (.inr (.inr (some (0, 0)))), some (.inl a)] [] (sk_mm d)) {res : Int32} (hq : q_X8_freePupilNumber_2 rec2 d v1 = some res) :
    sk_G l (sk_rm 1 0 0) m_X8_freePupilNumber sk_Ex0 (sk_Zm m_X8_freePupilNumber (some (.inl res)) (sk_mm d)) 0 0 2 [some (.inr (.inr (some (0, 0)))), some (.inl v1)] [] (sk_mm d) := by
  unfold q_X8_freePupilNumber_2 at hq
  refine sg_iload_n 3 (sk_td o_X8_freePupilNumber 2 rfl) rfl rfl ?_
  refine sg_bipush (v := (20 : Int32)) 5 (sk_td o_X8_freePupilNumber 3 rfl) rfl (by decide) ?_
  refine sg_ic_ge 28 8 (sk_td o_X8_freePupilNumber 4 rfl) (by decide) rfl (fun hc => ?_) (fun hc => ?_)
  · rw [if_pos hc] at hq
    refine sg_bipush (v := (-9 : Int32)) 30 (sk_td o_X8_freePupilNumber 15 rfl) rfl (by decide) ?_
    obtain rfl := Option.some.inj hq
    exact sg_iret (sk_td o_X8_freePupilNumber 16 rfl) rfl rfl
  · rw [if_neg hc] at hq
    refine sg_aload_n 9 (sk_td o_X8_freePupilNumber 5 rfl) rfl rfl ?_
    refine sm_getR (1, 0) 12 (sk_td o_X8_freePupilNumber 6 rfl) rfl kf_X8_11 rfl rfl sz_0 rfl ?_
    refine sg_iload_n 13 (sk_td o_X8_freePupilNumber 7 rfl) rfl rfl ?_
    obtain ⟨hb1, hq⟩ := sk_ifn hq
    refine sm_aald (37, v1.toNatClampNeg) 14 (sk_td o_X8_freePupilNumber 8 rfl) rfl rfl (by decide) sz_1 hb1 (sr_1 (sk_bi.lt hb1)) ?_
    refine sm_getI 17 (sk_td o_X8_freePupilNumber 9 rfl) rfl kf_X8_108 rfl rfl (sk_bi.lt hb1) ?_
    refine sg_if_ne 22 20 (sk_td o_X8_freePupilNumber 10 rfl) (by decide) rfl (fun hc => ?_) (fun hc => ?_)
    · rw [if_neg hc] at hq
      refine sg_iinc (v1 + (1 : Int32)) 25 [some (.inr (.inr (some (0, 0)))), some (.inl (v1 + (1 : Int32)))] (sk_td o_X8_freePupilNumber 13 rfl) rfl rfl rfl rfl (Nat.le_of_ble_eq_true rfl) rfl ?_
      refine sg_goto 2 (sk_td o_X8_freePupilNumber 14 rfl) (by decide) ?_
      exact hrec2 (v1 + (1 : Int32)) _ hq
    · rw [if_pos hc] at hq
      refine sg_iload_n 21 (sk_td o_X8_freePupilNumber 11 rfl) rfl rfl ?_
      obtain rfl := Option.some.inj hq
      exact sg_iret (sk_td o_X8_freePupilNumber 12 rfl) rfl rfl
def l_X8_freePupilNumber_2 (d : sk_D) (fl : Nat) (a : (Int32)) : Option (Int32) := sk_it (fun rec2 a => q_X8_freePupilNumber_2 rec2 d a) fl a
theorem lt_X8_freePupilNumber_2 {l : Launch} {d : sk_D} : ∀ (fl : Nat) (a : (Int32)) (res : Int32), l_X8_freePupilNumber_2 d fl a = some res → sk_G l (sk_rm 1 0 0) m_X8_freePupilNumber sk_Ex0 (sk_Zm m_X8_freePupilNumber (some (.inl res)) (sk_mm d)) 0 0 2 [some (.inr (.inr (some (0, 0)))), some (.inl a)] [] (sk_mm d) :=
  sk_it_ind (P := fun (a : (Int32)) (res : Int32) => sk_G l (sk_rm 1 0 0) m_X8_freePupilNumber sk_Ex0 (sk_Zm m_X8_freePupilNumber (some (.inl res)) (sk_mm d)) 0 0 2 [some (.inr (.inr (some (0, 0)))), some (.inl a)] [] (sk_mm d)) (fun rec2 hrec2 a res hq  => t_X8_freePupilNumber_2 hrec2 hq )
def q_X8_freePupilNumber_0 (d : sk_D) : Option (Int32) :=
  (l_X8_freePupilNumber_2 d sk_fu (0 : Int32))
set_option maxRecDepth 100000 in
set_option maxHeartbeats 4000000 in
theorem t_X8_freePupilNumber_0 {l : Launch} {d : sk_D} {res : Int32} (hq : q_X8_freePupilNumber_0 d = some res) :
    sk_G l (sk_rm 1 0 0) m_X8_freePupilNumber sk_Ex0 (sk_Zm m_X8_freePupilNumber (some (.inl res)) (sk_mm d)) 0 0 0 [some (.inr (.inr (some (0, 0)))), none] [] (sk_mm d) := by
  unfold q_X8_freePupilNumber_0 at hq
  refine sg_iconst (v := (0 : Int32)) 1 (sk_td o_X8_freePupilNumber 0 rfl) rfl (by decide) ?_
  refine sg_istore_n 2 [some (.inr (.inr (some (0, 0)))), some (.inl (0 : Int32))] (sk_td o_X8_freePupilNumber 1 rfl) rfl rfl (Nat.le_of_ble_eq_true rfl) rfl ?_
  exact lt_X8_freePupilNumber_2 sk_fu (0 : Int32) _ hq
def q_X8_freePupilNumber (d : sk_D) : Option (Int32) := q_X8_freePupilNumber_0 d 
theorem s_X8_freePupilNumber {l : Launch} {d : sk_D} {res : Int32} (hq : q_X8_freePupilNumber d = some res) : sk_M l 1 m_X8_freePupilNumber [.inr (.inr (some (0, 0)))] (sk_mm d) (some (.inl res)) (sk_mm d) :=
  sk_enter (by decide) (fun _ => Nat.le_of_ble_eq_true rfl) (Nat.le_of_ble_eq_true rfl) (t_X8_freePupilNumber_0 hq )
def q_X8_isInOnePlace_62 (rec8 : (Int32 × Int32 × Int32 × Int32) → Option (Int32)) (d : sk_D) (v1 : Int32) (v2 : Int32) (v3 : Int32) (v4 : Int32) : Option (Int32) :=
  (rec8 (v1, v2, v3, (v4 + (1 : Int32))))
set_option maxRecDepth 100000 in
set_option maxHeartbeats 4000000 in
theorem t_X8_isInOnePlace_62 {l : Launch} {rec8 : (Int32 × Int32 × Int32 × Int32) → Option (Int32)} {d : sk_D} {v1 : Int32} {v2 : Int32} {v3 : Int32} {v4 : Int32} (hrec8 : ∀ (a : (Int32 × Int32 × Int32 × Int32)) (res : Int32), rec8 a = some res → sk_G l (sk_rm 2 0 0) m_X8_isInOnePlace sk_Ex0 (sk_Zm m_X8_isInOnePlace (some (.inl res)) (sk_mm d)) 0 0 8 [some (.inr (.inr (some (0, 0)))), some (.inl a.1), some (.inl a.2.1), some (.inl a.2.2.1), some (.inl a.2.2.2)] [] (sk_mm d)) {res : Int32} (hq : q_X8_isInOnePlace_62 rec8 d v1 v2 v3 v4 = some res) :
    sk_G l (sk_rm 2 0 0) m_X8_isInOnePlace sk_Ex0 (sk_Zm m_X8_isInOnePlace (some (.inl res)) (sk_mm d)) 0 0 62 [some (.inr (.inr (some (0, 0)))), some (.inl v1), some (.inl v2), some (.inl v3), some (.inl v4)] [] (sk_mm d) := by
  unfold q_X8_isInOnePlace_62 at hq
  refine sg_iinc (v4 + (1 : Int32)) 65 [some (.inr (.inr (some (0, 0)))), some (.inl v1), some (.inl v2), some (.inl v3), some (.inl (v4 + (1 : Int32)))] (sk_td o_X8_isInOnePlace 35 rfl) rfl rfl rfl rfl (Nat.le_of_ble_eq_true rfl) rfl ?_
  refine sg_goto 8 (sk_td o_X8_isInOnePlace 36 rfl) (by decide) ?_
  exact hrec8 (v1, v2, v3, (v4 + (1 : Int32))) _ hq
def q_X8_isInOnePlace_49 (rec8 : (Int32 × Int32 × Int32 × Int32) → Option (Int32)) (d : sk_D) (v1 : Int32) (v4 : Int32) : Option (Int32) :=
  if sk_bi v4 20 = true then (q_X8_isInOnePlace_62 rec8 d v1 (1 : Int32) (d.1 37 v4.toNatClampNeg 4) v4) else none
set_option maxRecDepth 100000 in
set_option maxHeartbeats 4000000 in
theorem t_X8_isInOnePlace_49 {l : Launch} {rec8 : (Int32 × Int32 × Int32 × Int32) → Option (Int32)} {d : sk_D} {v1 : Int32} {v4 : Int32} (hrec8 : ∀ (a : (Int32 × Int32 × Int32 × Int32)) (res : Int32), rec8 a = some res → sk_G l (sk_rm 2 0 0) m_X8_isInOnePlace sk_Ex0 (sk_Zm m_X8_isInOnePlace (some (.inl res)) (sk_mm d)) 0 0 8 [some (.inr (.inr (some (0, 0)))), some (.inl a.1), some (.inl a.2.1), some (.inl a.2.2.1), some (.inl a.2.2.2)] [] (sk_mm d)) {res : Int32} (hq : q_X8_isInOnePlace_49 rec8 d v1 v4 = some res) :
    sk_G l (sk_rm 2 0 0) m_X8_isInOnePlace sk_Ex0 (sk_Zm m_X8_isInOnePlace (some (.inl res)) (sk_mm d)) 0 0 49 [some (.inr (.inr (some (0, 0)))), some (.inl v1), none, none, some (.inl v4)] [] (sk_mm d) := by
  unfold q_X8_isInOnePlace_49 at hq
  refine sg_iconst (v := (1 : Int32)) 50 (sk_td o_X8_isInOnePlace 27 rfl) rfl (by decide) ?_
  refine sg_istore_n 51 [some (.inr (.inr (some (0, 0)))), some (.inl v1), some (.inl (1 : Int32)), none, some (.inl v4)] (sk_td o_X8_isInOnePlace 28 rfl) rfl rfl (Nat.le_of_ble_eq_true rfl) rfl ?_
  refine sg_aload_n 52 (sk_td o_X8_isInOnePlace 29 rfl) rfl rfl ?_
  refine sm_getR (1, 0) 55 (sk_td o_X8_isInOnePlace 30 rfl) rfl kf_X8_11 rfl rfl sz_0 rfl ?_
  refine sg_iload 57 (sk_td o_X8_isInOnePlace 31 rfl) rfl rfl ?_
  obtain ⟨hb1, hq⟩ := sk_ifn hq
  refine sm_aald (37, v4.toNatClampNeg) 58 (sk_td o_X8_isInOnePlace 32 rfl) rfl rfl (by decide) sz_1 hb1 (sr_1 (sk_bi.lt hb1)) ?_
  refine sm_getI 61 (sk_td o_X8_isInOnePlace 33 rfl) rfl kf_X8_124 rfl rfl (sk_bi.lt hb1) ?_
  refine sg_istore_n 62 [some (.inr (.inr (some (0, 0)))), some (.inl v1), some (.inl (1 : Int32)), some (.inl (d.1 37 v4.toNatClampNeg 4)), some (.inl v4)] (sk_td o_X8_isInOnePlace 34 rfl) rfl rfl (Nat.le_of_ble_eq_true rfl) rfl ?_
  exact t_X8_isInOnePlace_62 hrec8 hq
def q_X8_isInOnePlace_8 (rec8 : (Int32 × Int32 × Int32 × Int32) → Option (Int32)) (d : sk_D) (v1 : Int32) (v2 : Int32) (v3 : Int32) (v4 : Int32) : Option (Int32) :=
  if (20 : Int32) ≤ v4 then some (1 : Int32) else if sk_bi v4 20 = true then (q_X4_isMember d v4.toNatClampNeg v1).bind fun x2 => if x2 = 0 then (q_X8_isInOnePlace_62 rec8 d v1 v2 v3 v4) else if v2 = 0 then (q_X8_isInOnePlace_49 rec8 d v1 v4) else if sk_bi v4 20 = true then if (d.1 37 v4.toNatClampNeg 4) = v3 then (q_X8_isInOnePlace_49 rec8 d v1 v4) else some (0 : Int32) else none else none
set_option maxRecDepth 100000 in
set_option maxHeartbeats 4000000 in
theorem t_X8_isInOnePlace_8 {l : Launch} {rec8 : (Int32 × Int32 × Int32 × Int32) → Option (Int32)} {d : sk_D} {v1 : Int32} {v2 : Int32} {v3 : Int32} {v4 : Int32} (hrec8 : ∀ (a : (Int32 × Int32 × Int32 × Int32)) (res : Int32), rec8 a = some res → sk_G l (sk_rm 2 0 0) m_X8_isInOnePlace sk_Ex0 (sk_Zm m_X8_isInOnePlace (some (.inl res)) (sk_mm d)) 0 0 8 [some (.inr (.inr (some (0, 0)))), some (.inl a.1), some (.inl a.2.1), some (.inl a.2.2.1), some (.inl a.2.2.2)] [] (sk_mm d)) {res : Int32} (hq : q_X8_isInOnePlace_8 rec8 d v1 v2 v3 v4 = some res) :
    sk_G l (sk_rm 2 0 0) m_X8_isInOnePlace sk_Ex0 (sk_Zm m_X8_isInOnePlace (some (.inl res)) (sk_mm d)) 0 0 8 [some (.inr (.inr (some (0, 0)))), some (.inl v1), some (.inl v2), some (.inl v3), some (.inl v4)] [] (sk_mm d) := by
  unfold q_X8_isInOnePlace_8 at hq
  refine sg_iload 10 (sk_td o_X8_isInOnePlace 6 rfl) rfl rfl ?_
  refine sg_bipush (v := (20 : Int32)) 12 (sk_td o_X8_isInOnePlace 7 rfl) rfl (by decide) ?_
  refine sg_ic_ge 68 15 (sk_td o_X8_isInOnePlace 8 rfl) (by decide) rfl (fun hc => ?_) (fun hc => ?_)
  · rw [if_pos hc] at hq
    refine sg_iconst (v := (1 : Int32)) 69 (sk_td o_X8_isInOnePlace 37 rfl) rfl (by decide) ?_
    obtain rfl := Option.some.inj hq
    exact sg_iret (sk_td o_X8_isInOnePlace 38 rfl) rfl (show narrow .boolean (.int (1 : Int32)) = .int (1 : Int32) by decide)
  · rw [if_neg hc] at hq
    refine sg_aload_n 16 (sk_td o_X8_isInOnePlace 9 rfl) rfl rfl ?_
    refine sm_getR (1, 0) 19 (sk_td o_X8_isInOnePlace 10 rfl) rfl kf_X8_11 rfl rfl sz_0 rfl ?_
    refine sg_iload 21 (sk_td o_X8_isInOnePlace 11 rfl) rfl rfl ?_
    obtain ⟨hb1, hq⟩ := sk_ifn hq
    refine sm_aald (37, v4.toNatClampNeg) 22 (sk_td o_X8_isInOnePlace 12 rfl) rfl rfl (by decide) sz_1 hb1 (sr_1 (sk_bi.lt hb1)) ?_
    refine sg_iload_n 23 (sk_td o_X8_isInOnePlace 13 rfl) rfl rfl ?_
    obtain ⟨x2, hr_x2, hq⟩ := sk_bnd hq
    refine sm_callV1i 26 (s_X4_isMember hr_x2 (sk_bi.lt hb1)) (sk_td o_X8_isInOnePlace 14 rfl) rfl lv_X8_127 rfl rfl rfl (sk_bi.lt hb1) (sk_rok (Nat.le_of_ble_eq_true rfl) (Nat.le_of_ble_eq_true rfl) rfl rfl) (Nat.le_of_ble_eq_true rfl) ?_
    refine sg_if_eq 62 29 (sk_td o_X8_isInOnePlace 15 rfl) (by decide) rfl (fun hc => ?_) (fun hc => ?_)
    · rw [if_pos hc] at hq
      exact t_X8_isInOnePlace_62 hrec8 hq
    · rw [if_neg hc] at hq
      refine sg_iload_n 30 (sk_td o_X8_isInOnePlace 16 rfl) rfl rfl ?_
      refine sg_if_eq 49 33 (sk_td o_X8_isInOnePlace 17 rfl) (by decide) rfl (fun hc => ?_) (fun hc => ?_)
      · rw [if_pos hc] at hq
        refine sk_wk [true, true, false, false, true] (ls' := [some (.inr (.inr (some (0, 0)))), some (.inl v1), none, none, some (.inl v4)]) rfl ?_
        exact t_X8_isInOnePlace_49 hrec8 hq
      · rw [if_neg hc] at hq
        refine sg_aload_n 34 (sk_td o_X8_isInOnePlace 18 rfl) rfl rfl ?_
        refine sm_getR (1, 0) 37 (sk_td o_X8_isInOnePlace 19 rfl) rfl kf_X8_11 rfl rfl sz_0 rfl ?_
        refine sg_iload 39 (sk_td o_X8_isInOnePlace 20 rfl) rfl rfl ?_
        obtain ⟨hb3, hq⟩ := sk_ifn hq
        refine sm_aald (37, v4.toNatClampNeg) 40 (sk_td o_X8_isInOnePlace 21 rfl) rfl rfl (by decide) sz_1 hb3 (sr_1 (sk_bi.lt hb3)) ?_
        refine sm_getI 43 (sk_td o_X8_isInOnePlace 22 rfl) rfl kf_X8_124 rfl rfl (sk_bi.lt hb3) ?_
        refine sg_iload_n 44 (sk_td o_X8_isInOnePlace 23 rfl) rfl rfl ?_
        refine sg_ic_eq 49 47 (sk_td o_X8_isInOnePlace 24 rfl) (by decide) rfl (fun hc => ?_) (fun hc => ?_)
        · rw [if_pos hc] at hq
          refine sk_wk [true, true, false, false, true] (ls' := [some (.inr (.inr (some (0, 0)))), some (.inl v1), none, none, some (.inl v4)]) rfl ?_
          exact t_X8_isInOnePlace_49 hrec8 hq
        · rw [if_neg hc] at hq
          refine sg_iconst (v := (0 : Int32)) 48 (sk_td o_X8_isInOnePlace 25 rfl) rfl (by decide) ?_
          obtain rfl := Option.some.inj hq
          exact sg_iret (sk_td o_X8_isInOnePlace 26 rfl) rfl (show narrow .boolean (.int (0 : Int32)) = .int (0 : Int32) by decide)
def l_X8_isInOnePlace_8 (d : sk_D) (fl : Nat) (a : (Int32 × Int32 × Int32 × Int32)) : Option (Int32) := sk_it (fun rec8 a => q_X8_isInOnePlace_8 rec8 d a.1 a.2.1 a.2.2.1 a.2.2.2) fl a
theorem lt_X8_isInOnePlace_8 {l : Launch} {d : sk_D} : ∀ (fl : Nat) (a : (Int32 × Int32 × Int32 × Int32)) (res : Int32), l_X8_isInOnePlace_8 d fl a = some res → sk_G l (sk_rm 2 0 0) m_X8_isInOnePlace sk_Ex0 (sk_Zm m_X8_isInOnePlace (some (.inl res)) (sk_mm d)) 0 0 8 [some (.inr (.inr (some (0, 0)))), some (.inl a.1), some (.inl a.2.1), some (.inl a.2.2.1), some (.inl a.2.2.2)] [] (sk_mm d) :=
  sk_it_ind (P := fun (a : (Int32 × Int32 × Int32 × Int32)) (res : Int32) => sk_G l (sk_rm 2 0 0) m_X8_isInOnePlace sk_Ex0 (sk_Zm m_X8_isInOnePlace (some (.inl res)) (sk_mm d)) 0 0 8 [some (.inr (.inr (some (0, 0)))), some (.inl a.1), some (.inl a.2.1), some (.inl a.2.2.1), some (.inl a.2.2.2)] [] (sk_mm d)) (fun rec8 hrec8 a res hq  => t_X8_isInOnePlace_8 hrec8 hq )
def q_X8_isInOnePlace_0 (d : sk_D) (v1 : Int32) : Option (Int32) :=
  (l_X8_isInOnePlace_8 d sk_fu (v1, (0 : Int32), (-9 : Int32), (0 : Int32)))
set_option maxRecDepth 100000 in
set_option maxHeartbeats 4000000 in
theorem t_X8_isInOnePlace_0 {l : Launch} {d : sk_D} {v1 : Int32} {res : Int32} (hq : q_X8_isInOnePlace_0 d v1 = some res) :
    sk_G l (sk_rm 2 0 0) m_X8_isInOnePlace sk_Ex0 (sk_Zm m_X8_isInOnePlace (some (.inl res)) (sk_mm d)) 0 0 0 [some (.inr (.inr (some (0, 0)))), some (.inl v1), none, none, none] [] (sk_mm d) := by
  unfold q_X8_isInOnePlace_0 at hq
  refine sg_iconst (v := (0 : Int32)) 1 (sk_td o_X8_isInOnePlace 0 rfl) rfl (by decide) ?_
  refine sg_istore_n 2 [some (.inr (.inr (some (0, 0)))), some (.inl v1), some (.inl (0 : Int32)), none, none] (sk_td o_X8_isInOnePlace 1 rfl) rfl rfl (Nat.le_of_ble_eq_true rfl) rfl ?_
  refine sg_bipush (v := (-9 : Int32)) 4 (sk_td o_X8_isInOnePlace 2 rfl) rfl (by decide) ?_
  refine sg_istore_n 5 [some (.inr (.inr (some (0, 0)))), some (.inl v1), some (.inl (0 : Int32)), some (.inl (-9 : Int32)), none] (sk_td o_X8_isInOnePlace 3 rfl) rfl rfl (Nat.le_of_ble_eq_true rfl) rfl ?_
  refine sg_iconst (v := (0 : Int32)) 6 (sk_td o_X8_isInOnePlace 4 rfl) rfl (by decide) ?_
  refine sg_istore 8 [some (.inr (.inr (some (0, 0)))), some (.inl v1), some (.inl (0 : Int32)), some (.inl (-9 : Int32)), some (.inl (0 : Int32))] (sk_td o_X8_isInOnePlace 5 rfl) rfl rfl (Nat.le_of_ble_eq_true rfl) rfl ?_
  exact lt_X8_isInOnePlace_8 sk_fu (v1, (0 : Int32), (-9 : Int32), (0 : Int32)) _ hq
def q_X8_isInOnePlace (d : sk_D) (v1 : Int32) : Option (Int32) := q_X8_isInOnePlace_0 d v1 
theorem s_X8_isInOnePlace {l : Launch} {d : sk_D} {v1 : Int32} {res : Int32} (hq : q_X8_isInOnePlace d v1 = some res) : sk_M l 2 m_X8_isInOnePlace [.inr (.inr (some (0, 0))), .inl v1] (sk_mm d) (some (.inl res)) (sk_mm d) :=
  sk_enter (by decide) (fun _ => Nat.le_of_ble_eq_true rfl) (Nat.le_of_ble_eq_true rfl) (t_X8_isInOnePlace_0 hq )
def q_X8_separateIfBroken_77 (rec30 : (sk_D × Int32 × Int32 × Int32) → Option (Int32 × sk_D)) (d : sk_D) (v1 : Int32) (v2 : Int32) (v3 : Int32) : Option (Int32 × sk_D) :=
  (rec30 (d, v1, v2, (v3 + (1 : Int32))))
set_option maxRecDepth 100000 in
set_option maxHeartbeats 4000000 in
theorem t_X8_separateIfBroken_77 {l : Launch} {rec30 : (sk_D × Int32 × Int32 × Int32) → Option (Int32 × sk_D)} {d : sk_D} {v1 : Int32} {v2 : Int32} {v3 : Int32} (hrec30 : ∀ (a : (sk_D × Int32 × Int32 × Int32)) (res : Int32 × sk_D), rec30 a = some res → sk_G l (sk_rm 3 0 0) m_X8_separateIfBroken sk_Ex0 (sk_Zm m_X8_separateIfBroken (some (.inl res.1)) (sk_mm res.2)) 0 0 30 [some (.inr (.inr (some (0, 0)))), some (.inl a.2.1), some (.inl a.2.2.1), some (.inl a.2.2.2)] [] (sk_mm a.1)) {res : Int32 × sk_D} (hq : q_X8_separateIfBroken_77 rec30 d v1 v2 v3 = some res) :
    sk_G l (sk_rm 3 0 0) m_X8_separateIfBroken sk_Ex0 (sk_Zm m_X8_separateIfBroken (some (.inl res.1)) (sk_mm res.2)) 0 0 77 [some (.inr (.inr (some (0, 0)))), some (.inl v1), some (.inl v2), some (.inl v3)] [] (sk_mm d) := by
  unfold q_X8_separateIfBroken_77 at hq
  refine sg_iinc (v3 + (1 : Int32)) 80 [some (.inr (.inr (some (0, 0)))), some (.inl v1), some (.inl v2), some (.inl (v3 + (1 : Int32)))] (sk_td o_X8_separateIfBroken 42 rfl) rfl rfl rfl rfl (Nat.le_of_ble_eq_true rfl) rfl ?_
  refine sg_goto 30 (sk_td o_X8_separateIfBroken 43 rfl) (by decide) ?_
  exact hrec30 (d, v1, v2, (v3 + (1 : Int32))) _ hq
def q_X8_separateIfBroken_30 (rec30 : (sk_D × Int32 × Int32 × Int32) → Option (Int32 × sk_D)) (d : sk_D) (v1 : Int32) (v2 : Int32) (v3 : Int32) : Option (Int32 × sk_D) :=
  if (20 : Int32) ≤ v3 then some (v2, d) else if sk_bi v3 20 = true then (q_X4_isMember d v3.toNatClampNeg v1).bind fun x2 => if x2 = 0 then (q_X8_separateIfBroken_77 rec30 d v1 v2 v3) else if sk_bi v3 20 = true then if (d.1 37 v3.toNatClampNeg 4) = (-9 : Int32) then (q_X8_separateIfBroken_77 rec30 d v1 v2 v3) else if sk_bi v3 20 = true then (q_X8_separateIfBroken_77 rec30 (sk_wi d 37 v3.toNatClampNeg 4 (-9 : Int32)) v1 (v2 + (1 : Int32)) v3) else none else none else none
set_option maxRecDepth 100000 in
set_option maxHeartbeats 4000000 in
theorem t_X8_separateIfBroken_30 {l : Launch} {rec30 : (sk_D × Int32 × Int32 × Int32) → Option (Int32 × sk_D)} {d : sk_D} {v1 : Int32} {v2 : Int32} {v3 : Int32} (hrec30 : ∀ (a : (sk_D × Int32 × Int32 × Int32)) (res : Int32 × sk_D), rec30 a = some res → sk_G l (sk_rm 3 0 0) m_X8_separateIfBroken sk_Ex0 (sk_Zm m_X8_separateIfBroken (some (.inl res.1)) (sk_mm res.2)) 0 0 30 [some (.inr (.inr (some (0, 0)))), some (.inl a.2.1), some (.inl a.2.2.1), some (.inl a.2.2.2)] [] (sk_mm a.1)) {res : Int32 × sk_D} (hq : q_X8_separateIfBroken_30 rec30 d v1 v2 v3 = some res) :
    sk_G l (sk_rm 3 0 0) m_X8_separateIfBroken sk_Ex0 (sk_Zm m_X8_separateIfBroken (some (.inl res.1)) (sk_mm res.2)) 0 0 30 [some (.inr (.inr (some (0, 0)))), some (.inl v1), some (.inl v2), some (.inl v3)] [] (sk_mm d) := by
  unfold q_X8_separateIfBroken_30 at hq
  refine sg_iload_n 31 (sk_td o_X8_separateIfBroken 18 rfl) rfl rfl ?_
  refine sg_bipush (v := (20 : Int32)) 33 (sk_td o_X8_separateIfBroken 19 rfl) rfl (by decide) ?_
  refine sg_ic_ge 83 36 (sk_td o_X8_separateIfBroken 20 rfl) (by decide) rfl (fun hc => ?_) (fun hc => ?_)
  · rw [if_pos hc] at hq
    refine sg_iload_n 84 (sk_td o_X8_separateIfBroken 44 rfl) rfl rfl ?_
    obtain rfl := Option.some.inj hq
    exact sg_iret (sk_td o_X8_separateIfBroken 45 rfl) rfl rfl
  · rw [if_neg hc] at hq
    refine sg_aload_n 37 (sk_td o_X8_separateIfBroken 21 rfl) rfl rfl ?_
    refine sm_getR (1, 0) 40 (sk_td o_X8_separateIfBroken 22 rfl) rfl kf_X8_11 rfl rfl sz_0 rfl ?_
    refine sg_iload_n 41 (sk_td o_X8_separateIfBroken 23 rfl) rfl rfl ?_
    obtain ⟨hb1, hq⟩ := sk_ifn hq
    refine sm_aald (37, v3.toNatClampNeg) 42 (sk_td o_X8_separateIfBroken 24 rfl) rfl rfl (by decide) sz_1 hb1 (sr_1 (sk_bi.lt hb1)) ?_
    refine sg_iload_n 43 (sk_td o_X8_separateIfBroken 25 rfl) rfl rfl ?_
    obtain ⟨x2, hr_x2, hq⟩ := sk_bnd hq
    refine sm_callV1i 46 (s_X4_isMember hr_x2 (sk_bi.lt hb1)) (sk_td o_X8_separateIfBroken 26 rfl) rfl lv_X8_127 rfl rfl rfl (sk_bi.lt hb1) (sk_rok (Nat.le_of_ble_eq_true rfl) (Nat.le_of_ble_eq_true rfl) rfl rfl) (Nat.le_of_ble_eq_true rfl) ?_
    refine sg_if_eq 77 49 (sk_td o_X8_separateIfBroken 27 rfl) (by decide) rfl (fun hc => ?_) (fun hc => ?_)
    · rw [if_pos hc] at hq
      exact t_X8_separateIfBroken_77 hrec30 hq
    · rw [if_neg hc] at hq
      refine sg_aload_n 50 (sk_td o_X8_separateIfBroken 28 rfl) rfl rfl ?_
      refine sm_getR (1, 0) 53 (sk_td o_X8_separateIfBroken 29 rfl) rfl kf_X8_11 rfl rfl sz_0 rfl ?_
      refine sg_iload_n 54 (sk_td o_X8_separateIfBroken 30 rfl) rfl rfl ?_
      obtain ⟨hb3, hq⟩ := sk_ifn hq
      refine sm_aald (37, v3.toNatClampNeg) 55 (sk_td o_X8_separateIfBroken 31 rfl) rfl rfl (by decide) sz_1 hb3 (sr_1 (sk_bi.lt hb3)) ?_
      refine sm_getI 58 (sk_td o_X8_separateIfBroken 32 rfl) rfl kf_X8_124 rfl rfl (sk_bi.lt hb3) ?_
      refine sg_bipush (v := (-9 : Int32)) 60 (sk_td o_X8_separateIfBroken 33 rfl) rfl (by decide) ?_
      refine sg_ic_eq 77 63 (sk_td o_X8_separateIfBroken 34 rfl) (by decide) rfl (fun hc => ?_) (fun hc => ?_)
      · rw [if_pos hc] at hq
        exact t_X8_separateIfBroken_77 hrec30 hq
      · rw [if_neg hc] at hq
        refine sg_aload_n 64 (sk_td o_X8_separateIfBroken 35 rfl) rfl rfl ?_
        refine sm_getR (1, 0) 67 (sk_td o_X8_separateIfBroken 36 rfl) rfl kf_X8_11 rfl rfl sz_0 rfl ?_
        refine sg_iload_n 68 (sk_td o_X8_separateIfBroken 37 rfl) rfl rfl ?_
        obtain ⟨hb4, hq⟩ := sk_ifn hq
        refine sm_aald (37, v3.toNatClampNeg) 69 (sk_td o_X8_separateIfBroken 38 rfl) rfl rfl (by decide) sz_1 hb4 (sr_1 (sk_bi.lt hb4)) ?_
        refine sg_bipush (v := (-9 : Int32)) 71 (sk_td o_X8_separateIfBroken 39 rfl) rfl (by decide) ?_
        refine sm_putI 74 (sk_td o_X8_separateIfBroken 40 rfl) rfl kp_X8_124 rfl rfl (sk_bi.lt hb4) ?_
        refine sg_iinc (v2 + (1 : Int32)) 77 [some (.inr (.inr (some (0, 0)))), some (.inl v1), some (.inl (v2 + (1 : Int32))), some (.inl v3)] (sk_td o_X8_separateIfBroken 41 rfl) rfl rfl rfl rfl (Nat.le_of_ble_eq_true rfl) rfl ?_
        exact t_X8_separateIfBroken_77 hrec30 hq
def l_X8_separateIfBroken_30 (fl : Nat) (a : (sk_D × Int32 × Int32 × Int32)) : Option (Int32 × sk_D) := sk_it (fun rec30 a => q_X8_separateIfBroken_30 rec30 a.1 a.2.1 a.2.2.1 a.2.2.2) fl a
theorem lt_X8_separateIfBroken_30 {l : Launch} : ∀ (fl : Nat) (a : (sk_D × Int32 × Int32 × Int32)) (res : Int32 × sk_D), l_X8_separateIfBroken_30 fl a = some res → sk_G l (sk_rm 3 0 0) m_X8_separateIfBroken sk_Ex0 (sk_Zm m_X8_separateIfBroken (some (.inl res.1)) (sk_mm res.2)) 0 0 30 [some (.inr (.inr (some (0, 0)))), some (.inl a.2.1), some (.inl a.2.2.1), some (.inl a.2.2.2)] [] (sk_mm a.1) :=
  sk_it_ind (P := fun (a : (sk_D × Int32 × Int32 × Int32)) (res : Int32 × sk_D) => sk_G l (sk_rm 3 0 0) m_X8_separateIfBroken sk_Ex0 (sk_Zm m_X8_separateIfBroken (some (.inl res.1)) (sk_mm res.2)) 0 0 30 [some (.inr (.inr (some (0, 0)))), some (.inl a.2.1), some (.inl a.2.2.1), some (.inl a.2.2.2)] [] (sk_mm a.1)) (fun rec30 hrec30 a res hq  => t_X8_separateIfBroken_30 hrec30 hq )
def q_X8_separateIfBroken_0 (d : sk_D) (v1 : Int32) : Option (Int32 × sk_D) :=
  (q_X8_isFamily d v1).bind fun x1 => if x1 = 0 then some ((0 : Int32), d) else if sk_bi v1 8 = true then if (d.1 5 0 v1.toNatClampNeg) = 0 then some ((0 : Int32), d) else (q_X8_isInOnePlace d v1).bind fun x3 => if x3 = 0 then (l_X8_separateIfBroken_30 sk_fu (d, v1, (0 : Int32), (0 : Int32))) else some ((0 : Int32), d) else none
set_option maxRecDepth 100000 in
set_option maxHeartbeats 4000000 in
theorem t_X8_separateIfBroken_0 {l : Launch} {d : sk_D} {v1 : Int32} {res : Int32 × sk_D} (hq : q_X8_separateIfBroken_0 d v1 = some res) :
    sk_G l (sk_rm 3 0 0) m_X8_separateIfBroken sk_Ex0 (sk_Zm m_X8_separateIfBroken (some (.inl res.1)) (sk_mm res.2)) 0 0 0 [some (.inr (.inr (some (0, 0)))), some (.inl v1), none, none] [] (sk_mm d) := by
  unfold q_X8_separateIfBroken_0 at hq
  refine sg_iload_n 1 (sk_td o_X8_separateIfBroken 0 rfl) rfl rfl ?_
  obtain ⟨x1, hr_x1, hq⟩ := sk_bnd hq
  refine sm_callS1i 4 (s_X8_isFamily hr_x1) (sk_td o_X8_separateIfBroken 1 rfl) rfl ls_X8_89 rfl (sk_rok (Nat.le_of_ble_eq_true rfl) (Nat.le_of_ble_eq_true rfl) rfl rfl) (Nat.le_of_ble_eq_true rfl) ?_
  refine sg_if_eq 24 7 (sk_td o_X8_separateIfBroken 2 rfl) (by decide) rfl (fun hc => ?_) (fun hc => ?_)
  · rw [if_pos hc] at hq
    refine sg_iconst (v := (0 : Int32)) 25 (sk_td o_X8_separateIfBroken 12 rfl) rfl (by decide) ?_
    obtain rfl := Option.some.inj hq
    exact sg_iret (sk_td o_X8_separateIfBroken 13 rfl) rfl rfl
  · rw [if_neg hc] at hq
    refine sg_aload_n 8 (sk_td o_X8_separateIfBroken 3 rfl) rfl rfl ?_
    refine sm_getR (5, 0) 11 (sk_td o_X8_separateIfBroken 4 rfl) rfl kf_X8_33 rfl rfl sz_0 rfl ?_
    refine sg_iload_n 12 (sk_td o_X8_separateIfBroken 5 rfl) rfl rfl ?_
    obtain ⟨hb2, hq⟩ := sk_ifn hq
    refine sm_zald 13 (sk_td o_X8_separateIfBroken 6 rfl) rfl rfl sz_5 hb2 ?_
    refine sg_if_eq 24 16 (sk_td o_X8_separateIfBroken 7 rfl) (by decide) rfl (fun hc => ?_) (fun hc => ?_)
    · rw [if_pos hc] at hq
      refine sg_iconst (v := (0 : Int32)) 25 (sk_td o_X8_separateIfBroken 12 rfl) rfl (by decide) ?_
      obtain rfl := Option.some.inj hq
      exact sg_iret (sk_td o_X8_separateIfBroken 13 rfl) rfl rfl
    · rw [if_neg hc] at hq
      refine sg_aload_n 17 (sk_td o_X8_separateIfBroken 8 rfl) rfl rfl ?_
      refine sg_iload_n 18 (sk_td o_X8_separateIfBroken 9 rfl) rfl rfl ?_
      obtain ⟨x3, hr_x3, hq⟩ := sk_bnd hq
      refine sm_callV1i 21 (s_X8_isInOnePlace hr_x3) (sk_td o_X8_separateIfBroken 10 rfl) rfl lv_X8_381 rfl rfl rfl sz_0 (sk_rok (Nat.le_of_ble_eq_true rfl) (Nat.le_of_ble_eq_true rfl) rfl rfl) (Nat.le_of_ble_eq_true rfl) ?_
      refine sg_if_eq 26 24 (sk_td o_X8_separateIfBroken 11 rfl) (by decide) rfl (fun hc => ?_) (fun hc => ?_)
      · rw [if_pos hc] at hq
        refine sg_iconst (v := (0 : Int32)) 27 (sk_td o_X8_separateIfBroken 14 rfl) rfl (by decide) ?_
        refine sg_istore_n 28 [some (.inr (.inr (some (0, 0)))), some (.inl v1), some (.inl (0 : Int32)), none] (sk_td o_X8_separateIfBroken 15 rfl) rfl rfl (Nat.le_of_ble_eq_true rfl) rfl ?_
        refine sg_iconst (v := (0 : Int32)) 29 (sk_td o_X8_separateIfBroken 16 rfl) rfl (by decide) ?_
        refine sg_istore_n 30 [some (.inr (.inr (some (0, 0)))), some (.inl v1), some (.inl (0 : Int32)), some (.inl (0 : Int32))] (sk_td o_X8_separateIfBroken 17 rfl) rfl rfl (Nat.le_of_ble_eq_true rfl) rfl ?_
        exact lt_X8_separateIfBroken_30 sk_fu (d, v1, (0 : Int32), (0 : Int32)) _ hq
      · rw [if_neg hc] at hq
        refine sg_iconst (v := (0 : Int32)) 25 (sk_td o_X8_separateIfBroken 12 rfl) rfl (by decide) ?_
        obtain rfl := Option.some.inj hq
        exact sg_iret (sk_td o_X8_separateIfBroken 13 rfl) rfl rfl
def q_X8_separateIfBroken (d : sk_D) (v1 : Int32) : Option (Int32 × sk_D) := q_X8_separateIfBroken_0 d v1 
theorem s_X8_separateIfBroken {l : Launch} {d : sk_D} {v1 : Int32} {res : Int32 × sk_D} (hq : q_X8_separateIfBroken d v1 = some res) : sk_M l 3 m_X8_separateIfBroken [.inr (.inr (some (0, 0))), .inl v1] (sk_mm d) (some (.inl res.1)) (sk_mm res.2) :=
  sk_enter (by decide) (fun _ => Nat.le_of_ble_eq_true rfl) (Nat.le_of_ble_eq_true rfl) (t_X8_separateIfBroken_0 hq )
def q_X8_addPupil_37 (d : sk_D) (v1 : Int32) (v2 : Int32) (v3 : Int32) : Option (Int32 × sk_D) :=
  (q_X8_freePupilNumber d).bind fun x1 => (q_X8_within d x1 (0 : Int32) (19 : Int32)).bind fun x2 => if x2 = 0 then some ((-3 : Int32), d) else if sk_bi x1 20 = true then (q_X4_enrol d x1.toNatClampNeg v1 v2 v3).bind fun x4 => (q_X8_separateIfBroken x4 v3).bind fun x5 => some (x1, x5.2) else none
set_option maxRecDepth 100000 in
set_option maxHeartbeats 4000000 in
theorem t_X8_addPupil_37 {l : Launch} {d : sk_D} {v1 : Int32} {v2 : Int32} {v3 : Int32} {res : Int32 × sk_D} (hq : q_X8_addPupil_37 d v1 v2 v3 = some res) :
    sk_G l (sk_rm 4 0 0) m_X8_addPupil sk_Ex0 (sk_Zm m_X8_addPupil (some (.inl res.1)) (sk_mm res.2)) 0 0 37 [some (.inr (.inr (some (0, 0)))), some (.inl v1), some (.inl v2), some (.inl v3), none] [] (sk_mm d) := by
  unfold q_X8_addPupil_37 at hq
  refine sg_aload_n 38 (sk_td o_X8_addPupil 20 rfl) rfl rfl ?_
  obtain ⟨x1, hr_x1, hq⟩ := sk_bnd hq
  refine sm_callV0i 41 (s_X8_freePupilNumber hr_x1) (sk_td o_X8_addPupil 21 rfl) rfl lv_X8_93 rfl rfl rfl sz_0 (sk_rok (Nat.le_of_ble_eq_true rfl) (Nat.le_of_ble_eq_true rfl) rfl rfl) (Nat.le_of_ble_eq_true rfl) ?_
  refine sg_istore 43 [some (.inr (.inr (some (0, 0)))), some (.inl v1), some (.inl v2), some (.inl v3), some (.inl x1)] (sk_td o_X8_addPupil 22 rfl) rfl rfl (Nat.le_of_ble_eq_true rfl) rfl ?_
  refine sg_iload 45 (sk_td o_X8_addPupil 23 rfl) rfl rfl ?_
  refine sg_iconst (v := (0 : Int32)) 46 (sk_td o_X8_addPupil 24 rfl) rfl (by decide) ?_
  refine sg_bipush (v := (19 : Int32)) 48 (sk_td o_X8_addPupil 25 rfl) rfl (by decide) ?_
  obtain ⟨x2, hr_x2, hq⟩ := sk_bnd hq
  refine sm_callS3i 51 (s_X8_within hr_x2) (sk_td o_X8_addPupil 26 rfl) rfl ls_X8_85 rfl (sk_rok (Nat.le_of_ble_eq_true rfl) (Nat.le_of_ble_eq_true rfl) rfl rfl) (Nat.le_of_ble_eq_true rfl) ?_
  refine sg_if_ne 57 54 (sk_td o_X8_addPupil 27 rfl) (by decide) rfl (fun hc => ?_) (fun hc => ?_)
  · rw [if_neg hc] at hq
    refine sg_aload_n 58 (sk_td o_X8_addPupil 30 rfl) rfl rfl ?_
    refine sm_getR (1, 0) 61 (sk_td o_X8_addPupil 31 rfl) rfl kf_X8_11 rfl rfl sz_0 rfl ?_
    refine sg_iload 63 (sk_td o_X8_addPupil 32 rfl) rfl rfl ?_
    obtain ⟨hb3, hq⟩ := sk_ifn hq
    refine sm_aald (37, x1.toNatClampNeg) 64 (sk_td o_X8_addPupil 33 rfl) rfl rfl (by decide) sz_1 hb3 (sr_1 (sk_bi.lt hb3)) ?_
    refine sg_iload_n 65 (sk_td o_X8_addPupil 34 rfl) rfl rfl ?_
    refine sg_iload_n 66 (sk_td o_X8_addPupil 35 rfl) rfl rfl ?_
    refine sg_iload_n 67 (sk_td o_X8_addPupil 36 rfl) rfl rfl ?_
    obtain ⟨x4, hr_x4, hq⟩ := sk_bnd hq
    refine sm_callV3v 70 (s_X4_enrol hr_x4 (sk_bi.lt hb3)) (sk_td o_X8_addPupil 37 rfl) rfl lv_X8_97 rfl rfl rfl (sk_bi.lt hb3) (sk_rok (Nat.le_of_ble_eq_true rfl) (Nat.le_of_ble_eq_true rfl) rfl rfl) (Nat.le_of_ble_eq_true rfl) ?_
    refine sg_aload_n 71 (sk_td o_X8_addPupil 38 rfl) rfl rfl ?_
    refine sg_iload_n 72 (sk_td o_X8_addPupil 39 rfl) rfl rfl ?_
    obtain ⟨x5, hr_x5, hq⟩ := sk_bnd hq
    refine sm_callV1i 75 (s_X8_separateIfBroken hr_x5) (sk_td o_X8_addPupil 40 rfl) rfl lv_X8_101 rfl rfl rfl sz_0 (sk_rok (Nat.le_of_ble_eq_true rfl) (Nat.le_of_ble_eq_true rfl) rfl rfl) (Nat.le_of_ble_eq_true rfl) ?_
    refine sg_popI 76 (sk_td o_X8_addPupil 41 rfl) rfl ?_
    refine sg_iload 78 (sk_td o_X8_addPupil 42 rfl) rfl rfl ?_
    obtain rfl := Option.some.inj hq
    exact sg_iret (sk_td o_X8_addPupil 43 rfl) rfl rfl
  · rw [if_pos hc] at hq
    refine sg_bipush (v := (-3 : Int32)) 56 (sk_td o_X8_addPupil 28 rfl) rfl (by decide) ?_
    obtain rfl := Option.some.inj hq
    exact sg_iret (sk_td o_X8_addPupil 29 rfl) rfl rfl
def q_X8_addPupil_0 (d : sk_D) (v1 : Int32) (v2 : Int32) (v3 : Int32) : Option (Int32 × sk_D) :=
  (q_X8_within d v1 (0 : Int32) (7 : Int32)).bind fun x1 => if x1 = 0 then some ((-1 : Int32), d) else (q_X8_within d v2 (1 : Int32) (63 : Int32)).bind fun x2 => if x2 = 0 then some ((-1 : Int32), d) else if v3 = (-9 : Int32) then (q_X8_addPupil_37 d v1 v2 v3) else (q_X8_isFamily d v3).bind fun x3 => if x3 = 0 then some ((-1 : Int32), d) else (q_X8_addPupil_37 d v1 v2 v3)
set_option maxRecDepth 100000 in
set_option maxHeartbeats 4000000 in
theorem t_X8_addPupil_0 {l : Launch} {d : sk_D} {v1 : Int32} {v2 : Int32} {v3 : Int32} {res : Int32 × sk_D} (hq : q_X8_addPupil_0 d v1 v2 v3 = some res) :
    sk_G l (sk_rm 4 0 0) m_X8_addPupil sk_Ex0 (sk_Zm m_X8_addPupil (some (.inl res.1)) (sk_mm res.2)) 0 0 0 [some (.inr (.inr (some (0, 0)))), some (.inl v1), some (.inl v2), some (.inl v3), none] [] (sk_mm d) := by
  unfold q_X8_addPupil_0 at hq
  refine sg_iload_n 1 (sk_td o_X8_addPupil 0 rfl) rfl rfl ?_
  refine sg_iconst (v := (0 : Int32)) 2 (sk_td o_X8_addPupil 1 rfl) rfl (by decide) ?_
  refine sg_bipush (v := (7 : Int32)) 4 (sk_td o_X8_addPupil 2 rfl) rfl (by decide) ?_
  obtain ⟨x1, hr_x1, hq⟩ := sk_bnd hq
  refine sm_callS3i 7 (s_X8_within hr_x1) (sk_td o_X8_addPupil 3 rfl) rfl ls_X8_85 rfl (sk_rok (Nat.le_of_ble_eq_true rfl) (Nat.le_of_ble_eq_true rfl) rfl rfl) (Nat.le_of_ble_eq_true rfl) ?_
  refine sg_if_eq 20 10 (sk_td o_X8_addPupil 4 rfl) (by decide) rfl (fun hc => ?_) (fun hc => ?_)
  · rw [if_pos hc] at hq
    refine sg_iconst (v := (-1 : Int32)) 21 (sk_td o_X8_addPupil 10 rfl) rfl (by decide) ?_
    obtain rfl := Option.some.inj hq
    exact sg_iret (sk_td o_X8_addPupil 11 rfl) rfl rfl
  · rw [if_neg hc] at hq
    refine sg_iload_n 11 (sk_td o_X8_addPupil 5 rfl) rfl rfl ?_
    refine sg_iconst (v := (1 : Int32)) 12 (sk_td o_X8_addPupil 6 rfl) rfl (by decide) ?_
    refine sg_bipush (v := (63 : Int32)) 14 (sk_td o_X8_addPupil 7 rfl) rfl (by decide) ?_
    obtain ⟨x2, hr_x2, hq⟩ := sk_bnd hq
    refine sm_callS3i 17 (s_X8_within hr_x2) (sk_td o_X8_addPupil 8 rfl) rfl ls_X8_85 rfl (sk_rok (Nat.le_of_ble_eq_true rfl) (Nat.le_of_ble_eq_true rfl) rfl rfl) (Nat.le_of_ble_eq_true rfl) ?_
    refine sg_if_ne 22 20 (sk_td o_X8_addPupil 9 rfl) (by decide) rfl (fun hc => ?_) (fun hc => ?_)
    · rw [if_neg hc] at hq
      refine sg_iload_n 23 (sk_td o_X8_addPupil 12 rfl) rfl rfl ?_
      refine sg_bipush (v := (-9 : Int32)) 25 (sk_td o_X8_addPupil 13 rfl) rfl (by decide) ?_
      refine sg_ic_eq 37 28 (sk_td o_X8_addPupil 14 rfl) (by decide) rfl (fun hc => ?_) (fun hc => ?_)
      · rw [if_pos hc] at hq
        exact t_X8_addPupil_37 hq
      · rw [if_neg hc] at hq
        refine sg_iload_n 29 (sk_td o_X8_addPupil 15 rfl) rfl rfl ?_
        obtain ⟨x3, hr_x3, hq⟩ := sk_bnd hq
        refine sm_callS1i 32 (s_X8_isFamily hr_x3) (sk_td o_X8_addPupil 16 rfl) rfl ls_X8_89 rfl (sk_rok (Nat.le_of_ble_eq_true rfl) (Nat.le_of_ble_eq_true rfl) rfl rfl) (Nat.le_of_ble_eq_true rfl) ?_
        refine sg_if_ne 37 35 (sk_td o_X8_addPupil 17 rfl) (by decide) rfl (fun hc => ?_) (fun hc => ?_)
        · rw [if_neg hc] at hq
          exact t_X8_addPupil_37 hq
        · rw [if_pos hc] at hq
          refine sg_iconst (v := (-1 : Int32)) 36 (sk_td o_X8_addPupil 18 rfl) rfl (by decide) ?_
          obtain rfl := Option.some.inj hq
          exact sg_iret (sk_td o_X8_addPupil 19 rfl) rfl rfl
    · rw [if_pos hc] at hq
      refine sg_iconst (v := (-1 : Int32)) 21 (sk_td o_X8_addPupil 10 rfl) rfl (by decide) ?_
      obtain rfl := Option.some.inj hq
      exact sg_iret (sk_td o_X8_addPupil 11 rfl) rfl rfl
def q_X8_addPupil (d : sk_D) (v1 : Int32) (v2 : Int32) (v3 : Int32) : Option (Int32 × sk_D) := q_X8_addPupil_0 d v1 v2 v3 
theorem s_X8_addPupil {l : Launch} {d : sk_D} {v1 : Int32} {v2 : Int32} {v3 : Int32} {res : Int32 × sk_D} (hq : q_X8_addPupil d v1 v2 v3 = some res) : sk_M l 4 m_X8_addPupil [.inr (.inr (some (0, 0))), .inl v1, .inl v2, .inl v3] (sk_mm d) (some (.inl res.1)) (sk_mm res.2) :=
  sk_enter (by decide) (fun _ => Nat.le_of_ble_eq_true rfl) (Nat.le_of_ble_eq_true rfl) (t_X8_addPupil_0 hq )
def q_X8_hasPupil_0 (d : sk_D) (v1 : Int32) : Option (Int32) :=
  (q_X8_within d v1 (0 : Int32) (19 : Int32)).bind fun x1 => if x1 = 0 then some (0 : Int32) else if sk_bi v1 20 = true then if (d.1 37 v1.toNatClampNeg 0) = 0 then some (0 : Int32) else some (1 : Int32) else none
set_option maxRecDepth 100000 in
set_option maxHeartbeats 4000000 in
theorem t_X8_hasPupil_0 {l : Launch} {d : sk_D} {v1 : Int32} {res : Int32} (hq : q_X8_hasPupil_0 d v1 = some res) :
    sk_G l (sk_rm 2 0 0) m_X8_hasPupil sk_Ex0 (sk_Zm m_X8_hasPupil (some (.inl res)) (sk_mm d)) 0 0 0 [some (.inr (.inr (some (0, 0)))), some (.inl v1)] [] (sk_mm d) := by
  unfold q_X8_hasPupil_0 at hq
  refine sg_iload_n 1 (sk_td o_X8_hasPupil 0 rfl) rfl rfl ?_
  refine sg_iconst (v := (0 : Int32)) 2 (sk_td o_X8_hasPupil 1 rfl) rfl (by decide) ?_
  refine sg_bipush (v := (19 : Int32)) 4 (sk_td o_X8_hasPupil 2 rfl) rfl (by decide) ?_
  obtain ⟨x1, hr_x1, hq⟩ := sk_bnd hq
  refine sm_callS3i 7 (s_X8_within hr_x1) (sk_td o_X8_hasPupil 3 rfl) rfl ls_X8_85 rfl (sk_rok (Nat.le_of_ble_eq_true rfl) (Nat.le_of_ble_eq_true rfl) rfl rfl) (Nat.le_of_ble_eq_true rfl) ?_
  refine sg_if_eq 26 10 (sk_td o_X8_hasPupil 4 rfl) (by decide) rfl (fun hc => ?_) (fun hc => ?_)
  · rw [if_pos hc] at hq
    refine sg_iconst (v := (0 : Int32)) 27 (sk_td o_X8_hasPupil 13 rfl) rfl (by decide) ?_
    obtain rfl := Option.some.inj hq
    exact sg_iret (sk_td o_X8_hasPupil 14 rfl) rfl (show narrow .boolean (.int (0 : Int32)) = .int (0 : Int32) by decide)
  · rw [if_neg hc] at hq
    refine sg_aload_n 11 (sk_td o_X8_hasPupil 5 rfl) rfl rfl ?_
    refine sm_getR (1, 0) 14 (sk_td o_X8_hasPupil 6 rfl) rfl kf_X8_11 rfl rfl sz_0 rfl ?_
    refine sg_iload_n 15 (sk_td o_X8_hasPupil 7 rfl) rfl rfl ?_
    obtain ⟨hb2, hq⟩ := sk_ifn hq
    refine sm_aald (37, v1.toNatClampNeg) 16 (sk_td o_X8_hasPupil 8 rfl) rfl rfl (by decide) sz_1 hb2 (sr_1 (sk_bi.lt hb2)) ?_
    refine sm_getI 19 (sk_td o_X8_hasPupil 9 rfl) rfl kf_X8_108 rfl rfl (sk_bi.lt hb2) ?_
    refine sg_if_eq 26 22 (sk_td o_X8_hasPupil 10 rfl) (by decide) rfl (fun hc => ?_) (fun hc => ?_)
    · rw [if_pos hc] at hq
      refine sg_iconst (v := (0 : Int32)) 27 (sk_td o_X8_hasPupil 13 rfl) rfl (by decide) ?_
      obtain rfl := Option.some.inj hq
      exact sg_iret (sk_td o_X8_hasPupil 14 rfl) rfl (show narrow .boolean (.int (0 : Int32)) = .int (0 : Int32) by decide)
    · rw [if_neg hc] at hq
      refine sg_iconst (v := (1 : Int32)) 23 (sk_td o_X8_hasPupil 11 rfl) rfl (by decide) ?_
      refine sg_goto 27 (sk_td o_X8_hasPupil 12 rfl) (by decide) ?_
      obtain rfl := Option.some.inj hq
      exact sg_iret (sk_td o_X8_hasPupil 14 rfl) rfl (show narrow .boolean (.int (1 : Int32)) = .int (1 : Int32) by decide)
def q_X8_hasPupil (d : sk_D) (v1 : Int32) : Option (Int32) := q_X8_hasPupil_0 d v1 
theorem s_X8_hasPupil {l : Launch} {d : sk_D} {v1 : Int32} {res : Int32} (hq : q_X8_hasPupil d v1 = some res) : sk_M l 2 m_X8_hasPupil [.inr (.inr (some (0, 0))), .inl v1] (sk_mm d) (some (.inl res)) (sk_mm d) :=
  sk_enter (by decide) (fun _ => Nat.le_of_ble_eq_true rfl) (Nat.le_of_ble_eq_true rfl) (t_X8_hasPupil_0 hq )
def q_X8_group_0 (d : sk_D) (v1 : Int32) : Option (Int32) :=
  (q_X8_hasPupil d v1).bind fun x1 => if x1 = 0 then some (-1 : Int32) else if sk_bi v1 20 = true then some (d.1 37 v1.toNatClampNeg 4) else none
set_option maxRecDepth 100000 in
set_option maxHeartbeats 4000000 in
theorem t_X8_group_0 {l : Launch} {d : sk_D} {v1 : Int32} {res : Int32} (hq : q_X8_group_0 d v1 = some res) :
    sk_G l (sk_rm 3 0 0) m_X8_group sk_Ex0 (sk_Zm m_X8_group (some (.inl res)) (sk_mm d)) 0 0 0 [some (.inr (.inr (some (0, 0)))), some (.inl v1)] [] (sk_mm d) := by
  unfold q_X8_group_0 at hq
  refine sg_aload_n 1 (sk_td o_X8_group 0 rfl) rfl rfl ?_
  refine sg_iload_n 2 (sk_td o_X8_group 1 rfl) rfl rfl ?_
  obtain ⟨x1, hr_x1, hq⟩ := sk_bnd hq
  refine sm_callV1i 5 (s_X8_hasPupil hr_x1) (sk_td o_X8_group 2 rfl) rfl lv_X8_105 rfl rfl rfl sz_0 (sk_rok (Nat.le_of_ble_eq_true rfl) (Nat.le_of_ble_eq_true rfl) rfl rfl) (Nat.le_of_ble_eq_true rfl) ?_
  refine sg_if_eq 20 8 (sk_td o_X8_group 3 rfl) (by decide) rfl (fun hc => ?_) (fun hc => ?_)
  · rw [if_pos hc] at hq
    refine sg_iconst (v := (-1 : Int32)) 21 (sk_td o_X8_group 10 rfl) rfl (by decide) ?_
    obtain rfl := Option.some.inj hq
    exact sg_iret (sk_td o_X8_group 11 rfl) rfl rfl
  · rw [if_neg hc] at hq
    refine sg_aload_n 9 (sk_td o_X8_group 4 rfl) rfl rfl ?_
    refine sm_getR (1, 0) 12 (sk_td o_X8_group 5 rfl) rfl kf_X8_11 rfl rfl sz_0 rfl ?_
    refine sg_iload_n 13 (sk_td o_X8_group 6 rfl) rfl rfl ?_
    obtain ⟨hb2, hq⟩ := sk_ifn hq
    refine sm_aald (37, v1.toNatClampNeg) 14 (sk_td o_X8_group 7 rfl) rfl rfl (by decide) sz_1 hb2 (sr_1 (sk_bi.lt hb2)) ?_
    refine sm_getI 17 (sk_td o_X8_group 8 rfl) rfl kf_X8_124 rfl rfl (sk_bi.lt hb2) ?_
    refine sg_goto 21 (sk_td o_X8_group 9 rfl) (by decide) ?_
    obtain rfl := Option.some.inj hq
    exact sg_iret (sk_td o_X8_group 11 rfl) rfl rfl
def q_X8_group (d : sk_D) (v1 : Int32) : Option (Int32) := q_X8_group_0 d v1 
theorem s_X8_group {l : Launch} {d : sk_D} {v1 : Int32} {res : Int32} (hq : q_X8_group d v1 = some res) : sk_M l 3 m_X8_group [.inr (.inr (some (0, 0))), .inl v1] (sk_mm d) (some (.inl res)) (sk_mm d) :=
  sk_enter (by decide) (fun _ => Nat.le_of_ble_eq_true rfl) (Nat.le_of_ble_eq_true rfl) (t_X8_group_0 hq )
def q_X8_setTogether_18 (d : sk_D) (s1 : Int32) : Option (Int32 × sk_D) :=
  (q_X8_separateIfBroken d s1).bind fun x1 => some (x1.1, x1.2)
set_option maxRecDepth 100000 in
set_option maxHeartbeats 4000000 in
theorem t_X8_setTogether_18 {l : Launch} {d : sk_D} {s1 : Int32} {res : Int32 × sk_D} (hq : q_X8_setTogether_18 d s1 = some res) :
    sk_G l (sk_rm 4 0 0) m_X8_setTogether sk_Ex0 (sk_Zm m_X8_setTogether (some (.inl res.1)) (sk_mm res.2)) 0 0 18 [none, none, none] [.inl s1, .inr (.inr (some (0, 0)))] (sk_mm d) := by
  unfold q_X8_setTogether_18 at hq
  obtain ⟨x1, hr_x1, hq⟩ := sk_bnd hq
  refine sm_callV1i 21 (s_X8_separateIfBroken hr_x1) (sk_td o_X8_setTogether 12 rfl) rfl lv_X8_101 rfl rfl rfl sz_0 (sk_rok (Nat.le_of_ble_eq_true rfl) (Nat.le_of_ble_eq_true rfl) rfl rfl) (Nat.le_of_ble_eq_true rfl) ?_
  obtain rfl := Option.some.inj hq
  exact sg_iret (sk_td o_X8_setTogether 13 rfl) rfl rfl
def q_X8_setTogether_0 (d : sk_D) (v1 : Int32) (v2 : Int32) : Option (Int32 × sk_D) :=
  (q_X8_isFamily d v1).bind fun x1 => if x1 = 0 then some ((-1 : Int32), d) else if sk_bi v1 8 = true then (q_X8_setTogether_18 (sk_wi d 5 0 v1.toNatClampNeg (vp_nar .boolean v2)) v1) else none
set_option maxRecDepth 100000 in
set_option maxHeartbeats 4000000 in
theorem t_X8_setTogether_0 {l : Launch} {d : sk_D} {v1 : Int32} {v2 : Int32} {res : Int32 × sk_D} (hq : q_X8_setTogether_0 d v1 v2 = some res) :
    sk_G l (sk_rm 4 0 0) m_X8_setTogether sk_Ex0 (sk_Zm m_X8_setTogether (some (.inl res.1)) (sk_mm res.2)) 0 0 0 [some (.inr (.inr (some (0, 0)))), some (.inl v1), some (.inl v2)] [] (sk_mm d) := by
  unfold q_X8_setTogether_0 at hq
  refine sg_iload_n 1 (sk_td o_X8_setTogether 0 rfl) rfl rfl ?_
  obtain ⟨x1, hr_x1, hq⟩ := sk_bnd hq
  refine sm_callS1i 4 (s_X8_isFamily hr_x1) (sk_td o_X8_setTogether 1 rfl) rfl ls_X8_89 rfl (sk_rok (Nat.le_of_ble_eq_true rfl) (Nat.le_of_ble_eq_true rfl) rfl rfl) (Nat.le_of_ble_eq_true rfl) ?_
  refine sg_if_ne 9 7 (sk_td o_X8_setTogether 2 rfl) (by decide) rfl (fun hc => ?_) (fun hc => ?_)
  · rw [if_neg hc] at hq
    refine sg_aload_n 10 (sk_td o_X8_setTogether 5 rfl) rfl rfl ?_
    refine sm_getR (5, 0) 13 (sk_td o_X8_setTogether 6 rfl) rfl kf_X8_33 rfl rfl sz_0 rfl ?_
    refine sg_iload_n 14 (sk_td o_X8_setTogether 7 rfl) rfl rfl ?_
    refine sg_iload_n 15 (sk_td o_X8_setTogether 8 rfl) rfl rfl ?_
    obtain ⟨hb2, hq⟩ := sk_ifn hq
    refine sm_zast 16 (sk_td o_X8_setTogether 9 rfl) rfl rfl sz_5 hb2 ?_
    refine sg_aload_n 17 (sk_td o_X8_setTogether 10 rfl) rfl rfl ?_
    refine sg_iload_n 18 (sk_td o_X8_setTogether 11 rfl) rfl rfl ?_
    refine sk_wk [false, false, false] (ls' := [none, none, none]) rfl ?_
    exact t_X8_setTogether_18 hq
  · rw [if_pos hc] at hq
    refine sg_iconst (v := (-1 : Int32)) 8 (sk_td o_X8_setTogether 3 rfl) rfl (by decide) ?_
    obtain rfl := Option.some.inj hq
    exact sg_iret (sk_td o_X8_setTogether 4 rfl) rfl rfl
def q_X8_setTogether (d : sk_D) (v1 : Int32) (v2 : Int32) : Option (Int32 × sk_D) := q_X8_setTogether_0 d v1 v2 
theorem s_X8_setTogether {l : Launch} {d : sk_D} {v1 : Int32} {v2 : Int32} {res : Int32 × sk_D} (hq : q_X8_setTogether d v1 v2 = some res) : sk_M l 4 m_X8_setTogether [.inr (.inr (some (0, 0))), .inl v1, .inl v2] (sk_mm d) (some (.inl res.1)) (sk_mm res.2) :=
  sk_enter (by decide) (fun _ => Nat.le_of_ble_eq_true rfl) (Nat.le_of_ble_eq_true rfl) (t_X8_setTogether_0 hq )
def q_X8_isGroupKind_0 (d : sk_D) (v0 : Int32) (v1 : Int32) (v2 : Int32) : Option (Int32) :=
  (q_X8_within d v0 (0 : Int32) (7 : Int32)).bind fun x1 => if x1 = 0 then some (0 : Int32) else (q_X8_within d v1 (0 : Int32) (5 : Int32)).bind fun x2 => if x2 = 0 then some (0 : Int32) else (q_X8_within d v2 (1 : Int32) (6 : Int32)).bind fun x3 => if x3 = 0 then some (0 : Int32) else some (1 : Int32)
set_option maxRecDepth 100000 in
set_option maxHeartbeats 4000000 in
theorem t_X8_isGroupKind_0 {l : Launch} {d : sk_D} {v0 : Int32} {v1 : Int32} {v2 : Int32} {res : Int32} (hq : q_X8_isGroupKind_0 d v0 v1 v2 = some res) :
    sk_G l (sk_rm 2 0 0) m_X8_isGroupKind sk_Ex0 (sk_Zm m_X8_isGroupKind (some (.inl res)) (sk_mm d)) 0 0 0 [some (.inl v0), some (.inl v1), some (.inl v2)] [] (sk_mm d) := by
  unfold q_X8_isGroupKind_0 at hq
  refine sg_iload_n 1 (sk_td o_X8_isGroupKind 0 rfl) rfl rfl ?_
  refine sg_iconst (v := (0 : Int32)) 2 (sk_td o_X8_isGroupKind 1 rfl) rfl (by decide) ?_
  refine sg_bipush (v := (7 : Int32)) 4 (sk_td o_X8_isGroupKind 2 rfl) rfl (by decide) ?_
  obtain ⟨x1, hr_x1, hq⟩ := sk_bnd hq
  refine sm_callS3i 7 (s_X8_within hr_x1) (sk_td o_X8_isGroupKind 3 rfl) rfl ls_X8_85 rfl (sk_rok (Nat.le_of_ble_eq_true rfl) (Nat.le_of_ble_eq_true rfl) rfl rfl) (Nat.le_of_ble_eq_true rfl) ?_
  refine sg_if_eq 33 10 (sk_td o_X8_isGroupKind 4 rfl) (by decide) rfl (fun hc => ?_) (fun hc => ?_)
  · rw [if_pos hc] at hq
    refine sg_iconst (v := (0 : Int32)) 34 (sk_td o_X8_isGroupKind 17 rfl) rfl (by decide) ?_
    obtain rfl := Option.some.inj hq
    exact sg_iret (sk_td o_X8_isGroupKind 18 rfl) rfl (show narrow .boolean (.int (0 : Int32)) = .int (0 : Int32) by decide)
  · rw [if_neg hc] at hq
    refine sg_iload_n 11 (sk_td o_X8_isGroupKind 5 rfl) rfl rfl ?_
    refine sg_iconst (v := (0 : Int32)) 12 (sk_td o_X8_isGroupKind 6 rfl) rfl (by decide) ?_
    refine sg_iconst (v := (5 : Int32)) 13 (sk_td o_X8_isGroupKind 7 rfl) rfl (by decide) ?_
    obtain ⟨x2, hr_x2, hq⟩ := sk_bnd hq
    refine sm_callS3i 16 (s_X8_within hr_x2) (sk_td o_X8_isGroupKind 8 rfl) rfl ls_X8_85 rfl (sk_rok (Nat.le_of_ble_eq_true rfl) (Nat.le_of_ble_eq_true rfl) rfl rfl) (Nat.le_of_ble_eq_true rfl) ?_
    refine sg_if_eq 33 19 (sk_td o_X8_isGroupKind 9 rfl) (by decide) rfl (fun hc => ?_) (fun hc => ?_)
    · rw [if_pos hc] at hq
      refine sg_iconst (v := (0 : Int32)) 34 (sk_td o_X8_isGroupKind 17 rfl) rfl (by decide) ?_
      obtain rfl := Option.some.inj hq
      exact sg_iret (sk_td o_X8_isGroupKind 18 rfl) rfl (show narrow .boolean (.int (0 : Int32)) = .int (0 : Int32) by decide)
    · rw [if_neg hc] at hq
      refine sg_iload_n 20 (sk_td o_X8_isGroupKind 10 rfl) rfl rfl ?_
      refine sg_iconst (v := (1 : Int32)) 21 (sk_td o_X8_isGroupKind 11 rfl) rfl (by decide) ?_
      refine sg_bipush (v := (6 : Int32)) 23 (sk_td o_X8_isGroupKind 12 rfl) rfl (by decide) ?_
      obtain ⟨x3, hr_x3, hq⟩ := sk_bnd hq
      refine sm_callS3i 26 (s_X8_within hr_x3) (sk_td o_X8_isGroupKind 13 rfl) rfl ls_X8_85 rfl (sk_rok (Nat.le_of_ble_eq_true rfl) (Nat.le_of_ble_eq_true rfl) rfl rfl) (Nat.le_of_ble_eq_true rfl) ?_
      refine sg_if_eq 33 29 (sk_td o_X8_isGroupKind 14 rfl) (by decide) rfl (fun hc => ?_) (fun hc => ?_)
      · rw [if_pos hc] at hq
        refine sg_iconst (v := (0 : Int32)) 34 (sk_td o_X8_isGroupKind 17 rfl) rfl (by decide) ?_
        obtain rfl := Option.some.inj hq
        exact sg_iret (sk_td o_X8_isGroupKind 18 rfl) rfl (show narrow .boolean (.int (0 : Int32)) = .int (0 : Int32) by decide)
      · rw [if_neg hc] at hq
        refine sg_iconst (v := (1 : Int32)) 30 (sk_td o_X8_isGroupKind 15 rfl) rfl (by decide) ?_
        refine sg_goto 34 (sk_td o_X8_isGroupKind 16 rfl) (by decide) ?_
        obtain rfl := Option.some.inj hq
        exact sg_iret (sk_td o_X8_isGroupKind 18 rfl) rfl (show narrow .boolean (.int (1 : Int32)) = .int (1 : Int32) by decide)
def q_X8_isGroupKind (d : sk_D) (v0 : Int32) (v1 : Int32) (v2 : Int32) : Option (Int32) := q_X8_isGroupKind_0 d v0 v1 v2 
theorem s_X8_isGroupKind {l : Launch} {d : sk_D} {v0 : Int32} {v1 : Int32} {v2 : Int32} {res : Int32} (hq : q_X8_isGroupKind d v0 v1 v2 = some res) : sk_M l 2 m_X8_isGroupKind [.inl v0, .inl v1, .inl v2] (sk_mm d) (some (.inl res)) (sk_mm d) :=
  sk_enter (by decide) (fun _ => Nat.le_of_ble_eq_true rfl) (Nat.le_of_ble_eq_true rfl) (t_X8_isGroupKind_0 hq )
def q_X8_freeGroupNumber_2 (rec2 : (Int32) → Option (Int32)) (d : sk_D) (v1 : Int32) : Option (Int32) :=
  if (4 : Int32) ≤ v1 then some (-9 : Int32) else if sk_bi v1 4 = true then if (d.1 39 v1.toNatClampNeg 0) = 0 then some v1 else (rec2 (v1 + (1 : Int32))) else none
set_option maxRecDepth 100000 in
set_option maxHeartbeats 4000000 in
theorem t_X8_freeGroupNumber_2 {l : Launch} {rec2 : (Int32) → Option (Int32)} {d : sk_D} {v1 : Int32} (hrec2 : ∀ (a : (Int32)) (res : Int32), rec2 a = some res → sk_G l (sk_rm 1 0 0) m_X8_freeGroupNumber sk_Ex0 (sk_Zm m_X8_freeGroupNumber (some (.inl res)) (sk_mm d)) 0 0 2 [some (.inr (.inr (some (0, 0)))), some (.inl a)] [] (sk_mm d)) {res : Int32} (hq : q_X8_freeGroupNumber_2 rec2 d v1 = some res) :
    sk_G l (sk_rm 1 0 0) m_X8_freeGroupNumber sk_Ex0 (sk_Zm m_X8_freeGroupNumber (some (.inl res)) (sk_mm d)) 0 0 2 [some (.inr (.inr (some (0, 0)))), some (.inl v1)] [] (sk_mm d) := by
  unfold q_X8_freeGroupNumber_2 at hq
  refine sg_iload_n 3 (sk_td o_X8_freeGroupNumber 2 rfl) rfl rfl ?_
  refine sg_iconst (v := (4 : Int32)) 4 (sk_td o_X8_freeGroupNumber 3 rfl) rfl (by decide) ?_
  refine sg_ic_ge 27 7 (sk_td o_X8_freeGroupNumber 4 rfl) (by decide) rfl (fun hc => ?_) (fun hc => ?_)
  · rw [if_pos hc] at hq
    refine sg_bipush (v := (-9 : Int32)) 29 (sk_td o_X8_freeGroupNumber 15 rfl) rfl (by decide) ?_
    obtain rfl := Option.some.inj hq
    exact sg_iret (sk_td o_X8_freeGroupNumber 16 rfl) rfl rfl
  · rw [if_neg hc] at hq
    refine sg_aload_n 8 (sk_td o_X8_freeGroupNumber 5 rfl) rfl rfl ?_
    refine sm_getR (2, 0) 11 (sk_td o_X8_freeGroupNumber 6 rfl) rfl kf_X8_17 rfl rfl sz_0 rfl ?_
    refine sg_iload_n 12 (sk_td o_X8_freeGroupNumber 7 rfl) rfl rfl ?_
    obtain ⟨hb1, hq⟩ := sk_ifn hq
    refine sm_aald (39, v1.toNatClampNeg) 13 (sk_td o_X8_freeGroupNumber 8 rfl) rfl rfl (by decide) sz_2 hb1 (sr_2 (sk_bi.lt hb1)) ?_
    refine sm_getI 16 (sk_td o_X8_freeGroupNumber 9 rfl) rfl kf_X8_181 rfl rfl (sk_bi.lt hb1) ?_
    refine sg_if_ne 21 19 (sk_td o_X8_freeGroupNumber 10 rfl) (by decide) rfl (fun hc => ?_) (fun hc => ?_)
    · rw [if_neg hc] at hq
      refine sg_iinc (v1 + (1 : Int32)) 24 [some (.inr (.inr (some (0, 0)))), some (.inl (v1 + (1 : Int32)))] (sk_td o_X8_freeGroupNumber 13 rfl) rfl rfl rfl rfl (Nat.le_of_ble_eq_true rfl) rfl ?_
      refine sg_goto 2 (sk_td o_X8_freeGroupNumber 14 rfl) (by decide) ?_
      exact hrec2 (v1 + (1 : Int32)) _ hq
    · rw [if_pos hc] at hq
      refine sg_iload_n 20 (sk_td o_X8_freeGroupNumber 11 rfl) rfl rfl ?_
      obtain rfl := Option.some.inj hq
      exact sg_iret (sk_td o_X8_freeGroupNumber 12 rfl) rfl rfl
def l_X8_freeGroupNumber_2 (d : sk_D) (fl : Nat) (a : (Int32)) : Option (Int32) := sk_it (fun rec2 a => q_X8_freeGroupNumber_2 rec2 d a) fl a
theorem lt_X8_freeGroupNumber_2 {l : Launch} {d : sk_D} : ∀ (fl : Nat) (a : (Int32)) (res : Int32), l_X8_freeGroupNumber_2 d fl a = some res → sk_G l (sk_rm 1 0 0) m_X8_freeGroupNumber sk_Ex0 (sk_Zm m_X8_freeGroupNumber (some (.inl res)) (sk_mm d)) 0 0 2 [some (.inr (.inr (some (0, 0)))), some (.inl a)] [] (sk_mm d) :=
  sk_it_ind (P := fun (a : (Int32)) (res : Int32) => sk_G l (sk_rm 1 0 0) m_X8_freeGroupNumber sk_Ex0 (sk_Zm m_X8_freeGroupNumber (some (.inl res)) (sk_mm d)) 0 0 2 [some (.inr (.inr (some (0, 0)))), some (.inl a)] [] (sk_mm d)) (fun rec2 hrec2 a res hq  => t_X8_freeGroupNumber_2 hrec2 hq )
def q_X8_freeGroupNumber_0 (d : sk_D) : Option (Int32) :=
  (l_X8_freeGroupNumber_2 d sk_fu (0 : Int32))
set_option maxRecDepth 100000 in
set_option maxHeartbeats 4000000 in
theorem t_X8_freeGroupNumber_0 {l : Launch} {d : sk_D} {res : Int32} (hq : q_X8_freeGroupNumber_0 d = some res) :
    sk_G l (sk_rm 1 0 0) m_X8_freeGroupNumber sk_Ex0 (sk_Zm m_X8_freeGroupNumber (some (.inl res)) (sk_mm d)) 0 0 0 [some (.inr (.inr (some (0, 0)))), none] [] (sk_mm d) := by
  unfold q_X8_freeGroupNumber_0 at hq
  refine sg_iconst (v := (0 : Int32)) 1 (sk_td o_X8_freeGroupNumber 0 rfl) rfl (by decide) ?_
  refine sg_istore_n 2 [some (.inr (.inr (some (0, 0)))), some (.inl (0 : Int32))] (sk_td o_X8_freeGroupNumber 1 rfl) rfl rfl (Nat.le_of_ble_eq_true rfl) rfl ?_
  exact lt_X8_freeGroupNumber_2 sk_fu (0 : Int32) _ hq
def q_X8_freeGroupNumber (d : sk_D) : Option (Int32) := q_X8_freeGroupNumber_0 d 
theorem s_X8_freeGroupNumber {l : Launch} {d : sk_D} {res : Int32} (hq : q_X8_freeGroupNumber d = some res) : sk_M l 1 m_X8_freeGroupNumber [.inr (.inr (some (0, 0)))] (sk_mm d) (some (.inl res)) (sk_mm d) :=
  sk_enter (by decide) (fun _ => Nat.le_of_ble_eq_true rfl) (Nat.le_of_ble_eq_true rfl) (t_X8_freeGroupNumber_0 hq )
def q_X8_openGroup_0 (d : sk_D) (v1 : Int32) (v2 : Int32) (v3 : Int32) : Option (Int32 × sk_D) :=
  (q_X8_isGroupKind d v1 v2 v3).bind fun x1 => if x1 = 0 then some ((-1 : Int32), d) else (q_X8_freeGroupNumber d).bind fun x2 => (q_X8_within d x2 (0 : Int32) (3 : Int32)).bind fun x3 => if x3 = 0 then some ((-3 : Int32), d) else if sk_bi x2 4 = true then (q_X0_begin d x2.toNatClampNeg v1 v2 v3).bind fun x5 => some (x2, x5) else none
set_option maxRecDepth 100000 in
set_option maxHeartbeats 4000000 in
theorem t_X8_openGroup_0 {l : Launch} {d : sk_D} {v1 : Int32} {v2 : Int32} {v3 : Int32} {res : Int32 × sk_D} (hq : q_X8_openGroup_0 d v1 v2 v3 = some res) :
    sk_G l (sk_rm 3 0 0) m_X8_openGroup sk_Ex0 (sk_Zm m_X8_openGroup (some (.inl res.1)) (sk_mm res.2)) 0 0 0 [some (.inr (.inr (some (0, 0)))), some (.inl v1), some (.inl v2), some (.inl v3), none] [] (sk_mm d) := by
  unfold q_X8_openGroup_0 at hq
  refine sg_iload_n 1 (sk_td o_X8_openGroup 0 rfl) rfl rfl ?_
  refine sg_iload_n 2 (sk_td o_X8_openGroup 1 rfl) rfl rfl ?_
  refine sg_iload_n 3 (sk_td o_X8_openGroup 2 rfl) rfl rfl ?_
  obtain ⟨x1, hr_x1, hq⟩ := sk_bnd hq
  refine sm_callS3i 6 (s_X8_isGroupKind hr_x1) (sk_td o_X8_openGroup 3 rfl) rfl ls_X8_166 rfl (sk_rok (Nat.le_of_ble_eq_true rfl) (Nat.le_of_ble_eq_true rfl) rfl rfl) (Nat.le_of_ble_eq_true rfl) ?_
  refine sg_if_ne 11 9 (sk_td o_X8_openGroup 4 rfl) (by decide) rfl (fun hc => ?_) (fun hc => ?_)
  · rw [if_neg hc] at hq
    refine sg_aload_n 12 (sk_td o_X8_openGroup 7 rfl) rfl rfl ?_
    obtain ⟨x2, hr_x2, hq⟩ := sk_bnd hq
    refine sm_callV0i 15 (s_X8_freeGroupNumber hr_x2) (sk_td o_X8_openGroup 8 rfl) rfl lv_X8_169 rfl rfl rfl sz_0 (sk_rok (Nat.le_of_ble_eq_true rfl) (Nat.le_of_ble_eq_true rfl) rfl rfl) (Nat.le_of_ble_eq_true rfl) ?_
    refine sg_istore 17 [some (.inr (.inr (some (0, 0)))), some (.inl v1), some (.inl v2), some (.inl v3), some (.inl x2)] (sk_td o_X8_openGroup 9 rfl) rfl rfl (Nat.le_of_ble_eq_true rfl) rfl ?_
    refine sg_iload 19 (sk_td o_X8_openGroup 10 rfl) rfl rfl ?_
    refine sg_iconst (v := (0 : Int32)) 20 (sk_td o_X8_openGroup 11 rfl) rfl (by decide) ?_
    refine sg_iconst (v := (3 : Int32)) 21 (sk_td o_X8_openGroup 12 rfl) rfl (by decide) ?_
    obtain ⟨x3, hr_x3, hq⟩ := sk_bnd hq
    refine sm_callS3i 24 (s_X8_within hr_x3) (sk_td o_X8_openGroup 13 rfl) rfl ls_X8_85 rfl (sk_rok (Nat.le_of_ble_eq_true rfl) (Nat.le_of_ble_eq_true rfl) rfl rfl) (Nat.le_of_ble_eq_true rfl) ?_
    refine sg_if_ne 30 27 (sk_td o_X8_openGroup 14 rfl) (by decide) rfl (fun hc => ?_) (fun hc => ?_)
    · rw [if_neg hc] at hq
      refine sg_aload_n 31 (sk_td o_X8_openGroup 17 rfl) rfl rfl ?_
      refine sm_getR (2, 0) 34 (sk_td o_X8_openGroup 18 rfl) rfl kf_X8_17 rfl rfl sz_0 rfl ?_
      refine sg_iload 36 (sk_td o_X8_openGroup 19 rfl) rfl rfl ?_
      obtain ⟨hb4, hq⟩ := sk_ifn hq
      refine sm_aald (39, x2.toNatClampNeg) 37 (sk_td o_X8_openGroup 20 rfl) rfl rfl (by decide) sz_2 hb4 (sr_2 (sk_bi.lt hb4)) ?_
      refine sg_iload_n 38 (sk_td o_X8_openGroup 21 rfl) rfl rfl ?_
      refine sg_iload_n 39 (sk_td o_X8_openGroup 22 rfl) rfl rfl ?_
      refine sg_iload_n 40 (sk_td o_X8_openGroup 23 rfl) rfl rfl ?_
      obtain ⟨x5, hr_x5, hq⟩ := sk_bnd hq
      refine sm_callV3v 43 (s_X0_begin hr_x5 (sk_bi.lt hb4)) (sk_td o_X8_openGroup 24 rfl) rfl lv_X8_172 rfl rfl rfl (sk_bi.lt hb4) (sk_rok (Nat.le_of_ble_eq_true rfl) (Nat.le_of_ble_eq_true rfl) rfl rfl) (Nat.le_of_ble_eq_true rfl) ?_
      refine sg_iload 45 (sk_td o_X8_openGroup 25 rfl) rfl rfl ?_
      obtain rfl := Option.some.inj hq
      exact sg_iret (sk_td o_X8_openGroup 26 rfl) rfl rfl
    · rw [if_pos hc] at hq
      refine sg_bipush (v := (-3 : Int32)) 29 (sk_td o_X8_openGroup 15 rfl) rfl (by decide) ?_
      obtain rfl := Option.some.inj hq
      exact sg_iret (sk_td o_X8_openGroup 16 rfl) rfl rfl
  · rw [if_pos hc] at hq
    refine sg_iconst (v := (-1 : Int32)) 10 (sk_td o_X8_openGroup 5 rfl) rfl (by decide) ?_
    obtain rfl := Option.some.inj hq
    exact sg_iret (sk_td o_X8_openGroup 6 rfl) rfl rfl
def q_X8_openGroup (d : sk_D) (v1 : Int32) (v2 : Int32) (v3 : Int32) : Option (Int32 × sk_D) := q_X8_openGroup_0 d v1 v2 v3 
theorem s_X8_openGroup {l : Launch} {d : sk_D} {v1 : Int32} {v2 : Int32} {v3 : Int32} {res : Int32 × sk_D} (hq : q_X8_openGroup d v1 v2 v3 = some res) : sk_M l 3 m_X8_openGroup [.inr (.inr (some (0, 0))), .inl v1, .inl v2, .inl v3] (sk_mm d) (some (.inl res.1)) (sk_mm res.2) :=
  sk_enter (by decide) (fun _ => Nat.le_of_ble_eq_true rfl) (Nat.le_of_ble_eq_true rfl) (t_X8_openGroup_0 hq )
