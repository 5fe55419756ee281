/-! decompiled: X8_waited X8_rides X8_longestQueue X8_carried X8_bestStart -/
def q_X8_waited_0 (d : sk_D) (v1 : Int32) : Option (Int32) :=
  (q_X8_hasGroup d v1).bind fun x1 => if x1 = 0 then some (-1 : Int32) else if sk_bi v1 4 = true then some (d.1 39 v1.toNatClampNeg 9) else none
set_option maxRecDepth 100000 in
set_option maxHeartbeats 4000000 in
theorem t_X8_waited_0 {l : Launch} {d : sk_D} {v1 : Int32} {res : Int32} (hq : q_X8_waited_0 d v1 = some res) :
    sk_G l (sk_rm 3 0 0) m_X8_waited sk_Ex0 (sk_Zm m_X8_waited (some (.inl res)) (sk_mm d)) 0 0 0 [some (.inr (.inr (some (0, 0)))), some (.inl v1)] [] (sk_mm d) := by
  unfold q_X8_waited_0 at hq
  refine sg_aload_n 1 (sk_td o_X8_waited 0 rfl) rfl rfl ?_
  refine sg_iload_n 2 (sk_td o_X8_waited 1 rfl) rfl rfl ?_
  obtain ⟨x1, hr_x1, hq⟩ := sk_bnd hq
  refine sm_callV1i 5 (s_X8_hasGroup hr_x1) (sk_td o_X8_waited 2 rfl) rfl lv_X8_159 rfl rfl rfl sz_0 (sk_rok (Nat.le_of_ble_eq_true rfl) (Nat.le_of_ble_eq_true rfl) rfl rfl) (Nat.le_of_ble_eq_true rfl) ?_
  refine sg_if_eq 20 8 (sk_td o_X8_waited 3 rfl) (by decide) rfl (fun hc => ?_) (fun hc => ?_)
  · rw [if_pos hc] at hq
    refine sg_iconst (v := (-1 : Int32)) 21 (sk_td o_X8_waited 10 rfl) rfl (by decide) ?_
    obtain rfl := Option.some.inj hq
    exact sg_iret (sk_td o_X8_waited 11 rfl) rfl rfl
  · rw [if_neg hc] at hq
    refine sg_aload_n 9 (sk_td o_X8_waited 4 rfl) rfl rfl ?_
    refine sm_getR (2, 0) 12 (sk_td o_X8_waited 5 rfl) rfl kf_X8_17 rfl rfl sz_0 rfl ?_
    refine sg_iload_n 13 (sk_td o_X8_waited 6 rfl) rfl rfl ?_
    obtain ⟨hb2, hq⟩ := sk_ifn hq
    refine sm_aald (39, v1.toNatClampNeg) 14 (sk_td o_X8_waited 7 rfl) rfl rfl (by decide) sz_2 hb2 (sr_2 (sk_bi.lt hb2)) ?_
    refine sm_getI 17 (sk_td o_X8_waited 8 rfl) rfl kf_X8_276 rfl rfl (sk_bi.lt hb2) ?_
    refine sg_goto 21 (sk_td o_X8_waited 9 rfl) (by decide) ?_
    obtain rfl := Option.some.inj hq
    exact sg_iret (sk_td o_X8_waited 11 rfl) rfl rfl
def q_X8_waited (d : sk_D) (v1 : Int32) : Option (Int32) := q_X8_waited_0 d v1 
theorem s_X8_waited {l : Launch} {d : sk_D} {v1 : Int32} {res : Int32} (hq : q_X8_waited d v1 = some res) : sk_M l 3 m_X8_waited [.inr (.inr (some (0, 0))), .inl v1] (sk_mm d) (some (.inl res)) (sk_mm d) :=
  sk_enter (by decide) (fun _ => Nat.le_of_ble_eq_true rfl) (Nat.le_of_ble_eq_true rfl) (t_X8_waited_0 hq )
def q_X8_rides_0 (d : sk_D) (v1 : Int32) : Option (Int32) :=
  (q_X8_hasGroup d v1).bind fun x1 => if x1 = 0 then some (-1 : Int32) else if sk_bi v1 4 = true then some (d.1 39 v1.toNatClampNeg 10) else none
set_option maxRecDepth 100000 in
set_option maxHeartbeats 4000000 in
theorem t_X8_rides_0 {l : Launch} {d : sk_D} {v1 : Int32} {res : Int32} (hq : q_X8_rides_0 d v1 = some res) :
    sk_G l (sk_rm 3 0 0) m_X8_rides sk_Ex0 (sk_Zm m_X8_rides (some (.inl res)) (sk_mm d)) 0 0 0 [some (.inr (.inr (some (0, 0)))), some (.inl v1)] [] (sk_mm d) := by
  unfold q_X8_rides_0 at hq
  refine sg_aload_n 1 (sk_td o_X8_rides 0 rfl) rfl rfl ?_
  refine sg_iload_n 2 (sk_td o_X8_rides 1 rfl) rfl rfl ?_
  obtain ⟨x1, hr_x1, hq⟩ := sk_bnd hq
  refine sm_callV1i 5 (s_X8_hasGroup hr_x1) (sk_td o_X8_rides 2 rfl) rfl lv_X8_159 rfl rfl rfl sz_0 (sk_rok (Nat.le_of_ble_eq_true rfl) (Nat.le_of_ble_eq_true rfl) rfl rfl) (Nat.le_of_ble_eq_true rfl) ?_
  refine sg_if_eq 20 8 (sk_td o_X8_rides 3 rfl) (by decide) rfl (fun hc => ?_) (fun hc => ?_)
  · rw [if_pos hc] at hq
    refine sg_iconst (v := (-1 : Int32)) 21 (sk_td o_X8_rides 10 rfl) rfl (by decide) ?_
    obtain rfl := Option.some.inj hq
    exact sg_iret (sk_td o_X8_rides 11 rfl) rfl rfl
  · rw [if_neg hc] at hq
    refine sg_aload_n 9 (sk_td o_X8_rides 4 rfl) rfl rfl ?_
    refine sm_getR (2, 0) 12 (sk_td o_X8_rides 5 rfl) rfl kf_X8_17 rfl rfl sz_0 rfl ?_
    refine sg_iload_n 13 (sk_td o_X8_rides 6 rfl) rfl rfl ?_
    obtain ⟨hb2, hq⟩ := sk_ifn hq
    refine sm_aald (39, v1.toNatClampNeg) 14 (sk_td o_X8_rides 7 rfl) rfl rfl (by decide) sz_2 hb2 (sr_2 (sk_bi.lt hb2)) ?_
    refine sm_getI 17 (sk_td o_X8_rides 8 rfl) rfl kf_X8_279 rfl rfl (sk_bi.lt hb2) ?_
    refine sg_goto 21 (sk_td o_X8_rides 9 rfl) (by decide) ?_
    obtain rfl := Option.some.inj hq
    exact sg_iret (sk_td o_X8_rides 11 rfl) rfl rfl
def q_X8_rides (d : sk_D) (v1 : Int32) : Option (Int32) := q_X8_rides_0 d v1 
theorem s_X8_rides {l : Launch} {d : sk_D} {v1 : Int32} {res : Int32} (hq : q_X8_rides d v1 = some res) : sk_M l 3 m_X8_rides [.inr (.inr (some (0, 0))), .inl v1] (sk_mm d) (some (.inl res)) (sk_mm d) :=
  sk_enter (by decide) (fun _ => Nat.le_of_ble_eq_true rfl) (Nat.le_of_ble_eq_true rfl) (t_X8_rides_0 hq )
def q_X8_longestQueue_0 (d : sk_D) (v1 : Int32) : Option (Int32) :=
  (q_X8_hasLift d v1).bind fun x1 => if x1 = 0 then some (-1 : Int32) else if sk_bi v1 3 = true then some (d.1 43 v1.toNatClampNeg 3) else none
set_option maxRecDepth 100000 in
set_option maxHeartbeats 4000000 in
theorem t_X8_longestQueue_0 {l : Launch} {d : sk_D} {v1 : Int32} {res : Int32} (hq : q_X8_longestQueue_0 d v1 = some res) :
    sk_G l (sk_rm 3 0 0) m_X8_longestQueue sk_Ex0 (sk_Zm m_X8_longestQueue (some (.inl res)) (sk_mm d)) 0 0 0 [some (.inr (.inr (some (0, 0)))), some (.inl v1)] [] (sk_mm d) := by
  unfold q_X8_longestQueue_0 at hq
  refine sg_aload_n 1 (sk_td o_X8_longestQueue 0 rfl) rfl rfl ?_
  refine sg_iload_n 2 (sk_td o_X8_longestQueue 1 rfl) rfl rfl ?_
  obtain ⟨x1, hr_x1, hq⟩ := sk_bnd hq
  refine sm_callV1i 5 (s_X8_hasLift hr_x1) (sk_td o_X8_longestQueue 2 rfl) rfl lv_X8_248 rfl rfl rfl sz_0 (sk_rok (Nat.le_of_ble_eq_true rfl) (Nat.le_of_ble_eq_true rfl) rfl rfl) (Nat.le_of_ble_eq_true rfl) ?_
  refine sg_if_eq 20 8 (sk_td o_X8_longestQueue 3 rfl) (by decide) rfl (fun hc => ?_) (fun hc => ?_)
  · rw [if_pos hc] at hq
    refine sg_iconst (v := (-1 : Int32)) 21 (sk_td o_X8_longestQueue 10 rfl) rfl (by decide) ?_
    obtain rfl := Option.some.inj hq
    exact sg_iret (sk_td o_X8_longestQueue 11 rfl) rfl rfl
  · rw [if_neg hc] at hq
    refine sg_aload_n 9 (sk_td o_X8_longestQueue 4 rfl) rfl rfl ?_
    refine sm_getR (4, 0) 12 (sk_td o_X8_longestQueue 5 rfl) rfl kf_X8_29 rfl rfl sz_0 rfl ?_
    refine sg_iload_n 13 (sk_td o_X8_longestQueue 6 rfl) rfl rfl ?_
    obtain ⟨hb2, hq⟩ := sk_ifn hq
    refine sm_aald (43, v1.toNatClampNeg) 14 (sk_td o_X8_longestQueue 7 rfl) rfl rfl (by decide) sz_4 hb2 (sr_4 (sk_bi.lt hb2)) ?_
    refine sm_getI 17 (sk_td o_X8_longestQueue 8 rfl) rfl kf_X8_282 rfl rfl (sk_bi.lt hb2) ?_
    refine sg_goto 21 (sk_td o_X8_longestQueue 9 rfl) (by decide) ?_
    obtain rfl := Option.some.inj hq
    exact sg_iret (sk_td o_X8_longestQueue 11 rfl) rfl rfl
def q_X8_longestQueue (d : sk_D) (v1 : Int32) : Option (Int32) := q_X8_longestQueue_0 d v1 
theorem s_X8_longestQueue {l : Launch} {d : sk_D} {v1 : Int32} {res : Int32} (hq : q_X8_longestQueue d v1 = some res) : sk_M l 3 m_X8_longestQueue [.inr (.inr (some (0, 0))), .inl v1] (sk_mm d) (some (.inl res)) (sk_mm d) :=
  sk_enter (by decide) (fun _ => Nat.le_of_ble_eq_true rfl) (Nat.le_of_ble_eq_true rfl) (t_X8_longestQueue_0 hq )
def q_X8_carried_0 (d : sk_D) (v1 : Int32) : Option (Int32) :=
  (q_X8_hasLift d v1).bind fun x1 => if x1 = 0 then some (-1 : Int32) else if sk_bi v1 3 = true then some (d.1 43 v1.toNatClampNeg 4) else none
set_option maxRecDepth 100000 in
set_option maxHeartbeats 4000000 in
theorem t_X8_carried_0 {l : Launch} {d : sk_D} {v1 : Int32} {res : Int32} (hq : q_X8_carried_0 d v1 = some res) :
    sk_G l (sk_rm 3 0 0) m_X8_carried sk_Ex0 (sk_Zm m_X8_carried (some (.inl res)) (sk_mm d)) 0 0 0 [some (.inr (.inr (some (0, 0)))), some (.inl v1)] [] (sk_mm d) := by
  unfold q_X8_carried_0 at hq
  refine sg_aload_n 1 (sk_td o_X8_carried 0 rfl) rfl rfl ?_
  refine sg_iload_n 2 (sk_td o_X8_carried 1 rfl) rfl rfl ?_
  obtain ⟨x1, hr_x1, hq⟩ := sk_bnd hq
  refine sm_callV1i 5 (s_X8_hasLift hr_x1) (sk_td o_X8_carried 2 rfl) rfl lv_X8_248 rfl rfl rfl sz_0 (sk_rok (Nat.le_of_ble_eq_true rfl) (Nat.le_of_ble_eq_true rfl) rfl rfl) (Nat.le_of_ble_eq_true rfl) ?_
  refine sg_if_eq 20 8 (sk_td o_X8_carried 3 rfl) (by decide) rfl (fun hc => ?_) (fun hc => ?_)
  · rw [if_pos hc] at hq
    refine sg_iconst (v := (-1 : Int32)) 21 (sk_td o_X8_carried 10 rfl) rfl (by decide) ?_
    obtain rfl := Option.some.inj hq
    exact sg_iret (sk_td o_X8_carried 11 rfl) rfl rfl
  · rw [if_neg hc] at hq
    refine sg_aload_n 9 (sk_td o_X8_carried 4 rfl) rfl rfl ?_
    refine sm_getR (4, 0) 12 (sk_td o_X8_carried 5 rfl) rfl kf_X8_29 rfl rfl sz_0 rfl ?_
    refine sg_iload_n 13 (sk_td o_X8_carried 6 rfl) rfl rfl ?_
    obtain ⟨hb2, hq⟩ := sk_ifn hq
    refine sm_aald (43, v1.toNatClampNeg) 14 (sk_td o_X8_carried 7 rfl) rfl rfl (by decide) sz_4 hb2 (sr_4 (sk_bi.lt hb2)) ?_
    refine sm_getI 17 (sk_td o_X8_carried 8 rfl) rfl kf_X8_285 rfl rfl (sk_bi.lt hb2) ?_
    refine sg_goto 21 (sk_td o_X8_carried 9 rfl) (by decide) ?_
    obtain rfl := Option.some.inj hq
    exact sg_iret (sk_td o_X8_carried 11 rfl) rfl rfl
def q_X8_carried (d : sk_D) (v1 : Int32) : Option (Int32) := q_X8_carried_0 d v1 
theorem s_X8_carried {l : Launch} {d : sk_D} {v1 : Int32} {res : Int32} (hq : q_X8_carried d v1 = some res) : sk_M l 3 m_X8_carried [.inr (.inr (some (0, 0))), .inl v1] (sk_mm d) (some (.inl res)) (sk_mm d) :=
  sk_enter (by decide) (fun _ => Nat.le_of_ble_eq_true rfl) (Nat.le_of_ble_eq_true rfl) (t_X8_carried_0 hq )
def q_X8_bestStart_129 (rec45 : (sk_D × Int32 × Int32 × Int32 × Int32 × Int32) → Option (Int32 × sk_D)) (d : sk_D) (v1 : Int32) (v2 : Int32) (v3 : Int32) (v4 : Int32) (v5 : Int32) : Option (Int32 × sk_D) :=
  (rec45 (d, v1, v2, v3, v4, (v5 + (1 : Int32))))
set_option maxRecDepth 100000 in
set_option maxHeartbeats 4000000 in
theorem t_X8_bestStart_129 {l : Launch} {rec45 : (sk_D × Int32 × Int32 × Int32 × Int32 × Int32) → Option (Int32 × sk_D)} {d : sk_D} {v1 : Int32} {v2 : Int32} {v3 : Int32} {v4 : Int32} {v5 : Int32} (hrec45 : ∀ (a : (sk_D × Int32 × Int32 × Int32 × Int32 × Int32)) (res : Int32 × sk_D), rec45 a = some res → sk_G l (sk_rm 6 0 0) m_X8_bestStart sk_Ex0 (sk_Zm m_X8_bestStart (some (.inl res.1)) (sk_mm res.2)) 0 0 45 [some (.inr (.inr (some (0, 0)))), some (.inl a.2.1), some (.inl a.2.2.1), some (.inl a.2.2.2.1), some (.inl a.2.2.2.2.1), some (.inl a.2.2.2.2.2)] [] (sk_mm a.1)) {res : Int32 × sk_D} (hq : q_X8_bestStart_129 rec45 d v1 v2 v3 v4 v5 = some res) :
    sk_G l (sk_rm 6 0 0) m_X8_bestStart sk_Ex0 (sk_Zm m_X8_bestStart (some (.inl res.1)) (sk_mm res.2)) 0 0 129 [some (.inr (.inr (some (0, 0)))), some (.inl v1), some (.inl v2), some (.inl v3), some (.inl v4), some (.inl v5)] [] (sk_mm d) := by
  unfold q_X8_bestStart_129 at hq
  refine sg_iinc (v5 + (1 : Int32)) 132 [some (.inr (.inr (some (0, 0)))), some (.inl v1), some (.inl v2), some (.inl v3), some (.inl v4), some (.inl (v5 + (1 : Int32)))] (sk_td o_X8_bestStart 67 rfl) rfl rfl rfl rfl (Nat.le_of_ble_eq_true rfl) rfl ?_
  refine sg_goto 45 (sk_td o_X8_bestStart 68 rfl) (by decide) ?_
  exact hrec45 (d, v1, v2, v3, v4, (v5 + (1 : Int32))) _ hq
def q_X8_bestStart_115 (rec45 : (sk_D × Int32 × Int32 × Int32 × Int32 × Int32) → Option (Int32 × sk_D)) (d : sk_D) (v1 : Int32) (v2 : Int32) (v5 : Int32) : Option (Int32 × sk_D) :=
  if sk_bi v1 4 = true then (q_X8_bestStart_129 rec45 d v1 v2 v5 (d.1 26 0 v1.toNatClampNeg) v5) else none
set_option maxRecDepth 100000 in
set_option maxHeartbeats 4000000 in
theorem t_X8_bestStart_115 {l : Launch} {rec45 : (sk_D × Int32 × Int32 × Int32 × Int32 × Int32) → Option (Int32 × sk_D)} {d : sk_D} {v1 : Int32} {v2 : Int32} {v5 : Int32} (hrec45 : ∀ (a : (sk_D × Int32 × Int32 × Int32 × Int32 × Int32)) (res : Int32 × sk_D), rec45 a = some res → sk_G l (sk_rm 6 0 0) m_X8_bestStart sk_Ex0 (sk_Zm m_X8_bestStart (some (.inl res.1)) (sk_mm res.2)) 0 0 45 [some (.inr (.inr (some (0, 0)))), some (.inl a.2.1), some (.inl a.2.2.1), some (.inl a.2.2.2.1), some (.inl a.2.2.2.2.1), some (.inl a.2.2.2.2.2)] [] (sk_mm a.1)) {res : Int32 × sk_D} (hq : q_X8_bestStart_115 rec45 d v1 v2 v5 = some res) :
    sk_G l (sk_rm 6 0 0) m_X8_bestStart sk_Ex0 (sk_Zm m_X8_bestStart (some (.inl res.1)) (sk_mm res.2)) 0 0 115 [some (.inr (.inr (some (0, 0)))), some (.inl v1), some (.inl v2), none, none, some (.inl v5)] [] (sk_mm d) := by
  unfold q_X8_bestStart_115 at hq
  refine sg_aload_n 116 (sk_td o_X8_bestStart 59 rfl) rfl rfl ?_
  refine sm_getR (23, 0) 119 (sk_td o_X8_bestStart 60 rfl) rfl kf_X8_54 rfl rfl sz_0 rfl ?_
  refine sm_getR (26, 0) 122 (sk_td o_X8_bestStart 61 rfl) rfl kf_X8_294 rfl rfl sz_23 rfl ?_
  refine sg_iload_n 123 (sk_td o_X8_bestStart 62 rfl) rfl rfl ?_
  obtain ⟨hb1, hq⟩ := sk_ifn hq
  refine sm_iald 124 (sk_td o_X8_bestStart 63 rfl) rfl rfl sz_26 hb1 ?_
  refine sg_istore 126 [some (.inr (.inr (some (0, 0)))), some (.inl v1), some (.inl v2), none, some (.inl (d.1 26 0 v1.toNatClampNeg)), some (.inl v5)] (sk_td o_X8_bestStart 64 rfl) rfl rfl (Nat.le_of_ble_eq_true rfl) rfl ?_
  refine sg_iload 128 (sk_td o_X8_bestStart 65 rfl) rfl rfl ?_
  refine sg_istore_n 129 [some (.inr (.inr (some (0, 0)))), some (.inl v1), some (.inl v2), some (.inl v5), some (.inl (d.1 26 0 v1.toNatClampNeg)), some (.inl v5)] (sk_td o_X8_bestStart 66 rfl) rfl rfl (Nat.le_of_ble_eq_true rfl) rfl ?_
  exact t_X8_bestStart_129 hrec45 hq
def q_X8_bestStart_87 (rec45 : (sk_D × Int32 × Int32 × Int32 × Int32 × Int32) → Option (Int32 × sk_D)) (d : sk_D) (v1 : Int32) (v2 : Int32) (v3 : Int32) (v4 : Int32) (v5 : Int32) : Option (Int32 × sk_D) :=
  (q_X6_run d (d.1 0 0 9) v2).bind fun x1 => if v4 = (-9 : Int32) then (q_X8_bestStart_115 rec45 x1 v1 v2 v5) else if sk_bi v1 4 = true then if v4 ≤ (x1.1 26 0 v1.toNatClampNeg) then (q_X8_bestStart_129 rec45 x1 v1 v2 v3 v4 v5) else (q_X8_bestStart_115 rec45 x1 v1 v2 v5) else none
set_option maxRecDepth 100000 in
set_option maxHeartbeats 4000000 in
theorem t_X8_bestStart_87 {l : Launch} {rec45 : (sk_D × Int32 × Int32 × Int32 × Int32 × Int32) → Option (Int32 × sk_D)} {d : sk_D} {v1 : Int32} {v2 : Int32} {v3 : Int32} {v4 : Int32} {v5 : Int32} (hrec45 : ∀ (a : (sk_D × Int32 × Int32 × Int32 × Int32 × Int32)) (res : Int32 × sk_D), rec45 a = some res → sk_G l (sk_rm 6 0 0) m_X8_bestStart sk_Ex0 (sk_Zm m_X8_bestStart (some (.inl res.1)) (sk_mm res.2)) 0 0 45 [some (.inr (.inr (some (0, 0)))), some (.inl a.2.1), some (.inl a.2.2.1), some (.inl a.2.2.2.1), some (.inl a.2.2.2.2.1), some (.inl a.2.2.2.2.2)] [] (sk_mm a.1)) {res : Int32 × sk_D} (hq : q_X8_bestStart_87 rec45 d v1 v2 v3 v4 v5 = some res) :
    sk_G l (sk_rm 6 0 0) m_X8_bestStart sk_Ex0 (sk_Zm m_X8_bestStart (some (.inl res.1)) (sk_mm res.2)) 0 0 87 [some (.inr (.inr (some (0, 0)))), some (.inl v1), some (.inl v2), some (.inl v3), some (.inl v4), some (.inl v5)] [.inr (.inr (some (0, 0))), .inr (.inr (some (4, 0))), .inr (.inr (some (2, 0))), .inr (.inr (some (23, 0)))] (sk_mm d) := by
  unfold q_X8_bestStart_87 at hq
  refine sm_getI 90 (sk_td o_X8_bestStart 46 rfl) rfl kf_X8_65 rfl rfl sz_0 ?_
  refine sg_iload_n 91 (sk_td o_X8_bestStart 47 rfl) rfl rfl ?_
  obtain ⟨x1, hr_x1, hq⟩ := sk_bnd hq
  refine sm_callV4v 94 (s_X6_run hr_x1) (sk_td o_X8_bestStart 48 rfl) rfl lv_X8_269 rfl rfl rfl sz_23 (sk_rok (Nat.le_of_ble_eq_true rfl) (Nat.le_of_ble_eq_true rfl) rfl rfl) (Nat.le_of_ble_eq_true rfl) ?_
  refine sg_iload 96 (sk_td o_X8_bestStart 49 rfl) rfl rfl ?_
  refine sg_bipush (v := (-9 : Int32)) 98 (sk_td o_X8_bestStart 50 rfl) rfl (by decide) ?_
  refine sg_ic_eq 115 101 (sk_td o_X8_bestStart 51 rfl) (by decide) rfl (fun hc => ?_) (fun hc => ?_)
  · rw [if_pos hc] at hq
    refine sk_wk [true, true, true, false, false, true] (ls' := [some (.inr (.inr (some (0, 0)))), some (.inl v1), some (.inl v2), none, none, some (.inl v5)]) rfl ?_
    exact t_X8_bestStart_115 hrec45 hq
  · rw [if_neg hc] at hq
    refine sg_aload_n 102 (sk_td o_X8_bestStart 52 rfl) rfl rfl ?_
    refine sm_getR (23, 0) 105 (sk_td o_X8_bestStart 53 rfl) rfl kf_X8_54 rfl rfl sz_0 rfl ?_
    refine sm_getR (26, 0) 108 (sk_td o_X8_bestStart 54 rfl) rfl kf_X8_294 rfl rfl sz_23 rfl ?_
    refine sg_iload_n 109 (sk_td o_X8_bestStart 55 rfl) rfl rfl ?_
    obtain ⟨hb2, hq⟩ := sk_ifn hq
    refine sm_iald 110 (sk_td o_X8_bestStart 56 rfl) rfl rfl sz_26 hb2 ?_
    refine sg_iload 112 (sk_td o_X8_bestStart 57 rfl) rfl rfl ?_
    refine sg_ic_ge 129 115 (sk_td o_X8_bestStart 58 rfl) (by decide) rfl (fun hc => ?_) (fun hc => ?_)
    · rw [if_pos hc] at hq
      exact t_X8_bestStart_129 hrec45 hq
    · rw [if_neg hc] at hq
      refine sk_wk [true, true, true, false, false, true] (ls' := [some (.inr (.inr (some (0, 0)))), some (.inl v1), some (.inl v2), none, none, some (.inl v5)]) rfl ?_
      exact t_X8_bestStart_115 hrec45 hq
def q_X8_bestStart_45 (rec45 : (sk_D × Int32 × Int32 × Int32 × Int32 × Int32) → Option (Int32 × sk_D)) (d : sk_D) (v1 : Int32) (v2 : Int32) (v3 : Int32) (v4 : Int32) (v5 : Int32) : Option (Int32 × sk_D) :=
  if (30 : Int32) < v5 then some (v3, d) else (q_X6_begin d).bind fun x1 => if sk_bi v1 4 = true then (q_X8_bestStart_87 rec45 (sk_wi x1 25 0 v1.toNatClampNeg v5) v1 v2 v3 v4 v5) else none
set_option maxRecDepth 100000 in
set_option maxHeartbeats 4000000 in
theorem t_X8_bestStart_45 {l : Launch} {rec45 : (sk_D × Int32 × Int32 × Int32 × Int32 × Int32) → Option (Int32 × sk_D)} {d : sk_D} {v1 : Int32} {v2 : Int32} {v3 : Int32} {v4 : Int32} {v5 : Int32} (hrec45 : ∀ (a : (sk_D × Int32 × Int32 × Int32 × Int32 × Int32)) (res : Int32 × sk_D), rec45 a = some res → sk_G l (sk_rm 6 0 0) m_X8_bestStart sk_Ex0 (sk_Zm m_X8_bestStart (some (.inl res.1)) (sk_mm res.2)) 0 0 45 [some (.inr (.inr (some (0, 0)))), some (.inl a.2.1), some (.inl a.2.2.1), some (.inl a.2.2.2.1), some (.inl a.2.2.2.2.1), some (.inl a.2.2.2.2.2)] [] (sk_mm a.1)) {res : Int32 × sk_D} (hq : q_X8_bestStart_45 rec45 d v1 v2 v3 v4 v5 = some res) :
    sk_G l (sk_rm 6 0 0) m_X8_bestStart sk_Ex0 (sk_Zm m_X8_bestStart (some (.inl res.1)) (sk_mm res.2)) 0 0 45 [some (.inr (.inr (some (0, 0)))), some (.inl v1), some (.inl v2), some (.inl v3), some (.inl v4), some (.inl v5)] [] (sk_mm d) := by
  unfold q_X8_bestStart_45 at hq
  refine sg_iload 47 (sk_td o_X8_bestStart 25 rfl) rfl rfl ?_
  refine sg_bipush (v := (30 : Int32)) 49 (sk_td o_X8_bestStart 26 rfl) rfl (by decide) ?_
  refine sg_ic_gt 135 52 (sk_td o_X8_bestStart 27 rfl) (by decide) rfl (fun hc => ?_) (fun hc => ?_)
  · rw [if_pos hc] at hq
    refine sg_iload_n 136 (sk_td o_X8_bestStart 69 rfl) rfl rfl ?_
    obtain rfl := Option.some.inj hq
    exact sg_iret (sk_td o_X8_bestStart 70 rfl) rfl rfl
  · rw [if_neg hc] at hq
    refine sg_aload_n 53 (sk_td o_X8_bestStart 28 rfl) rfl rfl ?_
    refine sm_getR (23, 0) 56 (sk_td o_X8_bestStart 29 rfl) rfl kf_X8_54 rfl rfl sz_0 rfl ?_
    refine sg_aload_n 57 (sk_td o_X8_bestStart 30 rfl) rfl rfl ?_
    refine sm_getR (2, 0) 60 (sk_td o_X8_bestStart 31 rfl) rfl kf_X8_17 rfl rfl sz_0 rfl ?_
    obtain ⟨x1, hr_x1, hq⟩ := sk_bnd hq
    refine sm_callV1v 63 (s_X6_begin hr_x1) (sk_td o_X8_bestStart 32 rfl) rfl lv_X8_266 rfl rfl rfl sz_23 (sk_rok (Nat.le_of_ble_eq_true rfl) (Nat.le_of_ble_eq_true rfl) rfl rfl) (Nat.le_of_ble_eq_true rfl) ?_
    refine sg_aload_n 64 (sk_td o_X8_bestStart 33 rfl) rfl rfl ?_
    refine sm_getR (23, 0) 67 (sk_td o_X8_bestStart 34 rfl) rfl kf_X8_54 rfl rfl sz_0 rfl ?_
    refine sm_getR (25, 0) 70 (sk_td o_X8_bestStart 35 rfl) rfl kf_X8_291 rfl rfl sz_23 rfl ?_
    refine sg_iload_n 71 (sk_td o_X8_bestStart 36 rfl) rfl rfl ?_
    refine sg_iload 73 (sk_td o_X8_bestStart 37 rfl) rfl rfl ?_
    obtain ⟨hb2, hq⟩ := sk_ifn hq
    refine sm_iast 74 (sk_td o_X8_bestStart 38 rfl) rfl rfl sz_25 hb2 ?_
    refine sg_aload_n 75 (sk_td o_X8_bestStart 39 rfl) rfl rfl ?_
    refine sm_getR (23, 0) 78 (sk_td o_X8_bestStart 40 rfl) rfl kf_X8_54 rfl rfl sz_0 rfl ?_
    refine sg_aload_n 79 (sk_td o_X8_bestStart 41 rfl) rfl rfl ?_
    refine sm_getR (2, 0) 82 (sk_td o_X8_bestStart 42 rfl) rfl kf_X8_17 rfl rfl sz_0 rfl ?_
    refine sg_aload_n 83 (sk_td o_X8_bestStart 43 rfl) rfl rfl ?_
    refine sm_getR (4, 0) 86 (sk_td o_X8_bestStart 44 rfl) rfl kf_X8_29 rfl rfl sz_0 rfl ?_
    refine sg_aload_n 87 (sk_td o_X8_bestStart 45 rfl) rfl rfl ?_
    exact t_X8_bestStart_87 hrec45 hq
def l_X8_bestStart_45 (fl : Nat) (a : (sk_D × Int32 × Int32 × Int32 × Int32 × Int32)) : Option (Int32 × sk_D) := sk_it (fun rec45 a => q_X8_bestStart_45 rec45 a.1 a.2.1 a.2.2.1 a.2.2.2.1 a.2.2.2.2.1 a.2.2.2.2.2) fl a
theorem lt_X8_bestStart_45 {l : Launch} : ∀ (fl : Nat) (a : (sk_D × Int32 × Int32 × Int32 × Int32 × Int32)) (res : Int32 × sk_D), l_X8_bestStart_45 fl a = some res → sk_G l (sk_rm 6 0 0) m_X8_bestStart sk_Ex0 (sk_Zm m_X8_bestStart (some (.inl res.1)) (sk_mm res.2)) 0 0 45 [some (.inr (.inr (some (0, 0)))), some (.inl a.2.1), some (.inl a.2.2.1), some (.inl a.2.2.2.1), some (.inl a.2.2.2.2.1), some (.inl a.2.2.2.2.2)] [] (sk_mm a.1) :=
  sk_it_ind (P := fun (a : (sk_D × Int32 × Int32 × Int32 × Int32 × Int32)) (res : Int32 × sk_D) => sk_G l (sk_rm 6 0 0) m_X8_bestStart sk_Ex0 (sk_Zm m_X8_bestStart (some (.inl res.1)) (sk_mm res.2)) 0 0 45 [some (.inr (.inr (some (0, 0)))), some (.inl a.2.1), some (.inl a.2.2.1), some (.inl a.2.2.2.1), some (.inl a.2.2.2.2.1), some (.inl a.2.2.2.2.2)] [] (sk_mm a.1)) (fun rec45 hrec45 a res hq  => t_X8_bestStart_45 hrec45 hq )
def q_X8_bestStart_0 (d : sk_D) (v1 : Int32) (v2 : Int32) : Option (Int32 × sk_D) :=
  (q_X8_hasGroup d v1).bind fun x1 => if x1 = 0 then some ((-1 : Int32), d) else (q_X8_within d v2 (1 : Int32) (180 : Int32)).bind fun x2 => if x2 = 0 then some ((-1 : Int32), d) else (q_X8_takesPart d v1).bind fun x3 => if x3 = 0 then some ((-2 : Int32), d) else (q_X8_countPersons d).bind fun x4 => (l_X8_bestStart_45 sk_fu (x4, v1, v2, (0 : Int32), (-9 : Int32), (0 : Int32)))
set_option maxRecDepth 100000 in
set_option maxHeartbeats 4000000 in
theorem t_X8_bestStart_0 {l : Launch} {d : sk_D} {v1 : Int32} {v2 : Int32} {res : Int32 × sk_D} (hq : q_X8_bestStart_0 d v1 v2 = some res) :
    sk_G l (sk_rm 6 0 0) m_X8_bestStart sk_Ex0 (sk_Zm m_X8_bestStart (some (.inl res.1)) (sk_mm res.2)) 0 0 0 [some (.inr (.inr (some (0, 0)))), some (.inl v1), some (.inl v2), none, none, none] [] (sk_mm d) := by
  unfold q_X8_bestStart_0 at hq
  refine sg_aload_n 1 (sk_td o_X8_bestStart 0 rfl) rfl rfl ?_
  refine sg_iload_n 2 (sk_td o_X8_bestStart 1 rfl) rfl rfl ?_
  obtain ⟨x1, hr_x1, hq⟩ := sk_bnd hq
  refine sm_callV1i 5 (s_X8_hasGroup hr_x1) (sk_td o_X8_bestStart 2 rfl) rfl lv_X8_159 rfl rfl rfl sz_0 (sk_rok (Nat.le_of_ble_eq_true rfl) (Nat.le_of_ble_eq_true rfl) rfl rfl) (Nat.le_of_ble_eq_true rfl) ?_
  refine sg_if_eq 19 8 (sk_td o_X8_bestStart 3 rfl) (by decide) rfl (fun hc => ?_) (fun hc => ?_)
  · rw [if_pos hc] at hq
    refine sg_iconst (v := (-1 : Int32)) 20 (sk_td o_X8_bestStart 9 rfl) rfl (by decide) ?_
    obtain rfl := Option.some.inj hq
    exact sg_iret (sk_td o_X8_bestStart 10 rfl) rfl rfl
  · rw [if_neg hc] at hq
    refine sg_iload_n 9 (sk_td o_X8_bestStart 4 rfl) rfl rfl ?_
    refine sg_iconst (v := (1 : Int32)) 10 (sk_td o_X8_bestStart 5 rfl) rfl (by decide) ?_
    refine sg_sipush (v := (180 : Int32)) 13 (sk_td o_X8_bestStart 6 rfl) rfl (by decide) ?_
    obtain ⟨x2, hr_x2, hq⟩ := sk_bnd hq
    refine sm_callS3i 16 (s_X8_within hr_x2) (sk_td o_X8_bestStart 7 rfl) rfl ls_X8_85 rfl (sk_rok (Nat.le_of_ble_eq_true rfl) (Nat.le_of_ble_eq_true rfl) rfl rfl) (Nat.le_of_ble_eq_true rfl) ?_
    refine sg_if_ne 21 19 (sk_td o_X8_bestStart 8 rfl) (by decide) rfl (fun hc => ?_) (fun hc => ?_)
    · rw [if_neg hc] at hq
      refine sg_aload_n 22 (sk_td o_X8_bestStart 11 rfl) rfl rfl ?_
      refine sg_iload_n 23 (sk_td o_X8_bestStart 12 rfl) rfl rfl ?_
      obtain ⟨x3, hr_x3, hq⟩ := sk_bnd hq
      refine sm_callV1i 26 (s_X8_takesPart hr_x3) (sk_td o_X8_bestStart 13 rfl) rfl lv_X8_288 rfl rfl rfl sz_0 (sk_rok (Nat.le_of_ble_eq_true rfl) (Nat.le_of_ble_eq_true rfl) rfl rfl) (Nat.le_of_ble_eq_true rfl) ?_
      refine sg_if_ne 32 29 (sk_td o_X8_bestStart 14 rfl) (by decide) rfl (fun hc => ?_) (fun hc => ?_)
      · rw [if_neg hc] at hq
        refine sg_aload_n 33 (sk_td o_X8_bestStart 17 rfl) rfl rfl ?_
        obtain ⟨x4, hr_x4, hq⟩ := sk_bnd hq
        refine sm_callV0v 36 (s_X8_countPersons hr_x4) (sk_td o_X8_bestStart 18 rfl) rfl lv_X8_263 rfl rfl rfl sz_0 (sk_rok (Nat.le_of_ble_eq_true rfl) (Nat.le_of_ble_eq_true rfl) rfl rfl) (Nat.le_of_ble_eq_true rfl) ?_
        refine sg_iconst (v := (0 : Int32)) 37 (sk_td o_X8_bestStart 19 rfl) rfl (by decide) ?_
        refine sg_istore_n 38 [some (.inr (.inr (some (0, 0)))), some (.inl v1), some (.inl v2), some (.inl (0 : Int32)), none, none] (sk_td o_X8_bestStart 20 rfl) rfl rfl (Nat.le_of_ble_eq_true rfl) rfl ?_
        refine sg_bipush (v := (-9 : Int32)) 40 (sk_td o_X8_bestStart 21 rfl) rfl (by decide) ?_
        refine sg_istore 42 [some (.inr (.inr (some (0, 0)))), some (.inl v1), some (.inl v2), some (.inl (0 : Int32)), some (.inl (-9 : Int32)), none] (sk_td o_X8_bestStart 22 rfl) rfl rfl (Nat.le_of_ble_eq_true rfl) rfl ?_
        refine sg_iconst (v := (0 : Int32)) 43 (sk_td o_X8_bestStart 23 rfl) rfl (by decide) ?_
        refine sg_istore 45 [some (.inr (.inr (some (0, 0)))), some (.inl v1), some (.inl v2), some (.inl (0 : Int32)), some (.inl (-9 : Int32)), some (.inl (0 : Int32))] (sk_td o_X8_bestStart 24 rfl) rfl rfl (Nat.le_of_ble_eq_true rfl) rfl ?_
        exact lt_X8_bestStart_45 sk_fu (x4, v1, v2, (0 : Int32), (-9 : Int32), (0 : Int32)) _ hq
      · rw [if_pos hc] at hq
        refine sg_bipush (v := (-2 : Int32)) 31 (sk_td o_X8_bestStart 15 rfl) rfl (by decide) ?_
        obtain rfl := Option.some.inj hq
        exact sg_iret (sk_td o_X8_bestStart 16 rfl) rfl rfl
    · rw [if_pos hc] at hq
      refine sg_iconst (v := (-1 : Int32)) 20 (sk_td o_X8_bestStart 9 rfl) rfl (by decide) ?_
      obtain rfl := Option.some.inj hq
      exact sg_iret (sk_td o_X8_bestStart 10 rfl) rfl rfl
def q_X8_bestStart (d : sk_D) (v1 : Int32) (v2 : Int32) : Option (Int32 × sk_D) := q_X8_bestStart_0 d v1 v2 
theorem s_X8_bestStart {l : Launch} {d : sk_D} {v1 : Int32} {v2 : Int32} {res : Int32 × sk_D} (hq : q_X8_bestStart d v1 v2 = some res) : sk_M l 6 m_X8_bestStart [.inr (.inr (some (0, 0))), .inl v1, .inl v2] (sk_mm d) (some (.inl res.1)) (sk_mm res.2) :=
  sk_enter (by decide) (fun _ => Nat.le_of_ble_eq_true rfl) (Nat.le_of_ble_eq_true rfl) (t_X8_bestStart_0 hq )
