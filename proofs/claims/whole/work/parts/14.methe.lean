/-! decompiled: X8_countPersons X8_keepResults X8_simulate X8_waited X8_rides X8_longestQueue X8_carried X8_bestStart X8_type X8_clearText X8_carryOutEntry X8_load X8_mix X8_mixPupils X8_mixGroups X8_mixInstructorsAndLifts X8_digest X9_within X9_hasPupil X9_isLevel X9_isLanguages X9_isFamily X9_isOf X9_leaveAll X9_keepRule X9_pupilMany -/
def q_X8_countPersons_58 (rec2 : (sk_D × Int32) → Option (sk_D)) (d : sk_D) (v1 : Int32) (s1 : Int32) (s2 : Int32) : Option (sk_D) :=
  if sk_bi s1 4 = true then (rec2 ((sk_wi d 24 0 s1.toNatClampNeg s2), (v1 + (1 : Int32)))) else none
set_option maxRecDepth 100000 in
set_option maxHeartbeats 4000000 in
theorem t_X8_countPersons_58 {l : Launch} {rec2 : (sk_D × Int32) → Option (sk_D)} {d : sk_D} {v1 : Int32} {s1 : Int32} {s2 : Int32} (hrec2 : ∀ (a : (sk_D × Int32)) (res : sk_D), rec2 a = some res → sk_G l (sk_rm 5 0 0) m_X8_countPersons sk_Ex0 (sk_Zm m_X8_countPersons none (sk_mm res)) 0 0 2 [some (.inr (.inr (some (0, 0)))), some (.inl a.2), none] [] (sk_mm a.1)) {res : sk_D} (hq : q_X8_countPersons_58 rec2 d v1 s1 s2 = some res) :
    sk_G l (sk_rm 5 0 0) m_X8_countPersons sk_Ex0 (sk_Zm m_X8_countPersons none (sk_mm res)) 0 0 58 [some (.inr (.inr (some (0, 0)))), some (.inl v1), none] [.inl s2, .inl s1, .inr (.inr (some (24, 0)))] (sk_mm d) := by
  unfold q_X8_countPersons_58 at hq
  obtain ⟨hb1, hq⟩ := sk_ifn hq
  refine sm_iast 59 (sk_td o_X8_countPersons 33 rfl) rfl rfl sz_24 hb1 ?_
  refine sg_iinc (v1 + (1 : Int32)) 62 [some (.inr (.inr (some (0, 0)))), some (.inl (v1 + (1 : Int32))), none] (sk_td o_X8_countPersons 34 rfl) rfl rfl rfl rfl (Nat.le_of_ble_eq_true rfl) rfl ?_
  refine sg_goto 2 (sk_td o_X8_countPersons 35 rfl) (by decide) ?_
  exact hrec2 ((sk_wi d 24 0 s1.toNatClampNeg s2), (v1 + (1 : Int32))) _ hq
def q_X8_countPersons_57 (rec2 : (sk_D × Int32) → Option (sk_D)) (d : sk_D) (v1 : Int32) (v2 : Int32) (s1 : Int32) : Option (sk_D) :=
  (q_X8_countPersons_58 rec2 d v1 s1 v2)
set_option maxRecDepth 100000 in
set_option maxHeartbeats 4000000 in
theorem t_X8_countPersons_57 {l : Launch} {rec2 : (sk_D × Int32) → Option (sk_D)} {d : sk_D} {v1 : Int32} {v2 : Int32} {s1 : Int32} (hrec2 : ∀ (a : (sk_D × Int32)) (res : sk_D), rec2 a = some res → sk_G l (sk_rm 5 0 0) m_X8_countPersons sk_Ex0 (sk_Zm m_X8_countPersons none (sk_mm res)) 0 0 2 [some (.inr (.inr (some (0, 0)))), some (.inl a.2), none] [] (sk_mm a.1)) {res : sk_D} (hq : q_X8_countPersons_57 rec2 d v1 v2 s1 = some res) :
    sk_G l (sk_rm 5 0 0) m_X8_countPersons sk_Ex0 (sk_Zm m_X8_countPersons none (sk_mm res)) 0 0 57 [some (.inr (.inr (some (0, 0)))), some (.inl v1), some (.inl v2)] [.inl s1, .inr (.inr (some (24, 0)))] (sk_mm d) := by
  unfold q_X8_countPersons_57 at hq
  refine sg_iload_n 58 (sk_td o_X8_countPersons 32 rfl) rfl rfl ?_
  refine sk_wk [true, true, false] (ls' := [some (.inr (.inr (some (0, 0)))), some (.inl v1), none]) rfl ?_
  exact t_X8_countPersons_58 hrec2 hq
def q_X8_countPersons_24 (rec2 : (sk_D × Int32) → Option (sk_D)) (d : sk_D) (v1 : Int32) (s0 : Int32) : Option (sk_D) :=
  if s0 ≤ 0 then (q_X8_countPersons_57 rec2 d v1 s0 v1) else if sk_bi v1 4 = true then if (d.1 39 v1.toNatClampNeg 4) = (-9 : Int32) then (q_X8_countPersons_57 rec2 d v1 s0 v1) else (q_X8_countPersons_58 rec2 d v1 v1 (s0 + (1 : Int32))) else none
set_option maxRecDepth 100000 in
set_option maxHeartbeats 4000000 in
theorem t_X8_countPersons_24 {l : Launch} {rec2 : (sk_D × Int32) → Option (sk_D)} {d : sk_D} {v1 : Int32} {s0 : Int32} (hrec2 : ∀ (a : (sk_D × Int32)) (res : sk_D), rec2 a = some res → sk_G l (sk_rm 5 0 0) m_X8_countPersons sk_Ex0 (sk_Zm m_X8_countPersons none (sk_mm res)) 0 0 2 [some (.inr (.inr (some (0, 0)))), some (.inl a.2), none] [] (sk_mm a.1)) {res : sk_D} (hq : q_X8_countPersons_24 rec2 d v1 s0 = some res) :
    sk_G l (sk_rm 5 0 0) m_X8_countPersons sk_Ex0 (sk_Zm m_X8_countPersons none (sk_mm res)) 0 0 24 [some (.inr (.inr (some (0, 0)))), some (.inl v1), none] [.inl s0] (sk_mm d) := by
  unfold q_X8_countPersons_24 at hq
  refine sg_istore_n 25 [some (.inr (.inr (some (0, 0)))), some (.inl v1), some (.inl s0)] (sk_td o_X8_countPersons 14 rfl) rfl rfl (Nat.le_of_ble_eq_true rfl) rfl ?_
  refine sg_aload_n 26 (sk_td o_X8_countPersons 15 rfl) rfl rfl ?_
  refine sm_getR (23, 0) 29 (sk_td o_X8_countPersons 16 rfl) rfl kf_X8_54 rfl rfl sz_0 rfl ?_
  refine sm_getR (24, 0) 32 (sk_td o_X8_countPersons 17 rfl) rfl kf_X8_390 rfl rfl sz_23 rfl ?_
  refine sg_iload_n 33 (sk_td o_X8_countPersons 18 rfl) rfl rfl ?_
  refine sg_iload_n 34 (sk_td o_X8_countPersons 19 rfl) rfl rfl ?_
  refine sg_if_le 57 37 (sk_td o_X8_countPersons 20 rfl) (by decide) rfl (fun hc => ?_) (fun hc => ?_)
  · rw [if_pos hc] at hq
    exact t_X8_countPersons_57 hrec2 hq
  · rw [if_neg hc] at hq
    refine sg_aload_n 38 (sk_td o_X8_countPersons 21 rfl) rfl rfl ?_
    refine sm_getR (2, 0) 41 (sk_td o_X8_countPersons 22 rfl) rfl kf_X8_17 rfl rfl sz_0 rfl ?_
    refine sg_iload_n 42 (sk_td o_X8_countPersons 23 rfl) rfl rfl ?_
    obtain ⟨hb1, hq⟩ := sk_ifn hq
    refine sm_aald (39, v1.toNatClampNeg) 43 (sk_td o_X8_countPersons 24 rfl) rfl rfl (by decide) sz_2 hb1 (sr_2 (sk_bi.lt hb1)) ?_
    refine sm_getI 46 (sk_td o_X8_countPersons 25 rfl) rfl kf_X8_188 rfl rfl (sk_bi.lt hb1) ?_
    refine sg_bipush (v := (-9 : Int32)) 48 (sk_td o_X8_countPersons 26 rfl) rfl (by decide) ?_
    refine sg_ic_eq 57 51 (sk_td o_X8_countPersons 27 rfl) (by decide) rfl (fun hc => ?_) (fun hc => ?_)
    · rw [if_pos hc] at hq
      exact t_X8_countPersons_57 hrec2 hq
    · rw [if_neg hc] at hq
      refine sg_iload_n 52 (sk_td o_X8_countPersons 28 rfl) rfl rfl ?_
      refine sg_iconst (v := (1 : Int32)) 53 (sk_td o_X8_countPersons 29 rfl) rfl (by decide) ?_
      refine sg_iadd 54 (sk_td o_X8_countPersons 30 rfl) rfl ?_
      refine sg_goto 58 (sk_td o_X8_countPersons 31 rfl) (by decide) ?_
      refine sk_wk [true, true, false] (ls' := [some (.inr (.inr (some (0, 0)))), some (.inl v1), none]) rfl ?_
      exact t_X8_countPersons_58 hrec2 hq
def q_X8_countPersons_2 (rec2 : (sk_D × Int32) → Option (sk_D)) (d : sk_D) (v1 : Int32) : Option (sk_D) :=
  if (4 : Int32) ≤ v1 then some d else (q_X8_takesPart d v1).bind fun x1 => if x1 = 0 then (q_X8_countPersons_24 rec2 d v1 (0 : Int32)) else (q_X8_countPupilsIn d v1).bind fun x2 => (q_X8_countPersons_24 rec2 d v1 x2)
set_option maxRecDepth 100000 in
set_option maxHeartbeats 4000000 in
theorem t_X8_countPersons_2 {l : Launch} {rec2 : (sk_D × Int32) → Option (sk_D)} {d : sk_D} {v1 : Int32} (hrec2 : ∀ (a : (sk_D × Int32)) (res : sk_D), rec2 a = some res → sk_G l (sk_rm 5 0 0) m_X8_countPersons sk_Ex0 (sk_Zm m_X8_countPersons none (sk_mm res)) 0 0 2 [some (.inr (.inr (some (0, 0)))), some (.inl a.2), none] [] (sk_mm a.1)) {res : sk_D} (hq : q_X8_countPersons_2 rec2 d v1 = some res) :
    sk_G l (sk_rm 5 0 0) m_X8_countPersons sk_Ex0 (sk_Zm m_X8_countPersons none (sk_mm res)) 0 0 2 [some (.inr (.inr (some (0, 0)))), some (.inl v1), none] [] (sk_mm d) := by
  unfold q_X8_countPersons_2 at hq
  refine sg_iload_n 3 (sk_td o_X8_countPersons 2 rfl) rfl rfl ?_
  refine sg_iconst (v := (4 : Int32)) 4 (sk_td o_X8_countPersons 3 rfl) rfl (by decide) ?_
  refine sg_ic_ge 65 7 (sk_td o_X8_countPersons 4 rfl) (by decide) rfl (fun hc => ?_) (fun hc => ?_)
  · rw [if_pos hc] at hq
    obtain rfl := Option.some.inj hq
    exact sg_vret (sk_td o_X8_countPersons 36 rfl) rfl
  · rw [if_neg hc] at hq
    refine sg_aload_n 8 (sk_td o_X8_countPersons 5 rfl) rfl rfl ?_
    refine sg_iload_n 9 (sk_td o_X8_countPersons 6 rfl) rfl rfl ?_
    obtain ⟨x1, hr_x1, hq⟩ := sk_bnd hq
    refine sm_callV1i 12 (s_X8_takesPart hr_x1) (sk_td o_X8_countPersons 7 rfl) rfl lv_X8_288 rfl rfl rfl sz_0 (sk_rok (Nat.le_of_ble_eq_true rfl) (Nat.le_of_ble_eq_true rfl) rfl rfl) (Nat.le_of_ble_eq_true rfl) ?_
    refine sg_if_eq 23 15 (sk_td o_X8_countPersons 8 rfl) (by decide) rfl (fun hc => ?_) (fun hc => ?_)
    · rw [if_pos hc] at hq
      refine sg_iconst (v := (0 : Int32)) 24 (sk_td o_X8_countPersons 13 rfl) rfl (by decide) ?_
      exact t_X8_countPersons_24 hrec2 hq
    · rw [if_neg hc] at hq
      refine sg_aload_n 16 (sk_td o_X8_countPersons 9 rfl) rfl rfl ?_
      refine sg_iload_n 17 (sk_td o_X8_countPersons 10 rfl) rfl rfl ?_
      obtain ⟨x2, hr_x2, hq⟩ := sk_bnd hq
      refine sm_callV1i 20 (s_X8_countPupilsIn hr_x2) (sk_td o_X8_countPersons 11 rfl) rfl lv_X8_185 rfl rfl rfl sz_0 (sk_rok (Nat.le_of_ble_eq_true rfl) (Nat.le_of_ble_eq_true rfl) rfl rfl) (Nat.le_of_ble_eq_true rfl) ?_
      refine sg_goto 24 (sk_td o_X8_countPersons 12 rfl) (by decide) ?_
      exact t_X8_countPersons_24 hrec2 hq
def l_X8_countPersons_2 (fl : Nat) (a : (sk_D × Int32)) : Option (sk_D) := sk_it (fun rec2 a => q_X8_countPersons_2 rec2 a.1 a.2) fl a
theorem lt_X8_countPersons_2 {l : Launch} : ∀ (fl : Nat) (a : (sk_D × Int32)) (res : sk_D), l_X8_countPersons_2 fl a = some res → sk_G l (sk_rm 5 0 0) m_X8_countPersons sk_Ex0 (sk_Zm m_X8_countPersons none (sk_mm res)) 0 0 2 [some (.inr (.inr (some (0, 0)))), some (.inl a.2), none] [] (sk_mm a.1) :=
  sk_it_ind (P := fun (a : (sk_D × Int32)) (res : sk_D) => sk_G l (sk_rm 5 0 0) m_X8_countPersons sk_Ex0 (sk_Zm m_X8_countPersons none (sk_mm res)) 0 0 2 [some (.inr (.inr (some (0, 0)))), some (.inl a.2), none] [] (sk_mm a.1)) (fun rec2 hrec2 a res hq  => t_X8_countPersons_2 hrec2 hq )
def q_X8_countPersons_0 (d : sk_D) : Option (sk_D) :=
  (l_X8_countPersons_2 sk_fu (d, (0 : Int32)))
set_option maxRecDepth 100000 in
set_option maxHeartbeats 4000000 in
theorem t_X8_countPersons_0 {l : Launch} {d : sk_D} {res : sk_D} (hq : q_X8_countPersons_0 d = some res) :
    sk_G l (sk_rm 5 0 0) m_X8_countPersons sk_Ex0 (sk_Zm m_X8_countPersons none (sk_mm res)) 0 0 0 [some (.inr (.inr (some (0, 0)))), none, none] [] (sk_mm d) := by
  unfold q_X8_countPersons_0 at hq
  refine sg_iconst (v := (0 : Int32)) 1 (sk_td o_X8_countPersons 0 rfl) rfl (by decide) ?_
  refine sg_istore_n 2 [some (.inr (.inr (some (0, 0)))), some (.inl (0 : Int32)), none] (sk_td o_X8_countPersons 1 rfl) rfl rfl (Nat.le_of_ble_eq_true rfl) rfl ?_
  exact lt_X8_countPersons_2 sk_fu (d, (0 : Int32)) _ hq
def q_X8_countPersons (d : sk_D) : Option (sk_D) := q_X8_countPersons_0 d 
theorem s_X8_countPersons {l : Launch} {d : sk_D} {res : sk_D} (hq : q_X8_countPersons d = some res) : sk_M l 5 m_X8_countPersons [.inr (.inr (some (0, 0)))] (sk_mm d) none (sk_mm res) :=
  sk_enter (by decide) (fun _ => Nat.le_of_ble_eq_true rfl) (Nat.le_of_ble_eq_true rfl) (t_X8_countPersons_0 hq )
def q_X8_keepResults_88 (rec51 : (sk_D × Int32) → Option (sk_D)) (d : sk_D) (v1 : Int32) (h0 : Nat) (s2 : Int32) : Option (sk_D) :=
  if sk_bi s2 3 = true then (rec51 ((sk_wi d 43 h0 4 (d.1 29 0 s2.toNatClampNeg)), (v1 + (1 : Int32)))) else none
set_option maxRecDepth 100000 in
set_option maxHeartbeats 4000000 in
theorem t_X8_keepResults_88 {l : Launch} {rec51 : (sk_D × Int32) → Option (sk_D)} {d : sk_D} {v1 : Int32} {h0 : Nat} {s2 : Int32} (hrec51 : ∀ (a : (sk_D × Int32)) (res : sk_D), rec51 a = some res → sk_G l (sk_rm 1 0 0) m_X8_keepResults sk_Ex0 (sk_Zm m_X8_keepResults none (sk_mm res)) 0 0 51 [some (.inr (.inr (some (0, 0)))), some (.inl a.2)] [] (sk_mm a.1)) {res : sk_D} (hq : q_X8_keepResults_88 rec51 d v1 h0 s2 = some res) (hk_h0 : h0 < sk_cnt 43) :
    sk_G l (sk_rm 1 0 0) m_X8_keepResults sk_Ex0 (sk_Zm m_X8_keepResults none (sk_mm res)) 0 0 88 [some (.inr (.inr (some (0, 0)))), some (.inl v1)] [.inl s2, .inr (.inr (some (29, 0))), .inr (.inr (some (43, h0)))] (sk_mm d) := by
  unfold q_X8_keepResults_88 at hq
  obtain ⟨hb1, hq⟩ := sk_ifn hq
  refine sm_iald 89 (sk_td o_X8_keepResults 50 rfl) rfl rfl sz_29 hb1 ?_
  refine sm_putI 92 (sk_td o_X8_keepResults 51 rfl) rfl kp_X8_285 rfl rfl hk_h0 ?_
  refine sg_iinc (v1 + (1 : Int32)) 95 [some (.inr (.inr (some (0, 0)))), some (.inl (v1 + (1 : Int32)))] (sk_td o_X8_keepResults 52 rfl) rfl rfl rfl rfl (Nat.le_of_ble_eq_true rfl) rfl ?_
  refine sg_goto 51 (sk_td o_X8_keepResults 53 rfl) (by decide) ?_
  exact hrec51 ((sk_wi d 43 h0 4 (d.1 29 0 s2.toNatClampNeg)), (v1 + (1 : Int32))) _ hq
def q_X8_keepResults_51 (rec51 : (sk_D × Int32) → Option (sk_D)) (d : sk_D) (v1 : Int32) : Option (sk_D) :=
  if (3 : Int32) ≤ v1 then some d else if sk_bi v1 3 = true then if sk_bi v1 3 = true then if sk_bi v1 3 = true then (q_X8_keepResults_88 rec51 (sk_wi d 43 v1.toNatClampNeg 3 (d.1 28 0 v1.toNatClampNeg)) v1 v1.toNatClampNeg v1) else none else none else none
set_option maxRecDepth 100000 in
set_option maxHeartbeats 4000000 in
theorem t_X8_keepResults_51 {l : Launch} {rec51 : (sk_D × Int32) → Option (sk_D)} {d : sk_D} {v1 : Int32} (hrec51 : ∀ (a : (sk_D × Int32)) (res : sk_D), rec51 a = some res → sk_G l (sk_rm 1 0 0) m_X8_keepResults sk_Ex0 (sk_Zm m_X8_keepResults none (sk_mm res)) 0 0 51 [some (.inr (.inr (some (0, 0)))), some (.inl a.2)] [] (sk_mm a.1)) {res : sk_D} (hq : q_X8_keepResults_51 rec51 d v1 = some res) :
    sk_G l (sk_rm 1 0 0) m_X8_keepResults sk_Ex0 (sk_Zm m_X8_keepResults none (sk_mm res)) 0 0 51 [some (.inr (.inr (some (0, 0)))), some (.inl v1)] [] (sk_mm d) := by
  unfold q_X8_keepResults_51 at hq
  refine sg_iload_n 52 (sk_td o_X8_keepResults 29 rfl) rfl rfl ?_
  refine sg_iconst (v := (3 : Int32)) 53 (sk_td o_X8_keepResults 30 rfl) rfl (by decide) ?_
  refine sg_ic_ge 98 56 (sk_td o_X8_keepResults 31 rfl) (by decide) rfl (fun hc => ?_) (fun hc => ?_)
  · rw [if_pos hc] at hq
    obtain rfl := Option.some.inj hq
    exact sg_vret (sk_td o_X8_keepResults 54 rfl) rfl
  · rw [if_neg hc] at hq
    refine sg_aload_n 57 (sk_td o_X8_keepResults 32 rfl) rfl rfl ?_
    refine sm_getR (4, 0) 60 (sk_td o_X8_keepResults 33 rfl) rfl kf_X8_29 rfl rfl sz_0 rfl ?_
    refine sg_iload_n 61 (sk_td o_X8_keepResults 34 rfl) rfl rfl ?_
    obtain ⟨hb1, hq⟩ := sk_ifn hq
    refine sm_aald (43, v1.toNatClampNeg) 62 (sk_td o_X8_keepResults 35 rfl) rfl rfl (by decide) sz_4 hb1 (sr_4 (sk_bi.lt hb1)) ?_
    refine sg_aload_n 63 (sk_td o_X8_keepResults 36 rfl) rfl rfl ?_
    refine sm_getR (23, 0) 66 (sk_td o_X8_keepResults 37 rfl) rfl kf_X8_54 rfl rfl sz_0 rfl ?_
    refine sm_getR (28, 0) 69 (sk_td o_X8_keepResults 38 rfl) rfl kf_X8_395 rfl rfl sz_23 rfl ?_
    refine sg_iload_n 70 (sk_td o_X8_keepResults 39 rfl) rfl rfl ?_
    obtain ⟨hb2, hq⟩ := sk_ifn hq
    refine sm_iald 71 (sk_td o_X8_keepResults 40 rfl) rfl rfl sz_28 hb2 ?_
    refine sm_putI 74 (sk_td o_X8_keepResults 41 rfl) rfl kp_X8_282 rfl rfl (sk_bi.lt hb1) ?_
    refine sg_aload_n 75 (sk_td o_X8_keepResults 42 rfl) rfl rfl ?_
    refine sm_getR (4, 0) 78 (sk_td o_X8_keepResults 43 rfl) rfl kf_X8_29 rfl rfl sz_0 rfl ?_
    refine sg_iload_n 79 (sk_td o_X8_keepResults 44 rfl) rfl rfl ?_
    obtain ⟨hb3, hq⟩ := sk_ifn hq
    refine sm_aald (43, v1.toNatClampNeg) 80 (sk_td o_X8_keepResults 45 rfl) rfl rfl (by decide) sz_4 hb3 (sr_4 (sk_bi.lt hb3)) ?_
    refine sg_aload_n 81 (sk_td o_X8_keepResults 46 rfl) rfl rfl ?_
    refine sm_getR (23, 0) 84 (sk_td o_X8_keepResults 47 rfl) rfl kf_X8_54 rfl rfl sz_0 rfl ?_
    refine sm_getR (29, 0) 87 (sk_td o_X8_keepResults 48 rfl) rfl kf_X8_397 rfl rfl sz_23 rfl ?_
    refine sg_iload_n 88 (sk_td o_X8_keepResults 49 rfl) rfl rfl ?_
    exact t_X8_keepResults_88 hrec51 hq (sk_bi.lt hb3)
def l_X8_keepResults_51 (fl : Nat) (a : (sk_D × Int32)) : Option (sk_D) := sk_it (fun rec51 a => q_X8_keepResults_51 rec51 a.1 a.2) fl a
theorem lt_X8_keepResults_51 {l : Launch} : ∀ (fl : Nat) (a : (sk_D × Int32)) (res : sk_D), l_X8_keepResults_51 fl a = some res → sk_G l (sk_rm 1 0 0) m_X8_keepResults sk_Ex0 (sk_Zm m_X8_keepResults none (sk_mm res)) 0 0 51 [some (.inr (.inr (some (0, 0)))), some (.inl a.2)] [] (sk_mm a.1) :=
  sk_it_ind (P := fun (a : (sk_D × Int32)) (res : sk_D) => sk_G l (sk_rm 1 0 0) m_X8_keepResults sk_Ex0 (sk_Zm m_X8_keepResults none (sk_mm res)) 0 0 51 [some (.inr (.inr (some (0, 0)))), some (.inl a.2)] [] (sk_mm a.1)) (fun rec51 hrec51 a res hq  => t_X8_keepResults_51 hrec51 hq )
def q_X8_keepResults_39 (rec2 : (sk_D × Int32) → Option (sk_D)) (d : sk_D) (v1 : Int32) (h0 : Nat) (s2 : Int32) : Option (sk_D) :=
  if sk_bi s2 4 = true then (rec2 ((sk_wi d 39 h0 10 (d.1 27 0 s2.toNatClampNeg)), (v1 + (1 : Int32)))) else none
set_option maxRecDepth 100000 in
set_option maxHeartbeats 4000000 in
theorem t_X8_keepResults_39 {l : Launch} {rec2 : (sk_D × Int32) → Option (sk_D)} {d : sk_D} {v1 : Int32} {h0 : Nat} {s2 : Int32} (hrec2 : ∀ (a : (sk_D × Int32)) (res : sk_D), rec2 a = some res → sk_G l (sk_rm 1 0 0) m_X8_keepResults sk_Ex0 (sk_Zm m_X8_keepResults none (sk_mm res)) 0 0 2 [some (.inr (.inr (some (0, 0)))), some (.inl a.2)] [] (sk_mm a.1)) {res : sk_D} (hq : q_X8_keepResults_39 rec2 d v1 h0 s2 = some res) (hk_h0 : h0 < sk_cnt 39) :
    sk_G l (sk_rm 1 0 0) m_X8_keepResults sk_Ex0 (sk_Zm m_X8_keepResults none (sk_mm res)) 0 0 39 [some (.inr (.inr (some (0, 0)))), some (.inl v1)] [.inl s2, .inr (.inr (some (27, 0))), .inr (.inr (some (39, h0)))] (sk_mm d) := by
  unfold q_X8_keepResults_39 at hq
  obtain ⟨hb1, hq⟩ := sk_ifn hq
  refine sm_iald 40 (sk_td o_X8_keepResults 23 rfl) rfl rfl sz_27 hb1 ?_
  refine sm_putI 43 (sk_td o_X8_keepResults 24 rfl) rfl kp_X8_279 rfl rfl hk_h0 ?_
  refine sg_iinc (v1 + (1 : Int32)) 46 [some (.inr (.inr (some (0, 0)))), some (.inl (v1 + (1 : Int32)))] (sk_td o_X8_keepResults 25 rfl) rfl rfl rfl rfl (Nat.le_of_ble_eq_true rfl) rfl ?_
  refine sg_goto 2 (sk_td o_X8_keepResults 26 rfl) (by decide) ?_
  exact hrec2 ((sk_wi d 39 h0 10 (d.1 27 0 s2.toNatClampNeg)), (v1 + (1 : Int32))) _ hq
def q_X8_keepResults_2 (rec2 : (sk_D × Int32) → Option (sk_D)) (d : sk_D) (v1 : Int32) : Option (sk_D) :=
  if (4 : Int32) ≤ v1 then (l_X8_keepResults_51 sk_fu (d, (0 : Int32))) else if sk_bi v1 4 = true then if sk_bi v1 4 = true then if sk_bi v1 4 = true then (q_X8_keepResults_39 rec2 (sk_wi d 39 v1.toNatClampNeg 9 (d.1 26 0 v1.toNatClampNeg)) v1 v1.toNatClampNeg v1) else none else none else none
set_option maxRecDepth 100000 in
set_option maxHeartbeats 4000000 in
theorem t_X8_keepResults_2 {l : Launch} {rec2 : (sk_D × Int32) → Option (sk_D)} {d : sk_D} {v1 : Int32} (hrec2 : ∀ (a : (sk_D × Int32)) (res : sk_D), rec2 a = some res → sk_G l (sk_rm 1 0 0) m_X8_keepResults sk_Ex0 (sk_Zm m_X8_keepResults none (sk_mm res)) 0 0 2 [some (.inr (.inr (some (0, 0)))), some (.inl a.2)] [] (sk_mm a.1)) {res : sk_D} (hq : q_X8_keepResults_2 rec2 d v1 = some res) :
    sk_G l (sk_rm 1 0 0) m_X8_keepResults sk_Ex0 (sk_Zm m_X8_keepResults none (sk_mm res)) 0 0 2 [some (.inr (.inr (some (0, 0)))), some (.inl v1)] [] (sk_mm d) := by
  unfold q_X8_keepResults_2 at hq
  refine sg_iload_n 3 (sk_td o_X8_keepResults 2 rfl) rfl rfl ?_
  refine sg_iconst (v := (4 : Int32)) 4 (sk_td o_X8_keepResults 3 rfl) rfl (by decide) ?_
  refine sg_ic_ge 49 7 (sk_td o_X8_keepResults 4 rfl) (by decide) rfl (fun hc => ?_) (fun hc => ?_)
  · rw [if_pos hc] at hq
    refine sg_iconst (v := (0 : Int32)) 50 (sk_td o_X8_keepResults 27 rfl) rfl (by decide) ?_
    refine sg_istore_n 51 [some (.inr (.inr (some (0, 0)))), some (.inl (0 : Int32))] (sk_td o_X8_keepResults 28 rfl) rfl rfl (Nat.le_of_ble_eq_true rfl) rfl ?_
    exact lt_X8_keepResults_51 sk_fu (d, (0 : Int32)) _ hq
  · rw [if_neg hc] at hq
    refine sg_aload_n 8 (sk_td o_X8_keepResults 5 rfl) rfl rfl ?_
    refine sm_getR (2, 0) 11 (sk_td o_X8_keepResults 6 rfl) rfl kf_X8_17 rfl rfl sz_0 rfl ?_
    refine sg_iload_n 12 (sk_td o_X8_keepResults 7 rfl) rfl rfl ?_
    obtain ⟨hb1, hq⟩ := sk_ifn hq
    refine sm_aald (39, v1.toNatClampNeg) 13 (sk_td o_X8_keepResults 8 rfl) rfl rfl (by decide) sz_2 hb1 (sr_2 (sk_bi.lt hb1)) ?_
    refine sg_aload_n 14 (sk_td o_X8_keepResults 9 rfl) rfl rfl ?_
    refine sm_getR (23, 0) 17 (sk_td o_X8_keepResults 10 rfl) rfl kf_X8_54 rfl rfl sz_0 rfl ?_
    refine sm_getR (26, 0) 20 (sk_td o_X8_keepResults 11 rfl) rfl kf_X8_294 rfl rfl sz_23 rfl ?_
    refine sg_iload_n 21 (sk_td o_X8_keepResults 12 rfl) rfl rfl ?_
    obtain ⟨hb2, hq⟩ := sk_ifn hq
    refine sm_iald 22 (sk_td o_X8_keepResults 13 rfl) rfl rfl sz_26 hb2 ?_
    refine sm_putI 25 (sk_td o_X8_keepResults 14 rfl) rfl kp_X8_276 rfl rfl (sk_bi.lt hb1) ?_
    refine sg_aload_n 26 (sk_td o_X8_keepResults 15 rfl) rfl rfl ?_
    refine sm_getR (2, 0) 29 (sk_td o_X8_keepResults 16 rfl) rfl kf_X8_17 rfl rfl sz_0 rfl ?_
    refine sg_iload_n 30 (sk_td o_X8_keepResults 17 rfl) rfl rfl ?_
    obtain ⟨hb3, hq⟩ := sk_ifn hq
    refine sm_aald (39, v1.toNatClampNeg) 31 (sk_td o_X8_keepResults 18 rfl) rfl rfl (by decide) sz_2 hb3 (sr_2 (sk_bi.lt hb3)) ?_
    refine sg_aload_n 32 (sk_td o_X8_keepResults 19 rfl) rfl rfl ?_
    refine sm_getR (23, 0) 35 (sk_td o_X8_keepResults 20 rfl) rfl kf_X8_54 rfl rfl sz_0 rfl ?_
    refine sm_getR (27, 0) 38 (sk_td o_X8_keepResults 21 rfl) rfl kf_X8_393 rfl rfl sz_23 rfl ?_
    refine sg_iload_n 39 (sk_td o_X8_keepResults 22 rfl) rfl rfl ?_
    exact t_X8_keepResults_39 hrec2 hq (sk_bi.lt hb3)
def l_X8_keepResults_2 (fl : Nat) (a : (sk_D × Int32)) : Option (sk_D) := sk_it (fun rec2 a => q_X8_keepResults_2 rec2 a.1 a.2) fl a
theorem lt_X8_keepResults_2 {l : Launch} : ∀ (fl : Nat) (a : (sk_D × Int32)) (res : sk_D), l_X8_keepResults_2 fl a = some res → sk_G l (sk_rm 1 0 0) m_X8_keepResults sk_Ex0 (sk_Zm m_X8_keepResults none (sk_mm res)) 0 0 2 [some (.inr (.inr (some (0, 0)))), some (.inl a.2)] [] (sk_mm a.1) :=
  sk_it_ind (P := fun (a : (sk_D × Int32)) (res : sk_D) => sk_G l (sk_rm 1 0 0) m_X8_keepResults sk_Ex0 (sk_Zm m_X8_keepResults none (sk_mm res)) 0 0 2 [some (.inr (.inr (some (0, 0)))), some (.inl a.2)] [] (sk_mm a.1)) (fun rec2 hrec2 a res hq  => t_X8_keepResults_2 hrec2 hq )
def q_X8_keepResults_0 (d : sk_D) : Option (sk_D) :=
  (l_X8_keepResults_2 sk_fu (d, (0 : Int32)))
set_option maxRecDepth 100000 in
set_option maxHeartbeats 4000000 in
theorem t_X8_keepResults_0 {l : Launch} {d : sk_D} {res : sk_D} (hq : q_X8_keepResults_0 d = some res) :
    sk_G l (sk_rm 1 0 0) m_X8_keepResults sk_Ex0 (sk_Zm m_X8_keepResults none (sk_mm res)) 0 0 0 [some (.inr (.inr (some (0, 0)))), none] [] (sk_mm d) := by
  unfold q_X8_keepResults_0 at hq
  refine sg_iconst (v := (0 : Int32)) 1 (sk_td o_X8_keepResults 0 rfl) rfl (by decide) ?_
  refine sg_istore_n 2 [some (.inr (.inr (some (0, 0)))), some (.inl (0 : Int32))] (sk_td o_X8_keepResults 1 rfl) rfl rfl (Nat.le_of_ble_eq_true rfl) rfl ?_
  exact lt_X8_keepResults_2 sk_fu (d, (0 : Int32)) _ hq
def q_X8_keepResults (d : sk_D) : Option (sk_D) := q_X8_keepResults_0 d 
theorem s_X8_keepResults {l : Launch} {d : sk_D} {res : sk_D} (hq : q_X8_keepResults d = some res) : sk_M l 1 m_X8_keepResults [.inr (.inr (some (0, 0)))] (sk_mm d) none (sk_mm res) :=
  sk_enter (by decide) (fun _ => Nat.le_of_ble_eq_true rfl) (Nat.le_of_ble_eq_true rfl) (t_X8_keepResults_0 hq )
def q_X8_simulate_56 (rec56 : (sk_D × Int32 × Int32) → Option (Int32 × sk_D)) (d : sk_D) (v2 : Int32) (v3 : Int32) : Option (Int32 × sk_D) :=
  if (4 : Int32) ≤ v3 then some (v2, d) else if sk_bi v3 4 = true then (rec56 (d, (v2 + (d.1 39 v3.toNatClampNeg 9)), (v3 + (1 : Int32)))) else none
set_option maxRecDepth 100000 in
set_option maxHeartbeats 4000000 in
theorem t_X8_simulate_56 {l : Launch} {rec56 : (sk_D × Int32 × Int32) → Option (Int32 × sk_D)} {d : sk_D} {v2 : Int32} {v3 : Int32} (hrec56 : ∀ (a : (sk_D × Int32 × Int32)) (res : Int32 × sk_D), rec56 a = some res → sk_G l (sk_rm 6 0 0) m_X8_simulate sk_Ex0 (sk_Zm m_X8_simulate (some (.inl res.1)) (sk_mm res.2)) 0 0 56 [some (.inr (.inr (some (0, 0)))), none, some (.inl a.2.1), some (.inl a.2.2)] [] (sk_mm a.1)) {res : Int32 × sk_D} (hq : q_X8_simulate_56 rec56 d v2 v3 = some res) :
    sk_G l (sk_rm 6 0 0) m_X8_simulate sk_Ex0 (sk_Zm m_X8_simulate (some (.inl res.1)) (sk_mm res.2)) 0 0 56 [some (.inr (.inr (some (0, 0)))), none, some (.inl v2), some (.inl v3)] [] (sk_mm d) := by
  unfold q_X8_simulate_56 at hq
  refine sg_iload_n 57 (sk_td o_X8_simulate 30 rfl) rfl rfl ?_
  refine sg_iconst (v := (4 : Int32)) 58 (sk_td o_X8_simulate 31 rfl) rfl (by decide) ?_
  refine sg_ic_ge 79 61 (sk_td o_X8_simulate 32 rfl) (by decide) rfl (fun hc => ?_) (fun hc => ?_)
  · rw [if_pos hc] at hq
    refine sg_iload_n 80 (sk_td o_X8_simulate 43 rfl) rfl rfl ?_
    obtain rfl := Option.some.inj hq
    exact sg_iret (sk_td o_X8_simulate 44 rfl) rfl rfl
  · rw [if_neg hc] at hq
    refine sg_iload_n 62 (sk_td o_X8_simulate 33 rfl) rfl rfl ?_
    refine sg_aload_n 63 (sk_td o_X8_simulate 34 rfl) rfl rfl ?_
    refine sm_getR (2, 0) 66 (sk_td o_X8_simulate 35 rfl) rfl kf_X8_17 rfl rfl sz_0 rfl ?_
    refine sg_iload_n 67 (sk_td o_X8_simulate 36 rfl) rfl rfl ?_
    obtain ⟨hb1, hq⟩ := sk_ifn hq
    refine sm_aald (39, v3.toNatClampNeg) 68 (sk_td o_X8_simulate 37 rfl) rfl rfl (by decide) sz_2 hb1 (sr_2 (sk_bi.lt hb1)) ?_
    refine sm_getI 71 (sk_td o_X8_simulate 38 rfl) rfl kf_X8_276 rfl rfl (sk_bi.lt hb1) ?_
    refine sg_iadd 72 (sk_td o_X8_simulate 39 rfl) rfl ?_
    refine sg_istore_n 73 [some (.inr (.inr (some (0, 0)))), none, some (.inl (v2 + (d.1 39 v3.toNatClampNeg 9))), some (.inl v3)] (sk_td o_X8_simulate 40 rfl) rfl rfl (Nat.le_of_ble_eq_true rfl) rfl ?_
    refine sg_iinc (v3 + (1 : Int32)) 76 [some (.inr (.inr (some (0, 0)))), none, some (.inl (v2 + (d.1 39 v3.toNatClampNeg 9))), some (.inl (v3 + (1 : Int32)))] (sk_td o_X8_simulate 41 rfl) rfl rfl rfl rfl (Nat.le_of_ble_eq_true rfl) rfl ?_
    refine sg_goto 56 (sk_td o_X8_simulate 42 rfl) (by decide) ?_
    exact hrec56 (d, (v2 + (d.1 39 v3.toNatClampNeg 9)), (v3 + (1 : Int32))) _ hq
def l_X8_simulate_56 (fl : Nat) (a : (sk_D × Int32 × Int32)) : Option (Int32 × sk_D) := sk_it (fun rec56 a => q_X8_simulate_56 rec56 a.1 a.2.1 a.2.2) fl a
theorem lt_X8_simulate_56 {l : Launch} : ∀ (fl : Nat) (a : (sk_D × Int32 × Int32)) (res : Int32 × sk_D), l_X8_simulate_56 fl a = some res → sk_G l (sk_rm 6 0 0) m_X8_simulate sk_Ex0 (sk_Zm m_X8_simulate (some (.inl res.1)) (sk_mm res.2)) 0 0 56 [some (.inr (.inr (some (0, 0)))), none, some (.inl a.2.1), some (.inl a.2.2)] [] (sk_mm a.1) :=
  sk_it_ind (P := fun (a : (sk_D × Int32 × Int32)) (res : Int32 × sk_D) => sk_G l (sk_rm 6 0 0) m_X8_simulate sk_Ex0 (sk_Zm m_X8_simulate (some (.inl res.1)) (sk_mm res.2)) 0 0 56 [some (.inr (.inr (some (0, 0)))), none, some (.inl a.2.1), some (.inl a.2.2)] [] (sk_mm a.1)) (fun rec56 hrec56 a res hq  => t_X8_simulate_56 hrec56 hq )
def q_X8_simulate_0 (d : sk_D) (v1 : Int32) : Option (Int32 × sk_D) :=
  (q_X8_within d v1 (1 : Int32) (180 : Int32)).bind fun x1 => if x1 = 0 then some ((-1 : Int32), d) else (q_X8_countPersons d).bind fun x2 => (q_X6_begin x2).bind fun x3 => (q_X6_run x3 (x3.1 0 0 9) v1).bind fun x4 => (q_X8_keepResults x4).bind fun x5 => (l_X8_simulate_56 sk_fu (x5, (0 : Int32), (0 : Int32)))
set_option maxRecDepth 100000 in
set_option maxHeartbeats 4000000 in
theorem t_X8_simulate_0 {l : Launch} {d : sk_D} {v1 : Int32} {res : Int32 × sk_D} (hq : q_X8_simulate_0 d v1 = some res) :
    sk_G l (sk_rm 6 0 0) m_X8_simulate sk_Ex0 (sk_Zm m_X8_simulate (some (.inl res.1)) (sk_mm res.2)) 0 0 0 [some (.inr (.inr (some (0, 0)))), some (.inl v1), none, none] [] (sk_mm d) := by
  unfold q_X8_simulate_0 at hq
  refine sg_iload_n 1 (sk_td o_X8_simulate 0 rfl) rfl rfl ?_
  refine sg_iconst (v := (1 : Int32)) 2 (sk_td o_X8_simulate 1 rfl) rfl (by decide) ?_
  refine sg_sipush (v := (180 : Int32)) 5 (sk_td o_X8_simulate 2 rfl) rfl (by decide) ?_
  obtain ⟨x1, hr_x1, hq⟩ := sk_bnd hq
  refine sm_callS3i 8 (s_X8_within hr_x1) (sk_td o_X8_simulate 3 rfl) rfl ls_X8_85 rfl (sk_rok (Nat.le_of_ble_eq_true rfl) (Nat.le_of_ble_eq_true rfl) rfl rfl) (Nat.le_of_ble_eq_true rfl) ?_
  refine sg_if_ne 13 11 (sk_td o_X8_simulate 4 rfl) (by decide) rfl (fun hc => ?_) (fun hc => ?_)
  · rw [if_neg hc] at hq
    refine sg_aload_n 14 (sk_td o_X8_simulate 7 rfl) rfl rfl ?_
    obtain ⟨x2, hr_x2, hq⟩ := sk_bnd hq
    refine sm_callV0v 17 (s_X8_countPersons hr_x2) (sk_td o_X8_simulate 8 rfl) rfl lv_X8_263 rfl rfl rfl sz_0 (sk_rok (Nat.le_of_ble_eq_true rfl) (Nat.le_of_ble_eq_true rfl) rfl rfl) (Nat.le_of_ble_eq_true rfl) ?_
    refine sg_aload_n 18 (sk_td o_X8_simulate 9 rfl) rfl rfl ?_
    refine sm_getR (23, 0) 21 (sk_td o_X8_simulate 10 rfl) rfl kf_X8_54 rfl rfl sz_0 rfl ?_
    refine sg_aload_n 22 (sk_td o_X8_simulate 11 rfl) rfl rfl ?_
    refine sm_getR (2, 0) 25 (sk_td o_X8_simulate 12 rfl) rfl kf_X8_17 rfl rfl sz_0 rfl ?_
    obtain ⟨x3, hr_x3, hq⟩ := sk_bnd hq
    refine sm_callV1v 28 (s_X6_begin hr_x3) (sk_td o_X8_simulate 13 rfl) rfl lv_X8_266 rfl rfl rfl sz_23 (sk_rok (Nat.le_of_ble_eq_true rfl) (Nat.le_of_ble_eq_true rfl) rfl rfl) (Nat.le_of_ble_eq_true rfl) ?_
    refine sg_aload_n 29 (sk_td o_X8_simulate 14 rfl) rfl rfl ?_
    refine sm_getR (23, 0) 32 (sk_td o_X8_simulate 15 rfl) rfl kf_X8_54 rfl rfl sz_0 rfl ?_
    refine sg_aload_n 33 (sk_td o_X8_simulate 16 rfl) rfl rfl ?_
    refine sm_getR (2, 0) 36 (sk_td o_X8_simulate 17 rfl) rfl kf_X8_17 rfl rfl sz_0 rfl ?_
    refine sg_aload_n 37 (sk_td o_X8_simulate 18 rfl) rfl rfl ?_
    refine sm_getR (4, 0) 40 (sk_td o_X8_simulate 19 rfl) rfl kf_X8_29 rfl rfl sz_0 rfl ?_
    refine sg_aload_n 41 (sk_td o_X8_simulate 20 rfl) rfl rfl ?_
    refine sm_getI 44 (sk_td o_X8_simulate 21 rfl) rfl kf_X8_65 rfl rfl sz_0 ?_
    refine sg_iload_n 45 (sk_td o_X8_simulate 22 rfl) rfl rfl ?_
    obtain ⟨x4, hr_x4, hq⟩ := sk_bnd hq
    refine sm_callV4v 48 (s_X6_run hr_x4) (sk_td o_X8_simulate 23 rfl) rfl lv_X8_269 rfl rfl rfl sz_23 (sk_rok (Nat.le_of_ble_eq_true rfl) (Nat.le_of_ble_eq_true rfl) rfl rfl) (Nat.le_of_ble_eq_true rfl) ?_
    refine sg_aload_n 49 (sk_td o_X8_simulate 24 rfl) rfl rfl ?_
    obtain ⟨x5, hr_x5, hq⟩ := sk_bnd hq
    refine sm_callV0v 52 (s_X8_keepResults hr_x5) (sk_td o_X8_simulate 25 rfl) rfl lv_X8_273 rfl rfl rfl sz_0 (sk_rok (Nat.le_of_ble_eq_true rfl) (Nat.le_of_ble_eq_true rfl) rfl rfl) (Nat.le_of_ble_eq_true rfl) ?_
    refine sg_iconst (v := (0 : Int32)) 53 (sk_td o_X8_simulate 26 rfl) rfl (by decide) ?_
    refine sg_istore_n 54 [some (.inr (.inr (some (0, 0)))), some (.inl v1), some (.inl (0 : Int32)), none] (sk_td o_X8_simulate 27 rfl) rfl rfl (Nat.le_of_ble_eq_true rfl) rfl ?_
    refine sg_iconst (v := (0 : Int32)) 55 (sk_td o_X8_simulate 28 rfl) rfl (by decide) ?_
    refine sg_istore_n 56 [some (.inr (.inr (some (0, 0)))), some (.inl v1), some (.inl (0 : Int32)), some (.inl (0 : Int32))] (sk_td o_X8_simulate 29 rfl) rfl rfl (Nat.le_of_ble_eq_true rfl) rfl ?_
    refine sk_wk [true, false, true, true] (ls' := [some (.inr (.inr (some (0, 0)))), none, some (.inl (0 : Int32)), some (.inl (0 : Int32))]) rfl ?_
    exact lt_X8_simulate_56 sk_fu (x5, (0 : Int32), (0 : Int32)) _ hq
  · rw [if_pos hc] at hq
    refine sg_iconst (v := (-1 : Int32)) 12 (sk_td o_X8_simulate 5 rfl) rfl (by decide) ?_
    obtain rfl := Option.some.inj hq
    exact sg_iret (sk_td o_X8_simulate 6 rfl) rfl rfl
def q_X8_simulate (d : sk_D) (v1 : Int32) : Option (Int32 × sk_D) := q_X8_simulate_0 d v1 
theorem s_X8_simulate {l : Launch} {d : sk_D} {v1 : Int32} {res : Int32 × sk_D} (hq : q_X8_simulate d v1 = some res) : sk_M l 6 m_X8_simulate [.inr (.inr (some (0, 0))), .inl v1] (sk_mm d) (some (.inl res.1)) (sk_mm res.2) :=
  sk_enter (by decide) (fun _ => Nat.le_of_ble_eq_true rfl) (Nat.le_of_ble_eq_true rfl) (t_X8_simulate_0 hq )
def q_X8_waited_0 (d : sk_D) (v1 : Int32) : Option (Int32) :=
  (q_X8_hasGroup d v1).bind fun x1 => if x1 = 0 then some (-1 : Int32) else if sk_bi v1 4 = true then some (d.1 39 v1.toNatClampNeg 9) else none
set_option maxRecDepth 100000 in
set_option maxHeartbeats 4000000 in
theorem t_X8_waited_0 {l : Launch} {d : sk_D} {v1 : Int32} {res : Int32} (hq : q_X8_waited_0 d v1 = some res) :
    sk_G l (sk_rm 3 0 0) m_X8_waited sk_Ex0 (sk_Zm m_X8_waited (some (.inl res)) (sk_mm d)) 0 0 0 [some (.inr (.inr (some (0, 0)))), some (.inl v1)] [] (sk_mm d) := by
  unfold q_X8_waited_0 at hq
  refine sg_aload_n 1 (sk_td o_X8_waited 0 rfl) rfl rfl ?_
  refine sg_iload_n 2 (sk_td o_X8_waited 1 rfl) rfl rfl ?_
  obtain ⟨x1, hr_x1, hq⟩ := sk_bnd hq
  refine sm_callV1i 5 (s_X8_hasGroup hr_x1) (sk_td o_X8_waited 2 rfl) rfl lv_X8_159 rfl rfl rfl sz_0 (sk_rok (Nat.le_of_ble_eq_true rfl) (Nat.le_of_ble_eq_true rfl) rfl rfl) (Nat.le_of_ble_eq_true rfl) ?_
  refine sg_if_eq 20 8 (sk_td o_X8_waited 3 rfl) (by decide) rfl (fun hc => ?_) (fun hc => ?_)
  · rw [if_pos hc] at hq
    refine sg_iconst (v := (-1 : Int32)) 21 (sk_td o_X8_waited 10 rfl) rfl (by decide) ?_
    obtain rfl := Option.some.inj hq
    exact sg_iret (sk_td o_X8_waited 11 rfl) rfl rfl
  · rw [if_neg hc] at hq
    refine sg_aload_n 9 (sk_td o_X8_waited 4 rfl) rfl rfl ?_
    refine sm_getR (2, 0) 12 (sk_td o_X8_waited 5 rfl) rfl kf_X8_17 rfl rfl sz_0 rfl ?_
    refine sg_iload_n 13 (sk_td o_X8_waited 6 rfl) rfl rfl ?_
    obtain ⟨hb2, hq⟩ := sk_ifn hq
    refine sm_aald (39, v1.toNatClampNeg) 14 (sk_td o_X8_waited 7 rfl) rfl rfl (by decide) sz_2 hb2 (sr_2 (sk_bi.lt hb2)) ?_
    refine sm_getI 17 (sk_td o_X8_waited 8 rfl) rfl kf_X8_276 rfl rfl (sk_bi.lt hb2) ?_
    refine sg_goto 21 (sk_td o_X8_waited 9 rfl) (by decide) ?_
    obtain rfl := Option.some.inj hq
    exact sg_iret (sk_td o_X8_waited 11 rfl) rfl rfl
def q_X8_waited (d : sk_D) (v1 : Int32) : Option (Int32) := q_X8_waited_0 d v1 
theorem s_X8_waited {l : Launch} {d : sk_D} {v1 : Int32} {res : Int32} (hq : q_X8_waited d v1 = some res) : sk_M l 3 m_X8_waited [.inr (.inr (some (0, 0))), .inl v1] (sk_mm d) (some (.inl res)) (sk_mm d) :=
  sk_enter (by decide) (fun _ => Nat.le_of_ble_eq_true rfl) (Nat.le_of_ble_eq_true rfl) (t_X8_waited_0 hq )
def q_X8_rides_0 (d : sk_D) (v1 : Int32) : Option (Int32) :=
  (q_X8_hasGroup d v1).bind fun x1 => if x1 = 0 then some (-1 : Int32) else if sk_bi v1 4 = true then some (d.1 39 v1.toNatClampNeg 10) else none
set_option maxRecDepth 100000 in
set_option maxHeartbeats 4000000 in
theorem t_X8_rides_0 {l : Launch} {d : sk_D} {v1 : Int32} {res : Int32} (hq : q_X8_rides_0 d v1 = some res) :
    sk_G l (sk_rm 3 0 0) m_X8_rides sk_Ex0 (sk_Zm m_X8_rides (some (.inl res)) (sk_mm d)) 0 0 0 [some (.inr (.inr (some (0, 0)))), some (.inl v1)] [] (sk_mm d) := by
  unfold q_X8_rides_0 at hq
  refine sg_aload_n 1 (sk_td o_X8_rides 0 rfl) rfl rfl ?_
  refine sg_iload_n 2 (sk_td o_X8_rides 1 rfl) rfl rfl ?_
  obtain ⟨x1, hr_x1, hq⟩ := sk_bnd hq
  refine sm_callV1i 5 (s_X8_hasGroup hr_x1) (sk_td o_X8_rides 2 rfl) rfl lv_X8_159 rfl rfl rfl sz_0 (sk_rok (Nat.le_of_ble_eq_true rfl) (Nat.le_of_ble_eq_true rfl) rfl rfl) (Nat.le_of_ble_eq_true rfl) ?_
  refine sg_if_eq 20 8 (sk_td o_X8_rides 3 rfl) (by decide) rfl (fun hc => ?_) (fun hc => ?_)
  · rw [if_pos hc] at hq
    refine sg_iconst (v := (-1 : Int32)) 21 (sk_td o_X8_rides 10 rfl) rfl (by decide) ?_
    obtain rfl := Option.some.inj hq
    exact sg_iret (sk_td o_X8_rides 11 rfl) rfl rfl
  · rw [if_neg hc] at hq
    refine sg_aload_n 9 (sk_td o_X8_rides 4 rfl) rfl rfl ?_
    refine sm_getR (2, 0) 12 (sk_td o_X8_rides 5 rfl) rfl kf_X8_17 rfl rfl sz_0 rfl ?_
    refine sg_iload_n 13 (sk_td o_X8_rides 6 rfl) rfl rfl ?_
    obtain ⟨hb2, hq⟩ := sk_ifn hq
    refine sm_aald (39, v1.toNatClampNeg) 14 (sk_td o_X8_rides 7 rfl) rfl rfl (by decide) sz_2 hb2 (sr_2 (sk_bi.lt hb2)) ?_
    refine sm_getI 17 (sk_td o_X8_rides 8 rfl) rfl kf_X8_279 rfl rfl (sk_bi.lt hb2) ?_
    refine sg_goto 21 (sk_td o_X8_rides 9 rfl) (by decide) ?_
    obtain rfl := Option.some.inj hq
    exact sg_iret (sk_td o_X8_rides 11 rfl) rfl rfl
def q_X8_rides (d : sk_D) (v1 : Int32) : Option (Int32) := q_X8_rides_0 d v1 
theorem s_X8_rides {l : Launch} {d : sk_D} {v1 : Int32} {res : Int32} (hq : q_X8_rides d v1 = some res) : sk_M l 3 m_X8_rides [.inr (.inr (some (0, 0))), .inl v1] (sk_mm d) (some (.inl res)) (sk_mm d) :=
  sk_enter (by decide) (fun _ => Nat.le_of_ble_eq_true rfl) (Nat.le_of_ble_eq_true rfl) (t_X8_rides_0 hq )
def q_X8_longestQueue_0 (d : sk_D) (v1 : Int32) : Option (Int32) :=
  (q_X8_hasLift d v1).bind fun x1 => if x1 = 0 then some (-1 : Int32) else if sk_bi v1 3 = true then some (d.1 43 v1.toNatClampNeg 3) else none
set_option maxRecDepth 100000 in
set_option maxHeartbeats 4000000 in
theorem t_X8_longestQueue_0 {l : Launch} {d : sk_D} {v1 : Int32} {res : Int32} (hq : q_X8_longestQueue_0 d v1 = some res) :
    sk_G l (sk_rm 3 0 0) m_X8_longestQueue sk_Ex0 (sk_Zm m_X8_longestQueue (some (.inl res)) (sk_mm d)) 0 0 0 [some (.inr (.inr (some (0, 0)))), some (.inl v1)] [] (sk_mm d) := by
  unfold q_X8_longestQueue_0 at hq
  refine sg_aload_n 1 (sk_td o_X8_longestQueue 0 rfl) rfl rfl ?_
  refine sg_iload_n 2 (sk_td o_X8_longestQueue 1 rfl) rfl rfl ?_
  obtain ⟨x1, hr_x1, hq⟩ := sk_bnd hq
  refine sm_callV1i 5 (s_X8_hasLift hr_x1) (sk_td o_X8_longestQueue 2 rfl) rfl lv_X8_248 rfl rfl rfl sz_0 (sk_rok (Nat.le_of_ble_eq_true rfl) (Nat.le_of_ble_eq_true rfl) rfl rfl) (Nat.le_of_ble_eq_true rfl) ?_
  refine sg_if_eq 20 8 (sk_td o_X8_longestQueue 3 rfl) (by decide) rfl (fun hc => ?_) (fun hc => ?_)
  · rw [if_pos hc] at hq
    refine sg_iconst (v := (-1 : Int32)) 21 (sk_td o_X8_longestQueue 10 rfl) rfl (by decide) ?_
    obtain rfl := Option.some.inj hq
    exact sg_iret (sk_td o_X8_longestQueue 11 rfl) rfl rfl
  · rw [if_neg hc] at hq
    refine sg_aload_n 9 (sk_td o_X8_longestQueue 4 rfl) rfl rfl ?_
    refine sm_getR (4, 0) 12 (sk_td o_X8_longestQueue 5 rfl) rfl kf_X8_29 rfl rfl sz_0 rfl ?_
    refine sg_iload_n 13 (sk_td o_X8_longestQueue 6 rfl) rfl rfl ?_
    obtain ⟨hb2, hq⟩ := sk_ifn hq
    refine sm_aald (43, v1.toNatClampNeg) 14 (sk_td o_X8_longestQueue 7 rfl) rfl rfl (by decide) sz_4 hb2 (sr_4 (sk_bi.lt hb2)) ?_
    refine sm_getI 17 (sk_td o_X8_longestQueue 8 rfl) rfl kf_X8_282 rfl rfl (sk_bi.lt hb2) ?_
    refine sg_goto 21 (sk_td o_X8_longestQueue 9 rfl) (by decide) ?_
    obtain rfl := Option.some.inj hq
    exact sg_iret (sk_td o_X8_longestQueue 11 rfl) rfl rfl
def q_X8_longestQueue (d : sk_D) (v1 : Int32) : Option (Int32) := q_X8_longestQueue_0 d v1 
theorem s_X8_longestQueue {l : Launch} {d : sk_D} {v1 : Int32} {res : Int32} (hq : q_X8_longestQueue d v1 = some res) : sk_M l 3 m_X8_longestQueue [.inr (.inr (some (0, 0))), .inl v1] (sk_mm d) (some (.inl res)) (sk_mm d) :=
  sk_enter (by decide) (fun _ => Nat.le_of_ble_eq_true rfl) (Nat.le_of_ble_eq_true rfl) (t_X8_longestQueue_0 hq )
def q_X8_carried_0 (d : sk_D) (v1 : Int32) : Option (Int32) :=
  (q_X8_hasLift d v1).bind fun x1 => if x1 = 0 then some (-1 : Int32) else if sk_bi v1 3 = true then some (d.1 43 v1.toNatClampNeg 4) else none
set_option maxRecDepth 100000 in
set_option maxHeartbeats 4000000 in
theorem t_X8_carried_0 {l : Launch} {d : sk_D} {v1 : Int32} {res : Int32} (hq : q_X8_carried_0 d v1 = some res) :
    sk_G l (sk_rm 3 0 0) m_X8_carried sk_Ex0 (sk_Zm m_X8_carried (some (.inl res)) (sk_mm d)) 0 0 0 [some (.inr (.inr (some (0, 0)))), some (.inl v1)] [] (sk_mm d) := by
  unfold q_X8_carried_0 at hq
  refine sg_aload_n 1 (sk_td o_X8_carried 0 rfl) rfl rfl ?_
  refine sg_iload_n 2 (sk_td o_X8_carried 1 rfl) rfl rfl ?_
  obtain ⟨x1, hr_x1, hq⟩ := sk_bnd hq
  refine sm_callV1i 5 (s_X8_hasLift hr_x1) (sk_td o_X8_carried 2 rfl) rfl lv_X8_248 rfl rfl rfl sz_0 (sk_rok (Nat.le_of_ble_eq_true rfl) (Nat.le_of_ble_eq_true rfl) rfl rfl) (Nat.le_of_ble_eq_true rfl) ?_
  refine sg_if_eq 20 8 (sk_td o_X8_carried 3 rfl) (by decide) rfl (fun hc => ?_) (fun hc => ?_)
  · rw [if_pos hc] at hq
    refine sg_iconst (v := (-1 : Int32)) 21 (sk_td o_X8_carried 10 rfl) rfl (by decide) ?_
    obtain rfl := Option.some.inj hq
    exact sg_iret (sk_td o_X8_carried 11 rfl) rfl rfl
  · rw [if_neg hc] at hq
    refine sg_aload_n 9 (sk_td o_X8_carried 4 rfl) rfl rfl ?_
    refine sm_getR (4, 0) 12 (sk_td o_X8_carried 5 rfl) rfl kf_X8_29 rfl rfl sz_0 rfl ?_
    refine sg_iload_n 13 (sk_td o_X8_carried 6 rfl) rfl rfl ?_
    obtain ⟨hb2, hq⟩ := sk_ifn hq
    refine sm_aald (43, v1.toNatClampNeg) 14 (sk_td o_X8_carried 7 rfl) rfl rfl (by decide) sz_4 hb2 (sr_4 (sk_bi.lt hb2)) ?_
    refine sm_getI 17 (sk_td o_X8_carried 8 rfl) rfl kf_X8_285 rfl rfl (sk_bi.lt hb2) ?_
    refine sg_goto 21 (sk_td o_X8_carried 9 rfl) (by decide) ?_
    obtain rfl := Option.some.inj hq
    exact sg_iret (sk_td o_X8_carried 11 rfl) rfl rfl
def q_X8_carried (d : sk_D) (v1 : Int32) : Option (Int32) := q_X8_carried_0 d v1 
theorem s_X8_carried {l : Launch} {d : sk_D} {v1 : Int32} {res : Int32} (hq : q_X8_carried d v1 = some res) : sk_M l 3 m_X8_carried [.inr (.inr (some (0, 0))), .inl v1] (sk_mm d) (some (.inl res)) (sk_mm d) :=
  sk_enter (by decide) (fun _ => Nat.le_of_ble_eq_true rfl) (Nat.le_of_ble_eq_true rfl) (t_X8_carried_0 hq )
def q_X8_bestStart_129 (rec45 : (sk_D × Int32 × Int32 × Int32 × Int32 × Int32) → Option (Int32 × sk_D)) (d : sk_D) (v1 : Int32) (v2 : Int32) (v3 : Int32) (v4 : Int32) (v5 : Int32) : Option (Int32 × sk_D) :=
  (rec45 (d, v1, v2, v3, v4, (v5 + (1 : Int32))))
set_option maxRecDepth 100000 in
set_option maxHeartbeats 4000000 in
theorem t_X8_bestStart_129 {l : Launch} {rec45 : (sk_D × Int32 × Int32 × Int32 × Int32 × Int32) → Option (Int32 × sk_D)} {d : sk_D} {v1 : Int32} {v2 : Int32} {v3 : Int32} {v4 : Int32} {v5 : Int32} (hrec45 : ∀ (a : (sk_D × Int32 × Int32 × Int32 × Int32 × Int32)) (res : Int32 × sk_D), rec45 a = some res → sk_G l (sk_rm 6 0 0) m_X8_bestStart sk_Ex0 (sk_Zm m_X8_bestStart (some (.inl res.1)) (sk_mm res.2)) 0 0 45 [some (.inr (.inr (some (0, 0)))), some (.inl a.2.1), some (.inl a.2.2.1), some (.inl a.2.2.2.1), some (.inl a.2.2.2.2.1), some (.inl a.2.2.2.2.2)] [] (sk_mm a.1)) {res : Int32 × sk_D} (hq : q_X8_bestStart_129 rec45 d v1 v2 v3 v4 v5 = some res) :
    sk_G l (sk_rm 6 0 0) m_X8_bestStart sk_Ex0 (sk_Zm m_X8_bestStart (some (.inl res.1)) (sk_mm res.2)) 0 0 129 [some (.inr (.inr (some (0, 0)))), some (.inl v1), some (.inl v2), some (.inl v3), some (.inl v4), some (.inl v5)] [] (sk_mm d) := by
  unfold q_X8_bestStart_129 at hq
  refine sg_iinc (v5 + (1 : Int32)) 132 [some (.inr (.inr (some (0, 0)))), some (.inl v1), some (.inl v2), some (.inl v3), some (.inl v4), some (.inl (v5 + (1 : Int32)))] (sk_td o_X8_bestStart 67 rfl) rfl rfl rfl rfl (Nat.le_of_ble_eq_true rfl) rfl ?_
  refine sg_goto 45 (sk_td o_X8_bestStart 68 rfl) (by decide) ?_
  exact hrec45 (d, v1, v2, v3, v4, (v5 + (1 : Int32))) _ hq
def q_X8_bestStart_115 (rec45 : (sk_D × Int32 × Int32 × Int32 × Int32 × Int32) → Option (Int32 × sk_D)) (d : sk_D) (v1 : Int32) (v2 : Int32) (v5 : Int32) : Option (Int32 × sk_D) :=
  if sk_bi v1 4 = true then (q_X8_bestStart_129 rec45 d v1 v2 v5 (d.1 26 0 v1.toNatClampNeg) v5) else none
set_option maxRecDepth 100000 in
set_option maxHeartbeats 4000000 in
theorem t_X8_bestStart_115 {l : Launch} {rec45 : (sk_D × Int32 × Int32 × Int32 × Int32 × Int32) → Option (Int32 × sk_D)} {d : sk_D} {v1 : Int32} {v2 : Int32} {v5 : Int32} (hrec45 : ∀ (a : (sk_D × Int32 × Int32 × Int32 × Int32 × Int32)) (res : Int32 × sk_D), rec45 a = some res → sk_G l (sk_rm 6 0 0) m_X8_bestStart sk_Ex0 (sk_Zm m_X8_bestStart (some (.inl res.1)) (sk_mm res.2)) 0 0 45 [some (.inr (.inr (some (0, 0)))), some (.inl a.2.1), some (.inl a.2.2.1), some (.inl a.2.2.2.1), some (.inl a.2.2.2.2.1), some (.inl a.2.2.2.2.2)] [] (sk_mm a.1)) {res : Int32 × sk_D} (hq : q_X8_bestStart_115 rec45 d v1 v2 v5 = some res) :
    sk_G l (sk_rm 6 0 0) m_X8_bestStart sk_Ex0 (sk_Zm m_X8_bestStart (some (.inl res.1)) (sk_mm res.2)) 0 0 115 [some (.inr (.inr (some (0, 0)))), some (.inl v1), some (.inl v2), none, none, some (.inl v5)] [] (sk_mm d) := by
  unfold q_X8_bestStart_115 at hq
  refine sg_aload_n 116 (sk_td o_X8_bestStart 59 rfl) rfl rfl ?_
  refine sm_getR (23, 0) 119 (sk_td o_X8_bestStart 60 rfl) rfl kf_X8_54 rfl rfl sz_0 rfl ?_
  refine sm_getR (26, 0) 122 (sk_td o_X8_bestStart 61 rfl) rfl kf_X8_294 rfl rfl sz_23 rfl ?_
  refine sg_iload_n 123 (sk_td o_X8_bestStart 62 rfl) rfl rfl ?_
  obtain ⟨hb1, hq⟩ := sk_ifn hq
  refine sm_iald 124 (sk_td o_X8_bestStart 63 rfl) rfl rfl sz_26 hb1 ?_
  refine sg_istore 126 [some (.inr (.inr (some (0, 0)))), some (.inl v1), some (.inl v2), none, some (.inl (d.1 26 0 v1.toNatClampNeg)), some (.inl v5)] (sk_td o_X8_bestStart 64 rfl) rfl rfl (Nat.le_of_ble_eq_true rfl) rfl ?_
  refine sg_iload 128 (sk_td o_X8_bestStart 65 rfl) rfl rfl ?_
  refine sg_istore_n 129 [some (.inr (.inr (some (0, 0)))), some (.inl v1), some (.inl v2), some (.inl v5), some (.inl (d.1 26 0 v1.toNatClampNeg)), some (.inl v5)] (sk_td o_X8_bestStart 66 rfl) rfl rfl (Nat.le_of_ble_eq_true rfl) rfl ?_
  exact t_X8_bestStart_129 hrec45 hq
def q_X8_bestStart_87 (rec45 : (sk_D × Int32 × Int32 × Int32 × Int32 × Int32) → Option (Int32 × sk_D)) (d : sk_D) (v1 : Int32) (v2 : Int32) (v3 : Int32) (v4 : Int32) (v5 : Int32) : Option (Int32 × sk_D) :=
  (q_X6_run d (d.1 0 0 9) v2).bind fun x1 => if v4 = (-9 : Int32) then (q_X8_bestStart_115 rec45 x1 v1 v2 v5) else if sk_bi v1 4 = true then if v4 ≤ (x1.1 26 0 v1.toNatClampNeg) then (q_X8_bestStart_129 rec45 x1 v1 v2 v3 v4 v5) else (q_X8_bestStart_115 rec45 x1 v1 v2 v5) else none
set_option maxRecDepth 100000 in
set_option maxHeartbeats 4000000 in
theorem t_X8_bestStart_87 {l : Launch} {rec45 : (sk_D × Int32 × Int32 × Int32 × Int32 × Int32) → Option (Int32 × sk_D)} {d : sk_D} {v1 : Int32} {v2 : Int32} {v3 : Int32} {v4 : Int32} {v5 : Int32} (hrec45 : ∀ (a : (sk_D × Int32 × Int32 × Int32 × Int32 × Int32)) (res : Int32 × sk_D), rec45 a = some res → sk_G l (sk_rm 6 0 0) m_X8_bestStart sk_Ex0 (sk_Zm m_X8_bestStart (some (.inl res.1)) (sk_mm res.2)) 0 0 45 [some (.inr (.inr (some (0, 0)))), some (.inl a.2.1), some (.inl a.2.2.1), some (.inl a.2.2.2.1), some (.inl a.2.2.2.2.1), some (.inl a.2.2.2.2.2)] [] (sk_mm a.1)) {res : Int32 × sk_D} (hq : q_X8_bestStart_87 rec45 d v1 v2 v3 v4 v5 = some res) :
    sk_G l (sk_rm 6 0 0) m_X8_bestStart sk_Ex0 (sk_Zm m_X8_bestStart (some (.inl res.1)) (sk_mm res.2)) 0 0 87 [some (.inr (.inr (some (0, 0)))), some (.inl v1), some (.inl v2), some (.inl v3), some (.inl v4), some (.inl v5)] [.inr (.inr (some (0, 0))), .inr (.inr (some (4, 0))), .inr (.inr (some (2, 0))), .inr (.inr (some (23, 0)))] (sk_mm d) := by
  unfold q_X8_bestStart_87 at hq
  refine sm_getI 90 (sk_td o_X8_bestStart 46 rfl) rfl kf_X8_65 rfl rfl sz_0 ?_
  refine sg_iload_n 91 (sk_td o_X8_bestStart 47 rfl) rfl rfl ?_
  obtain ⟨x1, hr_x1, hq⟩ := sk_bnd hq
  refine sm_callV4v 94 (s_X6_run hr_x1) (sk_td o_X8_bestStart 48 rfl) rfl lv_X8_269 rfl rfl rfl sz_23 (sk_rok (Nat.le_of_ble_eq_true rfl) (Nat.le_of_ble_eq_true rfl) rfl rfl) (Nat.le_of_ble_eq_true rfl) ?_
  refine sg_iload 96 (sk_td o_X8_bestStart 49 rfl) rfl rfl ?_
  refine sg_bipush (v := (-9 : Int32)) 98 (sk_td o_X8_bestStart 50 rfl) rfl (by decide) ?_
  refine sg_ic_eq 115 101 (sk_td o_X8_bestStart 51 rfl) (by decide) rfl (fun hc => ?_) (fun hc => ?_)
  · rw [if_pos hc] at hq
    refine sk_wk [true, true, true, false, false, true] (ls' := [some (.inr (.inr (some (0, 0)))), some (.inl v1), some (.inl v2), none, none, some (.inl v5)]) rfl ?_
    exact t_X8_bestStart_115 hrec45 hq
  · rw [if_neg hc] at hq
    refine sg_aload_n 102 (sk_td o_X8_bestStart 52 rfl) rfl rfl ?_
    refine sm_getR (23, 0) 105 (sk_td o_X8_bestStart 53 rfl) rfl kf_X8_54 rfl rfl sz_0 rfl ?_
    refine sm_getR (26, 0) 108 (sk_td o_X8_bestStart 54 rfl) rfl kf_X8_294 rfl rfl sz_23 rfl ?_
    refine sg_iload_n 109 (sk_td o_X8_bestStart 55 rfl) rfl rfl ?_
    obtain ⟨hb2, hq⟩ := sk_ifn hq
    refine sm_iald 110 (sk_td o_X8_bestStart 56 rfl) rfl rfl sz_26 hb2 ?_
    refine sg_iload 112 (sk_td o_X8_bestStart 57 rfl) rfl rfl ?_
    refine sg_ic_ge 129 115 (sk_td o_X8_bestStart 58 rfl) (by decide) rfl (fun hc => ?_) (fun hc => ?_)
    · rw [if_pos hc] at hq
      exact t_X8_bestStart_129 hrec45 hq
    · rw [if_neg hc] at hq
      refine sk_wk [true, true, true, false, false, true] (ls' := [some (.inr (.inr (some (0, 0)))), some (.inl v1), some (.inl v2), none, none, some (.inl v5)]) rfl ?_
      exact t_X8_bestStart_115 hrec45 hq
def q_X8_bestStart_45 (rec45 : (sk_D × Int32 × Int32 × Int32 × Int32 × Int32) → Option (Int32 × sk_D)) (d : sk_D) (v1 : Int32) (v2 : Int32) (v3 : Int32) (v4 : Int32) (v5 : Int32) : Option (Int32 × sk_D) :=
  if (30 : Int32) < v5 then some (v3, d) else (q_X6_begin d).bind fun x1 => if sk_bi v1 4 = true then (q_X8_bestStart_87 rec45 (sk_wi x1 25 0 v1.toNatClampNeg v5) v1 v2 v3 v4 v5) else none
set_option maxRecDepth 100000 in
set_option maxHeartbeats 4000000 in
theorem t_X8_bestStart_45 {l : Launch} {rec45 : (sk_D × Int32 × Int32 × Int32 × Int32 × Int32) → Option (Int32 × sk_D)} {d : sk_D} {v1 : Int32} {v2 : Int32} {v3 : Int32} {v4 : Int32} {v5 : Int32} (hrec45 : ∀ (a : (sk_D × Int32 × Int32 × Int32 × Int32 × Int32)) (res : Int32 × sk_D), rec45 a = some res → sk_G l (sk_rm 6 0 0) m_X8_bestStart sk_Ex0 (sk_Zm m_X8_bestStart (some (.inl res.1)) (sk_mm res.2)) 0 0 45 [some (.inr (.inr (some (0, 0)))), some (.inl a.2.1), some (.inl a.2.2.1), some (.inl a.2.2.2.1), some (.inl a.2.2.2.2.1), some (.inl a.2.2.2.2.2)] [] (sk_mm a.1)) {res : Int32 × sk_D} (hq : q_X8_bestStart_45 rec45 d v1 v2 v3 v4 v5 = some res) :
    sk_G l (sk_rm 6 0 0) m_X8_bestStart sk_Ex0 (sk_Zm m_X8_bestStart (some (.inl res.1)) (sk_mm res.2)) 0 0 45 [some (.inr (.inr (some (0, 0)))), some (.inl v1), some (.inl v2), some (.inl v3), some (.inl v4), some (.inl v5)] [] (sk_mm d) := by
  unfold q_X8_bestStart_45 at hq
  refine sg_iload 47 (sk_td o_X8_bestStart 25 rfl) rfl rfl ?_
  refine sg_bipush (v := (30 : Int32)) 49 (sk_td o_X8_bestStart 26 rfl) rfl (by decide) ?_
  refine sg_ic_gt 135 52 (sk_td o_X8_bestStart 27 rfl) (by decide) rfl (fun hc => ?_) (fun hc => ?_)
  · rw [if_pos hc] at hq
    refine sg_iload_n 136 (sk_td o_X8_bestStart 69 rfl) rfl rfl ?_
    obtain rfl := Option.some.inj hq
    exact sg_iret (sk_td o_X8_bestStart 70 rfl) rfl rfl
  · rw [if_neg hc] at hq
    refine sg_aload_n 53 (sk_td o_X8_bestStart 28 rfl) rfl rfl ?_
    refine sm_getR (23, 0) 56 (sk_td o_X8_bestStart 29 rfl) rfl kf_X8_54 rfl rfl sz_0 rfl ?_
    refine sg_aload_n 57 (sk_td o_X8_bestStart 30 rfl) rfl rfl ?_
    refine sm_getR (2, 0) 60 (sk_td o_X8_bestStart 31 rfl) rfl kf_X8_17 rfl rfl sz_0 rfl ?_
    obtain ⟨x1, hr_x1, hq⟩ := sk_bnd hq
    refine sm_callV1v 63 (s_X6_begin hr_x1) (sk_td o_X8_bestStart 32 rfl) rfl lv_X8_266 rfl rfl rfl sz_23 (sk_rok (Nat.le_of_ble_eq_true rfl) (Nat.le_of_ble_eq_true rfl) rfl rfl) (Nat.le_of_ble_eq_true rfl) ?_
    refine sg_aload_n 64 (sk_td o_X8_bestStart 33 rfl) rfl rfl ?_
    refine sm_getR (23, 0) 67 (sk_td o_X8_bestStart 34 rfl) rfl kf_X8_54 rfl rfl sz_0 rfl ?_
    refine sm_getR (25, 0) 70 (sk_td o_X8_bestStart 35 rfl) rfl kf_X8_291 rfl rfl sz_23 rfl ?_
    refine sg_iload_n 71 (sk_td o_X8_bestStart 36 rfl) rfl rfl ?_
    refine sg_iload 73 (sk_td o_X8_bestStart 37 rfl) rfl rfl ?_
    obtain ⟨hb2, hq⟩ := sk_ifn hq
    refine sm_iast 74 (sk_td o_X8_bestStart 38 rfl) rfl rfl sz_25 hb2 ?_
    refine sg_aload_n 75 (sk_td o_X8_bestStart 39 rfl) rfl rfl ?_
    refine sm_getR (23, 0) 78 (sk_td o_X8_bestStart 40 rfl) rfl kf_X8_54 rfl rfl sz_0 rfl ?_
    refine sg_aload_n 79 (sk_td o_X8_bestStart 41 rfl) rfl rfl ?_
    refine sm_getR (2, 0) 82 (sk_td o_X8_bestStart 42 rfl) rfl kf_X8_17 rfl rfl sz_0 rfl ?_
    refine sg_aload_n 83 (sk_td o_X8_bestStart 43 rfl) rfl rfl ?_
    refine sm_getR (4, 0) 86 (sk_td o_X8_bestStart 44 rfl) rfl kf_X8_29 rfl rfl sz_0 rfl ?_
    refine sg_aload_n 87 (sk_td o_X8_bestStart 45 rfl) rfl rfl ?_
    exact t_X8_bestStart_87 hrec45 hq
def l_X8_bestStart_45 (fl : Nat) (a : (sk_D × Int32 × Int32 × Int32 × Int32 × Int32)) : Option (Int32 × sk_D) := sk_it (fun rec45 a => q_X8_bestStart_45 rec45 a.1 a.2.1 a.2.2.1 a.2.2.2.1 a.2.2.2.2.1 a.2.2.2.2.2) fl a
theorem lt_X8_bestStart_45 {l : Launch} : ∀ (fl : Nat) (a : (sk_D × Int32 × Int32 × Int32 × Int32 × Int32)) (res : Int32 × sk_D), l_X8_bestStart_45 fl a = some res → sk_G l (sk_rm 6 0 0) m_X8_bestStart sk_Ex0 (sk_Zm m_X8_bestStart (some (.inl res.1)) (sk_mm res.2)) 0 0 45 [some (.inr (.inr (some (0, 0)))), some (.inl a.2.1), some (.inl a.2.2.1), some (.inl a.2.2.2.1), some (.inl a.2.2.2.2.1), some (.inl a.2.2.2.2.2)] [] (sk_mm a.1) :=
  sk_it_ind (P := fun (a : (sk_D × Int32 × Int32 × Int32 × Int32 × Int32)) (res : Int32 × sk_D) => sk_G l (sk_rm 6 0 0) m_X8_bestStart sk_Ex0 (sk_Zm m_X8_bestStart (some (.inl res.1)) (sk_mm res.2)) 0 0 45 [some (.inr (.inr (some (0, 0)))), some (.inl a.2.1), some (.inl a.2.2.1), some (.inl a.2.2.2.1), some (.inl a.2.2.2.2.1), some (.inl a.2.2.2.2.2)] [] (sk_mm a.1)) (fun rec45 hrec45 a res hq  => t_X8_bestStart_45 hrec45 hq )
def q_X8_bestStart_0 (d : sk_D) (v1 : Int32) (v2 : Int32) : Option (Int32 × sk_D) :=
  (q_X8_hasGroup d v1).bind fun x1 => if x1 = 0 then some ((-1 : Int32), d) else (q_X8_within d v2 (1 : Int32) (180 : Int32)).bind fun x2 => if x2 = 0 then some ((-1 : Int32), d) else (q_X8_takesPart d v1).bind fun x3 => if x3 = 0 then some ((-2 : Int32), d) else (q_X8_countPersons d).bind fun x4 => (l_X8_bestStart_45 sk_fu (x4, v1, v2, (0 : Int32), (-9 : Int32), (0 : Int32)))
set_option maxRecDepth 100000 in
set_option maxHeartbeats 4000000 in
theorem t_X8_bestStart_0 {l : Launch} {d : sk_D} {v1 : Int32} {v2 : Int32} {res : Int32 × sk_D} (hq : q_X8_bestStart_0 d v1 v2 = some res) :
    sk_G l (sk_rm 6 0 0) m_X8_bestStart sk_Ex0 (sk_Zm m_X8_bestStart (some (.inl res.1)) (sk_mm res.2)) 0 0 0 [some (.inr (.inr (some (0, 0)))), some (.inl v1), some (.inl v2), none, none, none] [] (sk_mm d) := by
  unfold q_X8_bestStart_0 at hq
  refine sg_aload_n 1 (sk_td o_X8_bestStart 0 rfl) rfl rfl ?_
  refine sg_iload_n 2 (sk_td o_X8_bestStart 1 rfl) rfl rfl ?_
  obtain ⟨x1, hr_x1, hq⟩ := sk_bnd hq
  refine sm_callV1i 5 (s_X8_hasGroup hr_x1) (sk_td o_X8_bestStart 2 rfl) rfl lv_X8_159 rfl rfl rfl sz_0 (sk_rok (Nat.le_of_ble_eq_true rfl) (Nat.le_of_ble_eq_true rfl) rfl rfl) (Nat.le_of_ble_eq_true rfl) ?_
  refine sg_if_eq 19 8 (sk_td o_X8_bestStart 3 rfl) (by decide) rfl (fun hc => ?_) (fun hc => ?_)
  · rw [if_pos hc] at hq
    refine sg_iconst (v := (-1 : Int32)) 20 (sk_td o_X8_bestStart 9 rfl) rfl (by decide) ?_
    obtain rfl := Option.some.inj hq
    exact sg_iret (sk_td o_X8_bestStart 10 rfl) rfl rfl
  · rw [if_neg hc] at hq
    refine sg_iload_n 9 (sk_td o_X8_bestStart 4 rfl) rfl rfl ?_
    refine sg_iconst (v := (1 : Int32)) 10 (sk_td o_X8_bestStart 5 rfl) rfl (by decide) ?_
    refine sg_sipush (v := (180 : Int32)) 13 (sk_td o_X8_bestStart 6 rfl) rfl (by decide) ?_
    obtain ⟨x2, hr_x2, hq⟩ := sk_bnd hq
    refine sm_callS3i 16 (s_X8_within hr_x2) (sk_td o_X8_bestStart 7 rfl) rfl ls_X8_85 rfl (sk_rok (Nat.le_of_ble_eq_true rfl) (Nat.le_of_ble_eq_true rfl) rfl rfl) (Nat.le_of_ble_eq_true rfl) ?_
    refine sg_if_ne 21 19 (sk_td o_X8_bestStart 8 rfl) (by decide) rfl (fun hc => ?_) (fun hc => ?_)
    · rw [if_neg hc] at hq
      refine sg_aload_n 22 (sk_td o_X8_bestStart 11 rfl) rfl rfl ?_
      refine sg_iload_n 23 (sk_td o_X8_bestStart 12 rfl) rfl rfl ?_
      obtain ⟨x3, hr_x3, hq⟩ := sk_bnd hq
      refine sm_callV1i 26 (s_X8_takesPart hr_x3) (sk_td o_X8_bestStart 13 rfl) rfl lv_X8_288 rfl rfl rfl sz_0 (sk_rok (Nat.le_of_ble_eq_true rfl) (Nat.le_of_ble_eq_true rfl) rfl rfl) (Nat.le_of_ble_eq_true rfl) ?_
      refine sg_if_ne 32 29 (sk_td o_X8_bestStart 14 rfl) (by decide) rfl (fun hc => ?_) (fun hc => ?_)
      · rw [if_neg hc] at hq
        refine sg_aload_n 33 (sk_td o_X8_bestStart 17 rfl) rfl rfl ?_
        obtain ⟨x4, hr_x4, hq⟩ := sk_bnd hq
        refine sm_callV0v 36 (s_X8_countPersons hr_x4) (sk_td o_X8_bestStart 18 rfl) rfl lv_X8_263 rfl rfl rfl sz_0 (sk_rok (Nat.le_of_ble_eq_true rfl) (Nat.le_of_ble_eq_true rfl) rfl rfl) (Nat.le_of_ble_eq_true rfl) ?_
        refine sg_iconst (v := (0 : Int32)) 37 (sk_td o_X8_bestStart 19 rfl) rfl (by decide) ?_
        refine sg_istore_n 38 [some (.inr (.inr (some (0, 0)))), some (.inl v1), some (.inl v2), some (.inl (0 : Int32)), none, none] (sk_td o_X8_bestStart 20 rfl) rfl rfl (Nat.le_of_ble_eq_true rfl) rfl ?_
        refine sg_bipush (v := (-9 : Int32)) 40 (sk_td o_X8_bestStart 21 rfl) rfl (by decide) ?_
        refine sg_istore 42 [some (.inr (.inr (some (0, 0)))), some (.inl v1), some (.inl v2), some (.inl (0 : Int32)), some (.inl (-9 : Int32)), none] (sk_td o_X8_bestStart 22 rfl) rfl rfl (Nat.le_of_ble_eq_true rfl) rfl ?_
        refine sg_iconst (v := (0 : Int32)) 43 (sk_td o_X8_bestStart 23 rfl) rfl (by decide) ?_
        refine sg_istore 45 [some (.inr (.inr (some (0, 0)))), some (.inl v1), some (.inl v2), some (.inl (0 : Int32)), some (.inl (-9 : Int32)), some (.inl (0 : Int32))] (sk_td o_X8_bestStart 24 rfl) rfl rfl (Nat.le_of_ble_eq_true rfl) rfl ?_
        exact lt_X8_bestStart_45 sk_fu (x4, v1, v2, (0 : Int32), (-9 : Int32), (0 : Int32)) _ hq
      · rw [if_pos hc] at hq
        refine sg_bipush (v := (-2 : Int32)) 31 (sk_td o_X8_bestStart 15 rfl) rfl (by decide) ?_
        obtain rfl := Option.some.inj hq
        exact sg_iret (sk_td o_X8_bestStart 16 rfl) rfl rfl
    · rw [if_pos hc] at hq
      refine sg_iconst (v := (-1 : Int32)) 20 (sk_td o_X8_bestStart 9 rfl) rfl (by decide) ?_
      obtain rfl := Option.some.inj hq
      exact sg_iret (sk_td o_X8_bestStart 10 rfl) rfl rfl
def q_X8_bestStart (d : sk_D) (v1 : Int32) (v2 : Int32) : Option (Int32 × sk_D) := q_X8_bestStart_0 d v1 v2 
theorem s_X8_bestStart {l : Launch} {d : sk_D} {v1 : Int32} {v2 : Int32} {res : Int32 × sk_D} (hq : q_X8_bestStart d v1 v2 = some res) : sk_M l 6 m_X8_bestStart [.inr (.inr (some (0, 0))), .inl v1, .inl v2] (sk_mm d) (some (.inl res.1)) (sk_mm res.2) :=
  sk_enter (by decide) (fun _ => Nat.le_of_ble_eq_true rfl) (Nat.le_of_ble_eq_true rfl) (t_X8_bestStart_0 hq )
def q_X8_type_66 (d : sk_D) : Option (Int32 × sk_D) :=
  some ((d.1 35 0 1), d)
set_option maxRecDepth 100000 in
set_option maxHeartbeats 4000000 in
theorem t_X8_type_66 {l : Launch} {d : sk_D} {res : Int32 × sk_D} (hq : q_X8_type_66 d = some res) :
    sk_G l (sk_rm 2 0 0) m_X8_type sk_Ex0 (sk_Zm m_X8_type (some (.inl res.1)) (sk_mm res.2)) 0 0 66 [none, none] [.inr (.inr (some (35, 0)))] (sk_mm d) := by
  unfold q_X8_type_66 at hq
  refine sm_getI 69 (sk_td o_X8_type 34 rfl) rfl kf_X8_296 rfl rfl sz_35 ?_
  obtain rfl := Option.some.inj hq
  exact sg_iret (sk_td o_X8_type 35 rfl) rfl rfl
def q_X8_type_54 (d : sk_D) : Option (Int32 × sk_D) :=
  (q_X8_type_66 (sk_wi d 35 0 1 ((d.1 35 0 1) + (1 : Int32))))
set_option maxRecDepth 100000 in
set_option maxHeartbeats 4000000 in
theorem t_X8_type_54 {l : Launch} {d : sk_D} {res : Int32 × sk_D} (hq : q_X8_type_54 d = some res) :
    sk_G l (sk_rm 2 0 0) m_X8_type sk_Ex0 (sk_Zm m_X8_type (some (.inl res.1)) (sk_mm res.2)) 0 0 54 [some (.inr (.inr (some (0, 0)))), none] [.inr (.inr (some (35, 0))), .inr (.inr (some (35, 0)))] (sk_mm d) := by
  unfold q_X8_type_54 at hq
  refine sm_getI 57 (sk_td o_X8_type 28 rfl) rfl kf_X8_296 rfl rfl sz_35 ?_
  refine sg_iconst (v := (1 : Int32)) 58 (sk_td o_X8_type 29 rfl) rfl (by decide) ?_
  refine sg_iadd 59 (sk_td o_X8_type 30 rfl) rfl ?_
  refine sm_putI 62 (sk_td o_X8_type 31 rfl) rfl kp_X8_296 rfl rfl sz_35 ?_
  refine sg_aload_n 63 (sk_td o_X8_type 32 rfl) rfl rfl ?_
  refine sm_getR (35, 0) 66 (sk_td o_X8_type 33 rfl) rfl kf_X8_61 rfl rfl sz_0 rfl ?_
  refine sk_wk [false, true] (ls' := [none, none]) rfl ?_
  exact t_X8_type_66 hq
def q_X8_type_0 (d : sk_D) (v1 : Int32) : Option (Int32 × sk_D) :=
  (q_X8_within d v1 (32 : Int32) (126 : Int32)).bind fun x1 => if x1 = 0 then some ((-1 : Int32), d) else (q_X8_within d (d.1 35 0 1) (0 : Int32) (99 : Int32)).bind fun x2 => if x2 = 0 then some ((-3 : Int32), d) else if sk_bi (d.1 35 0 1) 100 = true then (q_X8_type_54 (sk_wi d 36 0 (d.1 35 0 1).toNatClampNeg (vp_nar .char ((v1.toUInt32 % 65536).toInt32)))) else none
set_option maxRecDepth 100000 in
set_option maxHeartbeats 4000000 in
theorem t_X8_type_0 {l : Launch} {d : sk_D} {v1 : Int32} {res : Int32 × sk_D} (hq : q_X8_type_0 d v1 = some res) :
    sk_G l (sk_rm 2 0 0) m_X8_type sk_Ex0 (sk_Zm m_X8_type (some (.inl res.1)) (sk_mm res.2)) 0 0 0 [some (.inr (.inr (some (0, 0)))), some (.inl v1)] [] (sk_mm d) := by
  unfold q_X8_type_0 at hq
  refine sg_iload_n 1 (sk_td o_X8_type 0 rfl) rfl rfl ?_
  refine sg_bipush (v := (32 : Int32)) 3 (sk_td o_X8_type 1 rfl) rfl (by decide) ?_
  refine sg_bipush (v := (126 : Int32)) 5 (sk_td o_X8_type 2 rfl) rfl (by decide) ?_
  obtain ⟨x1, hr_x1, hq⟩ := sk_bnd hq
  refine sm_callS3i 8 (s_X8_within hr_x1) (sk_td o_X8_type 3 rfl) rfl ls_X8_85 rfl (sk_rok (Nat.le_of_ble_eq_true rfl) (Nat.le_of_ble_eq_true rfl) rfl rfl) (Nat.le_of_ble_eq_true rfl) ?_
  refine sg_if_ne 13 11 (sk_td o_X8_type 4 rfl) (by decide) rfl (fun hc => ?_) (fun hc => ?_)
  · rw [if_neg hc] at hq
    refine sg_aload_n 14 (sk_td o_X8_type 7 rfl) rfl rfl ?_
    refine sm_getR (35, 0) 17 (sk_td o_X8_type 8 rfl) rfl kf_X8_61 rfl rfl sz_0 rfl ?_
    refine sm_getI 20 (sk_td o_X8_type 9 rfl) rfl kf_X8_296 rfl rfl sz_35 ?_
    refine sg_iconst (v := (0 : Int32)) 21 (sk_td o_X8_type 10 rfl) rfl (by decide) ?_
    refine sg_bipush (v := (99 : Int32)) 23 (sk_td o_X8_type 11 rfl) rfl (by decide) ?_
    obtain ⟨x2, hr_x2, hq⟩ := sk_bnd hq
    refine sm_callS3i 26 (s_X8_within hr_x2) (sk_td o_X8_type 12 rfl) rfl ls_X8_85 rfl (sk_rok (Nat.le_of_ble_eq_true rfl) (Nat.le_of_ble_eq_true rfl) rfl rfl) (Nat.le_of_ble_eq_true rfl) ?_
    refine sg_if_ne 32 29 (sk_td o_X8_type 13 rfl) (by decide) rfl (fun hc => ?_) (fun hc => ?_)
    · rw [if_neg hc] at hq
      refine sg_aload_n 33 (sk_td o_X8_type 16 rfl) rfl rfl ?_
      refine sm_getR (35, 0) 36 (sk_td o_X8_type 17 rfl) rfl kf_X8_61 rfl rfl sz_0 rfl ?_
      refine sm_getR (36, 0) 39 (sk_td o_X8_type 18 rfl) rfl kf_X8_299 rfl rfl sz_35 rfl ?_
      refine sg_aload_n 40 (sk_td o_X8_type 19 rfl) rfl rfl ?_
      refine sm_getR (35, 0) 43 (sk_td o_X8_type 20 rfl) rfl kf_X8_61 rfl rfl sz_0 rfl ?_
      refine sm_getI 46 (sk_td o_X8_type 21 rfl) rfl kf_X8_296 rfl rfl sz_35 ?_
      refine sg_iload_n 47 (sk_td o_X8_type 22 rfl) rfl rfl ?_
      refine sg_i2c 48 (sk_td o_X8_type 23 rfl) rfl ?_
      obtain ⟨hb3, hq⟩ := sk_ifn hq
      refine sm_cast 49 (sk_td o_X8_type 24 rfl) rfl rfl sz_36 hb3 ?_
      refine sg_aload_n 50 (sk_td o_X8_type 25 rfl) rfl rfl ?_
      refine sm_getR (35, 0) 53 (sk_td o_X8_type 26 rfl) rfl kf_X8_61 rfl rfl sz_0 rfl ?_
      refine sg_dupR 54 (sk_td o_X8_type 27 rfl) rfl ?_
      refine sk_wk [true, false] (ls' := [some (.inr (.inr (some (0, 0)))), none]) rfl ?_
      exact t_X8_type_54 hq
    · rw [if_pos hc] at hq
      refine sg_bipush (v := (-3 : Int32)) 31 (sk_td o_X8_type 14 rfl) rfl (by decide) ?_
      obtain rfl := Option.some.inj hq
      exact sg_iret (sk_td o_X8_type 15 rfl) rfl rfl
  · rw [if_pos hc] at hq
    refine sg_iconst (v := (-1 : Int32)) 12 (sk_td o_X8_type 5 rfl) rfl (by decide) ?_
    obtain rfl := Option.some.inj hq
    exact sg_iret (sk_td o_X8_type 6 rfl) rfl rfl
def q_X8_type (d : sk_D) (v1 : Int32) : Option (Int32 × sk_D) := q_X8_type_0 d v1 
theorem s_X8_type {l : Launch} {d : sk_D} {v1 : Int32} {res : Int32 × sk_D} (hq : q_X8_type d v1 = some res) : sk_M l 2 m_X8_type [.inr (.inr (some (0, 0))), .inl v1] (sk_mm d) (some (.inl res.1)) (sk_mm res.2) :=
  sk_enter (by decide) (fun _ => Nat.le_of_ble_eq_true rfl) (Nat.le_of_ble_eq_true rfl) (t_X8_type_0 hq )
def q_X8_clearText_0 (d : sk_D) : Option (Int32 × sk_D) :=
  some ((d.1 35 0 1), (sk_wi d 35 0 1 (0 : Int32)))
set_option maxRecDepth 100000 in
set_option maxHeartbeats 4000000 in
theorem t_X8_clearText_0 {l : Launch} {d : sk_D} {res : Int32 × sk_D} (hq : q_X8_clearText_0 d = some res) :
    sk_G l (sk_rm 1 0 0) m_X8_clearText sk_Ex0 (sk_Zm m_X8_clearText (some (.inl res.1)) (sk_mm res.2)) 0 0 0 [some (.inr (.inr (some (0, 0)))), none] [] (sk_mm d) := by
  unfold q_X8_clearText_0 at hq
  refine sg_aload_n 1 (sk_td o_X8_clearText 0 rfl) rfl rfl ?_
  refine sm_getR (35, 0) 4 (sk_td o_X8_clearText 1 rfl) rfl kf_X8_61 rfl rfl sz_0 rfl ?_
  refine sm_getI 7 (sk_td o_X8_clearText 2 rfl) rfl kf_X8_296 rfl rfl sz_35 ?_
  refine sg_istore_n 8 [some (.inr (.inr (some (0, 0)))), some (.inl (d.1 35 0 1))] (sk_td o_X8_clearText 3 rfl) rfl rfl (Nat.le_of_ble_eq_true rfl) rfl ?_
  refine sg_aload_n 9 (sk_td o_X8_clearText 4 rfl) rfl rfl ?_
  refine sm_getR (35, 0) 12 (sk_td o_X8_clearText 5 rfl) rfl kf_X8_61 rfl rfl sz_0 rfl ?_
  refine sg_iconst (v := (0 : Int32)) 13 (sk_td o_X8_clearText 6 rfl) rfl (by decide) ?_
  refine sm_putI 16 (sk_td o_X8_clearText 7 rfl) rfl kp_X8_296 rfl rfl sz_35 ?_
  refine sg_iload_n 17 (sk_td o_X8_clearText 8 rfl) rfl rfl ?_
  obtain rfl := Option.some.inj hq
  exact sg_iret (sk_td o_X8_clearText 9 rfl) rfl rfl
def q_X8_clearText (d : sk_D) : Option (Int32 × sk_D) := q_X8_clearText_0 d 
theorem s_X8_clearText {l : Launch} {d : sk_D} {res : Int32 × sk_D} (hq : q_X8_clearText d = some res) : sk_M l 1 m_X8_clearText [.inr (.inr (some (0, 0)))] (sk_mm d) (some (.inl res.1)) (sk_mm res.2) :=
  sk_enter (by decide) (fun _ => Nat.le_of_ble_eq_true rfl) (Nat.le_of_ble_eq_true rfl) (t_X8_clearText_0 hq )
def q_X8_carryOutEntry_0 (d : sk_D) : Option (Int32 × sk_D) :=
  if (d.1 35 0 3) = (112 : Int32) then (q_X8_addPupil d (d.1 35 0 4) (d.1 35 0 5) (d.1 35 0 6)).bind fun x3 => some (x3.1, x3.2) else if (d.1 35 0 3) = (103 : Int32) then (q_X8_openGroup d (d.1 35 0 4) (d.1 35 0 7) (d.1 35 0 8)).bind fun x2 => some (x2.1, x2.2) else (q_X8_hire d (d.1 35 0 5) (d.1 35 0 9) (d.1 35 0 10) (d.1 35 0 11)).bind fun x1 => some (x1.1, x1.2)
set_option maxRecDepth 100000 in
set_option maxHeartbeats 4000000 in
theorem t_X8_carryOutEntry_0 {l : Launch} {d : sk_D} {res : Int32 × sk_D} (hq : q_X8_carryOutEntry_0 d = some res) :
    sk_G l (sk_rm 5 0 0) m_X8_carryOutEntry sk_Ex0 (sk_Zm m_X8_carryOutEntry (some (.inl res.1)) (sk_mm res.2)) 0 0 0 [some (.inr (.inr (some (0, 0))))] [] (sk_mm d) := by
  unfold q_X8_carryOutEntry_0 at hq
  refine sg_aload_n 1 (sk_td o_X8_carryOutEntry 0 rfl) rfl rfl ?_
  refine sm_getR (35, 0) 4 (sk_td o_X8_carryOutEntry 1 rfl) rfl kf_X8_61 rfl rfl sz_0 rfl ?_
  refine sm_getI 7 (sk_td o_X8_carryOutEntry 2 rfl) rfl kf_X8_399 rfl rfl sz_35 ?_
  refine sg_bipush (v := (112 : Int32)) 9 (sk_td o_X8_carryOutEntry 3 rfl) rfl (by decide) ?_
  refine sg_ic_ne 38 12 (sk_td o_X8_carryOutEntry 4 rfl) (by decide) rfl (fun hc => ?_) (fun hc => ?_)
  · rw [if_neg hc] at hq
    refine sg_aload_n 39 (sk_td o_X8_carryOutEntry 17 rfl) rfl rfl ?_
    refine sm_getR (35, 0) 42 (sk_td o_X8_carryOutEntry 18 rfl) rfl kf_X8_61 rfl rfl sz_0 rfl ?_
    refine sm_getI 45 (sk_td o_X8_carryOutEntry 19 rfl) rfl kf_X8_399 rfl rfl sz_35 ?_
    refine sg_bipush (v := (103 : Int32)) 47 (sk_td o_X8_carryOutEntry 20 rfl) rfl (by decide) ?_
    refine sg_ic_ne 76 50 (sk_td o_X8_carryOutEntry 21 rfl) (by decide) rfl (fun hc => ?_) (fun hc => ?_)
    · rw [if_neg hc] at hq
      refine sg_aload_n 77 (sk_td o_X8_carryOutEntry 34 rfl) rfl rfl ?_
      refine sg_aload_n 78 (sk_td o_X8_carryOutEntry 35 rfl) rfl rfl ?_
      refine sm_getR (35, 0) 81 (sk_td o_X8_carryOutEntry 36 rfl) rfl kf_X8_61 rfl rfl sz_0 rfl ?_
      refine sm_getI 84 (sk_td o_X8_carryOutEntry 37 rfl) rfl kf_X8_404 rfl rfl sz_35 ?_
      refine sg_aload_n 85 (sk_td o_X8_carryOutEntry 38 rfl) rfl rfl ?_
      refine sm_getR (35, 0) 88 (sk_td o_X8_carryOutEntry 39 rfl) rfl kf_X8_61 rfl rfl sz_0 rfl ?_
      refine sm_getI 91 (sk_td o_X8_carryOutEntry 40 rfl) rfl kf_X8_419 rfl rfl sz_35 ?_
      refine sg_aload_n 92 (sk_td o_X8_carryOutEntry 41 rfl) rfl rfl ?_
      refine sm_getR (35, 0) 95 (sk_td o_X8_carryOutEntry 42 rfl) rfl kf_X8_61 rfl rfl sz_0 rfl ?_
      refine sm_getI 98 (sk_td o_X8_carryOutEntry 43 rfl) rfl kf_X8_422 rfl rfl sz_35 ?_
      refine sg_aload_n 99 (sk_td o_X8_carryOutEntry 44 rfl) rfl rfl ?_
      refine sm_getR (35, 0) 102 (sk_td o_X8_carryOutEntry 45 rfl) rfl kf_X8_61 rfl rfl sz_0 rfl ?_
      refine sm_getI 105 (sk_td o_X8_carryOutEntry 46 rfl) rfl kf_X8_425 rfl rfl sz_35 ?_
      obtain ⟨x1, hr_x1, hq⟩ := sk_bnd hq
      refine sm_callV4i 108 (s_X8_hire hr_x1) (sk_td o_X8_carryOutEntry 47 rfl) rfl lv_X8_426 rfl rfl rfl sz_0 (sk_rok (Nat.le_of_ble_eq_true rfl) (Nat.le_of_ble_eq_true rfl) rfl rfl) (Nat.le_of_ble_eq_true rfl) ?_
      obtain rfl := Option.some.inj hq
      exact sg_iret (sk_td o_X8_carryOutEntry 48 rfl) rfl rfl
    · rw [if_pos hc] at hq
      refine sg_aload_n 51 (sk_td o_X8_carryOutEntry 22 rfl) rfl rfl ?_
      refine sg_aload_n 52 (sk_td o_X8_carryOutEntry 23 rfl) rfl rfl ?_
      refine sm_getR (35, 0) 55 (sk_td o_X8_carryOutEntry 24 rfl) rfl kf_X8_61 rfl rfl sz_0 rfl ?_
      refine sm_getI 58 (sk_td o_X8_carryOutEntry 25 rfl) rfl kf_X8_403 rfl rfl sz_35 ?_
      refine sg_aload_n 59 (sk_td o_X8_carryOutEntry 26 rfl) rfl rfl ?_
      refine sm_getR (35, 0) 62 (sk_td o_X8_carryOutEntry 27 rfl) rfl kf_X8_61 rfl rfl sz_0 rfl ?_
      refine sm_getI 65 (sk_td o_X8_carryOutEntry 28 rfl) rfl kf_X8_410 rfl rfl sz_35 ?_
      refine sg_aload_n 66 (sk_td o_X8_carryOutEntry 29 rfl) rfl rfl ?_
      refine sm_getR (35, 0) 69 (sk_td o_X8_carryOutEntry 30 rfl) rfl kf_X8_61 rfl rfl sz_0 rfl ?_
      refine sm_getI 72 (sk_td o_X8_carryOutEntry 31 rfl) rfl kf_X8_413 rfl rfl sz_35 ?_
      obtain ⟨x2, hr_x2, hq⟩ := sk_bnd hq
      refine sm_callV3i 75 (s_X8_openGroup hr_x2) (sk_td o_X8_carryOutEntry 32 rfl) rfl lv_X8_416 rfl rfl rfl sz_0 (sk_rok (Nat.le_of_ble_eq_true rfl) (Nat.le_of_ble_eq_true rfl) rfl rfl) (Nat.le_of_ble_eq_true rfl) ?_
      obtain rfl := Option.some.inj hq
      exact sg_iret (sk_td o_X8_carryOutEntry 33 rfl) rfl rfl
  · rw [if_pos hc] at hq
    refine sg_aload_n 13 (sk_td o_X8_carryOutEntry 5 rfl) rfl rfl ?_
    refine sg_aload_n 14 (sk_td o_X8_carryOutEntry 6 rfl) rfl rfl ?_
    refine sm_getR (35, 0) 17 (sk_td o_X8_carryOutEntry 7 rfl) rfl kf_X8_61 rfl rfl sz_0 rfl ?_
    refine sm_getI 20 (sk_td o_X8_carryOutEntry 8 rfl) rfl kf_X8_403 rfl rfl sz_35 ?_
    refine sg_aload_n 21 (sk_td o_X8_carryOutEntry 9 rfl) rfl rfl ?_
    refine sm_getR (35, 0) 24 (sk_td o_X8_carryOutEntry 10 rfl) rfl kf_X8_61 rfl rfl sz_0 rfl ?_
    refine sm_getI 27 (sk_td o_X8_carryOutEntry 11 rfl) rfl kf_X8_404 rfl rfl sz_35 ?_
    refine sg_aload_n 28 (sk_td o_X8_carryOutEntry 12 rfl) rfl rfl ?_
    refine sm_getR (35, 0) 31 (sk_td o_X8_carryOutEntry 13 rfl) rfl kf_X8_61 rfl rfl sz_0 rfl ?_
    refine sm_getI 34 (sk_td o_X8_carryOutEntry 14 rfl) rfl kf_X8_405 rfl rfl sz_35 ?_
    obtain ⟨x3, hr_x3, hq⟩ := sk_bnd hq
    refine sm_callV3i 37 (s_X8_addPupil hr_x3) (sk_td o_X8_carryOutEntry 15 rfl) rfl lv_X8_406 rfl rfl rfl sz_0 (sk_rok (Nat.le_of_ble_eq_true rfl) (Nat.le_of_ble_eq_true rfl) rfl rfl) (Nat.le_of_ble_eq_true rfl) ?_
    obtain rfl := Option.some.inj hq
    exact sg_iret (sk_td o_X8_carryOutEntry 16 rfl) rfl rfl
def q_X8_carryOutEntry (d : sk_D) : Option (Int32 × sk_D) := q_X8_carryOutEntry_0 d 
theorem s_X8_carryOutEntry {l : Launch} {d : sk_D} {res : Int32 × sk_D} (hq : q_X8_carryOutEntry d = some res) : sk_M l 5 m_X8_carryOutEntry [.inr (.inr (some (0, 0)))] (sk_mm d) (some (.inl res.1)) (sk_mm res.2) :=
  sk_enter (by decide) (fun _ => Nat.le_of_ble_eq_true rfl) (Nat.le_of_ble_eq_true rfl) (t_X8_carryOutEntry_0 hq )
def q_X8_load_31 (rec31 : (sk_D × Int32 × Int32) → Option (Int32 × sk_D)) (d : sk_D) (v2 : Int32) (v3 : Int32) : Option (Int32 × sk_D) :=
  if (100 : Int32) ≤ v3 then some (v2, d) else (q_X5_readEntry d).bind fun x1 => if x1.1 = 0 then some (v2, x1.2) else (q_X8_carryOutEntry x1.2).bind fun x2 => if x2.1 = (-3 : Int32) then some (v2, x2.2) else (rec31 (x2.2, (v2 + (1 : Int32)), (v3 + (1 : Int32))))
set_option maxRecDepth 100000 in
set_option maxHeartbeats 4000000 in
theorem t_X8_load_31 {l : Launch} {rec31 : (sk_D × Int32 × Int32) → Option (Int32 × sk_D)} {d : sk_D} {v2 : Int32} {v3 : Int32} (hrec31 : ∀ (a : (sk_D × Int32 × Int32)) (res : Int32 × sk_D), rec31 a = some res → sk_G l (sk_rm 7 0 0) m_X8_load sk_Ex0 (sk_Zm m_X8_load (some (.inl res.1)) (sk_mm res.2)) 0 0 31 [some (.inr (.inr (some (0, 0)))), none, some (.inl a.2.1), some (.inl a.2.2)] [] (sk_mm a.1)) {res : Int32 × sk_D} (hq : q_X8_load_31 rec31 d v2 v3 = some res) :
    sk_G l (sk_rm 7 0 0) m_X8_load sk_Ex0 (sk_Zm m_X8_load (some (.inl res.1)) (sk_mm res.2)) 0 0 31 [some (.inr (.inr (some (0, 0)))), none, some (.inl v2), some (.inl v3)] [] (sk_mm d) := by
  unfold q_X8_load_31 at hq
  refine sg_iload_n 32 (sk_td o_X8_load 19 rfl) rfl rfl ?_
  refine sg_bipush (v := (100 : Int32)) 34 (sk_td o_X8_load 20 rfl) rfl (by decide) ?_
  refine sg_ic_ge 67 37 (sk_td o_X8_load 21 rfl) (by decide) rfl (fun hc => ?_) (fun hc => ?_)
  · rw [if_pos hc] at hq
    refine sg_iload_n 68 (sk_td o_X8_load 35 rfl) rfl rfl ?_
    obtain rfl := Option.some.inj hq
    exact sg_iret (sk_td o_X8_load 36 rfl) rfl rfl
  · rw [if_neg hc] at hq
    refine sg_aload_n 38 (sk_td o_X8_load 22 rfl) rfl rfl ?_
    refine sm_getR (35, 0) 41 (sk_td o_X8_load 23 rfl) rfl kf_X8_61 rfl rfl sz_0 rfl ?_
    obtain ⟨x1, hr_x1, hq⟩ := sk_bnd hq
    refine sm_callV0i 44 (s_X5_readEntry hr_x1) (sk_td o_X8_load 24 rfl) rfl lv_X8_309 rfl rfl rfl sz_35 (sk_rok (Nat.le_of_ble_eq_true rfl) (Nat.le_of_ble_eq_true rfl) rfl rfl) (Nat.le_of_ble_eq_true rfl) ?_
    refine sg_if_eq 67 47 (sk_td o_X8_load 25 rfl) (by decide) rfl (fun hc => ?_) (fun hc => ?_)
    · rw [if_pos hc] at hq
      refine sg_iload_n 68 (sk_td o_X8_load 35 rfl) rfl rfl ?_
      obtain rfl := Option.some.inj hq
      exact sg_iret (sk_td o_X8_load 36 rfl) rfl rfl
    · rw [if_neg hc] at hq
      refine sg_aload_n 48 (sk_td o_X8_load 26 rfl) rfl rfl ?_
      obtain ⟨x2, hr_x2, hq⟩ := sk_bnd hq
      refine sm_callV0i 51 (s_X8_carryOutEntry hr_x2) (sk_td o_X8_load 27 rfl) rfl lv_X8_313 rfl rfl rfl sz_0 (sk_rok (Nat.le_of_ble_eq_true rfl) (Nat.le_of_ble_eq_true rfl) rfl rfl) (Nat.le_of_ble_eq_true rfl) ?_
      refine sg_bipush (v := (-3 : Int32)) 53 (sk_td o_X8_load 28 rfl) rfl (by decide) ?_
      refine sg_ic_ne 58 56 (sk_td o_X8_load 29 rfl) (by decide) rfl (fun hc => ?_) (fun hc => ?_)
      · rw [if_neg hc] at hq
        refine sg_iinc (v2 + (1 : Int32)) 61 [some (.inr (.inr (some (0, 0)))), none, some (.inl (v2 + (1 : Int32))), some (.inl v3)] (sk_td o_X8_load 32 rfl) rfl rfl rfl rfl (Nat.le_of_ble_eq_true rfl) rfl ?_
        refine sg_iinc (v3 + (1 : Int32)) 64 [some (.inr (.inr (some (0, 0)))), none, some (.inl (v2 + (1 : Int32))), some (.inl (v3 + (1 : Int32)))] (sk_td o_X8_load 33 rfl) rfl rfl rfl rfl (Nat.le_of_ble_eq_true rfl) rfl ?_
        refine sg_goto 31 (sk_td o_X8_load 34 rfl) (by decide) ?_
        exact hrec31 (x2.2, (v2 + (1 : Int32)), (v3 + (1 : Int32))) _ hq
      · rw [if_pos hc] at hq
        refine sg_iload_n 57 (sk_td o_X8_load 30 rfl) rfl rfl ?_
        obtain rfl := Option.some.inj hq
        exact sg_iret (sk_td o_X8_load 31 rfl) rfl rfl
def l_X8_load_31 (fl : Nat) (a : (sk_D × Int32 × Int32)) : Option (Int32 × sk_D) := sk_it (fun rec31 a => q_X8_load_31 rec31 a.1 a.2.1 a.2.2) fl a
theorem lt_X8_load_31 {l : Launch} : ∀ (fl : Nat) (a : (sk_D × Int32 × Int32)) (res : Int32 × sk_D), l_X8_load_31 fl a = some res → sk_G l (sk_rm 7 0 0) m_X8_load sk_Ex0 (sk_Zm m_X8_load (some (.inl res.1)) (sk_mm res.2)) 0 0 31 [some (.inr (.inr (some (0, 0)))), none, some (.inl a.2.1), some (.inl a.2.2)] [] (sk_mm a.1) :=
  sk_it_ind (P := fun (a : (sk_D × Int32 × Int32)) (res : Int32 × sk_D) => sk_G l (sk_rm 7 0 0) m_X8_load sk_Ex0 (sk_Zm m_X8_load (some (.inl res.1)) (sk_mm res.2)) 0 0 31 [some (.inr (.inr (some (0, 0)))), none, some (.inl a.2.1), some (.inl a.2.2)] [] (sk_mm a.1)) (fun rec31 hrec31 a res hq  => t_X8_load_31 hrec31 hq )
def q_X8_load_0 (d : sk_D) : Option (Int32 × sk_D) :=
  (q_X5_findFault d).bind fun x1 => if x1.1 = (-9 : Int32) then (l_X8_load_31 sk_fu ((sk_wi x1.2 35 0 2 (0 : Int32)), (0 : Int32), (0 : Int32))) else some (((-10 : Int32) - x1.1), x1.2)
set_option maxRecDepth 100000 in
set_option maxHeartbeats 4000000 in
theorem t_X8_load_0 {l : Launch} {d : sk_D} {res : Int32 × sk_D} (hq : q_X8_load_0 d = some res) :
    sk_G l (sk_rm 7 0 0) m_X8_load sk_Ex0 (sk_Zm m_X8_load (some (.inl res.1)) (sk_mm res.2)) 0 0 0 [some (.inr (.inr (some (0, 0)))), none, none, none] [] (sk_mm d) := by
  unfold q_X8_load_0 at hq
  refine sg_aload_n 1 (sk_td o_X8_load 0 rfl) rfl rfl ?_
  refine sm_getR (35, 0) 4 (sk_td o_X8_load 1 rfl) rfl kf_X8_61 rfl rfl sz_0 rfl ?_
  obtain ⟨x1, hr_x1, hq⟩ := sk_bnd hq
  refine sm_callV0i 7 (s_X5_findFault hr_x1) (sk_td o_X8_load 2 rfl) rfl lv_X8_303 rfl rfl rfl sz_35 (sk_rok (Nat.le_of_ble_eq_true rfl) (Nat.le_of_ble_eq_true rfl) rfl rfl) (Nat.le_of_ble_eq_true rfl) ?_
  refine sg_istore_n 8 [some (.inr (.inr (some (0, 0)))), some (.inl x1.1), none, none] (sk_td o_X8_load 3 rfl) rfl rfl (Nat.le_of_ble_eq_true rfl) rfl ?_
  refine sg_iload_n 9 (sk_td o_X8_load 4 rfl) rfl rfl ?_
  refine sg_bipush (v := (-9 : Int32)) 11 (sk_td o_X8_load 5 rfl) rfl (by decide) ?_
  refine sg_ic_eq 19 14 (sk_td o_X8_load 6 rfl) (by decide) rfl (fun hc => ?_) (fun hc => ?_)
  · rw [if_pos hc] at hq
    refine sg_iconst (v := (0 : Int32)) 20 (sk_td o_X8_load 11 rfl) rfl (by decide) ?_
    refine sg_istore_n 21 [some (.inr (.inr (some (0, 0)))), some (.inl x1.1), some (.inl (0 : Int32)), none] (sk_td o_X8_load 12 rfl) rfl rfl (Nat.le_of_ble_eq_true rfl) rfl ?_
    refine sg_aload_n 22 (sk_td o_X8_load 13 rfl) rfl rfl ?_
    refine sm_getR (35, 0) 25 (sk_td o_X8_load 14 rfl) rfl kf_X8_61 rfl rfl sz_0 rfl ?_
    refine sg_iconst (v := (0 : Int32)) 26 (sk_td o_X8_load 15 rfl) rfl (by decide) ?_
    refine sm_putI 29 (sk_td o_X8_load 16 rfl) rfl kp_X8_306 rfl rfl sz_35 ?_
    refine sg_iconst (v := (0 : Int32)) 30 (sk_td o_X8_load 17 rfl) rfl (by decide) ?_
    refine sg_istore_n 31 [some (.inr (.inr (some (0, 0)))), some (.inl x1.1), some (.inl (0 : Int32)), some (.inl (0 : Int32))] (sk_td o_X8_load 18 rfl) rfl rfl (Nat.le_of_ble_eq_true rfl) rfl ?_
    refine sk_wk [true, false, true, true] (ls' := [some (.inr (.inr (some (0, 0)))), none, some (.inl (0 : Int32)), some (.inl (0 : Int32))]) rfl ?_
    exact lt_X8_load_31 sk_fu ((sk_wi x1.2 35 0 2 (0 : Int32)), (0 : Int32), (0 : Int32)) _ hq
  · rw [if_neg hc] at hq
    refine sg_bipush (v := (-10 : Int32)) 16 (sk_td o_X8_load 7 rfl) rfl (by decide) ?_
    refine sg_iload_n 17 (sk_td o_X8_load 8 rfl) rfl rfl ?_
    refine sg_isub 18 (sk_td o_X8_load 9 rfl) rfl ?_
    obtain rfl := Option.some.inj hq
    exact sg_iret (sk_td o_X8_load 10 rfl) rfl rfl
def q_X8_load (d : sk_D) : Option (Int32 × sk_D) := q_X8_load_0 d 
theorem s_X8_load {l : Launch} {d : sk_D} {res : Int32 × sk_D} (hq : q_X8_load d = some res) : sk_M l 7 m_X8_load [.inr (.inr (some (0, 0)))] (sk_mm d) (some (.inl res.1)) (sk_mm res.2) :=
  sk_enter (by decide) (fun _ => Nat.le_of_ble_eq_true rfl) (Nat.le_of_ble_eq_true rfl) (t_X8_load_0 hq )
def q_X8_mix_0 (d : sk_D) (w0 : Int64) (v2 : Int32) : Option (Int64) :=
  some (((31 : Int64) * w0) + v2.toInt64)
set_option maxRecDepth 100000 in
set_option maxHeartbeats 4000000 in
theorem t_X8_mix_0 {l : Launch} {d : sk_D} {w0 : Int64} {v2 : Int32} {res : Int64} (hq : q_X8_mix_0 d w0 v2 = some res) :
    sk_G l (sk_rm 1 0 0) m_X8_mix sk_Ex0 (sk_Zm m_X8_mix (some (.inr (.inl res))) (sk_mm d)) 0 0 0 [some (.inr (.inl w0)), none, some (.inl v2)] [] (sk_mm d) := by
  unfold q_X8_mix_0 at hq
  refine sg_ldc2 3 (sk_td o_X8_mix 0 rfl) rfl kc_X8_347 ?_
  refine sg_lload_n 4 (sk_td o_X8_mix 1 rfl) rfl rfl ?_
  refine sg_lmul 5 (sk_td o_X8_mix 2 rfl) rfl ?_
  refine sg_iload_n 6 (sk_td o_X8_mix 3 rfl) rfl rfl ?_
  refine sg_i2l 7 (sk_td o_X8_mix 4 rfl) rfl ?_
  refine sg_ladd 8 (sk_td o_X8_mix 5 rfl) rfl ?_
  obtain rfl := Option.some.inj hq
  exact sg_lret (sk_td o_X8_mix 6 rfl) rfl
def q_X8_mix (d : sk_D) (w0 : Int64) (v2 : Int32) : Option (Int64) := q_X8_mix_0 d w0 v2 
theorem s_X8_mix {l : Launch} {d : sk_D} {w0 : Int64} {v2 : Int32} {res : Int64} (hq : q_X8_mix d w0 v2 = some res) : sk_M l 1 m_X8_mix [.inr (.inl w0), .inl v2] (sk_mm d) (some (.inr (.inl res))) (sk_mm d) :=
  sk_enter (by decide) (fun _ => Nat.le_of_ble_eq_true rfl) (Nat.le_of_ble_eq_true rfl) (t_X8_mix_0 hq )
def q_X8_mixPupils_104 (rec5 : (Int64 × Int32) → Option (Int64)) (d : sk_D) (w3 : Int64) (v5 : Int32) : Option (Int64) :=
  (rec5 (w3, (v5 + (1 : Int32))))
set_option maxRecDepth 100000 in
set_option maxHeartbeats 4000000 in
theorem t_X8_mixPupils_104 {l : Launch} {rec5 : (Int64 × Int32) → Option (Int64)} {d : sk_D} {w3 : Int64} {v5 : Int32} (hrec5 : ∀ (a : (Int64 × Int32)) (res : Int64), rec5 a = some res → sk_G l (sk_rm 4 0 0) m_X8_mixPupils sk_Ex0 (sk_Zm m_X8_mixPupils (some (.inr (.inl res))) (sk_mm d)) 0 0 5 [some (.inr (.inr (some (0, 0)))), none, none, some (.inr (.inl a.1)), none, some (.inl a.2), none] [] (sk_mm d)) {res : Int64} (hq : q_X8_mixPupils_104 rec5 d w3 v5 = some res) :
    sk_G l (sk_rm 4 0 0) m_X8_mixPupils sk_Ex0 (sk_Zm m_X8_mixPupils (some (.inr (.inl res))) (sk_mm d)) 0 0 104 [some (.inr (.inr (some (0, 0)))), none, none, some (.inr (.inl w3)), none, some (.inl v5), none] [] (sk_mm d) := by
  unfold q_X8_mixPupils_104 at hq
  refine sg_iinc (v5 + (1 : Int32)) 107 [some (.inr (.inr (some (0, 0)))), none, none, some (.inr (.inl w3)), none, some (.inl (v5 + (1 : Int32))), none] (sk_td o_X8_mixPupils 55 rfl) rfl rfl rfl rfl (Nat.le_of_ble_eq_true rfl) rfl ?_
  refine sg_goto 5 (sk_td o_X8_mixPupils 56 rfl) (by decide) ?_
  exact hrec5 (w3, (v5 + (1 : Int32))) _ hq
def q_X8_mixPupils_79 (rec5 : (Int64 × Int32) → Option (Int64)) (rec79 : (Int64 × Int32 × Int32) → Option (Int64)) (d : sk_D) (w3 : Int64) (v5 : Int32) (v6 : Int32) : Option (Int64) :=
  if (4 : Int32) ≤ v6 then (q_X8_mixPupils_104 rec5 d w3 v5) else (q_X8_scoreOf d v5 v6).bind fun x1 => (q_X8_mix d w3 x1).bind fun x2 => (rec79 (x2, v5, (v6 + (1 : Int32))))
set_option maxRecDepth 100000 in
set_option maxHeartbeats 4000000 in
theorem t_X8_mixPupils_79 {l : Launch} {rec5 : (Int64 × Int32) → Option (Int64)} {rec79 : (Int64 × Int32 × Int32) → Option (Int64)} {d : sk_D} {w3 : Int64} {v5 : Int32} {v6 : Int32} (hrec5 : ∀ (a : (Int64 × Int32)) (res : Int64), rec5 a = some res → sk_G l (sk_rm 4 0 0) m_X8_mixPupils sk_Ex0 (sk_Zm m_X8_mixPupils (some (.inr (.inl res))) (sk_mm d)) 0 0 5 [some (.inr (.inr (some (0, 0)))), none, none, some (.inr (.inl a.1)), none, some (.inl a.2), none] [] (sk_mm d)) (hrec79 : ∀ (a : (Int64 × Int32 × Int32)) (res : Int64), rec79 a = some res → sk_G l (sk_rm 4 0 0) m_X8_mixPupils sk_Ex0 (sk_Zm m_X8_mixPupils (some (.inr (.inl res))) (sk_mm d)) 0 0 79 [some (.inr (.inr (some (0, 0)))), none, none, some (.inr (.inl a.1)), none, some (.inl a.2.1), some (.inl a.2.2)] [] (sk_mm d)) {res : Int64} (hq : q_X8_mixPupils_79 rec5 rec79 d w3 v5 v6 = some res) :
    sk_G l (sk_rm 4 0 0) m_X8_mixPupils sk_Ex0 (sk_Zm m_X8_mixPupils (some (.inr (.inl res))) (sk_mm d)) 0 0 79 [some (.inr (.inr (some (0, 0)))), none, none, some (.inr (.inl w3)), none, some (.inl v5), some (.inl v6)] [] (sk_mm d) := by
  unfold q_X8_mixPupils_79 at hq
  refine sg_iload 81 (sk_td o_X8_mixPupils 43 rfl) rfl rfl ?_
  refine sg_iconst (v := (4 : Int32)) 82 (sk_td o_X8_mixPupils 44 rfl) rfl (by decide) ?_
  refine sg_ic_ge 104 85 (sk_td o_X8_mixPupils 45 rfl) (by decide) rfl (fun hc => ?_) (fun hc => ?_)
  · rw [if_pos hc] at hq
    refine sk_wk [true, true, true, true, true, true, false] (ls' := [some (.inr (.inr (some (0, 0)))), none, none, some (.inr (.inl w3)), none, some (.inl v5), none]) rfl ?_
    exact t_X8_mixPupils_104 hrec5 hq
  · rw [if_neg hc] at hq
    refine sg_lload_n 86 (sk_td o_X8_mixPupils 46 rfl) rfl rfl ?_
    refine sg_aload_n 87 (sk_td o_X8_mixPupils 47 rfl) rfl rfl ?_
    refine sg_iload 89 (sk_td o_X8_mixPupils 48 rfl) rfl rfl ?_
    refine sg_iload 91 (sk_td o_X8_mixPupils 49 rfl) rfl rfl ?_
    obtain ⟨x1, hr_x1, hq⟩ := sk_bnd hq
    refine sm_callV2i 94 (s_X8_scoreOf hr_x1) (sk_td o_X8_mixPupils 50 rfl) rfl lv_X8_357 rfl rfl rfl sz_0 (sk_rok (Nat.le_of_ble_eq_true rfl) (Nat.le_of_ble_eq_true rfl) rfl rfl) (Nat.le_of_ble_eq_true rfl) ?_
    obtain ⟨x2, hr_x2, hq⟩ := sk_bnd hq
    refine sm_callS2l 97 (s_X8_mix hr_x2) (sk_td o_X8_mixPupils 51 rfl) rfl ls_X8_318 rfl (sk_rok (Nat.le_of_ble_eq_true rfl) (Nat.le_of_ble_eq_true rfl) rfl rfl) (Nat.le_of_ble_eq_true rfl) ?_
    refine sg_lstore_n 98 [some (.inr (.inr (some (0, 0)))), none, none, some (.inr (.inl x2)), none, some (.inl v5), some (.inl v6)] (sk_td o_X8_mixPupils 52 rfl) rfl rfl (Nat.le_of_ble_eq_true rfl) rfl ?_
    refine sg_iinc (v6 + (1 : Int32)) 101 [some (.inr (.inr (some (0, 0)))), none, none, some (.inr (.inl x2)), none, some (.inl v5), some (.inl (v6 + (1 : Int32)))] (sk_td o_X8_mixPupils 53 rfl) rfl rfl rfl rfl (Nat.le_of_ble_eq_true rfl) rfl ?_
    refine sg_goto 79 (sk_td o_X8_mixPupils 54 rfl) (by decide) ?_
    exact hrec79 (x2, v5, (v6 + (1 : Int32))) _ hq
def l_X8_mixPupils_79 (rec5 : (Int64 × Int32) → Option (Int64)) (d : sk_D) (fl : Nat) (a : (Int64 × Int32 × Int32)) : Option (Int64) := sk_it (fun rec79 a => q_X8_mixPupils_79 rec5 rec79 d a.1 a.2.1 a.2.2) fl a
theorem lt_X8_mixPupils_79 {l : Launch} {rec5 : (Int64 × Int32) → Option (Int64)} {d : sk_D} (hrec5 : ∀ (a : (Int64 × Int32)) (res : Int64), rec5 a = some res → sk_G l (sk_rm 4 0 0) m_X8_mixPupils sk_Ex0 (sk_Zm m_X8_mixPupils (some (.inr (.inl res))) (sk_mm d)) 0 0 5 [some (.inr (.inr (some (0, 0)))), none, none, some (.inr (.inl a.1)), none, some (.inl a.2), none] [] (sk_mm d)) : ∀ (fl : Nat) (a : (Int64 × Int32 × Int32)) (res : Int64), l_X8_mixPupils_79 rec5 d fl a = some res → sk_G l (sk_rm 4 0 0) m_X8_mixPupils sk_Ex0 (sk_Zm m_X8_mixPupils (some (.inr (.inl res))) (sk_mm d)) 0 0 79 [some (.inr (.inr (some (0, 0)))), none, none, some (.inr (.inl a.1)), none, some (.inl a.2.1), some (.inl a.2.2)] [] (sk_mm d) :=
  sk_it_ind (P := fun (a : (Int64 × Int32 × Int32)) (res : Int64) => sk_G l (sk_rm 4 0 0) m_X8_mixPupils sk_Ex0 (sk_Zm m_X8_mixPupils (some (.inr (.inl res))) (sk_mm d)) 0 0 79 [some (.inr (.inr (some (0, 0)))), none, none, some (.inr (.inl a.1)), none, some (.inl a.2.1), some (.inl a.2.2)] [] (sk_mm d)) (fun rec79 hrec79 a res hq  => t_X8_mixPupils_79 hrec5 hrec79 hq )
def q_X8_mixPupils_5 (rec5 : (Int64 × Int32) → Option (Int64)) (d : sk_D) (w3 : Int64) (v5 : Int32) : Option (Int64) :=
  if (20 : Int32) ≤ v5 then some w3 else if sk_bi v5 20 = true then if (d.1 37 v5.toNatClampNeg 0) = 0 then (q_X8_mixPupils_104 rec5 d w3 v5) else (q_X8_mix d w3 v5).bind fun x2 => (q_X8_level d v5).bind fun x3 => (q_X8_mix d x2 x3).bind fun x4 => (q_X8_languages d v5).bind fun x5 => (q_X8_mix d x4 x5).bind fun x6 => (q_X8_family d v5).bind fun x7 => (q_X8_mix d x6 x7).bind fun x8 => (q_X8_group d v5).bind fun x9 => (q_X8_mix d x8 x9).bind fun x10 => (l_X8_mixPupils_79 rec5 d sk_fu (x10, v5, (0 : Int32))) else none
set_option maxRecDepth 100000 in
set_option maxHeartbeats 4000000 in
theorem t_X8_mixPupils_5 {l : Launch} {rec5 : (Int64 × Int32) → Option (Int64)} {d : sk_D} {w3 : Int64} {v5 : Int32} (hrec5 : ∀ (a : (Int64 × Int32)) (res : Int64), rec5 a = some res → sk_G l (sk_rm 4 0 0) m_X8_mixPupils sk_Ex0 (sk_Zm m_X8_mixPupils (some (.inr (.inl res))) (sk_mm d)) 0 0 5 [some (.inr (.inr (some (0, 0)))), none, none, some (.inr (.inl a.1)), none, some (.inl a.2), none] [] (sk_mm d)) {res : Int64} (hq : q_X8_mixPupils_5 rec5 d w3 v5 = some res) :
    sk_G l (sk_rm 4 0 0) m_X8_mixPupils sk_Ex0 (sk_Zm m_X8_mixPupils (some (.inr (.inl res))) (sk_mm d)) 0 0 5 [some (.inr (.inr (some (0, 0)))), none, none, some (.inr (.inl w3)), none, some (.inl v5), none] [] (sk_mm d) := by
  unfold q_X8_mixPupils_5 at hq
  refine sg_iload 7 (sk_td o_X8_mixPupils 4 rfl) rfl rfl ?_
  refine sg_bipush (v := (20 : Int32)) 9 (sk_td o_X8_mixPupils 5 rfl) rfl (by decide) ?_
  refine sg_ic_ge 110 12 (sk_td o_X8_mixPupils 6 rfl) (by decide) rfl (fun hc => ?_) (fun hc => ?_)
  · rw [if_pos hc] at hq
    refine sg_lload_n 111 (sk_td o_X8_mixPupils 57 rfl) rfl rfl ?_
    obtain rfl := Option.some.inj hq
    exact sg_lret (sk_td o_X8_mixPupils 58 rfl) rfl
  · rw [if_neg hc] at hq
    refine sg_aload_n 13 (sk_td o_X8_mixPupils 7 rfl) rfl rfl ?_
    refine sm_getR (1, 0) 16 (sk_td o_X8_mixPupils 8 rfl) rfl kf_X8_11 rfl rfl sz_0 rfl ?_
    refine sg_iload 18 (sk_td o_X8_mixPupils 9 rfl) rfl rfl ?_
    obtain ⟨hb1, hq⟩ := sk_ifn hq
    refine sm_aald (37, v5.toNatClampNeg) 19 (sk_td o_X8_mixPupils 10 rfl) rfl rfl (by decide) sz_1 hb1 (sr_1 (sk_bi.lt hb1)) ?_
    refine sm_getI 22 (sk_td o_X8_mixPupils 11 rfl) rfl kf_X8_108 rfl rfl (sk_bi.lt hb1) ?_
    refine sg_if_eq 104 25 (sk_td o_X8_mixPupils 12 rfl) (by decide) rfl (fun hc => ?_) (fun hc => ?_)
    · rw [if_pos hc] at hq
      exact t_X8_mixPupils_104 hrec5 hq
    · rw [if_neg hc] at hq
      refine sg_lload_n 26 (sk_td o_X8_mixPupils 13 rfl) rfl rfl ?_
      refine sg_iload 28 (sk_td o_X8_mixPupils 14 rfl) rfl rfl ?_
      obtain ⟨x2, hr_x2, hq⟩ := sk_bnd hq
      refine sm_callS2l 31 (s_X8_mix hr_x2) (sk_td o_X8_mixPupils 15 rfl) rfl ls_X8_318 rfl (sk_rok (Nat.le_of_ble_eq_true rfl) (Nat.le_of_ble_eq_true rfl) rfl rfl) (Nat.le_of_ble_eq_true rfl) ?_
      refine sg_lstore_n 32 [some (.inr (.inr (some (0, 0)))), none, none, some (.inr (.inl x2)), none, some (.inl v5), none] (sk_td o_X8_mixPupils 16 rfl) rfl rfl (Nat.le_of_ble_eq_true rfl) rfl ?_
      refine sg_lload_n 33 (sk_td o_X8_mixPupils 17 rfl) rfl rfl ?_
      refine sg_aload_n 34 (sk_td o_X8_mixPupils 18 rfl) rfl rfl ?_
      refine sg_iload 36 (sk_td o_X8_mixPupils 19 rfl) rfl rfl ?_
      obtain ⟨x3, hr_x3, hq⟩ := sk_bnd hq
      refine sm_callV1i 39 (s_X8_level hr_x3) (sk_td o_X8_mixPupils 20 rfl) rfl lv_X8_349 rfl rfl rfl sz_0 (sk_rok (Nat.le_of_ble_eq_true rfl) (Nat.le_of_ble_eq_true rfl) rfl rfl) (Nat.le_of_ble_eq_true rfl) ?_
      obtain ⟨x4, hr_x4, hq⟩ := sk_bnd hq
      refine sm_callS2l 42 (s_X8_mix hr_x4) (sk_td o_X8_mixPupils 21 rfl) rfl ls_X8_318 rfl (sk_rok (Nat.le_of_ble_eq_true rfl) (Nat.le_of_ble_eq_true rfl) rfl rfl) (Nat.le_of_ble_eq_true rfl) ?_
      refine sg_lstore_n 43 [some (.inr (.inr (some (0, 0)))), none, none, some (.inr (.inl x4)), none, some (.inl v5), none] (sk_td o_X8_mixPupils 22 rfl) rfl rfl (Nat.le_of_ble_eq_true rfl) rfl ?_
      refine sg_lload_n 44 (sk_td o_X8_mixPupils 23 rfl) rfl rfl ?_
      refine sg_aload_n 45 (sk_td o_X8_mixPupils 24 rfl) rfl rfl ?_
      refine sg_iload 47 (sk_td o_X8_mixPupils 25 rfl) rfl rfl ?_
      obtain ⟨x5, hr_x5, hq⟩ := sk_bnd hq
      refine sm_callV1i 50 (s_X8_languages hr_x5) (sk_td o_X8_mixPupils 26 rfl) rfl lv_X8_351 rfl rfl rfl sz_0 (sk_rok (Nat.le_of_ble_eq_true rfl) (Nat.le_of_ble_eq_true rfl) rfl rfl) (Nat.le_of_ble_eq_true rfl) ?_
      obtain ⟨x6, hr_x6, hq⟩ := sk_bnd hq
      refine sm_callS2l 53 (s_X8_mix hr_x6) (sk_td o_X8_mixPupils 27 rfl) rfl ls_X8_318 rfl (sk_rok (Nat.le_of_ble_eq_true rfl) (Nat.le_of_ble_eq_true rfl) rfl rfl) (Nat.le_of_ble_eq_true rfl) ?_
      refine sg_lstore_n 54 [some (.inr (.inr (some (0, 0)))), none, none, some (.inr (.inl x6)), none, some (.inl v5), none] (sk_td o_X8_mixPupils 28 rfl) rfl rfl (Nat.le_of_ble_eq_true rfl) rfl ?_
      refine sg_lload_n 55 (sk_td o_X8_mixPupils 29 rfl) rfl rfl ?_
      refine sg_aload_n 56 (sk_td o_X8_mixPupils 30 rfl) rfl rfl ?_
      refine sg_iload 58 (sk_td o_X8_mixPupils 31 rfl) rfl rfl ?_
      obtain ⟨x7, hr_x7, hq⟩ := sk_bnd hq
      refine sm_callV1i 61 (s_X8_family hr_x7) (sk_td o_X8_mixPupils 32 rfl) rfl lv_X8_353 rfl rfl rfl sz_0 (sk_rok (Nat.le_of_ble_eq_true rfl) (Nat.le_of_ble_eq_true rfl) rfl rfl) (Nat.le_of_ble_eq_true rfl) ?_
      obtain ⟨x8, hr_x8, hq⟩ := sk_bnd hq
      refine sm_callS2l 64 (s_X8_mix hr_x8) (sk_td o_X8_mixPupils 33 rfl) rfl ls_X8_318 rfl (sk_rok (Nat.le_of_ble_eq_true rfl) (Nat.le_of_ble_eq_true rfl) rfl rfl) (Nat.le_of_ble_eq_true rfl) ?_
      refine sg_lstore_n 65 [some (.inr (.inr (some (0, 0)))), none, none, some (.inr (.inl x8)), none, some (.inl v5), none] (sk_td o_X8_mixPupils 34 rfl) rfl rfl (Nat.le_of_ble_eq_true rfl) rfl ?_
      refine sg_lload_n 66 (sk_td o_X8_mixPupils 35 rfl) rfl rfl ?_
      refine sg_aload_n 67 (sk_td o_X8_mixPupils 36 rfl) rfl rfl ?_
      refine sg_iload 69 (sk_td o_X8_mixPupils 37 rfl) rfl rfl ?_
      obtain ⟨x9, hr_x9, hq⟩ := sk_bnd hq
      refine sm_callV1i 72 (s_X8_group hr_x9) (sk_td o_X8_mixPupils 38 rfl) rfl lv_X8_355 rfl rfl rfl sz_0 (sk_rok (Nat.le_of_ble_eq_true rfl) (Nat.le_of_ble_eq_true rfl) rfl rfl) (Nat.le_of_ble_eq_true rfl) ?_
      obtain ⟨x10, hr_x10, hq⟩ := sk_bnd hq
      refine sm_callS2l 75 (s_X8_mix hr_x10) (sk_td o_X8_mixPupils 39 rfl) rfl ls_X8_318 rfl (sk_rok (Nat.le_of_ble_eq_true rfl) (Nat.le_of_ble_eq_true rfl) rfl rfl) (Nat.le_of_ble_eq_true rfl) ?_
      refine sg_lstore_n 76 [some (.inr (.inr (some (0, 0)))), none, none, some (.inr (.inl x10)), none, some (.inl v5), none] (sk_td o_X8_mixPupils 40 rfl) rfl rfl (Nat.le_of_ble_eq_true rfl) rfl ?_
      refine sg_iconst (v := (0 : Int32)) 77 (sk_td o_X8_mixPupils 41 rfl) rfl (by decide) ?_
      refine sg_istore 79 [some (.inr (.inr (some (0, 0)))), none, none, some (.inr (.inl x10)), none, some (.inl v5), some (.inl (0 : Int32))] (sk_td o_X8_mixPupils 42 rfl) rfl rfl (Nat.le_of_ble_eq_true rfl) rfl ?_
      exact lt_X8_mixPupils_79 hrec5 sk_fu (x10, v5, (0 : Int32)) _ hq
def l_X8_mixPupils_5 (d : sk_D) (fl : Nat) (a : (Int64 × Int32)) : Option (Int64) := sk_it (fun rec5 a => q_X8_mixPupils_5 rec5 d a.1 a.2) fl a
theorem lt_X8_mixPupils_5 {l : Launch} {d : sk_D} : ∀ (fl : Nat) (a : (Int64 × Int32)) (res : Int64), l_X8_mixPupils_5 d fl a = some res → sk_G l (sk_rm 4 0 0) m_X8_mixPupils sk_Ex0 (sk_Zm m_X8_mixPupils (some (.inr (.inl res))) (sk_mm d)) 0 0 5 [some (.inr (.inr (some (0, 0)))), none, none, some (.inr (.inl a.1)), none, some (.inl a.2), none] [] (sk_mm d) :=
  sk_it_ind (P := fun (a : (Int64 × Int32)) (res : Int64) => sk_G l (sk_rm 4 0 0) m_X8_mixPupils sk_Ex0 (sk_Zm m_X8_mixPupils (some (.inr (.inl res))) (sk_mm d)) 0 0 5 [some (.inr (.inr (some (0, 0)))), none, none, some (.inr (.inl a.1)), none, some (.inl a.2), none] [] (sk_mm d)) (fun rec5 hrec5 a res hq  => t_X8_mixPupils_5 hrec5 hq )
def q_X8_mixPupils_0 (d : sk_D) (w1 : Int64) : Option (Int64) :=
  (l_X8_mixPupils_5 d sk_fu (w1, (0 : Int32)))
set_option maxRecDepth 100000 in
set_option maxHeartbeats 4000000 in
theorem t_X8_mixPupils_0 {l : Launch} {d : sk_D} {w1 : Int64} {res : Int64} (hq : q_X8_mixPupils_0 d w1 = some res) :
    sk_G l (sk_rm 4 0 0) m_X8_mixPupils sk_Ex0 (sk_Zm m_X8_mixPupils (some (.inr (.inl res))) (sk_mm d)) 0 0 0 [some (.inr (.inr (some (0, 0)))), some (.inr (.inl w1)), none, none, none, none, none] [] (sk_mm d) := by
  unfold q_X8_mixPupils_0 at hq
  refine sg_lload_n 1 (sk_td o_X8_mixPupils 0 rfl) rfl rfl ?_
  refine sg_lstore_n 2 [some (.inr (.inr (some (0, 0)))), some (.inr (.inl w1)), none, some (.inr (.inl w1)), none, none, none] (sk_td o_X8_mixPupils 1 rfl) rfl rfl (Nat.le_of_ble_eq_true rfl) rfl ?_
  refine sg_iconst (v := (0 : Int32)) 3 (sk_td o_X8_mixPupils 2 rfl) rfl (by decide) ?_
  refine sg_istore 5 [some (.inr (.inr (some (0, 0)))), some (.inr (.inl w1)), none, some (.inr (.inl w1)), none, some (.inl (0 : Int32)), none] (sk_td o_X8_mixPupils 3 rfl) rfl rfl (Nat.le_of_ble_eq_true rfl) rfl ?_
  refine sk_wk [true, false, true, true, true, true, true] (ls' := [some (.inr (.inr (some (0, 0)))), none, none, some (.inr (.inl w1)), none, some (.inl (0 : Int32)), none]) rfl ?_
  exact lt_X8_mixPupils_5 sk_fu (w1, (0 : Int32)) _ hq
def q_X8_mixPupils (d : sk_D) (w1 : Int64) : Option (Int64) := q_X8_mixPupils_0 d w1 
theorem s_X8_mixPupils {l : Launch} {d : sk_D} {w1 : Int64} {res : Int64} (hq : q_X8_mixPupils d w1 = some res) : sk_M l 4 m_X8_mixPupils [.inr (.inr (some (0, 0))), .inr (.inl w1)] (sk_mm d) (some (.inr (.inl res))) (sk_mm d) :=
  sk_enter (by decide) (fun _ => Nat.le_of_ble_eq_true rfl) (Nat.le_of_ble_eq_true rfl) (t_X8_mixPupils_0 hq )
def q_X8_mixGroups_86 (rec5 : (Int64 × Int32) → Option (Int64)) (d : sk_D) (w3 : Int64) (v5 : Int32) : Option (Int64) :=
  (rec5 (w3, (v5 + (1 : Int32))))
set_option maxRecDepth 100000 in
set_option maxHeartbeats 4000000 in
theorem t_X8_mixGroups_86 {l : Launch} {rec5 : (Int64 × Int32) → Option (Int64)} {d : sk_D} {w3 : Int64} {v5 : Int32} (hrec5 : ∀ (a : (Int64 × Int32)) (res : Int64), rec5 a = some res → sk_G l (sk_rm 4 0 0) m_X8_mixGroups sk_Ex0 (sk_Zm m_X8_mixGroups (some (.inr (.inl res))) (sk_mm d)) 0 0 5 [some (.inr (.inr (some (0, 0)))), none, none, some (.inr (.inl a.1)), none, some (.inl a.2)] [] (sk_mm d)) {res : Int64} (hq : q_X8_mixGroups_86 rec5 d w3 v5 = some res) :
    sk_G l (sk_rm 4 0 0) m_X8_mixGroups sk_Ex0 (sk_Zm m_X8_mixGroups (some (.inr (.inl res))) (sk_mm d)) 0 0 86 [some (.inr (.inr (some (0, 0)))), none, none, some (.inr (.inl w3)), none, some (.inl v5)] [] (sk_mm d) := by
  unfold q_X8_mixGroups_86 at hq
  refine sg_iinc (v5 + (1 : Int32)) 89 [some (.inr (.inr (some (0, 0)))), none, none, some (.inr (.inl w3)), none, some (.inl (v5 + (1 : Int32)))] (sk_td o_X8_mixGroups 47 rfl) rfl rfl rfl rfl (Nat.le_of_ble_eq_true rfl) rfl ?_
  refine sg_goto 5 (sk_td o_X8_mixGroups 48 rfl) (by decide) ?_
  exact hrec5 (w3, (v5 + (1 : Int32))) _ hq
def q_X8_mixGroups_5 (rec5 : (Int64 × Int32) → Option (Int64)) (d : sk_D) (w3 : Int64) (v5 : Int32) : Option (Int64) :=
  if (4 : Int32) ≤ v5 then some w3 else if sk_bi v5 4 = true then if (d.1 39 v5.toNatClampNeg 0) = 0 then (q_X8_mixGroups_86 rec5 d w3 v5) else (q_X8_mix d w3 v5).bind fun x2 => (q_X8_groupLevel d v5).bind fun x3 => (q_X8_mix d x2 x3).bind fun x4 => (q_X8_size d v5).bind fun x5 => (q_X8_mix d x4 x5).bind fun x6 => (q_X8_instructor d v5).bind fun x7 => (q_X8_mix d x6 x7).bind fun x8 => (q_X8_waited d v5).bind fun x9 => (q_X8_mix d x8 x9).bind fun x10 => (q_X8_rides d v5).bind fun x11 => (q_X8_mix d x10 x11).bind fun x12 => (q_X8_mixGroups_86 rec5 d x12 v5) else none
set_option maxRecDepth 100000 in
set_option maxHeartbeats 4000000 in
theorem t_X8_mixGroups_5 {l : Launch} {rec5 : (Int64 × Int32) → Option (Int64)} {d : sk_D} {w3 : Int64} {v5 : Int32} (hrec5 : ∀ (a : (Int64 × Int32)) (res : Int64), rec5 a = some res → sk_G l (sk_rm 4 0 0) m_X8_mixGroups sk_Ex0 (sk_Zm m_X8_mixGroups (some (.inr (.inl res))) (sk_mm d)) 0 0 5 [some (.inr (.inr (some (0, 0)))), none, none, some (.inr (.inl a.1)), none, some (.inl a.2)] [] (sk_mm d)) {res : Int64} (hq : q_X8_mixGroups_5 rec5 d w3 v5 = some res) :
    sk_G l (sk_rm 4 0 0) m_X8_mixGroups sk_Ex0 (sk_Zm m_X8_mixGroups (some (.inr (.inl res))) (sk_mm d)) 0 0 5 [some (.inr (.inr (some (0, 0)))), none, none, some (.inr (.inl w3)), none, some (.inl v5)] [] (sk_mm d) := by
  unfold q_X8_mixGroups_5 at hq
  refine sg_iload 7 (sk_td o_X8_mixGroups 4 rfl) rfl rfl ?_
  refine sg_iconst (v := (4 : Int32)) 8 (sk_td o_X8_mixGroups 5 rfl) rfl (by decide) ?_
  refine sg_ic_ge 92 11 (sk_td o_X8_mixGroups 6 rfl) (by decide) rfl (fun hc => ?_) (fun hc => ?_)
  · rw [if_pos hc] at hq
    refine sg_lload_n 93 (sk_td o_X8_mixGroups 49 rfl) rfl rfl ?_
    obtain rfl := Option.some.inj hq
    exact sg_lret (sk_td o_X8_mixGroups 50 rfl) rfl
  · rw [if_neg hc] at hq
    refine sg_aload_n 12 (sk_td o_X8_mixGroups 7 rfl) rfl rfl ?_
    refine sm_getR (2, 0) 15 (sk_td o_X8_mixGroups 8 rfl) rfl kf_X8_17 rfl rfl sz_0 rfl ?_
    refine sg_iload 17 (sk_td o_X8_mixGroups 9 rfl) rfl rfl ?_
    obtain ⟨hb1, hq⟩ := sk_ifn hq
    refine sm_aald (39, v5.toNatClampNeg) 18 (sk_td o_X8_mixGroups 10 rfl) rfl rfl (by decide) sz_2 hb1 (sr_2 (sk_bi.lt hb1)) ?_
    refine sm_getI 21 (sk_td o_X8_mixGroups 11 rfl) rfl kf_X8_181 rfl rfl (sk_bi.lt hb1) ?_
    refine sg_if_eq 86 24 (sk_td o_X8_mixGroups 12 rfl) (by decide) rfl (fun hc => ?_) (fun hc => ?_)
    · rw [if_pos hc] at hq
      exact t_X8_mixGroups_86 hrec5 hq
    · rw [if_neg hc] at hq
      refine sg_lload_n 25 (sk_td o_X8_mixGroups 13 rfl) rfl rfl ?_
      refine sg_iload 27 (sk_td o_X8_mixGroups 14 rfl) rfl rfl ?_
      obtain ⟨x2, hr_x2, hq⟩ := sk_bnd hq
      refine sm_callS2l 30 (s_X8_mix hr_x2) (sk_td o_X8_mixGroups 15 rfl) rfl ls_X8_318 rfl (sk_rok (Nat.le_of_ble_eq_true rfl) (Nat.le_of_ble_eq_true rfl) rfl rfl) (Nat.le_of_ble_eq_true rfl) ?_
      refine sg_lstore_n 31 [some (.inr (.inr (some (0, 0)))), none, none, some (.inr (.inl x2)), none, some (.inl v5)] (sk_td o_X8_mixGroups 16 rfl) rfl rfl (Nat.le_of_ble_eq_true rfl) rfl ?_
      refine sg_lload_n 32 (sk_td o_X8_mixGroups 17 rfl) rfl rfl ?_
      refine sg_aload_n 33 (sk_td o_X8_mixGroups 18 rfl) rfl rfl ?_
      refine sg_iload 35 (sk_td o_X8_mixGroups 19 rfl) rfl rfl ?_
      obtain ⟨x3, hr_x3, hq⟩ := sk_bnd hq
      refine sm_callV1i 38 (s_X8_groupLevel hr_x3) (sk_td o_X8_mixGroups 20 rfl) rfl lv_X8_360 rfl rfl rfl sz_0 (sk_rok (Nat.le_of_ble_eq_true rfl) (Nat.le_of_ble_eq_true rfl) rfl rfl) (Nat.le_of_ble_eq_true rfl) ?_
      obtain ⟨x4, hr_x4, hq⟩ := sk_bnd hq
      refine sm_callS2l 41 (s_X8_mix hr_x4) (sk_td o_X8_mixGroups 21 rfl) rfl ls_X8_318 rfl (sk_rok (Nat.le_of_ble_eq_true rfl) (Nat.le_of_ble_eq_true rfl) rfl rfl) (Nat.le_of_ble_eq_true rfl) ?_
      refine sg_lstore_n 42 [some (.inr (.inr (some (0, 0)))), none, none, some (.inr (.inl x4)), none, some (.inl v5)] (sk_td o_X8_mixGroups 22 rfl) rfl rfl (Nat.le_of_ble_eq_true rfl) rfl ?_
      refine sg_lload_n 43 (sk_td o_X8_mixGroups 23 rfl) rfl rfl ?_
      refine sg_aload_n 44 (sk_td o_X8_mixGroups 24 rfl) rfl rfl ?_
      refine sg_iload 46 (sk_td o_X8_mixGroups 25 rfl) rfl rfl ?_
      obtain ⟨x5, hr_x5, hq⟩ := sk_bnd hq
      refine sm_callV1i 49 (s_X8_size hr_x5) (sk_td o_X8_mixGroups 26 rfl) rfl lv_X8_363 rfl rfl rfl sz_0 (sk_rok (Nat.le_of_ble_eq_true rfl) (Nat.le_of_ble_eq_true rfl) rfl rfl) (Nat.le_of_ble_eq_true rfl) ?_
      obtain ⟨x6, hr_x6, hq⟩ := sk_bnd hq
      refine sm_callS2l 52 (s_X8_mix hr_x6) (sk_td o_X8_mixGroups 27 rfl) rfl ls_X8_318 rfl (sk_rok (Nat.le_of_ble_eq_true rfl) (Nat.le_of_ble_eq_true rfl) rfl rfl) (Nat.le_of_ble_eq_true rfl) ?_
      refine sg_lstore_n 53 [some (.inr (.inr (some (0, 0)))), none, none, some (.inr (.inl x6)), none, some (.inl v5)] (sk_td o_X8_mixGroups 28 rfl) rfl rfl (Nat.le_of_ble_eq_true rfl) rfl ?_
      refine sg_lload_n 54 (sk_td o_X8_mixGroups 29 rfl) rfl rfl ?_
      refine sg_aload_n 55 (sk_td o_X8_mixGroups 30 rfl) rfl rfl ?_
      refine sg_iload 57 (sk_td o_X8_mixGroups 31 rfl) rfl rfl ?_
      obtain ⟨x7, hr_x7, hq⟩ := sk_bnd hq
      refine sm_callV1i 60 (s_X8_instructor hr_x7) (sk_td o_X8_mixGroups 32 rfl) rfl lv_X8_366 rfl rfl rfl sz_0 (sk_rok (Nat.le_of_ble_eq_true rfl) (Nat.le_of_ble_eq_true rfl) rfl rfl) (Nat.le_of_ble_eq_true rfl) ?_
      obtain ⟨x8, hr_x8, hq⟩ := sk_bnd hq
      refine sm_callS2l 63 (s_X8_mix hr_x8) (sk_td o_X8_mixGroups 33 rfl) rfl ls_X8_318 rfl (sk_rok (Nat.le_of_ble_eq_true rfl) (Nat.le_of_ble_eq_true rfl) rfl rfl) (Nat.le_of_ble_eq_true rfl) ?_
      refine sg_lstore_n 64 [some (.inr (.inr (some (0, 0)))), none, none, some (.inr (.inl x8)), none, some (.inl v5)] (sk_td o_X8_mixGroups 34 rfl) rfl rfl (Nat.le_of_ble_eq_true rfl) rfl ?_
      refine sg_lload_n 65 (sk_td o_X8_mixGroups 35 rfl) rfl rfl ?_
      refine sg_aload_n 66 (sk_td o_X8_mixGroups 36 rfl) rfl rfl ?_
      refine sg_iload 68 (sk_td o_X8_mixGroups 37 rfl) rfl rfl ?_
      obtain ⟨x9, hr_x9, hq⟩ := sk_bnd hq
      refine sm_callV1i 71 (s_X8_waited hr_x9) (sk_td o_X8_mixGroups 38 rfl) rfl lv_X8_368 rfl rfl rfl sz_0 (sk_rok (Nat.le_of_ble_eq_true rfl) (Nat.le_of_ble_eq_true rfl) rfl rfl) (Nat.le_of_ble_eq_true rfl) ?_
      obtain ⟨x10, hr_x10, hq⟩ := sk_bnd hq
      refine sm_callS2l 74 (s_X8_mix hr_x10) (sk_td o_X8_mixGroups 39 rfl) rfl ls_X8_318 rfl (sk_rok (Nat.le_of_ble_eq_true rfl) (Nat.le_of_ble_eq_true rfl) rfl rfl) (Nat.le_of_ble_eq_true rfl) ?_
      refine sg_lstore_n 75 [some (.inr (.inr (some (0, 0)))), none, none, some (.inr (.inl x10)), none, some (.inl v5)] (sk_td o_X8_mixGroups 40 rfl) rfl rfl (Nat.le_of_ble_eq_true rfl) rfl ?_
      refine sg_lload_n 76 (sk_td o_X8_mixGroups 41 rfl) rfl rfl ?_
      refine sg_aload_n 77 (sk_td o_X8_mixGroups 42 rfl) rfl rfl ?_
      refine sg_iload 79 (sk_td o_X8_mixGroups 43 rfl) rfl rfl ?_
      obtain ⟨x11, hr_x11, hq⟩ := sk_bnd hq
      refine sm_callV1i 82 (s_X8_rides hr_x11) (sk_td o_X8_mixGroups 44 rfl) rfl lv_X8_370 rfl rfl rfl sz_0 (sk_rok (Nat.le_of_ble_eq_true rfl) (Nat.le_of_ble_eq_true rfl) rfl rfl) (Nat.le_of_ble_eq_true rfl) ?_
      obtain ⟨x12, hr_x12, hq⟩ := sk_bnd hq
      refine sm_callS2l 85 (s_X8_mix hr_x12) (sk_td o_X8_mixGroups 45 rfl) rfl ls_X8_318 rfl (sk_rok (Nat.le_of_ble_eq_true rfl) (Nat.le_of_ble_eq_true rfl) rfl rfl) (Nat.le_of_ble_eq_true rfl) ?_
      refine sg_lstore_n 86 [some (.inr (.inr (some (0, 0)))), none, none, some (.inr (.inl x12)), none, some (.inl v5)] (sk_td o_X8_mixGroups 46 rfl) rfl rfl (Nat.le_of_ble_eq_true rfl) rfl ?_
      exact t_X8_mixGroups_86 hrec5 hq
def l_X8_mixGroups_5 (d : sk_D) (fl : Nat) (a : (Int64 × Int32)) : Option (Int64) := sk_it (fun rec5 a => q_X8_mixGroups_5 rec5 d a.1 a.2) fl a
theorem lt_X8_mixGroups_5 {l : Launch} {d : sk_D} : ∀ (fl : Nat) (a : (Int64 × Int32)) (res : Int64), l_X8_mixGroups_5 d fl a = some res → sk_G l (sk_rm 4 0 0) m_X8_mixGroups sk_Ex0 (sk_Zm m_X8_mixGroups (some (.inr (.inl res))) (sk_mm d)) 0 0 5 [some (.inr (.inr (some (0, 0)))), none, none, some (.inr (.inl a.1)), none, some (.inl a.2)] [] (sk_mm d) :=
  sk_it_ind (P := fun (a : (Int64 × Int32)) (res : Int64) => sk_G l (sk_rm 4 0 0) m_X8_mixGroups sk_Ex0 (sk_Zm m_X8_mixGroups (some (.inr (.inl res))) (sk_mm d)) 0 0 5 [some (.inr (.inr (some (0, 0)))), none, none, some (.inr (.inl a.1)), none, some (.inl a.2)] [] (sk_mm d)) (fun rec5 hrec5 a res hq  => t_X8_mixGroups_5 hrec5 hq )
def q_X8_mixGroups_0 (d : sk_D) (w1 : Int64) : Option (Int64) :=
  (l_X8_mixGroups_5 d sk_fu (w1, (0 : Int32)))
set_option maxRecDepth 100000 in
set_option maxHeartbeats 4000000 in
theorem t_X8_mixGroups_0 {l : Launch} {d : sk_D} {w1 : Int64} {res : Int64} (hq : q_X8_mixGroups_0 d w1 = some res) :
    sk_G l (sk_rm 4 0 0) m_X8_mixGroups sk_Ex0 (sk_Zm m_X8_mixGroups (some (.inr (.inl res))) (sk_mm d)) 0 0 0 [some (.inr (.inr (some (0, 0)))), some (.inr (.inl w1)), none, none, none, none] [] (sk_mm d) := by
  unfold q_X8_mixGroups_0 at hq
  refine sg_lload_n 1 (sk_td o_X8_mixGroups 0 rfl) rfl rfl ?_
  refine sg_lstore_n 2 [some (.inr (.inr (some (0, 0)))), some (.inr (.inl w1)), none, some (.inr (.inl w1)), none, none] (sk_td o_X8_mixGroups 1 rfl) rfl rfl (Nat.le_of_ble_eq_true rfl) rfl ?_
  refine sg_iconst (v := (0 : Int32)) 3 (sk_td o_X8_mixGroups 2 rfl) rfl (by decide) ?_
  refine sg_istore 5 [some (.inr (.inr (some (0, 0)))), some (.inr (.inl w1)), none, some (.inr (.inl w1)), none, some (.inl (0 : Int32))] (sk_td o_X8_mixGroups 3 rfl) rfl rfl (Nat.le_of_ble_eq_true rfl) rfl ?_
  refine sk_wk [true, false, true, true, true, true] (ls' := [some (.inr (.inr (some (0, 0)))), none, none, some (.inr (.inl w1)), none, some (.inl (0 : Int32))]) rfl ?_
  exact lt_X8_mixGroups_5 sk_fu (w1, (0 : Int32)) _ hq
def q_X8_mixGroups (d : sk_D) (w1 : Int64) : Option (Int64) := q_X8_mixGroups_0 d w1 
theorem s_X8_mixGroups {l : Launch} {d : sk_D} {w1 : Int64} {res : Int64} (hq : q_X8_mixGroups d w1 = some res) : sk_M l 4 m_X8_mixGroups [.inr (.inr (some (0, 0))), .inr (.inl w1)] (sk_mm d) (some (.inr (.inl res))) (sk_mm d) :=
  sk_enter (by decide) (fun _ => Nat.le_of_ble_eq_true rfl) (Nat.le_of_ble_eq_true rfl) (t_X8_mixGroups_0 hq )
def q_X8_mixInstructorsAndLifts_52 (rec52 : (Int64 × Int32) → Option (Int64)) (d : sk_D) (w3 : Int64) (v5 : Int32) : Option (Int64) :=
  if (d.1 0 0 9) ≤ v5 then some w3 else (q_X8_longestQueue d v5).bind fun x1 => (q_X8_mix d w3 x1).bind fun x2 => (q_X8_carried d v5).bind fun x3 => (q_X8_mix d x2 x3).bind fun x4 => (rec52 (x4, (v5 + (1 : Int32))))
set_option maxRecDepth 100000 in
set_option maxHeartbeats 4000000 in
theorem t_X8_mixInstructorsAndLifts_52 {l : Launch} {rec52 : (Int64 × Int32) → Option (Int64)} {d : sk_D} {w3 : Int64} {v5 : Int32} (hrec52 : ∀ (a : (Int64 × Int32)) (res : Int64), rec52 a = some res → sk_G l (sk_rm 4 0 0) m_X8_mixInstructorsAndLifts sk_Ex0 (sk_Zm m_X8_mixInstructorsAndLifts (some (.inr (.inl res))) (sk_mm d)) 0 0 52 [some (.inr (.inr (some (0, 0)))), none, none, some (.inr (.inl a.1)), none, some (.inl a.2)] [] (sk_mm d)) {res : Int64} (hq : q_X8_mixInstructorsAndLifts_52 rec52 d w3 v5 = some res) :
    sk_G l (sk_rm 4 0 0) m_X8_mixInstructorsAndLifts sk_Ex0 (sk_Zm m_X8_mixInstructorsAndLifts (some (.inr (.inl res))) (sk_mm d)) 0 0 52 [some (.inr (.inr (some (0, 0)))), none, none, some (.inr (.inl w3)), none, some (.inl v5)] [] (sk_mm d) := by
  unfold q_X8_mixInstructorsAndLifts_52 at hq
  refine sg_iload 54 (sk_td o_X8_mixInstructorsAndLifts 27 rfl) rfl rfl ?_
  refine sg_aload_n 55 (sk_td o_X8_mixInstructorsAndLifts 28 rfl) rfl rfl ?_
  refine sm_getI 58 (sk_td o_X8_mixInstructorsAndLifts 29 rfl) rfl kf_X8_65 rfl rfl sz_0 ?_
  refine sg_ic_ge 89 61 (sk_td o_X8_mixInstructorsAndLifts 30 rfl) (by decide) rfl (fun hc => ?_) (fun hc => ?_)
  · rw [if_pos hc] at hq
    refine sg_lload_n 90 (sk_td o_X8_mixInstructorsAndLifts 45 rfl) rfl rfl ?_
    obtain rfl := Option.some.inj hq
    exact sg_lret (sk_td o_X8_mixInstructorsAndLifts 46 rfl) rfl
  · rw [if_neg hc] at hq
    refine sg_lload_n 62 (sk_td o_X8_mixInstructorsAndLifts 31 rfl) rfl rfl ?_
    refine sg_aload_n 63 (sk_td o_X8_mixInstructorsAndLifts 32 rfl) rfl rfl ?_
    refine sg_iload 65 (sk_td o_X8_mixInstructorsAndLifts 33 rfl) rfl rfl ?_
    obtain ⟨x1, hr_x1, hq⟩ := sk_bnd hq
    refine sm_callV1i 68 (s_X8_longestQueue hr_x1) (sk_td o_X8_mixInstructorsAndLifts 34 rfl) rfl lv_X8_375 rfl rfl rfl sz_0 (sk_rok (Nat.le_of_ble_eq_true rfl) (Nat.le_of_ble_eq_true rfl) rfl rfl) (Nat.le_of_ble_eq_true rfl) ?_
    obtain ⟨x2, hr_x2, hq⟩ := sk_bnd hq
    refine sm_callS2l 71 (s_X8_mix hr_x2) (sk_td o_X8_mixInstructorsAndLifts 35 rfl) rfl ls_X8_318 rfl (sk_rok (Nat.le_of_ble_eq_true rfl) (Nat.le_of_ble_eq_true rfl) rfl rfl) (Nat.le_of_ble_eq_true rfl) ?_
    refine sg_lstore_n 72 [some (.inr (.inr (some (0, 0)))), none, none, some (.inr (.inl x2)), none, some (.inl v5)] (sk_td o_X8_mixInstructorsAndLifts 36 rfl) rfl rfl (Nat.le_of_ble_eq_true rfl) rfl ?_
    refine sg_lload_n 73 (sk_td o_X8_mixInstructorsAndLifts 37 rfl) rfl rfl ?_
    refine sg_aload_n 74 (sk_td o_X8_mixInstructorsAndLifts 38 rfl) rfl rfl ?_
    refine sg_iload 76 (sk_td o_X8_mixInstructorsAndLifts 39 rfl) rfl rfl ?_
    obtain ⟨x3, hr_x3, hq⟩ := sk_bnd hq
    refine sm_callV1i 79 (s_X8_carried hr_x3) (sk_td o_X8_mixInstructorsAndLifts 40 rfl) rfl lv_X8_378 rfl rfl rfl sz_0 (sk_rok (Nat.le_of_ble_eq_true rfl) (Nat.le_of_ble_eq_true rfl) rfl rfl) (Nat.le_of_ble_eq_true rfl) ?_
    obtain ⟨x4, hr_x4, hq⟩ := sk_bnd hq
    refine sm_callS2l 82 (s_X8_mix hr_x4) (sk_td o_X8_mixInstructorsAndLifts 41 rfl) rfl ls_X8_318 rfl (sk_rok (Nat.le_of_ble_eq_true rfl) (Nat.le_of_ble_eq_true rfl) rfl rfl) (Nat.le_of_ble_eq_true rfl) ?_
    refine sg_lstore_n 83 [some (.inr (.inr (some (0, 0)))), none, none, some (.inr (.inl x4)), none, some (.inl v5)] (sk_td o_X8_mixInstructorsAndLifts 42 rfl) rfl rfl (Nat.le_of_ble_eq_true rfl) rfl ?_
    refine sg_iinc (v5 + (1 : Int32)) 86 [some (.inr (.inr (some (0, 0)))), none, none, some (.inr (.inl x4)), none, some (.inl (v5 + (1 : Int32)))] (sk_td o_X8_mixInstructorsAndLifts 43 rfl) rfl rfl rfl rfl (Nat.le_of_ble_eq_true rfl) rfl ?_
    refine sg_goto 52 (sk_td o_X8_mixInstructorsAndLifts 44 rfl) (by decide) ?_
    exact hrec52 (x4, (v5 + (1 : Int32))) _ hq
def l_X8_mixInstructorsAndLifts_52 (d : sk_D) (fl : Nat) (a : (Int64 × Int32)) : Option (Int64) := sk_it (fun rec52 a => q_X8_mixInstructorsAndLifts_52 rec52 d a.1 a.2) fl a
theorem lt_X8_mixInstructorsAndLifts_52 {l : Launch} {d : sk_D} : ∀ (fl : Nat) (a : (Int64 × Int32)) (res : Int64), l_X8_mixInstructorsAndLifts_52 d fl a = some res → sk_G l (sk_rm 4 0 0) m_X8_mixInstructorsAndLifts sk_Ex0 (sk_Zm m_X8_mixInstructorsAndLifts (some (.inr (.inl res))) (sk_mm d)) 0 0 52 [some (.inr (.inr (some (0, 0)))), none, none, some (.inr (.inl a.1)), none, some (.inl a.2)] [] (sk_mm d) :=
  sk_it_ind (P := fun (a : (Int64 × Int32)) (res : Int64) => sk_G l (sk_rm 4 0 0) m_X8_mixInstructorsAndLifts sk_Ex0 (sk_Zm m_X8_mixInstructorsAndLifts (some (.inr (.inl res))) (sk_mm d)) 0 0 52 [some (.inr (.inr (some (0, 0)))), none, none, some (.inr (.inl a.1)), none, some (.inl a.2)] [] (sk_mm d)) (fun rec52 hrec52 a res hq  => t_X8_mixInstructorsAndLifts_52 hrec52 hq )
def q_X8_mixInstructorsAndLifts_43 (rec5 : (Int64 × Int32) → Option (Int64)) (d : sk_D) (w3 : Int64) (v5 : Int32) : Option (Int64) :=
  (rec5 (w3, (v5 + (1 : Int32))))
set_option maxRecDepth 100000 in
set_option maxHeartbeats 4000000 in
theorem t_X8_mixInstructorsAndLifts_43 {l : Launch} {rec5 : (Int64 × Int32) → Option (Int64)} {d : sk_D} {w3 : Int64} {v5 : Int32} (hrec5 : ∀ (a : (Int64 × Int32)) (res : Int64), rec5 a = some res → sk_G l (sk_rm 4 0 0) m_X8_mixInstructorsAndLifts sk_Ex0 (sk_Zm m_X8_mixInstructorsAndLifts (some (.inr (.inl res))) (sk_mm d)) 0 0 5 [some (.inr (.inr (some (0, 0)))), none, none, some (.inr (.inl a.1)), none, some (.inl a.2)] [] (sk_mm d)) {res : Int64} (hq : q_X8_mixInstructorsAndLifts_43 rec5 d w3 v5 = some res) :
    sk_G l (sk_rm 4 0 0) m_X8_mixInstructorsAndLifts sk_Ex0 (sk_Zm m_X8_mixInstructorsAndLifts (some (.inr (.inl res))) (sk_mm d)) 0 0 43 [some (.inr (.inr (some (0, 0)))), none, none, some (.inr (.inl w3)), none, some (.inl v5)] [] (sk_mm d) := by
  unfold q_X8_mixInstructorsAndLifts_43 at hq
  refine sg_iinc (v5 + (1 : Int32)) 46 [some (.inr (.inr (some (0, 0)))), none, none, some (.inr (.inl w3)), none, some (.inl (v5 + (1 : Int32)))] (sk_td o_X8_mixInstructorsAndLifts 23 rfl) rfl rfl rfl rfl (Nat.le_of_ble_eq_true rfl) rfl ?_
  refine sg_goto 5 (sk_td o_X8_mixInstructorsAndLifts 24 rfl) (by decide) ?_
  exact hrec5 (w3, (v5 + (1 : Int32))) _ hq
def q_X8_mixInstructorsAndLifts_5 (rec5 : (Int64 × Int32) → Option (Int64)) (d : sk_D) (w3 : Int64) (v5 : Int32) : Option (Int64) :=
  if (8 : Int32) ≤ v5 then (l_X8_mixInstructorsAndLifts_52 d sk_fu (w3, (0 : Int32))) else if sk_bi v5 8 = true then if (d.1 42 v5.toNatClampNeg 0) = 0 then (q_X8_mixInstructorsAndLifts_43 rec5 d w3 v5) else (q_X8_mix d w3 v5).bind fun x2 => (q_X8_earnings d v5).bind fun x3 => (q_X8_mix d x2 x3).bind fun x4 => (q_X8_mixInstructorsAndLifts_43 rec5 d x4 v5) else none
set_option maxRecDepth 100000 in
set_option maxHeartbeats 4000000 in
theorem t_X8_mixInstructorsAndLifts_5 {l : Launch} {rec5 : (Int64 × Int32) → Option (Int64)} {d : sk_D} {w3 : Int64} {v5 : Int32} (hrec5 : ∀ (a : (Int64 × Int32)) (res : Int64), rec5 a = some res → sk_G l (sk_rm 4 0 0) m_X8_mixInstructorsAndLifts sk_Ex0 (sk_Zm m_X8_mixInstructorsAndLifts (some (.inr (.inl res))) (sk_mm d)) 0 0 5 [some (.inr (.inr (some (0, 0)))), none, none, some (.inr (.inl a.1)), none, some (.inl a.2)] [] (sk_mm d)) {res : Int64} (hq : q_X8_mixInstructorsAndLifts_5 rec5 d w3 v5 = some res) :
    sk_G l (sk_rm 4 0 0) m_X8_mixInstructorsAndLifts sk_Ex0 (sk_Zm m_X8_mixInstructorsAndLifts (some (.inr (.inl res))) (sk_mm d)) 0 0 5 [some (.inr (.inr (some (0, 0)))), none, none, some (.inr (.inl w3)), none, some (.inl v5)] [] (sk_mm d) := by
  unfold q_X8_mixInstructorsAndLifts_5 at hq
  refine sg_iload 7 (sk_td o_X8_mixInstructorsAndLifts 4 rfl) rfl rfl ?_
  refine sg_bipush (v := (8 : Int32)) 9 (sk_td o_X8_mixInstructorsAndLifts 5 rfl) rfl (by decide) ?_
  refine sg_ic_ge 49 12 (sk_td o_X8_mixInstructorsAndLifts 6 rfl) (by decide) rfl (fun hc => ?_) (fun hc => ?_)
  · rw [if_pos hc] at hq
    refine sg_iconst (v := (0 : Int32)) 50 (sk_td o_X8_mixInstructorsAndLifts 25 rfl) rfl (by decide) ?_
    refine sg_istore 52 [some (.inr (.inr (some (0, 0)))), none, none, some (.inr (.inl w3)), none, some (.inl (0 : Int32))] (sk_td o_X8_mixInstructorsAndLifts 26 rfl) rfl rfl (Nat.le_of_ble_eq_true rfl) rfl ?_
    exact lt_X8_mixInstructorsAndLifts_52 sk_fu (w3, (0 : Int32)) _ hq
  · rw [if_neg hc] at hq
    refine sg_aload_n 13 (sk_td o_X8_mixInstructorsAndLifts 7 rfl) rfl rfl ?_
    refine sm_getR (3, 0) 16 (sk_td o_X8_mixInstructorsAndLifts 8 rfl) rfl kf_X8_23 rfl rfl sz_0 rfl ?_
    refine sg_iload 18 (sk_td o_X8_mixInstructorsAndLifts 9 rfl) rfl rfl ?_
    obtain ⟨hb1, hq⟩ := sk_ifn hq
    refine sm_aald (42, v5.toNatClampNeg) 19 (sk_td o_X8_mixInstructorsAndLifts 10 rfl) rfl rfl (by decide) sz_3 hb1 (sr_3 (sk_bi.lt hb1)) ?_
    refine sm_getI 22 (sk_td o_X8_mixInstructorsAndLifts 11 rfl) rfl kf_X8_208 rfl rfl (sk_bi.lt hb1) ?_
    refine sg_if_eq 43 25 (sk_td o_X8_mixInstructorsAndLifts 12 rfl) (by decide) rfl (fun hc => ?_) (fun hc => ?_)
    · rw [if_pos hc] at hq
      exact t_X8_mixInstructorsAndLifts_43 hrec5 hq
    · rw [if_neg hc] at hq
      refine sg_lload_n 26 (sk_td o_X8_mixInstructorsAndLifts 13 rfl) rfl rfl ?_
      refine sg_iload 28 (sk_td o_X8_mixInstructorsAndLifts 14 rfl) rfl rfl ?_
      obtain ⟨x2, hr_x2, hq⟩ := sk_bnd hq
      refine sm_callS2l 31 (s_X8_mix hr_x2) (sk_td o_X8_mixInstructorsAndLifts 15 rfl) rfl ls_X8_318 rfl (sk_rok (Nat.le_of_ble_eq_true rfl) (Nat.le_of_ble_eq_true rfl) rfl rfl) (Nat.le_of_ble_eq_true rfl) ?_
      refine sg_lstore_n 32 [some (.inr (.inr (some (0, 0)))), none, none, some (.inr (.inl x2)), none, some (.inl v5)] (sk_td o_X8_mixInstructorsAndLifts 16 rfl) rfl rfl (Nat.le_of_ble_eq_true rfl) rfl ?_
      refine sg_lload_n 33 (sk_td o_X8_mixInstructorsAndLifts 17 rfl) rfl rfl ?_
      refine sg_aload_n 34 (sk_td o_X8_mixInstructorsAndLifts 18 rfl) rfl rfl ?_
      refine sg_iload 36 (sk_td o_X8_mixInstructorsAndLifts 19 rfl) rfl rfl ?_
      obtain ⟨x3, hr_x3, hq⟩ := sk_bnd hq
      refine sm_callV1i 39 (s_X8_earnings hr_x3) (sk_td o_X8_mixInstructorsAndLifts 20 rfl) rfl lv_X8_372 rfl rfl rfl sz_0 (sk_rok (Nat.le_of_ble_eq_true rfl) (Nat.le_of_ble_eq_true rfl) rfl rfl) (Nat.le_of_ble_eq_true rfl) ?_
      obtain ⟨x4, hr_x4, hq⟩ := sk_bnd hq
      refine sm_callS2l 42 (s_X8_mix hr_x4) (sk_td o_X8_mixInstructorsAndLifts 21 rfl) rfl ls_X8_318 rfl (sk_rok (Nat.le_of_ble_eq_true rfl) (Nat.le_of_ble_eq_true rfl) rfl rfl) (Nat.le_of_ble_eq_true rfl) ?_
      refine sg_lstore_n 43 [some (.inr (.inr (some (0, 0)))), none, none, some (.inr (.inl x4)), none, some (.inl v5)] (sk_td o_X8_mixInstructorsAndLifts 22 rfl) rfl rfl (Nat.le_of_ble_eq_true rfl) rfl ?_
      exact t_X8_mixInstructorsAndLifts_43 hrec5 hq
def l_X8_mixInstructorsAndLifts_5 (d : sk_D) (fl : Nat) (a : (Int64 × Int32)) : Option (Int64) := sk_it (fun rec5 a => q_X8_mixInstructorsAndLifts_5 rec5 d a.1 a.2) fl a
theorem lt_X8_mixInstructorsAndLifts_5 {l : Launch} {d : sk_D} : ∀ (fl : Nat) (a : (Int64 × Int32)) (res : Int64), l_X8_mixInstructorsAndLifts_5 d fl a = some res → sk_G l (sk_rm 4 0 0) m_X8_mixInstructorsAndLifts sk_Ex0 (sk_Zm m_X8_mixInstructorsAndLifts (some (.inr (.inl res))) (sk_mm d)) 0 0 5 [some (.inr (.inr (some (0, 0)))), none, none, some (.inr (.inl a.1)), none, some (.inl a.2)] [] (sk_mm d) :=
  sk_it_ind (P := fun (a : (Int64 × Int32)) (res : Int64) => sk_G l (sk_rm 4 0 0) m_X8_mixInstructorsAndLifts sk_Ex0 (sk_Zm m_X8_mixInstructorsAndLifts (some (.inr (.inl res))) (sk_mm d)) 0 0 5 [some (.inr (.inr (some (0, 0)))), none, none, some (.inr (.inl a.1)), none, some (.inl a.2)] [] (sk_mm d)) (fun rec5 hrec5 a res hq  => t_X8_mixInstructorsAndLifts_5 hrec5 hq )
def q_X8_mixInstructorsAndLifts_0 (d : sk_D) (w1 : Int64) : Option (Int64) :=
  (l_X8_mixInstructorsAndLifts_5 d sk_fu (w1, (0 : Int32)))
set_option maxRecDepth 100000 in
set_option maxHeartbeats 4000000 in
theorem t_X8_mixInstructorsAndLifts_0 {l : Launch} {d : sk_D} {w1 : Int64} {res : Int64} (hq : q_X8_mixInstructorsAndLifts_0 d w1 = some res) :
    sk_G l (sk_rm 4 0 0) m_X8_mixInstructorsAndLifts sk_Ex0 (sk_Zm m_X8_mixInstructorsAndLifts (some (.inr (.inl res))) (sk_mm d)) 0 0 0 [some (.inr (.inr (some (0, 0)))), some (.inr (.inl w1)), none, none, none, none] [] (sk_mm d) := by
  unfold q_X8_mixInstructorsAndLifts_0 at hq
  refine sg_lload_n 1 (sk_td o_X8_mixInstructorsAndLifts 0 rfl) rfl rfl ?_
  refine sg_lstore_n 2 [some (.inr (.inr (some (0, 0)))), some (.inr (.inl w1)), none, some (.inr (.inl w1)), none, none] (sk_td o_X8_mixInstructorsAndLifts 1 rfl) rfl rfl (Nat.le_of_ble_eq_true rfl) rfl ?_
  refine sg_iconst (v := (0 : Int32)) 3 (sk_td o_X8_mixInstructorsAndLifts 2 rfl) rfl (by decide) ?_
  refine sg_istore 5 [some (.inr (.inr (some (0, 0)))), some (.inr (.inl w1)), none, some (.inr (.inl w1)), none, some (.inl (0 : Int32))] (sk_td o_X8_mixInstructorsAndLifts 3 rfl) rfl rfl (Nat.le_of_ble_eq_true rfl) rfl ?_
  refine sk_wk [true, false, true, true, true, true] (ls' := [some (.inr (.inr (some (0, 0)))), none, none, some (.inr (.inl w1)), none, some (.inl (0 : Int32))]) rfl ?_
  exact lt_X8_mixInstructorsAndLifts_5 sk_fu (w1, (0 : Int32)) _ hq
def q_X8_mixInstructorsAndLifts (d : sk_D) (w1 : Int64) : Option (Int64) := q_X8_mixInstructorsAndLifts_0 d w1 
theorem s_X8_mixInstructorsAndLifts {l : Launch} {d : sk_D} {w1 : Int64} {res : Int64} (hq : q_X8_mixInstructorsAndLifts d w1 = some res) : sk_M l 4 m_X8_mixInstructorsAndLifts [.inr (.inr (some (0, 0))), .inr (.inl w1)] (sk_mm d) (some (.inr (.inl res))) (sk_mm d) :=
  sk_enter (by decide) (fun _ => Nat.le_of_ble_eq_true rfl) (Nat.le_of_ble_eq_true rfl) (t_X8_mixInstructorsAndLifts_0 hq )
def q_X8_digest_48 (rec48 : (Int64 × Int32) → Option (Int64)) (d : sk_D) (w1 : Int64) (v3 : Int32) : Option (Int64) :=
  if (8 : Int32) ≤ v3 then (q_X8_mixGroups d w1).bind fun x1 => (q_X8_mixInstructorsAndLifts d x1).bind fun x2 => (q_X8_placed d).bind fun x3 => (q_X8_mix d x2 x3).bind fun x4 => (q_X8_outOfLevel d).bind fun x5 => (q_X8_mix d x4 x5).bind fun x6 => (q_X8_mix d x6 (d.1 35 0 1)).bind fun x7 => some x7 else (q_X8_spread d v3).bind fun x8 => (q_X8_mix d w1 x8).bind fun x9 => (rec48 (x9, (v3 + (1 : Int32))))
set_option maxRecDepth 100000 in
set_option maxHeartbeats 4000000 in
theorem t_X8_digest_48 {l : Launch} {rec48 : (Int64 × Int32) → Option (Int64)} {d : sk_D} {w1 : Int64} {v3 : Int32} (hrec48 : ∀ (a : (Int64 × Int32)) (res : Int64), rec48 a = some res → sk_G l (sk_rm 5 0 0) m_X8_digest sk_Ex0 (sk_Zm m_X8_digest (some (.inr (.inl res))) (sk_mm d)) 0 0 48 [some (.inr (.inr (some (0, 0)))), some (.inr (.inl a.1)), none, some (.inl a.2)] [] (sk_mm d)) {res : Int64} (hq : q_X8_digest_48 rec48 d w1 v3 = some res) :
    sk_G l (sk_rm 5 0 0) m_X8_digest sk_Ex0 (sk_Zm m_X8_digest (some (.inr (.inl res))) (sk_mm d)) 0 0 48 [some (.inr (.inr (some (0, 0)))), some (.inr (.inl w1)), none, some (.inl v3)] [] (sk_mm d) := by
  unfold q_X8_digest_48 at hq
  refine sg_iload_n 49 (sk_td o_X8_digest 28 rfl) rfl rfl ?_
  refine sg_bipush (v := (8 : Int32)) 51 (sk_td o_X8_digest 29 rfl) rfl (by decide) ?_
  refine sg_ic_ge 70 54 (sk_td o_X8_digest 30 rfl) (by decide) rfl (fun hc => ?_) (fun hc => ?_)
  · rw [if_pos hc] at hq
    refine sg_aload_n 71 (sk_td o_X8_digest 39 rfl) rfl rfl ?_
    refine sg_lload_n 72 (sk_td o_X8_digest 40 rfl) rfl rfl ?_
    obtain ⟨x1, hr_x1, hq⟩ := sk_bnd hq
    refine sm_callV1l 75 (s_X8_mixGroups hr_x1) (sk_td o_X8_digest 41 rfl) rfl lv_X8_335 rfl rfl rfl sz_0 (sk_rok (Nat.le_of_ble_eq_true rfl) (Nat.le_of_ble_eq_true rfl) rfl rfl) (Nat.le_of_ble_eq_true rfl) ?_
    refine sg_lstore_n 76 [some (.inr (.inr (some (0, 0)))), some (.inr (.inl x1)), none, some (.inl v3)] (sk_td o_X8_digest 42 rfl) rfl rfl (Nat.le_of_ble_eq_true rfl) rfl ?_
    refine sg_aload_n 77 (sk_td o_X8_digest 43 rfl) rfl rfl ?_
    refine sg_lload_n 78 (sk_td o_X8_digest 44 rfl) rfl rfl ?_
    obtain ⟨x2, hr_x2, hq⟩ := sk_bnd hq
    refine sm_callV1l 81 (s_X8_mixInstructorsAndLifts hr_x2) (sk_td o_X8_digest 45 rfl) rfl lv_X8_338 rfl rfl rfl sz_0 (sk_rok (Nat.le_of_ble_eq_true rfl) (Nat.le_of_ble_eq_true rfl) rfl rfl) (Nat.le_of_ble_eq_true rfl) ?_
    refine sg_lstore_n 82 [some (.inr (.inr (some (0, 0)))), some (.inr (.inl x2)), none, some (.inl v3)] (sk_td o_X8_digest 46 rfl) rfl rfl (Nat.le_of_ble_eq_true rfl) rfl ?_
    refine sg_lload_n 83 (sk_td o_X8_digest 47 rfl) rfl rfl ?_
    refine sg_aload_n 84 (sk_td o_X8_digest 48 rfl) rfl rfl ?_
    obtain ⟨x3, hr_x3, hq⟩ := sk_bnd hq
    refine sm_callV0i 87 (s_X8_placed hr_x3) (sk_td o_X8_digest 49 rfl) rfl lv_X8_341 rfl rfl rfl sz_0 (sk_rok (Nat.le_of_ble_eq_true rfl) (Nat.le_of_ble_eq_true rfl) rfl rfl) (Nat.le_of_ble_eq_true rfl) ?_
    obtain ⟨x4, hr_x4, hq⟩ := sk_bnd hq
    refine sm_callS2l 90 (s_X8_mix hr_x4) (sk_td o_X8_digest 50 rfl) rfl ls_X8_318 rfl (sk_rok (Nat.le_of_ble_eq_true rfl) (Nat.le_of_ble_eq_true rfl) rfl rfl) (Nat.le_of_ble_eq_true rfl) ?_
    refine sg_lstore_n 91 [some (.inr (.inr (some (0, 0)))), some (.inr (.inl x4)), none, some (.inl v3)] (sk_td o_X8_digest 51 rfl) rfl rfl (Nat.le_of_ble_eq_true rfl) rfl ?_
    refine sg_lload_n 92 (sk_td o_X8_digest 52 rfl) rfl rfl ?_
    refine sg_aload_n 93 (sk_td o_X8_digest 53 rfl) rfl rfl ?_
    obtain ⟨x5, hr_x5, hq⟩ := sk_bnd hq
    refine sm_callV0i 96 (s_X8_outOfLevel hr_x5) (sk_td o_X8_digest 54 rfl) rfl lv_X8_344 rfl rfl rfl sz_0 (sk_rok (Nat.le_of_ble_eq_true rfl) (Nat.le_of_ble_eq_true rfl) rfl rfl) (Nat.le_of_ble_eq_true rfl) ?_
    obtain ⟨x6, hr_x6, hq⟩ := sk_bnd hq
    refine sm_callS2l 99 (s_X8_mix hr_x6) (sk_td o_X8_digest 55 rfl) rfl ls_X8_318 rfl (sk_rok (Nat.le_of_ble_eq_true rfl) (Nat.le_of_ble_eq_true rfl) rfl rfl) (Nat.le_of_ble_eq_true rfl) ?_
    refine sg_lstore_n 100 [some (.inr (.inr (some (0, 0)))), some (.inr (.inl x6)), none, some (.inl v3)] (sk_td o_X8_digest 56 rfl) rfl rfl (Nat.le_of_ble_eq_true rfl) rfl ?_
    refine sg_lload_n 101 (sk_td o_X8_digest 57 rfl) rfl rfl ?_
    refine sg_aload_n 102 (sk_td o_X8_digest 58 rfl) rfl rfl ?_
    refine sm_getR (35, 0) 105 (sk_td o_X8_digest 59 rfl) rfl kf_X8_61 rfl rfl sz_0 rfl ?_
    refine sm_getI 108 (sk_td o_X8_digest 60 rfl) rfl kf_X8_296 rfl rfl sz_35 ?_
    obtain ⟨x7, hr_x7, hq⟩ := sk_bnd hq
    refine sm_callS2l 111 (s_X8_mix hr_x7) (sk_td o_X8_digest 61 rfl) rfl ls_X8_318 rfl (sk_rok (Nat.le_of_ble_eq_true rfl) (Nat.le_of_ble_eq_true rfl) rfl rfl) (Nat.le_of_ble_eq_true rfl) ?_
    obtain rfl := Option.some.inj hq
    exact sg_lret (sk_td o_X8_digest 62 rfl) rfl
  · rw [if_neg hc] at hq
    refine sg_lload_n 55 (sk_td o_X8_digest 31 rfl) rfl rfl ?_
    refine sg_aload_n 56 (sk_td o_X8_digest 32 rfl) rfl rfl ?_
    refine sg_iload_n 57 (sk_td o_X8_digest 33 rfl) rfl rfl ?_
    obtain ⟨x8, hr_x8, hq⟩ := sk_bnd hq
    refine sm_callV1i 60 (s_X8_spread hr_x8) (sk_td o_X8_digest 34 rfl) rfl lv_X8_332 rfl rfl rfl sz_0 (sk_rok (Nat.le_of_ble_eq_true rfl) (Nat.le_of_ble_eq_true rfl) rfl rfl) (Nat.le_of_ble_eq_true rfl) ?_
    obtain ⟨x9, hr_x9, hq⟩ := sk_bnd hq
    refine sm_callS2l 63 (s_X8_mix hr_x9) (sk_td o_X8_digest 35 rfl) rfl ls_X8_318 rfl (sk_rok (Nat.le_of_ble_eq_true rfl) (Nat.le_of_ble_eq_true rfl) rfl rfl) (Nat.le_of_ble_eq_true rfl) ?_
    refine sg_lstore_n 64 [some (.inr (.inr (some (0, 0)))), some (.inr (.inl x9)), none, some (.inl v3)] (sk_td o_X8_digest 36 rfl) rfl rfl (Nat.le_of_ble_eq_true rfl) rfl ?_
    refine sg_iinc (v3 + (1 : Int32)) 67 [some (.inr (.inr (some (0, 0)))), some (.inr (.inl x9)), none, some (.inl (v3 + (1 : Int32)))] (sk_td o_X8_digest 37 rfl) rfl rfl rfl rfl (Nat.le_of_ble_eq_true rfl) rfl ?_
    refine sg_goto 48 (sk_td o_X8_digest 38 rfl) (by decide) ?_
    exact hrec48 (x9, (v3 + (1 : Int32))) _ hq
def l_X8_digest_48 (d : sk_D) (fl : Nat) (a : (Int64 × Int32)) : Option (Int64) := sk_it (fun rec48 a => q_X8_digest_48 rec48 d a.1 a.2) fl a
theorem lt_X8_digest_48 {l : Launch} {d : sk_D} : ∀ (fl : Nat) (a : (Int64 × Int32)) (res : Int64), l_X8_digest_48 d fl a = some res → sk_G l (sk_rm 5 0 0) m_X8_digest sk_Ex0 (sk_Zm m_X8_digest (some (.inr (.inl res))) (sk_mm d)) 0 0 48 [some (.inr (.inr (some (0, 0)))), some (.inr (.inl a.1)), none, some (.inl a.2)] [] (sk_mm d) :=
  sk_it_ind (P := fun (a : (Int64 × Int32)) (res : Int64) => sk_G l (sk_rm 5 0 0) m_X8_digest sk_Ex0 (sk_Zm m_X8_digest (some (.inr (.inl res))) (sk_mm d)) 0 0 48 [some (.inr (.inr (some (0, 0)))), some (.inr (.inl a.1)), none, some (.inl a.2)] [] (sk_mm d)) (fun rec48 hrec48 a res hq  => t_X8_digest_48 hrec48 hq )
def q_X8_digest_0 (d : sk_D) : Option (Int64) :=
  (q_X8_mix d (43053 : Int64) (d.1 0 0 13)).bind fun x1 => (q_X8_pupils d).bind fun x2 => (q_X8_mix d x1 x2).bind fun x3 => (q_X8_groups d).bind fun x4 => (q_X8_mix d x3 x4).bind fun x5 => (q_X8_instructors d).bind fun x6 => (q_X8_mix d x5 x6).bind fun x7 => (q_X8_mixPupils d x7).bind fun x8 => (l_X8_digest_48 d sk_fu (x8, (0 : Int32)))
set_option maxRecDepth 100000 in
set_option maxHeartbeats 4000000 in
theorem t_X8_digest_0 {l : Launch} {d : sk_D} {res : Int64} (hq : q_X8_digest_0 d = some res) :
    sk_G l (sk_rm 5 0 0) m_X8_digest sk_Ex0 (sk_Zm m_X8_digest (some (.inr (.inl res))) (sk_mm d)) 0 0 0 [some (.inr (.inr (some (0, 0)))), none, none, none] [] (sk_mm d) := by
  unfold q_X8_digest_0 at hq
  refine sg_ldc2 3 (sk_td o_X8_digest 0 rfl) rfl kc_X8_316 ?_
  refine sg_lstore_n 4 [some (.inr (.inr (some (0, 0)))), some (.inr (.inl (43053 : Int64))), none, none] (sk_td o_X8_digest 1 rfl) rfl rfl (Nat.le_of_ble_eq_true rfl) rfl ?_
  refine sg_lload_n 5 (sk_td o_X8_digest 2 rfl) rfl rfl ?_
  refine sg_aload_n 6 (sk_td o_X8_digest 3 rfl) rfl rfl ?_
  refine sm_getI 9 (sk_td o_X8_digest 4 rfl) rfl kf_X8_78 rfl rfl sz_0 ?_
  obtain ⟨x1, hr_x1, hq⟩ := sk_bnd hq
  refine sm_callS2l 12 (s_X8_mix hr_x1) (sk_td o_X8_digest 5 rfl) rfl ls_X8_318 rfl (sk_rok (Nat.le_of_ble_eq_true rfl) (Nat.le_of_ble_eq_true rfl) rfl rfl) (Nat.le_of_ble_eq_true rfl) ?_
  refine sg_lstore_n 13 [some (.inr (.inr (some (0, 0)))), some (.inr (.inl x1)), none, none] (sk_td o_X8_digest 6 rfl) rfl rfl (Nat.le_of_ble_eq_true rfl) rfl ?_
  refine sg_lload_n 14 (sk_td o_X8_digest 7 rfl) rfl rfl ?_
  refine sg_aload_n 15 (sk_td o_X8_digest 8 rfl) rfl rfl ?_
  obtain ⟨x2, hr_x2, hq⟩ := sk_bnd hq
  refine sm_callV0i 18 (s_X8_pupils hr_x2) (sk_td o_X8_digest 9 rfl) rfl lv_X8_112 rfl rfl rfl sz_0 (sk_rok (Nat.le_of_ble_eq_true rfl) (Nat.le_of_ble_eq_true rfl) rfl rfl) (Nat.le_of_ble_eq_true rfl) ?_
  obtain ⟨x3, hr_x3, hq⟩ := sk_bnd hq
  refine sm_callS2l 21 (s_X8_mix hr_x3) (sk_td o_X8_digest 10 rfl) rfl ls_X8_318 rfl (sk_rok (Nat.le_of_ble_eq_true rfl) (Nat.le_of_ble_eq_true rfl) rfl rfl) (Nat.le_of_ble_eq_true rfl) ?_
  refine sg_lstore_n 22 [some (.inr (.inr (some (0, 0)))), some (.inr (.inl x3)), none, none] (sk_td o_X8_digest 11 rfl) rfl rfl (Nat.le_of_ble_eq_true rfl) rfl ?_
  refine sg_lload_n 23 (sk_td o_X8_digest 12 rfl) rfl rfl ?_
  refine sg_aload_n 24 (sk_td o_X8_digest 13 rfl) rfl rfl ?_
  obtain ⟨x4, hr_x4, hq⟩ := sk_bnd hq
  refine sm_callV0i 27 (s_X8_groups hr_x4) (sk_td o_X8_digest 14 rfl) rfl lv_X8_322 rfl rfl rfl sz_0 (sk_rok (Nat.le_of_ble_eq_true rfl) (Nat.le_of_ble_eq_true rfl) rfl rfl) (Nat.le_of_ble_eq_true rfl) ?_
  obtain ⟨x5, hr_x5, hq⟩ := sk_bnd hq
  refine sm_callS2l 30 (s_X8_mix hr_x5) (sk_td o_X8_digest 15 rfl) rfl ls_X8_318 rfl (sk_rok (Nat.le_of_ble_eq_true rfl) (Nat.le_of_ble_eq_true rfl) rfl rfl) (Nat.le_of_ble_eq_true rfl) ?_
  refine sg_lstore_n 31 [some (.inr (.inr (some (0, 0)))), some (.inr (.inl x5)), none, none] (sk_td o_X8_digest 16 rfl) rfl rfl (Nat.le_of_ble_eq_true rfl) rfl ?_
  refine sg_lload_n 32 (sk_td o_X8_digest 17 rfl) rfl rfl ?_
  refine sg_aload_n 33 (sk_td o_X8_digest 18 rfl) rfl rfl ?_
  obtain ⟨x6, hr_x6, hq⟩ := sk_bnd hq
  refine sm_callV0i 36 (s_X8_instructors hr_x6) (sk_td o_X8_digest 19 rfl) rfl lv_X8_325 rfl rfl rfl sz_0 (sk_rok (Nat.le_of_ble_eq_true rfl) (Nat.le_of_ble_eq_true rfl) rfl rfl) (Nat.le_of_ble_eq_true rfl) ?_
  obtain ⟨x7, hr_x7, hq⟩ := sk_bnd hq
  refine sm_callS2l 39 (s_X8_mix hr_x7) (sk_td o_X8_digest 20 rfl) rfl ls_X8_318 rfl (sk_rok (Nat.le_of_ble_eq_true rfl) (Nat.le_of_ble_eq_true rfl) rfl rfl) (Nat.le_of_ble_eq_true rfl) ?_
  refine sg_lstore_n 40 [some (.inr (.inr (some (0, 0)))), some (.inr (.inl x7)), none, none] (sk_td o_X8_digest 21 rfl) rfl rfl (Nat.le_of_ble_eq_true rfl) rfl ?_
  refine sg_aload_n 41 (sk_td o_X8_digest 22 rfl) rfl rfl ?_
  refine sg_lload_n 42 (sk_td o_X8_digest 23 rfl) rfl rfl ?_
  obtain ⟨x8, hr_x8, hq⟩ := sk_bnd hq
  refine sm_callV1l 45 (s_X8_mixPupils hr_x8) (sk_td o_X8_digest 24 rfl) rfl lv_X8_328 rfl rfl rfl sz_0 (sk_rok (Nat.le_of_ble_eq_true rfl) (Nat.le_of_ble_eq_true rfl) rfl rfl) (Nat.le_of_ble_eq_true rfl) ?_
  refine sg_lstore_n 46 [some (.inr (.inr (some (0, 0)))), some (.inr (.inl x8)), none, none] (sk_td o_X8_digest 25 rfl) rfl rfl (Nat.le_of_ble_eq_true rfl) rfl ?_
  refine sg_iconst (v := (0 : Int32)) 47 (sk_td o_X8_digest 26 rfl) rfl (by decide) ?_
  refine sg_istore_n 48 [some (.inr (.inr (some (0, 0)))), some (.inr (.inl x8)), none, some (.inl (0 : Int32))] (sk_td o_X8_digest 27 rfl) rfl rfl (Nat.le_of_ble_eq_true rfl) rfl ?_
  exact lt_X8_digest_48 sk_fu (x8, (0 : Int32)) _ hq
def q_X8_digest (d : sk_D) : Option (Int64) := q_X8_digest_0 d 
theorem s_X8_digest {l : Launch} {d : sk_D} {res : Int64} (hq : q_X8_digest d = some res) : sk_M l 5 m_X8_digest [.inr (.inr (some (0, 0)))] (sk_mm d) (some (.inr (.inl res))) (sk_mm d) :=
  sk_enter (by decide) (fun _ => Nat.le_of_ble_eq_true rfl) (Nat.le_of_ble_eq_true rfl) (t_X8_digest_0 hq )
def q_X9_within_0 (d : sk_D) (v0 : Int32) (v1 : Int32) (v2 : Int32) : Option (Int32) :=
  if v0 < v1 then some (0 : Int32) else if v2 < v0 then some (0 : Int32) else some (1 : Int32)
set_option maxRecDepth 100000 in
set_option maxHeartbeats 4000000 in
theorem t_X9_within_0 {l : Launch} {d : sk_D} {v0 : Int32} {v1 : Int32} {v2 : Int32} {res : Int32} (hq : q_X9_within_0 d v0 v1 v2 = some res) :
    sk_G l (sk_rm 1 0 0) m_X9_within sk_Ex0 (sk_Zm m_X9_within (some (.inl res)) (sk_mm d)) 0 0 0 [some (.inl v0), some (.inl v1), some (.inl v2)] [] (sk_mm d) := by
  unfold q_X9_within_0 at hq
  refine sg_iload_n 1 (sk_td o_X9_within 0 rfl) rfl rfl ?_
  refine sg_iload_n 2 (sk_td o_X9_within 1 rfl) rfl rfl ?_
  refine sg_ic_lt 14 5 (sk_td o_X9_within 2 rfl) (by decide) rfl (fun hc => ?_) (fun hc => ?_)
  · rw [if_pos hc] at hq
    refine sg_iconst (v := (0 : Int32)) 15 (sk_td o_X9_within 8 rfl) rfl (by decide) ?_
    obtain rfl := Option.some.inj hq
    exact sg_iret (sk_td o_X9_within 9 rfl) rfl (show narrow .boolean (.int (0 : Int32)) = .int (0 : Int32) by decide)
  · rw [if_neg hc] at hq
    refine sg_iload_n 6 (sk_td o_X9_within 3 rfl) rfl rfl ?_
    refine sg_iload_n 7 (sk_td o_X9_within 4 rfl) rfl rfl ?_
    refine sg_ic_gt 14 10 (sk_td o_X9_within 5 rfl) (by decide) rfl (fun hc => ?_) (fun hc => ?_)
    · rw [if_pos hc] at hq
      refine sg_iconst (v := (0 : Int32)) 15 (sk_td o_X9_within 8 rfl) rfl (by decide) ?_
      obtain rfl := Option.some.inj hq
      exact sg_iret (sk_td o_X9_within 9 rfl) rfl (show narrow .boolean (.int (0 : Int32)) = .int (0 : Int32) by decide)
    · rw [if_neg hc] at hq
      refine sg_iconst (v := (1 : Int32)) 11 (sk_td o_X9_within 6 rfl) rfl (by decide) ?_
      refine sg_goto 15 (sk_td o_X9_within 7 rfl) (by decide) ?_
      obtain rfl := Option.some.inj hq
      exact sg_iret (sk_td o_X9_within 9 rfl) rfl (show narrow .boolean (.int (1 : Int32)) = .int (1 : Int32) by decide)
def q_X9_within (d : sk_D) (v0 : Int32) (v1 : Int32) (v2 : Int32) : Option (Int32) := q_X9_within_0 d v0 v1 v2 
theorem s_X9_within {l : Launch} {d : sk_D} {v0 : Int32} {v1 : Int32} {v2 : Int32} {res : Int32} (hq : q_X9_within d v0 v1 v2 = some res) : sk_M l 1 m_X9_within [.inl v0, .inl v1, .inl v2] (sk_mm d) (some (.inl res)) (sk_mm d) :=
  sk_enter (by decide) (fun _ => Nat.le_of_ble_eq_true rfl) (Nat.le_of_ble_eq_true rfl) (t_X9_within_0 hq )
def q_X9_hasPupil_0 (d : sk_D) (v1 : Int32) : Option (Int32) :=
  (q_X9_within d v1 (0 : Int32) (19 : Int32)).bind fun x1 => if x1 = 0 then some (0 : Int32) else if sk_bi v1 20 = true then if (d.1 45 0 v1.toNatClampNeg) = (1 : Int32) then some (1 : Int32) else some (0 : Int32) else none
set_option maxRecDepth 100000 in
set_option maxHeartbeats 4000000 in
theorem t_X9_hasPupil_0 {l : Launch} {d : sk_D} {v1 : Int32} {res : Int32} (hq : q_X9_hasPupil_0 d v1 = some res) :
    sk_G l (sk_rm 2 0 0) m_X9_hasPupil sk_Ex0 (sk_Zm m_X9_hasPupil (some (.inl res)) (sk_mm d)) 0 0 0 [some (.inr (.inr (some (44, 0)))), some (.inl v1)] [] (sk_mm d) := by
  unfold q_X9_hasPupil_0 at hq
  refine sg_iload_n 1 (sk_td o_X9_hasPupil 0 rfl) rfl rfl ?_
  refine sg_iconst (v := (0 : Int32)) 2 (sk_td o_X9_hasPupil 1 rfl) rfl (by decide) ?_
  refine sg_bipush (v := (19 : Int32)) 4 (sk_td o_X9_hasPupil 2 rfl) rfl (by decide) ?_
  obtain ⟨x1, hr_x1, hq⟩ := sk_bnd hq
  refine sm_callS3i 7 (s_X9_within hr_x1) (sk_td o_X9_hasPupil 3 rfl) rfl ls_X9_168 rfl (sk_rok (Nat.le_of_ble_eq_true rfl) (Nat.le_of_ble_eq_true rfl) rfl rfl) (Nat.le_of_ble_eq_true rfl) ?_
  refine sg_if_eq 24 10 (sk_td o_X9_hasPupil 4 rfl) (by decide) rfl (fun hc => ?_) (fun hc => ?_)
  · rw [if_pos hc] at hq
    refine sg_iconst (v := (0 : Int32)) 25 (sk_td o_X9_hasPupil 13 rfl) rfl (by decide) ?_
    obtain rfl := Option.some.inj hq
    exact sg_iret (sk_td o_X9_hasPupil 14 rfl) rfl (show narrow .boolean (.int (0 : Int32)) = .int (0 : Int32) by decide)
  · rw [if_neg hc] at hq
    refine sg_aload_n 11 (sk_td o_X9_hasPupil 5 rfl) rfl rfl ?_
    refine sm_getR (45, 0) 14 (sk_td o_X9_hasPupil 6 rfl) rfl kf_X9_19 rfl rfl sz_44 rfl ?_
    refine sg_iload_n 15 (sk_td o_X9_hasPupil 7 rfl) rfl rfl ?_
    obtain ⟨hb2, hq⟩ := sk_ifn hq
    refine sm_iald 16 (sk_td o_X9_hasPupil 8 rfl) rfl rfl sz_45 hb2 ?_
    refine sg_iconst (v := (1 : Int32)) 17 (sk_td o_X9_hasPupil 9 rfl) rfl (by decide) ?_
    refine sg_ic_ne 24 20 (sk_td o_X9_hasPupil 10 rfl) (by decide) rfl (fun hc => ?_) (fun hc => ?_)
    · rw [if_neg hc] at hq
      refine sg_iconst (v := (0 : Int32)) 25 (sk_td o_X9_hasPupil 13 rfl) rfl (by decide) ?_
      obtain rfl := Option.some.inj hq
      exact sg_iret (sk_td o_X9_hasPupil 14 rfl) rfl (show narrow .boolean (.int (0 : Int32)) = .int (0 : Int32) by decide)
    · rw [if_pos hc] at hq
      refine sg_iconst (v := (1 : Int32)) 21 (sk_td o_X9_hasPupil 11 rfl) rfl (by decide) ?_
      refine sg_goto 25 (sk_td o_X9_hasPupil 12 rfl) (by decide) ?_
      obtain rfl := Option.some.inj hq
      exact sg_iret (sk_td o_X9_hasPupil 14 rfl) rfl (show narrow .boolean (.int (1 : Int32)) = .int (1 : Int32) by decide)
def q_X9_hasPupil (d : sk_D) (v1 : Int32) : Option (Int32) := q_X9_hasPupil_0 d v1 
theorem s_X9_hasPupil {l : Launch} {d : sk_D} {v1 : Int32} {res : Int32} (hq : q_X9_hasPupil d v1 = some res) : sk_M l 2 m_X9_hasPupil [.inr (.inr (some (44, 0))), .inl v1] (sk_mm d) (some (.inl res)) (sk_mm d) :=
  sk_enter (by decide) (fun _ => Nat.le_of_ble_eq_true rfl) (Nat.le_of_ble_eq_true rfl) (t_X9_hasPupil_0 hq )
def q_X9_isLevel_0 (d : sk_D) (v0 : Int32) : Option (Int32) :=
  (q_X9_within d v0 (0 : Int32) (7 : Int32)).bind fun x1 => if sk_nb x1 = true then some x1 else none
set_option maxRecDepth 100000 in
set_option maxHeartbeats 4000000 in
theorem t_X9_isLevel_0 {l : Launch} {d : sk_D} {v0 : Int32} {res : Int32} (hq : q_X9_isLevel_0 d v0 = some res) :
    sk_G l (sk_rm 2 0 0) m_X9_isLevel sk_Ex0 (sk_Zm m_X9_isLevel (some (.inl res)) (sk_mm d)) 0 0 0 [some (.inl v0)] [] (sk_mm d) := by
  unfold q_X9_isLevel_0 at hq
  refine sg_iload_n 1 (sk_td o_X9_isLevel 0 rfl) rfl rfl ?_
  refine sg_iconst (v := (0 : Int32)) 2 (sk_td o_X9_isLevel 1 rfl) rfl (by decide) ?_
  refine sg_bipush (v := (7 : Int32)) 4 (sk_td o_X9_isLevel 2 rfl) rfl (by decide) ?_
  obtain ⟨x1, hr_x1, hq⟩ := sk_bnd hq
  refine sm_callS3i 7 (s_X9_within hr_x1) (sk_td o_X9_isLevel 3 rfl) rfl ls_X9_168 rfl (sk_rok (Nat.le_of_ble_eq_true rfl) (Nat.le_of_ble_eq_true rfl) rfl rfl) (Nat.le_of_ble_eq_true rfl) ?_
  obtain ⟨hn2, hq⟩ := sk_ifn hq
  obtain rfl := Option.some.inj hq
  exact sg_iret (sk_td o_X9_isLevel 4 rfl) rfl (sk_nb.z hn2)
def q_X9_isLevel (d : sk_D) (v0 : Int32) : Option (Int32) := q_X9_isLevel_0 d v0 
theorem s_X9_isLevel {l : Launch} {d : sk_D} {v0 : Int32} {res : Int32} (hq : q_X9_isLevel d v0 = some res) : sk_M l 2 m_X9_isLevel [.inl v0] (sk_mm d) (some (.inl res)) (sk_mm d) :=
  sk_enter (by decide) (fun _ => Nat.le_of_ble_eq_true rfl) (Nat.le_of_ble_eq_true rfl) (t_X9_isLevel_0 hq )
def q_X9_isLanguages_0 (d : sk_D) (v0 : Int32) : Option (Int32) :=
  (q_X9_within d v0 (1 : Int32) (63 : Int32)).bind fun x1 => if sk_nb x1 = true then some x1 else none
set_option maxRecDepth 100000 in
set_option maxHeartbeats 4000000 in
theorem t_X9_isLanguages_0 {l : Launch} {d : sk_D} {v0 : Int32} {res : Int32} (hq : q_X9_isLanguages_0 d v0 = some res) :
    sk_G l (sk_rm 2 0 0) m_X9_isLanguages sk_Ex0 (sk_Zm m_X9_isLanguages (some (.inl res)) (sk_mm d)) 0 0 0 [some (.inl v0)] [] (sk_mm d) := by
  unfold q_X9_isLanguages_0 at hq
  refine sg_iload_n 1 (sk_td o_X9_isLanguages 0 rfl) rfl rfl ?_
  refine sg_iconst (v := (1 : Int32)) 2 (sk_td o_X9_isLanguages 1 rfl) rfl (by decide) ?_
  refine sg_bipush (v := (63 : Int32)) 4 (sk_td o_X9_isLanguages 2 rfl) rfl (by decide) ?_
  obtain ⟨x1, hr_x1, hq⟩ := sk_bnd hq
  refine sm_callS3i 7 (s_X9_within hr_x1) (sk_td o_X9_isLanguages 3 rfl) rfl ls_X9_168 rfl (sk_rok (Nat.le_of_ble_eq_true rfl) (Nat.le_of_ble_eq_true rfl) rfl rfl) (Nat.le_of_ble_eq_true rfl) ?_
  obtain ⟨hn2, hq⟩ := sk_ifn hq
  obtain rfl := Option.some.inj hq
  exact sg_iret (sk_td o_X9_isLanguages 4 rfl) rfl (sk_nb.z hn2)
def q_X9_isLanguages (d : sk_D) (v0 : Int32) : Option (Int32) := q_X9_isLanguages_0 d v0 
theorem s_X9_isLanguages {l : Launch} {d : sk_D} {v0 : Int32} {res : Int32} (hq : q_X9_isLanguages d v0 = some res) : sk_M l 2 m_X9_isLanguages [.inl v0] (sk_mm d) (some (.inl res)) (sk_mm d) :=
  sk_enter (by decide) (fun _ => Nat.le_of_ble_eq_true rfl) (Nat.le_of_ble_eq_true rfl) (t_X9_isLanguages_0 hq )
def q_X9_isFamily_0 (d : sk_D) (v0 : Int32) : Option (Int32) :=
  (q_X9_within d v0 (0 : Int32) (7 : Int32)).bind fun x1 => if sk_nb x1 = true then some x1 else none
set_option maxRecDepth 100000 in
set_option maxHeartbeats 4000000 in
theorem t_X9_isFamily_0 {l : Launch} {d : sk_D} {v0 : Int32} {res : Int32} (hq : q_X9_isFamily_0 d v0 = some res) :
    sk_G l (sk_rm 2 0 0) m_X9_isFamily sk_Ex0 (sk_Zm m_X9_isFamily (some (.inl res)) (sk_mm d)) 0 0 0 [some (.inl v0)] [] (sk_mm d) := by
  unfold q_X9_isFamily_0 at hq
  refine sg_iload_n 1 (sk_td o_X9_isFamily 0 rfl) rfl rfl ?_
  refine sg_iconst (v := (0 : Int32)) 2 (sk_td o_X9_isFamily 1 rfl) rfl (by decide) ?_
  refine sg_bipush (v := (7 : Int32)) 4 (sk_td o_X9_isFamily 2 rfl) rfl (by decide) ?_
  obtain ⟨x1, hr_x1, hq⟩ := sk_bnd hq
  refine sm_callS3i 7 (s_X9_within hr_x1) (sk_td o_X9_isFamily 3 rfl) rfl ls_X9_168 rfl (sk_rok (Nat.le_of_ble_eq_true rfl) (Nat.le_of_ble_eq_true rfl) rfl rfl) (Nat.le_of_ble_eq_true rfl) ?_
  obtain ⟨hn2, hq⟩ := sk_ifn hq
  obtain rfl := Option.some.inj hq
  exact sg_iret (sk_td o_X9_isFamily 4 rfl) rfl (sk_nb.z hn2)
def q_X9_isFamily (d : sk_D) (v0 : Int32) : Option (Int32) := q_X9_isFamily_0 d v0 
theorem s_X9_isFamily {l : Launch} {d : sk_D} {v0 : Int32} {res : Int32} (hq : q_X9_isFamily d v0 = some res) : sk_M l 2 m_X9_isFamily [.inl v0] (sk_mm d) (some (.inl res)) (sk_mm d) :=
  sk_enter (by decide) (fun _ => Nat.le_of_ble_eq_true rfl) (Nat.le_of_ble_eq_true rfl) (t_X9_isFamily_0 hq )
def q_X9_isOf_0 (d : sk_D) (v1 : Int32) (v2 : Int32) : Option (Int32) :=
  if sk_bi v1 20 = true then if (d.1 45 0 v1.toNatClampNeg) = (1 : Int32) then if sk_bi v1 20 = true then if (d.1 48 0 v1.toNatClampNeg) = v2 then some (1 : Int32) else some (0 : Int32) else none else some (0 : Int32) else none
set_option maxRecDepth 100000 in
set_option maxHeartbeats 4000000 in
theorem t_X9_isOf_0 {l : Launch} {d : sk_D} {v1 : Int32} {v2 : Int32} {res : Int32} (hq : q_X9_isOf_0 d v1 v2 = some res) :
    sk_G l (sk_rm 1 0 0) m_X9_isOf sk_Ex0 (sk_Zm m_X9_isOf (some (.inl res)) (sk_mm d)) 0 0 0 [some (.inr (.inr (some (44, 0)))), some (.inl v1), some (.inl v2)] [] (sk_mm d) := by
  unfold q_X9_isOf_0 at hq
  refine sg_aload_n 1 (sk_td o_X9_isOf 0 rfl) rfl rfl ?_
  refine sm_getR (45, 0) 4 (sk_td o_X9_isOf 1 rfl) rfl kf_X9_19 rfl rfl sz_44 rfl ?_
  refine sg_iload_n 5 (sk_td o_X9_isOf 2 rfl) rfl rfl ?_
  obtain ⟨hb1, hq⟩ := sk_ifn hq
  refine sm_iald 6 (sk_td o_X9_isOf 3 rfl) rfl rfl sz_45 hb1 ?_
  refine sg_iconst (v := (1 : Int32)) 7 (sk_td o_X9_isOf 4 rfl) rfl (by decide) ?_
  refine sg_ic_ne 24 10 (sk_td o_X9_isOf 5 rfl) (by decide) rfl (fun hc => ?_) (fun hc => ?_)
  · rw [if_neg hc] at hq
    refine sg_iconst (v := (0 : Int32)) 25 (sk_td o_X9_isOf 14 rfl) rfl (by decide) ?_
    obtain rfl := Option.some.inj hq
    exact sg_iret (sk_td o_X9_isOf 15 rfl) rfl (show narrow .boolean (.int (0 : Int32)) = .int (0 : Int32) by decide)
  · rw [if_pos hc] at hq
    refine sg_aload_n 11 (sk_td o_X9_isOf 6 rfl) rfl rfl ?_
    refine sm_getR (48, 0) 14 (sk_td o_X9_isOf 7 rfl) rfl kf_X9_29 rfl rfl sz_44 rfl ?_
    refine sg_iload_n 15 (sk_td o_X9_isOf 8 rfl) rfl rfl ?_
    obtain ⟨hb2, hq⟩ := sk_ifn hq
    refine sm_iald 16 (sk_td o_X9_isOf 9 rfl) rfl rfl sz_48 hb2 ?_
    refine sg_iload_n 17 (sk_td o_X9_isOf 10 rfl) rfl rfl ?_
    refine sg_ic_ne 24 20 (sk_td o_X9_isOf 11 rfl) (by decide) rfl (fun hc => ?_) (fun hc => ?_)
    · rw [if_neg hc] at hq
      refine sg_iconst (v := (0 : Int32)) 25 (sk_td o_X9_isOf 14 rfl) rfl (by decide) ?_
      obtain rfl := Option.some.inj hq
      exact sg_iret (sk_td o_X9_isOf 15 rfl) rfl (show narrow .boolean (.int (0 : Int32)) = .int (0 : Int32) by decide)
    · rw [if_pos hc] at hq
      refine sg_iconst (v := (1 : Int32)) 21 (sk_td o_X9_isOf 12 rfl) rfl (by decide) ?_
      refine sg_goto 25 (sk_td o_X9_isOf 13 rfl) (by decide) ?_
      obtain rfl := Option.some.inj hq
      exact sg_iret (sk_td o_X9_isOf 15 rfl) rfl (show narrow .boolean (.int (1 : Int32)) = .int (1 : Int32) by decide)
def q_X9_isOf (d : sk_D) (v1 : Int32) (v2 : Int32) : Option (Int32) := q_X9_isOf_0 d v1 v2 
theorem s_X9_isOf {l : Launch} {d : sk_D} {v1 : Int32} {v2 : Int32} {res : Int32} (hq : q_X9_isOf d v1 v2 = some res) : sk_M l 1 m_X9_isOf [.inr (.inr (some (44, 0))), .inl v1, .inl v2] (sk_mm d) (some (.inl res)) (sk_mm d) :=
  sk_enter (by decide) (fun _ => Nat.le_of_ble_eq_true rfl) (Nat.le_of_ble_eq_true rfl) (t_X9_isOf_0 hq )
def q_X9_leaveAll_41 (rec4 : (sk_D × Int32 × Int32 × Int32) → Option (Int32 × sk_D)) (d : sk_D) (v1 : Int32) (v2 : Int32) (v3 : Int32) : Option (Int32 × sk_D) :=
  (rec4 (d, v1, v2, (v3 + (1 : Int32))))
set_option maxRecDepth 100000 in
set_option maxHeartbeats 4000000 in
theorem t_X9_leaveAll_41 {l : Launch} {rec4 : (sk_D × Int32 × Int32 × Int32) → Option (Int32 × sk_D)} {d : sk_D} {v1 : Int32} {v2 : Int32} {v3 : Int32} (hrec4 : ∀ (a : (sk_D × Int32 × Int32 × Int32)) (res : Int32 × sk_D), rec4 a = some res → sk_G l (sk_rm 2 0 0) m_X9_leaveAll sk_Ex0 (sk_Zm m_X9_leaveAll (some (.inl res.1)) (sk_mm res.2)) 0 0 4 [some (.inr (.inr (some (44, 0)))), some (.inl a.2.1), some (.inl a.2.2.1), some (.inl a.2.2.2)] [] (sk_mm a.1)) {res : Int32 × sk_D} (hq : q_X9_leaveAll_41 rec4 d v1 v2 v3 = some res) :
    sk_G l (sk_rm 2 0 0) m_X9_leaveAll sk_Ex0 (sk_Zm m_X9_leaveAll (some (.inl res.1)) (sk_mm res.2)) 0 0 41 [some (.inr (.inr (some (44, 0)))), some (.inl v1), some (.inl v2), some (.inl v3)] [] (sk_mm d) := by
  unfold q_X9_leaveAll_41 at hq
  refine sg_iinc (v3 + (1 : Int32)) 44 [some (.inr (.inr (some (44, 0)))), some (.inl v1), some (.inl v2), some (.inl (v3 + (1 : Int32)))] (sk_td o_X9_leaveAll 24 rfl) rfl rfl rfl rfl (Nat.le_of_ble_eq_true rfl) rfl ?_
  refine sg_goto 4 (sk_td o_X9_leaveAll 25 rfl) (by decide) ?_
  exact hrec4 (d, v1, v2, (v3 + (1 : Int32))) _ hq
def q_X9_leaveAll_4 (rec4 : (sk_D × Int32 × Int32 × Int32) → Option (Int32 × sk_D)) (d : sk_D) (v1 : Int32) (v2 : Int32) (v3 : Int32) : Option (Int32 × sk_D) :=
  if (20 : Int32) ≤ v3 then some (v2, d) else (q_X9_isOf d v3 v1).bind fun x1 => if x1 = 0 then (q_X9_leaveAll_41 rec4 d v1 v2 v3) else if sk_bi v3 20 = true then if (d.1 49 0 v3.toNatClampNeg) = (-9 : Int32) then (q_X9_leaveAll_41 rec4 d v1 v2 v3) else if sk_bi v3 20 = true then (q_X9_leaveAll_41 rec4 (sk_wi d 49 0 v3.toNatClampNeg (-9 : Int32)) v1 (v2 + (1 : Int32)) v3) else none else none
set_option maxRecDepth 100000 in
set_option maxHeartbeats 4000000 in
theorem t_X9_leaveAll_4 {l : Launch} {rec4 : (sk_D × Int32 × Int32 × Int32) → Option (Int32 × sk_D)} {d : sk_D} {v1 : Int32} {v2 : Int32} {v3 : Int32} (hrec4 : ∀ (a : (sk_D × Int32 × Int32 × Int32)) (res : Int32 × sk_D), rec4 a = some res → sk_G l (sk_rm 2 0 0) m_X9_leaveAll sk_Ex0 (sk_Zm m_X9_leaveAll (some (.inl res.1)) (sk_mm res.2)) 0 0 4 [some (.inr (.inr (some (44, 0)))), some (.inl a.2.1), some (.inl a.2.2.1), some (.inl a.2.2.2)] [] (sk_mm a.1)) {res : Int32 × sk_D} (hq : q_X9_leaveAll_4 rec4 d v1 v2 v3 = some res) :
    sk_G l (sk_rm 2 0 0) m_X9_leaveAll sk_Ex0 (sk_Zm m_X9_leaveAll (some (.inl res.1)) (sk_mm res.2)) 0 0 4 [some (.inr (.inr (some (44, 0)))), some (.inl v1), some (.inl v2), some (.inl v3)] [] (sk_mm d) := by
  unfold q_X9_leaveAll_4 at hq
  refine sg_iload_n 5 (sk_td o_X9_leaveAll 4 rfl) rfl rfl ?_
  refine sg_bipush (v := (20 : Int32)) 7 (sk_td o_X9_leaveAll 5 rfl) rfl (by decide) ?_
  refine sg_ic_ge 47 10 (sk_td o_X9_leaveAll 6 rfl) (by decide) rfl (fun hc => ?_) (fun hc => ?_)
  · rw [if_pos hc] at hq
    refine sg_iload_n 48 (sk_td o_X9_leaveAll 26 rfl) rfl rfl ?_
    obtain rfl := Option.some.inj hq
    exact sg_iret (sk_td o_X9_leaveAll 27 rfl) rfl rfl
  · rw [if_neg hc] at hq
    refine sg_aload_n 11 (sk_td o_X9_leaveAll 7 rfl) rfl rfl ?_
    refine sg_iload_n 12 (sk_td o_X9_leaveAll 8 rfl) rfl rfl ?_
    refine sg_iload_n 13 (sk_td o_X9_leaveAll 9 rfl) rfl rfl ?_
    obtain ⟨x1, hr_x1, hq⟩ := sk_bnd hq
    refine sm_callV2i 16 (s_X9_isOf hr_x1) (sk_td o_X9_leaveAll 10 rfl) rfl lv_X9_172 rfl rfl rfl sz_44 (sk_rok (Nat.le_of_ble_eq_true rfl) (Nat.le_of_ble_eq_true rfl) rfl rfl) (Nat.le_of_ble_eq_true rfl) ?_
    refine sg_if_eq 41 19 (sk_td o_X9_leaveAll 11 rfl) (by decide) rfl (fun hc => ?_) (fun hc => ?_)
    · rw [if_pos hc] at hq
      exact t_X9_leaveAll_41 hrec4 hq
    · rw [if_neg hc] at hq
      refine sg_aload_n 20 (sk_td o_X9_leaveAll 12 rfl) rfl rfl ?_
      refine sm_getR (49, 0) 23 (sk_td o_X9_leaveAll 13 rfl) rfl kf_X9_32 rfl rfl sz_44 rfl ?_
      refine sg_iload_n 24 (sk_td o_X9_leaveAll 14 rfl) rfl rfl ?_
      obtain ⟨hb2, hq⟩ := sk_ifn hq
      refine sm_iald 25 (sk_td o_X9_leaveAll 15 rfl) rfl rfl sz_49 hb2 ?_
      refine sg_bipush (v := (-9 : Int32)) 27 (sk_td o_X9_leaveAll 16 rfl) rfl (by decide) ?_
      refine sg_ic_eq 41 30 (sk_td o_X9_leaveAll 17 rfl) (by decide) rfl (fun hc => ?_) (fun hc => ?_)
      · rw [if_pos hc] at hq
        exact t_X9_leaveAll_41 hrec4 hq
      · rw [if_neg hc] at hq
        refine sg_aload_n 31 (sk_td o_X9_leaveAll 18 rfl) rfl rfl ?_
        refine sm_getR (49, 0) 34 (sk_td o_X9_leaveAll 19 rfl) rfl kf_X9_32 rfl rfl sz_44 rfl ?_
        refine sg_iload_n 35 (sk_td o_X9_leaveAll 20 rfl) rfl rfl ?_
        refine sg_bipush (v := (-9 : Int32)) 37 (sk_td o_X9_leaveAll 21 rfl) rfl (by decide) ?_
        obtain ⟨hb3, hq⟩ := sk_ifn hq
        refine sm_iast 38 (sk_td o_X9_leaveAll 22 rfl) rfl rfl sz_49 hb3 ?_
        refine sg_iinc (v2 + (1 : Int32)) 41 [some (.inr (.inr (some (44, 0)))), some (.inl v1), some (.inl (v2 + (1 : Int32))), some (.inl v3)] (sk_td o_X9_leaveAll 23 rfl) rfl rfl rfl rfl (Nat.le_of_ble_eq_true rfl) rfl ?_
        exact t_X9_leaveAll_41 hrec4 hq
def l_X9_leaveAll_4 (fl : Nat) (a : (sk_D × Int32 × Int32 × Int32)) : Option (Int32 × sk_D) := sk_it (fun rec4 a => q_X9_leaveAll_4 rec4 a.1 a.2.1 a.2.2.1 a.2.2.2) fl a
theorem lt_X9_leaveAll_4 {l : Launch} : ∀ (fl : Nat) (a : (sk_D × Int32 × Int32 × Int32)) (res : Int32 × sk_D), l_X9_leaveAll_4 fl a = some res → sk_G l (sk_rm 2 0 0) m_X9_leaveAll sk_Ex0 (sk_Zm m_X9_leaveAll (some (.inl res.1)) (sk_mm res.2)) 0 0 4 [some (.inr (.inr (some (44, 0)))), some (.inl a.2.1), some (.inl a.2.2.1), some (.inl a.2.2.2)] [] (sk_mm a.1) :=
  sk_it_ind (P := fun (a : (sk_D × Int32 × Int32 × Int32)) (res : Int32 × sk_D) => sk_G l (sk_rm 2 0 0) m_X9_leaveAll sk_Ex0 (sk_Zm m_X9_leaveAll (some (.inl res.1)) (sk_mm res.2)) 0 0 4 [some (.inr (.inr (some (44, 0)))), some (.inl a.2.1), some (.inl a.2.2.1), some (.inl a.2.2.2)] [] (sk_mm a.1)) (fun rec4 hrec4 a res hq  => t_X9_leaveAll_4 hrec4 hq )
def q_X9_leaveAll_0 (d : sk_D) (v1 : Int32) : Option (Int32 × sk_D) :=
  (l_X9_leaveAll_4 sk_fu (d, v1, (0 : Int32), (0 : Int32)))
set_option maxRecDepth 100000 in
set_option maxHeartbeats 4000000 in
theorem t_X9_leaveAll_0 {l : Launch} {d : sk_D} {v1 : Int32} {res : Int32 × sk_D} (hq : q_X9_leaveAll_0 d v1 = some res) :
    sk_G l (sk_rm 2 0 0) m_X9_leaveAll sk_Ex0 (sk_Zm m_X9_leaveAll (some (.inl res.1)) (sk_mm res.2)) 0 0 0 [some (.inr (.inr (some (44, 0)))), some (.inl v1), none, none] [] (sk_mm d) := by
  unfold q_X9_leaveAll_0 at hq
  refine sg_iconst (v := (0 : Int32)) 1 (sk_td o_X9_leaveAll 0 rfl) rfl (by decide) ?_
  refine sg_istore_n 2 [some (.inr (.inr (some (44, 0)))), some (.inl v1), some (.inl (0 : Int32)), none] (sk_td o_X9_leaveAll 1 rfl) rfl rfl (Nat.le_of_ble_eq_true rfl) rfl ?_
  refine sg_iconst (v := (0 : Int32)) 3 (sk_td o_X9_leaveAll 2 rfl) rfl (by decide) ?_
  refine sg_istore_n 4 [some (.inr (.inr (some (44, 0)))), some (.inl v1), some (.inl (0 : Int32)), some (.inl (0 : Int32))] (sk_td o_X9_leaveAll 3 rfl) rfl rfl (Nat.le_of_ble_eq_true rfl) rfl ?_
  exact lt_X9_leaveAll_4 sk_fu (d, v1, (0 : Int32), (0 : Int32)) _ hq
def q_X9_leaveAll (d : sk_D) (v1 : Int32) : Option (Int32 × sk_D) := q_X9_leaveAll_0 d v1 
theorem s_X9_leaveAll {l : Launch} {d : sk_D} {v1 : Int32} {res : Int32 × sk_D} (hq : q_X9_leaveAll d v1 = some res) : sk_M l 2 m_X9_leaveAll [.inr (.inr (some (44, 0))), .inl v1] (sk_mm d) (some (.inl res.1)) (sk_mm res.2) :=
  sk_enter (by decide) (fun _ => Nat.le_of_ble_eq_true rfl) (Nat.le_of_ble_eq_true rfl) (t_X9_leaveAll_0 hq )
def q_X9_keepRule_75 (rec24 : (sk_D × Int32 × Int32 × Int32 × Int32) → Option (Int32 × sk_D)) (d : sk_D) (v1 : Int32) (v2 : Int32) (v3 : Int32) (v4 : Int32) : Option (Int32 × sk_D) :=
  (rec24 (d, v1, v2, v3, (v4 + (1 : Int32))))
set_option maxRecDepth 100000 in
set_option maxHeartbeats 4000000 in
theorem t_X9_keepRule_75 {l : Launch} {rec24 : (sk_D × Int32 × Int32 × Int32 × Int32) → Option (Int32 × sk_D)} {d : sk_D} {v1 : Int32} {v2 : Int32} {v3 : Int32} {v4 : Int32} (hrec24 : ∀ (a : (sk_D × Int32 × Int32 × Int32 × Int32)) (res : Int32 × sk_D), rec24 a = some res → sk_G l (sk_rm 3 0 0) m_X9_keepRule sk_Ex0 (sk_Zm m_X9_keepRule (some (.inl res.1)) (sk_mm res.2)) 0 0 24 [some (.inr (.inr (some (44, 0)))), some (.inl a.2.1), some (.inl a.2.2.1), some (.inl a.2.2.2.1), some (.inl a.2.2.2.2)] [] (sk_mm a.1)) {res : Int32 × sk_D} (hq : q_X9_keepRule_75 rec24 d v1 v2 v3 v4 = some res) :
    sk_G l (sk_rm 3 0 0) m_X9_keepRule sk_Ex0 (sk_Zm m_X9_keepRule (some (.inl res.1)) (sk_mm res.2)) 0 0 75 [some (.inr (.inr (some (44, 0)))), some (.inl v1), some (.inl v2), some (.inl v3), some (.inl v4)] [] (sk_mm d) := by
  unfold q_X9_keepRule_75 at hq
  refine sg_iinc (v4 + (1 : Int32)) 78 [some (.inr (.inr (some (44, 0)))), some (.inl v1), some (.inl v2), some (.inl v3), some (.inl (v4 + (1 : Int32)))] (sk_td o_X9_keepRule 44 rfl) rfl rfl rfl rfl (Nat.le_of_ble_eq_true rfl) rfl ?_
  refine sg_goto 24 (sk_td o_X9_keepRule 45 rfl) (by decide) ?_
  exact hrec24 (d, v1, v2, v3, (v4 + (1 : Int32))) _ hq
def q_X9_keepRule_66 (rec24 : (sk_D × Int32 × Int32 × Int32 × Int32) → Option (Int32 × sk_D)) (d : sk_D) (v1 : Int32) (v4 : Int32) (s0 : Int32) : Option (Int32 × sk_D) :=
  if sk_bi v4 20 = true then (q_X9_keepRule_75 rec24 d v1 s0 (d.1 49 0 v4.toNatClampNeg) v4) else none
set_option maxRecDepth 100000 in
set_option maxHeartbeats 4000000 in
theorem t_X9_keepRule_66 {l : Launch} {rec24 : (sk_D × Int32 × Int32 × Int32 × Int32) → Option (Int32 × sk_D)} {d : sk_D} {v1 : Int32} {v4 : Int32} {s0 : Int32} (hrec24 : ∀ (a : (sk_D × Int32 × Int32 × Int32 × Int32)) (res : Int32 × sk_D), rec24 a = some res → sk_G l (sk_rm 3 0 0) m_X9_keepRule sk_Ex0 (sk_Zm m_X9_keepRule (some (.inl res.1)) (sk_mm res.2)) 0 0 24 [some (.inr (.inr (some (44, 0)))), some (.inl a.2.1), some (.inl a.2.2.1), some (.inl a.2.2.2.1), some (.inl a.2.2.2.2)] [] (sk_mm a.1)) {res : Int32 × sk_D} (hq : q_X9_keepRule_66 rec24 d v1 v4 s0 = some res) :
    sk_G l (sk_rm 3 0 0) m_X9_keepRule sk_Ex0 (sk_Zm m_X9_keepRule (some (.inl res.1)) (sk_mm res.2)) 0 0 66 [some (.inr (.inr (some (44, 0)))), some (.inl v1), none, none, some (.inl v4)] [.inl s0] (sk_mm d) := by
  unfold q_X9_keepRule_66 at hq
  refine sg_istore_n 67 [some (.inr (.inr (some (44, 0)))), some (.inl v1), some (.inl s0), none, some (.inl v4)] (sk_td o_X9_keepRule 38 rfl) rfl rfl (Nat.le_of_ble_eq_true rfl) rfl ?_
  refine sg_aload_n 68 (sk_td o_X9_keepRule 39 rfl) rfl rfl ?_
  refine sm_getR (49, 0) 71 (sk_td o_X9_keepRule 40 rfl) rfl kf_X9_32 rfl rfl sz_44 rfl ?_
  refine sg_iload 73 (sk_td o_X9_keepRule 41 rfl) rfl rfl ?_
  obtain ⟨hb1, hq⟩ := sk_ifn hq
  refine sm_iald 74 (sk_td o_X9_keepRule 42 rfl) rfl rfl sz_49 hb1 ?_
  refine sg_istore_n 75 [some (.inr (.inr (some (44, 0)))), some (.inl v1), some (.inl s0), some (.inl (d.1 49 0 v4.toNatClampNeg)), some (.inl v4)] (sk_td o_X9_keepRule 43 rfl) rfl rfl (Nat.le_of_ble_eq_true rfl) rfl ?_
  exact t_X9_keepRule_75 hrec24 hq
def q_X9_keepRule_61 (rec24 : (sk_D × Int32 × Int32 × Int32 × Int32) → Option (Int32 × sk_D)) (d : sk_D) (v1 : Int32) (v4 : Int32) : Option (Int32 × sk_D) :=
  (q_X9_keepRule_66 rec24 d v1 v4 (1 : Int32))
set_option maxRecDepth 100000 in
set_option maxHeartbeats 4000000 in
theorem t_X9_keepRule_61 {l : Launch} {rec24 : (sk_D × Int32 × Int32 × Int32 × Int32) → Option (Int32 × sk_D)} {d : sk_D} {v1 : Int32} {v4 : Int32} (hrec24 : ∀ (a : (sk_D × Int32 × Int32 × Int32 × Int32)) (res : Int32 × sk_D), rec24 a = some res → sk_G l (sk_rm 3 0 0) m_X9_keepRule sk_Ex0 (sk_Zm m_X9_keepRule (some (.inl res.1)) (sk_mm res.2)) 0 0 24 [some (.inr (.inr (some (44, 0)))), some (.inl a.2.1), some (.inl a.2.2.1), some (.inl a.2.2.2.1), some (.inl a.2.2.2.2)] [] (sk_mm a.1)) {res : Int32 × sk_D} (hq : q_X9_keepRule_61 rec24 d v1 v4 = some res) :
    sk_G l (sk_rm 3 0 0) m_X9_keepRule sk_Ex0 (sk_Zm m_X9_keepRule (some (.inl res.1)) (sk_mm res.2)) 0 0 61 [some (.inr (.inr (some (44, 0)))), some (.inl v1), none, none, some (.inl v4)] [] (sk_mm d) := by
  unfold q_X9_keepRule_61 at hq
  refine sg_iconst (v := (1 : Int32)) 62 (sk_td o_X9_keepRule 35 rfl) rfl (by decide) ?_
  refine sg_goto 66 (sk_td o_X9_keepRule 36 rfl) (by decide) ?_
  exact t_X9_keepRule_66 hrec24 hq
def q_X9_keepRule_65 (rec24 : (sk_D × Int32 × Int32 × Int32 × Int32) → Option (Int32 × sk_D)) (d : sk_D) (v1 : Int32) (v4 : Int32) : Option (Int32 × sk_D) :=
  (q_X9_keepRule_66 rec24 d v1 v4 (0 : Int32))
set_option maxRecDepth 100000 in
set_option maxHeartbeats 4000000 in
theorem t_X9_keepRule_65 {l : Launch} {rec24 : (sk_D × Int32 × Int32 × Int32 × Int32) → Option (Int32 × sk_D)} {d : sk_D} {v1 : Int32} {v4 : Int32} (hrec24 : ∀ (a : (sk_D × Int32 × Int32 × Int32 × Int32)) (res : Int32 × sk_D), rec24 a = some res → sk_G l (sk_rm 3 0 0) m_X9_keepRule sk_Ex0 (sk_Zm m_X9_keepRule (some (.inl res.1)) (sk_mm res.2)) 0 0 24 [some (.inr (.inr (some (44, 0)))), some (.inl a.2.1), some (.inl a.2.2.1), some (.inl a.2.2.2.1), some (.inl a.2.2.2.2)] [] (sk_mm a.1)) {res : Int32 × sk_D} (hq : q_X9_keepRule_65 rec24 d v1 v4 = some res) :
    sk_G l (sk_rm 3 0 0) m_X9_keepRule sk_Ex0 (sk_Zm m_X9_keepRule (some (.inl res.1)) (sk_mm res.2)) 0 0 65 [some (.inr (.inr (some (44, 0)))), some (.inl v1), none, none, some (.inl v4)] [] (sk_mm d) := by
  unfold q_X9_keepRule_65 at hq
  refine sg_iconst (v := (0 : Int32)) 66 (sk_td o_X9_keepRule 37 rfl) rfl (by decide) ?_
  exact t_X9_keepRule_66 hrec24 hq
def q_X9_keepRule_24 (rec24 : (sk_D × Int32 × Int32 × Int32 × Int32) → Option (Int32 × sk_D)) (d : sk_D) (v1 : Int32) (v2 : Int32) (v3 : Int32) (v4 : Int32) : Option (Int32 × sk_D) :=
  if (20 : Int32) ≤ v4 then if v2 = 0 then some ((0 : Int32), d) else (q_X9_leaveAll d v1).bind fun x1 => some (x1.1, x1.2) else (q_X9_isOf d v4 v1).bind fun x2 => if x2 = 0 then (q_X9_keepRule_75 rec24 d v1 v2 v3 v4) else if v2 = 0 then if v3 = (-1 : Int32) then (q_X9_keepRule_65 rec24 d v1 v4) else if sk_bi v4 20 = true then if v3 = (d.1 49 0 v4.toNatClampNeg) then (q_X9_keepRule_65 rec24 d v1 v4) else (q_X9_keepRule_61 rec24 d v1 v4) else none else (q_X9_keepRule_61 rec24 d v1 v4)
set_option maxRecDepth 100000 in
set_option maxHeartbeats 4000000 in
theorem t_X9_keepRule_24 {l : Launch} {rec24 : (sk_D × Int32 × Int32 × Int32 × Int32) → Option (Int32 × sk_D)} {d : sk_D} {v1 : Int32} {v2 : Int32} {v3 : Int32} {v4 : Int32} (hrec24 : ∀ (a : (sk_D × Int32 × Int32 × Int32 × Int32)) (res : Int32 × sk_D), rec24 a = some res → sk_G l (sk_rm 3 0 0) m_X9_keepRule sk_Ex0 (sk_Zm m_X9_keepRule (some (.inl res.1)) (sk_mm res.2)) 0 0 24 [some (.inr (.inr (some (44, 0)))), some (.inl a.2.1), some (.inl a.2.2.1), some (.inl a.2.2.2.1), some (.inl a.2.2.2.2)] [] (sk_mm a.1)) {res : Int32 × sk_D} (hq : q_X9_keepRule_24 rec24 d v1 v2 v3 v4 = some res) :
    sk_G l (sk_rm 3 0 0) m_X9_keepRule sk_Ex0 (sk_Zm m_X9_keepRule (some (.inl res.1)) (sk_mm res.2)) 0 0 24 [some (.inr (.inr (some (44, 0)))), some (.inl v1), some (.inl v2), some (.inl v3), some (.inl v4)] [] (sk_mm d) := by
  unfold q_X9_keepRule_24 at hq
  refine sg_iload 26 (sk_td o_X9_keepRule 16 rfl) rfl rfl ?_
  refine sg_bipush (v := (20 : Int32)) 28 (sk_td o_X9_keepRule 17 rfl) rfl (by decide) ?_
  refine sg_ic_ge 81 31 (sk_td o_X9_keepRule 18 rfl) (by decide) rfl (fun hc => ?_) (fun hc => ?_)
  · rw [if_pos hc] at hq
    refine sg_iload_n 82 (sk_td o_X9_keepRule 46 rfl) rfl rfl ?_
    refine sg_if_eq 93 85 (sk_td o_X9_keepRule 47 rfl) (by decide) rfl (fun hc => ?_) (fun hc => ?_)
    · rw [if_pos hc] at hq
      refine sg_iconst (v := (0 : Int32)) 94 (sk_td o_X9_keepRule 52 rfl) rfl (by decide) ?_
      obtain rfl := Option.some.inj hq
      exact sg_iret (sk_td o_X9_keepRule 53 rfl) rfl rfl
    · rw [if_neg hc] at hq
      refine sg_aload_n 86 (sk_td o_X9_keepRule 48 rfl) rfl rfl ?_
      refine sg_iload_n 87 (sk_td o_X9_keepRule 49 rfl) rfl rfl ?_
      obtain ⟨x1, hr_x1, hq⟩ := sk_bnd hq
      refine sm_callV1i 90 (s_X9_leaveAll hr_x1) (sk_td o_X9_keepRule 50 rfl) rfl lv_X9_176 rfl rfl rfl sz_44 (sk_rok (Nat.le_of_ble_eq_true rfl) (Nat.le_of_ble_eq_true rfl) rfl rfl) (Nat.le_of_ble_eq_true rfl) ?_
      refine sg_goto 94 (sk_td o_X9_keepRule 51 rfl) (by decide) ?_
      obtain rfl := Option.some.inj hq
      exact sg_iret (sk_td o_X9_keepRule 53 rfl) rfl rfl
  · rw [if_neg hc] at hq
    refine sg_aload_n 32 (sk_td o_X9_keepRule 19 rfl) rfl rfl ?_
    refine sg_iload 34 (sk_td o_X9_keepRule 20 rfl) rfl rfl ?_
    refine sg_iload_n 35 (sk_td o_X9_keepRule 21 rfl) rfl rfl ?_
    obtain ⟨x2, hr_x2, hq⟩ := sk_bnd hq
    refine sm_callV2i 38 (s_X9_isOf hr_x2) (sk_td o_X9_keepRule 22 rfl) rfl lv_X9_172 rfl rfl rfl sz_44 (sk_rok (Nat.le_of_ble_eq_true rfl) (Nat.le_of_ble_eq_true rfl) rfl rfl) (Nat.le_of_ble_eq_true rfl) ?_
    refine sg_if_eq 75 41 (sk_td o_X9_keepRule 23 rfl) (by decide) rfl (fun hc => ?_) (fun hc => ?_)
    · rw [if_pos hc] at hq
      exact t_X9_keepRule_75 hrec24 hq
    · rw [if_neg hc] at hq
      refine sg_iload_n 42 (sk_td o_X9_keepRule 24 rfl) rfl rfl ?_
      refine sg_if_ne 61 45 (sk_td o_X9_keepRule 25 rfl) (by decide) rfl (fun hc => ?_) (fun hc => ?_)
      · rw [if_neg hc] at hq
        refine sk_wk [true, true, false, false, true] (ls' := [some (.inr (.inr (some (44, 0)))), some (.inl v1), none, none, some (.inl v4)]) rfl ?_
        exact t_X9_keepRule_61 hrec24 hq
      · rw [if_pos hc] at hq
        refine sg_iload_n 46 (sk_td o_X9_keepRule 26 rfl) rfl rfl ?_
        refine sg_iconst (v := (-1 : Int32)) 47 (sk_td o_X9_keepRule 27 rfl) rfl (by decide) ?_
        refine sg_ic_eq 65 50 (sk_td o_X9_keepRule 28 rfl) (by decide) rfl (fun hc => ?_) (fun hc => ?_)
        · rw [if_pos hc] at hq
          refine sk_wk [true, true, false, false, true] (ls' := [some (.inr (.inr (some (44, 0)))), some (.inl v1), none, none, some (.inl v4)]) rfl ?_
          exact t_X9_keepRule_65 hrec24 hq
        · rw [if_neg hc] at hq
          refine sg_iload_n 51 (sk_td o_X9_keepRule 29 rfl) rfl rfl ?_
          refine sg_aload_n 52 (sk_td o_X9_keepRule 30 rfl) rfl rfl ?_
          refine sm_getR (49, 0) 55 (sk_td o_X9_keepRule 31 rfl) rfl kf_X9_32 rfl rfl sz_44 rfl ?_
          refine sg_iload 57 (sk_td o_X9_keepRule 32 rfl) rfl rfl ?_
          obtain ⟨hb3, hq⟩ := sk_ifn hq
          refine sm_iald 58 (sk_td o_X9_keepRule 33 rfl) rfl rfl sz_49 hb3 ?_
          refine sg_ic_eq 65 61 (sk_td o_X9_keepRule 34 rfl) (by decide) rfl (fun hc => ?_) (fun hc => ?_)
          · rw [if_pos hc] at hq
            refine sk_wk [true, true, false, false, true] (ls' := [some (.inr (.inr (some (44, 0)))), some (.inl v1), none, none, some (.inl v4)]) rfl ?_
            exact t_X9_keepRule_65 hrec24 hq
          · rw [if_neg hc] at hq
            refine sk_wk [true, true, false, false, true] (ls' := [some (.inr (.inr (some (44, 0)))), some (.inl v1), none, none, some (.inl v4)]) rfl ?_
            exact t_X9_keepRule_61 hrec24 hq
def l_X9_keepRule_24 (fl : Nat) (a : (sk_D × Int32 × Int32 × Int32 × Int32)) : Option (Int32 × sk_D) := sk_it (fun rec24 a => q_X9_keepRule_24 rec24 a.1 a.2.1 a.2.2.1 a.2.2.2.1 a.2.2.2.2) fl a
theorem lt_X9_keepRule_24 {l : Launch} : ∀ (fl : Nat) (a : (sk_D × Int32 × Int32 × Int32 × Int32)) (res : Int32 × sk_D), l_X9_keepRule_24 fl a = some res → sk_G l (sk_rm 3 0 0) m_X9_keepRule sk_Ex0 (sk_Zm m_X9_keepRule (some (.inl res.1)) (sk_mm res.2)) 0 0 24 [some (.inr (.inr (some (44, 0)))), some (.inl a.2.1), some (.inl a.2.2.1), some (.inl a.2.2.2.1), some (.inl a.2.2.2.2)] [] (sk_mm a.1) :=
  sk_it_ind (P := fun (a : (sk_D × Int32 × Int32 × Int32 × Int32)) (res : Int32 × sk_D) => sk_G l (sk_rm 3 0 0) m_X9_keepRule sk_Ex0 (sk_Zm m_X9_keepRule (some (.inl res.1)) (sk_mm res.2)) 0 0 24 [some (.inr (.inr (some (44, 0)))), some (.inl a.2.1), some (.inl a.2.2.1), some (.inl a.2.2.2.1), some (.inl a.2.2.2.2)] [] (sk_mm a.1)) (fun rec24 hrec24 a res hq  => t_X9_keepRule_24 hrec24 hq )
def q_X9_keepRule_0 (d : sk_D) (v1 : Int32) : Option (Int32 × sk_D) :=
  if v1 = (-9 : Int32) then some ((0 : Int32), d) else if sk_bi v1 8 = true then if (d.1 52 0 v1.toNatClampNeg) = 0 then some ((0 : Int32), d) else (l_X9_keepRule_24 sk_fu (d, v1, (0 : Int32), (-1 : Int32), (0 : Int32))) else none
set_option maxRecDepth 100000 in
set_option maxHeartbeats 4000000 in
theorem t_X9_keepRule_0 {l : Launch} {d : sk_D} {v1 : Int32} {res : Int32 × sk_D} (hq : q_X9_keepRule_0 d v1 = some res) :
    sk_G l (sk_rm 3 0 0) m_X9_keepRule sk_Ex0 (sk_Zm m_X9_keepRule (some (.inl res.1)) (sk_mm res.2)) 0 0 0 [some (.inr (.inr (some (44, 0)))), some (.inl v1), none, none, none] [] (sk_mm d) := by
  unfold q_X9_keepRule_0 at hq
  refine sg_iload_n 1 (sk_td o_X9_keepRule 0 rfl) rfl rfl ?_
  refine sg_bipush (v := (-9 : Int32)) 3 (sk_td o_X9_keepRule 1 rfl) rfl (by decide) ?_
  refine sg_ic_eq 15 6 (sk_td o_X9_keepRule 2 rfl) (by decide) rfl (fun hc => ?_) (fun hc => ?_)
  · rw [if_pos hc] at hq
    refine sg_iconst (v := (0 : Int32)) 16 (sk_td o_X9_keepRule 8 rfl) rfl (by decide) ?_
    obtain rfl := Option.some.inj hq
    exact sg_iret (sk_td o_X9_keepRule 9 rfl) rfl rfl
  · rw [if_neg hc] at hq
    refine sg_aload_n 7 (sk_td o_X9_keepRule 3 rfl) rfl rfl ?_
    refine sm_getR (52, 0) 10 (sk_td o_X9_keepRule 4 rfl) rfl kf_X9_41 rfl rfl sz_44 rfl ?_
    refine sg_iload_n 11 (sk_td o_X9_keepRule 5 rfl) rfl rfl ?_
    obtain ⟨hb1, hq⟩ := sk_ifn hq
    refine sm_iald 12 (sk_td o_X9_keepRule 6 rfl) rfl rfl sz_52 hb1 ?_
    refine sg_if_ne 17 15 (sk_td o_X9_keepRule 7 rfl) (by decide) rfl (fun hc => ?_) (fun hc => ?_)
    · rw [if_neg hc] at hq
      refine sg_iconst (v := (0 : Int32)) 18 (sk_td o_X9_keepRule 10 rfl) rfl (by decide) ?_
      refine sg_istore_n 19 [some (.inr (.inr (some (44, 0)))), some (.inl v1), some (.inl (0 : Int32)), none, none] (sk_td o_X9_keepRule 11 rfl) rfl rfl (Nat.le_of_ble_eq_true rfl) rfl ?_
      refine sg_iconst (v := (-1 : Int32)) 20 (sk_td o_X9_keepRule 12 rfl) rfl (by decide) ?_
      refine sg_istore_n 21 [some (.inr (.inr (some (44, 0)))), some (.inl v1), some (.inl (0 : Int32)), some (.inl (-1 : Int32)), none] (sk_td o_X9_keepRule 13 rfl) rfl rfl (Nat.le_of_ble_eq_true rfl) rfl ?_
      refine sg_iconst (v := (0 : Int32)) 22 (sk_td o_X9_keepRule 14 rfl) rfl (by decide) ?_
      refine sg_istore 24 [some (.inr (.inr (some (44, 0)))), some (.inl v1), some (.inl (0 : Int32)), some (.inl (-1 : Int32)), some (.inl (0 : Int32))] (sk_td o_X9_keepRule 15 rfl) rfl rfl (Nat.le_of_ble_eq_true rfl) rfl ?_
      exact lt_X9_keepRule_24 sk_fu (d, v1, (0 : Int32), (-1 : Int32), (0 : Int32)) _ hq
    · rw [if_pos hc] at hq
      refine sg_iconst (v := (0 : Int32)) 16 (sk_td o_X9_keepRule 8 rfl) rfl (by decide) ?_
      obtain rfl := Option.some.inj hq
      exact sg_iret (sk_td o_X9_keepRule 9 rfl) rfl rfl
def q_X9_keepRule (d : sk_D) (v1 : Int32) : Option (Int32 × sk_D) := q_X9_keepRule_0 d v1 
theorem s_X9_keepRule {l : Launch} {d : sk_D} {v1 : Int32} {res : Int32 × sk_D} (hq : q_X9_keepRule d v1 = some res) : sk_M l 3 m_X9_keepRule [.inr (.inr (some (44, 0))), .inl v1] (sk_mm d) (some (.inl res.1)) (sk_mm res.2) :=
  sk_enter (by decide) (fun _ => Nat.le_of_ble_eq_true rfl) (Nat.le_of_ble_eq_true rfl) (t_X9_keepRule_0 hq )
def q_X9_pupilMany_4 (rec4 : (Int32 × Int32) → Option (Int32)) (d : sk_D) (v1 : Int32) (v2 : Int32) : Option (Int32) :=
  if (20 : Int32) ≤ v2 then some v1 else if sk_bi v2 20 = true then (rec4 ((v1 + (d.1 45 0 v2.toNatClampNeg)), (v2 + (1 : Int32)))) else none
set_option maxRecDepth 100000 in
set_option maxHeartbeats 4000000 in
theorem t_X9_pupilMany_4 {l : Launch} {rec4 : (Int32 × Int32) → Option (Int32)} {d : sk_D} {v1 : Int32} {v2 : Int32} (hrec4 : ∀ (a : (Int32 × Int32)) (res : Int32), rec4 a = some res → sk_G l (sk_rm 1 0 0) m_X9_pupilMany sk_Ex0 (sk_Zm m_X9_pupilMany (some (.inl res)) (sk_mm d)) 0 0 4 [some (.inr (.inr (some (44, 0)))), some (.inl a.1), some (.inl a.2)] [] (sk_mm d)) {res : Int32} (hq : q_X9_pupilMany_4 rec4 d v1 v2 = some res) :
    sk_G l (sk_rm 1 0 0) m_X9_pupilMany sk_Ex0 (sk_Zm m_X9_pupilMany (some (.inl res)) (sk_mm d)) 0 0 4 [some (.inr (.inr (some (44, 0)))), some (.inl v1), some (.inl v2)] [] (sk_mm d) := by
  unfold q_X9_pupilMany_4 at hq
  refine sg_iload_n 5 (sk_td o_X9_pupilMany 4 rfl) rfl rfl ?_
  refine sg_bipush (v := (20 : Int32)) 7 (sk_td o_X9_pupilMany 5 rfl) rfl (by decide) ?_
  refine sg_ic_ge 25 10 (sk_td o_X9_pupilMany 6 rfl) (by decide) rfl (fun hc => ?_) (fun hc => ?_)
  · rw [if_pos hc] at hq
    refine sg_iload_n 26 (sk_td o_X9_pupilMany 16 rfl) rfl rfl ?_
    obtain rfl := Option.some.inj hq
    exact sg_iret (sk_td o_X9_pupilMany 17 rfl) rfl rfl
  · rw [if_neg hc] at hq
    refine sg_iload_n 11 (sk_td o_X9_pupilMany 7 rfl) rfl rfl ?_
    refine sg_aload_n 12 (sk_td o_X9_pupilMany 8 rfl) rfl rfl ?_
    refine sm_getR (45, 0) 15 (sk_td o_X9_pupilMany 9 rfl) rfl kf_X9_19 rfl rfl sz_44 rfl ?_
    refine sg_iload_n 16 (sk_td o_X9_pupilMany 10 rfl) rfl rfl ?_
    obtain ⟨hb1, hq⟩ := sk_ifn hq
    refine sm_iald 17 (sk_td o_X9_pupilMany 11 rfl) rfl rfl sz_45 hb1 ?_
    refine sg_iadd 18 (sk_td o_X9_pupilMany 12 rfl) rfl ?_
    refine sg_istore_n 19 [some (.inr (.inr (some (44, 0)))), some (.inl (v1 + (d.1 45 0 v2.toNatClampNeg))), some (.inl v2)] (sk_td o_X9_pupilMany 13 rfl) rfl rfl (Nat.le_of_ble_eq_true rfl) rfl ?_
    refine sg_iinc (v2 + (1 : Int32)) 22 [some (.inr (.inr (some (44, 0)))), some (.inl (v1 + (d.1 45 0 v2.toNatClampNeg))), some (.inl (v2 + (1 : Int32)))] (sk_td o_X9_pupilMany 14 rfl) rfl rfl rfl rfl (Nat.le_of_ble_eq_true rfl) rfl ?_
    refine sg_goto 4 (sk_td o_X9_pupilMany 15 rfl) (by decide) ?_
    exact hrec4 ((v1 + (d.1 45 0 v2.toNatClampNeg)), (v2 + (1 : Int32))) _ hq
def l_X9_pupilMany_4 (d : sk_D) (fl : Nat) (a : (Int32 × Int32)) : Option (Int32) := sk_it (fun rec4 a => q_X9_pupilMany_4 rec4 d a.1 a.2) fl a
theorem lt_X9_pupilMany_4 {l : Launch} {d : sk_D} : ∀ (fl : Nat) (a : (Int32 × Int32)) (res : Int32), l_X9_pupilMany_4 d fl a = some res → sk_G l (sk_rm 1 0 0) m_X9_pupilMany sk_Ex0 (sk_Zm m_X9_pupilMany (some (.inl res)) (sk_mm d)) 0 0 4 [some (.inr (.inr (some (44, 0)))), some (.inl a.1), some (.inl a.2)] [] (sk_mm d) :=
  sk_it_ind (P := fun (a : (Int32 × Int32)) (res : Int32) => sk_G l (sk_rm 1 0 0) m_X9_pupilMany sk_Ex0 (sk_Zm m_X9_pupilMany (some (.inl res)) (sk_mm d)) 0 0 4 [some (.inr (.inr (some (44, 0)))), some (.inl a.1), some (.inl a.2)] [] (sk_mm d)) (fun rec4 hrec4 a res hq  => t_X9_pupilMany_4 hrec4 hq )
def q_X9_pupilMany_0 (d : sk_D) : Option (Int32) :=
  (l_X9_pupilMany_4 d sk_fu ((0 : Int32), (0 : Int32)))
set_option maxRecDepth 100000 in
set_option maxHeartbeats 4000000 in
theorem t_X9_pupilMany_0 {l : Launch} {d : sk_D} {res : Int32} (hq : q_X9_pupilMany_0 d = some res) :
    sk_G l (sk_rm 1 0 0) m_X9_pupilMany sk_Ex0 (sk_Zm m_X9_pupilMany (some (.inl res)) (sk_mm d)) 0 0 0 [some (.inr (.inr (some (44, 0)))), none, none] [] (sk_mm d) := by
  unfold q_X9_pupilMany_0 at hq
  refine sg_iconst (v := (0 : Int32)) 1 (sk_td o_X9_pupilMany 0 rfl) rfl (by decide) ?_
  refine sg_istore_n 2 [some (.inr (.inr (some (44, 0)))), some (.inl (0 : Int32)), none] (sk_td o_X9_pupilMany 1 rfl) rfl rfl (Nat.le_of_ble_eq_true rfl) rfl ?_
  refine sg_iconst (v := (0 : Int32)) 3 (sk_td o_X9_pupilMany 2 rfl) rfl (by decide) ?_
  refine sg_istore_n 4 [some (.inr (.inr (some (44, 0)))), some (.inl (0 : Int32)), some (.inl (0 : Int32))] (sk_td o_X9_pupilMany 3 rfl) rfl rfl (Nat.le_of_ble_eq_true rfl) rfl ?_
  exact lt_X9_pupilMany_4 sk_fu ((0 : Int32), (0 : Int32)) _ hq
def q_X9_pupilMany (d : sk_D) : Option (Int32) := q_X9_pupilMany_0 d 
theorem s_X9_pupilMany {l : Launch} {d : sk_D} {res : Int32} (hq : q_X9_pupilMany d = some res) : sk_M l 1 m_X9_pupilMany [.inr (.inr (some (44, 0)))] (sk_mm d) (some (.inl res)) (sk_mm d) :=
  sk_enter (by decide) (fun _ => Nat.le_of_ble_eq_true rfl) (Nat.le_of_ble_eq_true rfl) (t_X9_pupilMany_0 hq )
