/-! decompiled: X7_tryFrom X7_findBest X8_freePupilNumber X8_isInOnePlace X8_separateIfBroken X8_addPupil X8_hasPupil X8_pupils X8_removePupil X8_level X8_languages X8_family X8_group X8_setTogether X8_spread X8_isExercise X8_score X8_scoreOf X8_setMarks X8_levelAfterTest X8_hasGroup X8_grade X8_nextDay X8_isGroupKind X8_freeGroupNumber X8_openGroup X8_closeGroup X8_groups -/
def q_X7_tryFrom_157 (rec68 : (sk_D × Int32 × Int32 × Int32 × Int32) → Option (sk_D)) (self : sk_D → Int32 → Int32 → Int32 → Option (sk_D)) (d : sk_D) (v1 : Int32) (v2 : Int32) (v3 : Int32) (v6 : Int32) : Option (sk_D) :=
  (rec68 (d, v1, v2, v3, (v6 + (1 : Int32))))
set_option maxRecDepth 100000 in
set_option maxHeartbeats 4000000 in
theorem t_X7_tryFrom_157 {l : Launch} {fu : Nat} {rec68 : (sk_D × Int32 × Int32 × Int32 × Int32) → Option (sk_D)} {self : sk_D → Int32 → Int32 → Int32 → Option (sk_D)} {d : sk_D} {v1 : Int32} {v2 : Int32} {v3 : Int32} {v6 : Int32} (hrec68 : ∀ (a : (sk_D × Int32 × Int32 × Int32 × Int32)) (res : sk_D), rec68 a = some res → sk_G l (sk_rm (fu + 3) 0 0) m_X7_tryFrom sk_Ex0 (sk_Zm m_X7_tryFrom none (sk_mm res)) 0 0 68 [some (.inr (.inr (some (19, 0)))), some (.inl a.2.1), some (.inl a.2.2.1), some (.inl a.2.2.2.1), some (.inr (.inr (some (2, 0)))), some (.inr (.inr (some (3, 0)))), some (.inl a.2.2.2.2), none] [] (sk_mm a.1)) (hself : ∀ (d : sk_D) (v1 : Int32) (v2 : Int32) (v3 : Int32) (res : sk_D), self d v1 v2 v3 = some res → sk_M l (fu + 2) m_X7_tryFrom [.inr (.inr (some (19, 0))), .inl v1, .inl v2, .inl v3, .inr (.inr (some (2, 0))), .inr (.inr (some (3, 0)))] (sk_mm d) none (sk_mm res)) {res : sk_D} (hq : q_X7_tryFrom_157 rec68 self d v1 v2 v3 v6 = some res) :
    sk_G l (sk_rm (fu + 3) 0 0) m_X7_tryFrom sk_Ex0 (sk_Zm m_X7_tryFrom none (sk_mm res)) 0 0 157 [some (.inr (.inr (some (19, 0)))), some (.inl v1), some (.inl v2), some (.inl v3), some (.inr (.inr (some (2, 0)))), some (.inr (.inr (some (3, 0)))), some (.inl v6), none] [] (sk_mm d) := by
  unfold q_X7_tryFrom_157 at hq
  refine sg_iinc (v6 + (1 : Int32)) 160 [some (.inr (.inr (some (19, 0)))), some (.inl v1), some (.inl v2), some (.inl v3), some (.inr (.inr (some (2, 0)))), some (.inr (.inr (some (3, 0)))), some (.inl (v6 + (1 : Int32))), none] (sk_td o_X7_tryFrom 93 rfl) rfl rfl rfl rfl (Nat.le_of_ble_eq_true rfl) rfl ?_
  refine sg_goto 68 (sk_td o_X7_tryFrom 94 rfl) (by decide) ?_
  exact hrec68 (d, v1, v2, v3, (v6 + (1 : Int32))) _ hq
def q_X7_tryFrom_146 (rec68 : (sk_D × Int32 × Int32 × Int32 × Int32) → Option (sk_D)) (self : sk_D → Int32 → Int32 → Int32 → Option (sk_D)) (d : sk_D) (v1 : Int32) (v2 : Int32) (v3 : Int32) (v6 : Int32) (s1 : Int32) (s2 : Int32) (s3 : Int32) (h4 : Nat) : Option (sk_D) :=
  (self d s1 s2 (s3 + (d.1 42 h4 4))).bind fun x1 => (q_X7_tryFrom_157 rec68 self x1 v1 v2 v3 v6)
set_option maxRecDepth 100000 in
set_option maxHeartbeats 4000000 in
theorem t_X7_tryFrom_146 {l : Launch} {fu : Nat} {rec68 : (sk_D × Int32 × Int32 × Int32 × Int32) → Option (sk_D)} {self : sk_D → Int32 → Int32 → Int32 → Option (sk_D)} {d : sk_D} {v1 : Int32} {v2 : Int32} {v3 : Int32} {v6 : Int32} {s1 : Int32} {s2 : Int32} {s3 : Int32} {h4 : Nat} (hrec68 : ∀ (a : (sk_D × Int32 × Int32 × Int32 × Int32)) (res : sk_D), rec68 a = some res → sk_G l (sk_rm (fu + 3) 0 0) m_X7_tryFrom sk_Ex0 (sk_Zm m_X7_tryFrom none (sk_mm res)) 0 0 68 [some (.inr (.inr (some (19, 0)))), some (.inl a.2.1), some (.inl a.2.2.1), some (.inl a.2.2.2.1), some (.inr (.inr (some (2, 0)))), some (.inr (.inr (some (3, 0)))), some (.inl a.2.2.2.2), none] [] (sk_mm a.1)) (hself : ∀ (d : sk_D) (v1 : Int32) (v2 : Int32) (v3 : Int32) (res : sk_D), self d v1 v2 v3 = some res → sk_M l (fu + 2) m_X7_tryFrom [.inr (.inr (some (19, 0))), .inl v1, .inl v2, .inl v3, .inr (.inr (some (2, 0))), .inr (.inr (some (3, 0)))] (sk_mm d) none (sk_mm res)) {res : sk_D} (hq : q_X7_tryFrom_146 rec68 self d v1 v2 v3 v6 s1 s2 s3 h4 = some res) (hk_h4 : h4 < sk_cnt 42) :
    sk_G l (sk_rm (fu + 3) 0 0) m_X7_tryFrom sk_Ex0 (sk_Zm m_X7_tryFrom none (sk_mm res)) 0 0 146 [some (.inr (.inr (some (19, 0)))), some (.inl v1), some (.inl v2), some (.inl v3), some (.inr (.inr (some (2, 0)))), some (.inr (.inr (some (3, 0)))), some (.inl v6), none] [.inr (.inr (some (42, h4))), .inl s3, .inl s2, .inl s1, .inr (.inr (some (19, 0)))] (sk_mm d) := by
  unfold q_X7_tryFrom_146 at hq
  refine sm_getI 149 (sk_td o_X7_tryFrom 88 rfl) rfl kf_X7_47 rfl rfl hk_h4 ?_
  refine sg_iadd 150 (sk_td o_X7_tryFrom 89 rfl) rfl ?_
  refine sg_aload 152 (sk_td o_X7_tryFrom 90 rfl) rfl rfl ?_
  refine sg_aload 154 (sk_td o_X7_tryFrom 91 rfl) rfl rfl ?_
  obtain ⟨x1, hr_x1, hq⟩ := sk_bnd hq
  refine sm_callS6v 157 (hself _ _ _ _ _ hr_x1) (sk_td o_X7_tryFrom 92 rfl) rfl ls_X7_27 rfl (sk_rok2 (by show (fu + 2) + 1 ≤ fu + 3; omega) (by show 8 + (8 + 11) + 60 * (fu + 2) ≤ 60 * (fu + 3); omega) rfl rfl) (Nat.le_of_ble_eq_true rfl) ?_
  exact t_X7_tryFrom_157 hrec68 hself hq
def q_X7_tryFrom_100 (rec68 : (sk_D × Int32 × Int32 × Int32 × Int32) → Option (sk_D)) (self : sk_D → Int32 → Int32 → Int32 → Option (sk_D)) (d : sk_D) (v1 : Int32) (v2 : Int32) (v3 : Int32) (v6 : Int32) (s0 : Int32) : Option (sk_D) :=
  if s0 = 0 then (q_X7_tryFrom_157 rec68 self d v1 v2 v3 v6) else if sk_bi v6 8 = true then if sk_bi v1 4 = true then (q_X1_teaches d v6.toNatClampNeg v1.toNatClampNeg).bind fun x3 => if x3 = 0 then (q_X7_tryFrom_157 rec68 self d v1 v2 v3 v6) else if sk_bi v1 4 = true then if sk_bi v6 8 = true then (q_X7_tryFrom_146 rec68 self (sk_wi d 22 0 v1.toNatClampNeg v6) v1 v2 v3 v6 (v1 + (1 : Int32)) (v2 ||| ((1 : Int32) <<< (v6 &&& 31))) v3 v6.toNatClampNeg) else none else none else none else none
set_option maxRecDepth 100000 in
set_option maxHeartbeats 4000000 in
theorem t_X7_tryFrom_100 {l : Launch} {fu : Nat} {rec68 : (sk_D × Int32 × Int32 × Int32 × Int32) → Option (sk_D)} {self : sk_D → Int32 → Int32 → Int32 → Option (sk_D)} {d : sk_D} {v1 : Int32} {v2 : Int32} {v3 : Int32} {v6 : Int32} {s0 : Int32} (hrec68 : ∀ (a : (sk_D × Int32 × Int32 × Int32 × Int32)) (res : sk_D), rec68 a = some res → sk_G l (sk_rm (fu + 3) 0 0) m_X7_tryFrom sk_Ex0 (sk_Zm m_X7_tryFrom none (sk_mm res)) 0 0 68 [some (.inr (.inr (some (19, 0)))), some (.inl a.2.1), some (.inl a.2.2.1), some (.inl a.2.2.2.1), some (.inr (.inr (some (2, 0)))), some (.inr (.inr (some (3, 0)))), some (.inl a.2.2.2.2), none] [] (sk_mm a.1)) (hself : ∀ (d : sk_D) (v1 : Int32) (v2 : Int32) (v3 : Int32) (res : sk_D), self d v1 v2 v3 = some res → sk_M l (fu + 2) m_X7_tryFrom [.inr (.inr (some (19, 0))), .inl v1, .inl v2, .inl v3, .inr (.inr (some (2, 0))), .inr (.inr (some (3, 0)))] (sk_mm d) none (sk_mm res)) {res : sk_D} (hq : q_X7_tryFrom_100 rec68 self d v1 v2 v3 v6 s0 = some res) :
    sk_G l (sk_rm (fu + 3) 0 0) m_X7_tryFrom sk_Ex0 (sk_Zm m_X7_tryFrom none (sk_mm res)) 0 0 100 [some (.inr (.inr (some (19, 0)))), some (.inl v1), some (.inl v2), some (.inl v3), some (.inr (.inr (some (2, 0)))), some (.inr (.inr (some (3, 0)))), some (.inl v6), none] [.inl s0] (sk_mm d) := by
  unfold q_X7_tryFrom_100 at hq
  refine sg_istore 102 [some (.inr (.inr (some (19, 0)))), some (.inl v1), some (.inl v2), some (.inl v3), some (.inr (.inr (some (2, 0)))), some (.inr (.inr (some (3, 0)))), some (.inl v6), some (.inl s0)] (sk_td o_X7_tryFrom 59 rfl) rfl rfl (Nat.le_of_ble_eq_true rfl) rfl ?_
  refine sg_iload 104 (sk_td o_X7_tryFrom 60 rfl) rfl rfl ?_
  refine sg_if_eq 157 107 (sk_td o_X7_tryFrom 61 rfl) (by decide) rfl (fun hc => ?_) (fun hc => ?_)
  · rw [if_pos hc] at hq
    refine sk_wk [true, true, true, true, true, true, true, false] (ls' := [some (.inr (.inr (some (19, 0)))), some (.inl v1), some (.inl v2), some (.inl v3), some (.inr (.inr (some (2, 0)))), some (.inr (.inr (some (3, 0)))), some (.inl v6), none]) rfl ?_
    exact t_X7_tryFrom_157 hrec68 hself hq
  · rw [if_neg hc] at hq
    refine sg_aload 109 (sk_td o_X7_tryFrom 62 rfl) rfl rfl ?_
    refine sg_iload 111 (sk_td o_X7_tryFrom 63 rfl) rfl rfl ?_
    obtain ⟨hb1, hq⟩ := sk_ifn hq
    refine sm_aald (42, v6.toNatClampNeg) 112 (sk_td o_X7_tryFrom 64 rfl) rfl rfl (by decide) sz_3 hb1 (sr_3 (sk_bi.lt hb1)) ?_
    refine sg_aload 114 (sk_td o_X7_tryFrom 65 rfl) rfl rfl ?_
    refine sg_iload_n 115 (sk_td o_X7_tryFrom 66 rfl) rfl rfl ?_
    obtain ⟨hb2, hq⟩ := sk_ifn hq
    refine sm_aald (39, v1.toNatClampNeg) 116 (sk_td o_X7_tryFrom 67 rfl) rfl rfl (by decide) sz_2 hb2 (sr_2 (sk_bi.lt hb2)) ?_
    obtain ⟨x3, hr_x3, hq⟩ := sk_bnd hq
    refine sm_callV1i 119 (s_X1_teaches hr_x3 (sk_bi.lt hb1) (sk_bi.lt hb2)) (sk_td o_X7_tryFrom 68 rfl) rfl lv_X7_43 rfl rfl rfl (sk_bi.lt hb1) (sk_rok2 (by show 2 + 1 ≤ fu + 3; omega) (by show 8 + (2 + 11) + 60 * 2 ≤ 60 * (fu + 3); omega) rfl rfl) (Nat.le_of_ble_eq_true rfl) ?_
    refine sg_if_eq 157 122 (sk_td o_X7_tryFrom 69 rfl) (by decide) rfl (fun hc => ?_) (fun hc => ?_)
    · rw [if_pos hc] at hq
      refine sk_wk [true, true, true, true, true, true, true, false] (ls' := [some (.inr (.inr (some (19, 0)))), some (.inl v1), some (.inl v2), some (.inl v3), some (.inr (.inr (some (2, 0)))), some (.inr (.inr (some (3, 0)))), some (.inl v6), none]) rfl ?_
      exact t_X7_tryFrom_157 hrec68 hself hq
    · rw [if_neg hc] at hq
      refine sg_aload_n 123 (sk_td o_X7_tryFrom 70 rfl) rfl rfl ?_
      refine sm_getR (22, 0) 126 (sk_td o_X7_tryFrom 71 rfl) rfl kf_X7_19 rfl rfl sz_19 rfl ?_
      refine sg_iload_n 127 (sk_td o_X7_tryFrom 72 rfl) rfl rfl ?_
      refine sg_iload 129 (sk_td o_X7_tryFrom 73 rfl) rfl rfl ?_
      obtain ⟨hb4, hq⟩ := sk_ifn hq
      refine sm_iast 130 (sk_td o_X7_tryFrom 74 rfl) rfl rfl sz_22 hb4 ?_
      refine sg_aload_n 131 (sk_td o_X7_tryFrom 75 rfl) rfl rfl ?_
      refine sg_iload_n 132 (sk_td o_X7_tryFrom 76 rfl) rfl rfl ?_
      refine sg_iconst (v := (1 : Int32)) 133 (sk_td o_X7_tryFrom 77 rfl) rfl (by decide) ?_
      refine sg_iadd 134 (sk_td o_X7_tryFrom 78 rfl) rfl ?_
      refine sg_iload_n 135 (sk_td o_X7_tryFrom 79 rfl) rfl rfl ?_
      refine sg_iconst (v := (1 : Int32)) 136 (sk_td o_X7_tryFrom 80 rfl) rfl (by decide) ?_
      refine sg_iload 138 (sk_td o_X7_tryFrom 81 rfl) rfl rfl ?_
      refine sg_ishl 139 (sk_td o_X7_tryFrom 82 rfl) rfl ?_
      refine sg_ior 140 (sk_td o_X7_tryFrom 83 rfl) rfl ?_
      refine sg_iload_n 141 (sk_td o_X7_tryFrom 84 rfl) rfl rfl ?_
      refine sg_aload 143 (sk_td o_X7_tryFrom 85 rfl) rfl rfl ?_
      refine sg_iload 145 (sk_td o_X7_tryFrom 86 rfl) rfl rfl ?_
      obtain ⟨hb5, hq⟩ := sk_ifn hq
      refine sm_aald (42, v6.toNatClampNeg) 146 (sk_td o_X7_tryFrom 87 rfl) rfl rfl (by decide) sz_3 hb5 (sr_3 (sk_bi.lt hb5)) ?_
      refine sk_wk [true, true, true, true, true, true, true, false] (ls' := [some (.inr (.inr (some (19, 0)))), some (.inl v1), some (.inl v2), some (.inl v3), some (.inr (.inr (some (2, 0)))), some (.inr (.inr (some (3, 0)))), some (.inl v6), none]) rfl ?_
      exact t_X7_tryFrom_146 hrec68 hself hq (sk_bi.lt hb5)
def q_X7_tryFrom_99 (rec68 : (sk_D × Int32 × Int32 × Int32 × Int32) → Option (sk_D)) (self : sk_D → Int32 → Int32 → Int32 → Option (sk_D)) (d : sk_D) (v1 : Int32) (v2 : Int32) (v3 : Int32) (v6 : Int32) : Option (sk_D) :=
  (q_X7_tryFrom_100 rec68 self d v1 v2 v3 v6 (0 : Int32))
set_option maxRecDepth 100000 in
set_option maxHeartbeats 4000000 in
theorem t_X7_tryFrom_99 {l : Launch} {fu : Nat} {rec68 : (sk_D × Int32 × Int32 × Int32 × Int32) → Option (sk_D)} {self : sk_D → Int32 → Int32 → Int32 → Option (sk_D)} {d : sk_D} {v1 : Int32} {v2 : Int32} {v3 : Int32} {v6 : Int32} (hrec68 : ∀ (a : (sk_D × Int32 × Int32 × Int32 × Int32)) (res : sk_D), rec68 a = some res → sk_G l (sk_rm (fu + 3) 0 0) m_X7_tryFrom sk_Ex0 (sk_Zm m_X7_tryFrom none (sk_mm res)) 0 0 68 [some (.inr (.inr (some (19, 0)))), some (.inl a.2.1), some (.inl a.2.2.1), some (.inl a.2.2.2.1), some (.inr (.inr (some (2, 0)))), some (.inr (.inr (some (3, 0)))), some (.inl a.2.2.2.2), none] [] (sk_mm a.1)) (hself : ∀ (d : sk_D) (v1 : Int32) (v2 : Int32) (v3 : Int32) (res : sk_D), self d v1 v2 v3 = some res → sk_M l (fu + 2) m_X7_tryFrom [.inr (.inr (some (19, 0))), .inl v1, .inl v2, .inl v3, .inr (.inr (some (2, 0))), .inr (.inr (some (3, 0)))] (sk_mm d) none (sk_mm res)) {res : sk_D} (hq : q_X7_tryFrom_99 rec68 self d v1 v2 v3 v6 = some res) :
    sk_G l (sk_rm (fu + 3) 0 0) m_X7_tryFrom sk_Ex0 (sk_Zm m_X7_tryFrom none (sk_mm res)) 0 0 99 [some (.inr (.inr (some (19, 0)))), some (.inl v1), some (.inl v2), some (.inl v3), some (.inr (.inr (some (2, 0)))), some (.inr (.inr (some (3, 0)))), some (.inl v6), none] [] (sk_mm d) := by
  unfold q_X7_tryFrom_99 at hq
  refine sg_iconst (v := (0 : Int32)) 100 (sk_td o_X7_tryFrom 58 rfl) rfl (by decide) ?_
  exact t_X7_tryFrom_100 hrec68 hself hq
def q_X7_tryFrom_68 (rec68 : (sk_D × Int32 × Int32 × Int32 × Int32) → Option (sk_D)) (self : sk_D → Int32 → Int32 → Int32 → Option (sk_D)) (d : sk_D) (v1 : Int32) (v2 : Int32) (v3 : Int32) (v6 : Int32) : Option (sk_D) :=
  if (8 : Int32) ≤ v6 then some d else if sk_bi v6 8 = true then if (d.1 42 v6.toNatClampNeg 0) = 0 then (q_X7_tryFrom_99 rec68 self d v1 v2 v3 v6) else if ((v2 >>> (v6 &&& 31)) &&& (1 : Int32)) = 0 then (q_X7_tryFrom_100 rec68 self d v1 v2 v3 v6 (1 : Int32)) else (q_X7_tryFrom_99 rec68 self d v1 v2 v3 v6) else none
set_option maxRecDepth 100000 in
set_option maxHeartbeats 4000000 in
theorem t_X7_tryFrom_68 {l : Launch} {fu : Nat} {rec68 : (sk_D × Int32 × Int32 × Int32 × Int32) → Option (sk_D)} {self : sk_D → Int32 → Int32 → Int32 → Option (sk_D)} {d : sk_D} {v1 : Int32} {v2 : Int32} {v3 : Int32} {v6 : Int32} (hrec68 : ∀ (a : (sk_D × Int32 × Int32 × Int32 × Int32)) (res : sk_D), rec68 a = some res → sk_G l (sk_rm (fu + 3) 0 0) m_X7_tryFrom sk_Ex0 (sk_Zm m_X7_tryFrom none (sk_mm res)) 0 0 68 [some (.inr (.inr (some (19, 0)))), some (.inl a.2.1), some (.inl a.2.2.1), some (.inl a.2.2.2.1), some (.inr (.inr (some (2, 0)))), some (.inr (.inr (some (3, 0)))), some (.inl a.2.2.2.2), none] [] (sk_mm a.1)) (hself : ∀ (d : sk_D) (v1 : Int32) (v2 : Int32) (v3 : Int32) (res : sk_D), self d v1 v2 v3 = some res → sk_M l (fu + 2) m_X7_tryFrom [.inr (.inr (some (19, 0))), .inl v1, .inl v2, .inl v3, .inr (.inr (some (2, 0))), .inr (.inr (some (3, 0)))] (sk_mm d) none (sk_mm res)) {res : sk_D} (hq : q_X7_tryFrom_68 rec68 self d v1 v2 v3 v6 = some res) :
    sk_G l (sk_rm (fu + 3) 0 0) m_X7_tryFrom sk_Ex0 (sk_Zm m_X7_tryFrom none (sk_mm res)) 0 0 68 [some (.inr (.inr (some (19, 0)))), some (.inl v1), some (.inl v2), some (.inl v3), some (.inr (.inr (some (2, 0)))), some (.inr (.inr (some (3, 0)))), some (.inl v6), none] [] (sk_mm d) := by
  unfold q_X7_tryFrom_68 at hq
  refine sg_iload 70 (sk_td o_X7_tryFrom 42 rfl) rfl rfl ?_
  refine sg_bipush (v := (8 : Int32)) 72 (sk_td o_X7_tryFrom 43 rfl) rfl (by decide) ?_
  refine sg_ic_ge 163 75 (sk_td o_X7_tryFrom 44 rfl) (by decide) rfl (fun hc => ?_) (fun hc => ?_)
  · rw [if_pos hc] at hq
    obtain rfl := Option.some.inj hq
    exact sg_vret (sk_td o_X7_tryFrom 95 rfl) rfl
  · rw [if_neg hc] at hq
    refine sg_aload 77 (sk_td o_X7_tryFrom 45 rfl) rfl rfl ?_
    refine sg_iload 79 (sk_td o_X7_tryFrom 46 rfl) rfl rfl ?_
    obtain ⟨hb1, hq⟩ := sk_ifn hq
    refine sm_aald (42, v6.toNatClampNeg) 80 (sk_td o_X7_tryFrom 47 rfl) rfl rfl (by decide) sz_3 hb1 (sr_3 (sk_bi.lt hb1)) ?_
    refine sm_getI 83 (sk_td o_X7_tryFrom 48 rfl) rfl kf_X7_37 rfl rfl (sk_bi.lt hb1) ?_
    refine sg_if_eq 99 86 (sk_td o_X7_tryFrom 49 rfl) (by decide) rfl (fun hc => ?_) (fun hc => ?_)
    · rw [if_pos hc] at hq
      exact t_X7_tryFrom_99 hrec68 hself hq
    · rw [if_neg hc] at hq
      refine sg_iload_n 87 (sk_td o_X7_tryFrom 50 rfl) rfl rfl ?_
      refine sg_iload 89 (sk_td o_X7_tryFrom 51 rfl) rfl rfl ?_
      refine sg_ishr 90 (sk_td o_X7_tryFrom 52 rfl) rfl ?_
      refine sg_iconst (v := (1 : Int32)) 91 (sk_td o_X7_tryFrom 53 rfl) rfl (by decide) ?_
      refine sg_iand 92 (sk_td o_X7_tryFrom 54 rfl) rfl ?_
      refine sg_if_ne 99 95 (sk_td o_X7_tryFrom 55 rfl) (by decide) rfl (fun hc => ?_) (fun hc => ?_)
      · rw [if_neg hc] at hq
        exact t_X7_tryFrom_99 hrec68 hself hq
      · rw [if_pos hc] at hq
        refine sg_iconst (v := (1 : Int32)) 96 (sk_td o_X7_tryFrom 56 rfl) rfl (by decide) ?_
        refine sg_goto 100 (sk_td o_X7_tryFrom 57 rfl) (by decide) ?_
        exact t_X7_tryFrom_100 hrec68 hself hq
def l_X7_tryFrom_68 (self : sk_D → Int32 → Int32 → Int32 → Option (sk_D)) (fl : Nat) (a : (sk_D × Int32 × Int32 × Int32 × Int32)) : Option (sk_D) := sk_it (fun rec68 a => q_X7_tryFrom_68 rec68 self a.1 a.2.1 a.2.2.1 a.2.2.2.1 a.2.2.2.2) fl a
theorem lt_X7_tryFrom_68 {l : Launch} {fu : Nat} {self : sk_D → Int32 → Int32 → Int32 → Option (sk_D)} (hself : ∀ (d : sk_D) (v1 : Int32) (v2 : Int32) (v3 : Int32) (res : sk_D), self d v1 v2 v3 = some res → sk_M l (fu + 2) m_X7_tryFrom [.inr (.inr (some (19, 0))), .inl v1, .inl v2, .inl v3, .inr (.inr (some (2, 0))), .inr (.inr (some (3, 0)))] (sk_mm d) none (sk_mm res)) : ∀ (fl : Nat) (a : (sk_D × Int32 × Int32 × Int32 × Int32)) (res : sk_D), l_X7_tryFrom_68 self fl a = some res → sk_G l (sk_rm (fu + 3) 0 0) m_X7_tryFrom sk_Ex0 (sk_Zm m_X7_tryFrom none (sk_mm res)) 0 0 68 [some (.inr (.inr (some (19, 0)))), some (.inl a.2.1), some (.inl a.2.2.1), some (.inl a.2.2.2.1), some (.inr (.inr (some (2, 0)))), some (.inr (.inr (some (3, 0)))), some (.inl a.2.2.2.2), none] [] (sk_mm a.1) :=
  sk_it_ind (P := fun (a : (sk_D × Int32 × Int32 × Int32 × Int32)) (res : sk_D) => sk_G l (sk_rm (fu + 3) 0 0) m_X7_tryFrom sk_Ex0 (sk_Zm m_X7_tryFrom none (sk_mm res)) 0 0 68 [some (.inr (.inr (some (19, 0)))), some (.inl a.2.1), some (.inl a.2.2.1), some (.inl a.2.2.2.1), some (.inr (.inr (some (2, 0)))), some (.inr (.inr (some (3, 0)))), some (.inl a.2.2.2.2), none] [] (sk_mm a.1)) (fun rec68 hrec68 a res hq  => t_X7_tryFrom_68 hrec68 hself hq )
def q_X7_tryFrom_47 (self : sk_D → Int32 → Int32 → Int32 → Option (sk_D)) (d : sk_D) (v1 : Int32) (v2 : Int32) (v3 : Int32) (s1 : Int32) : Option (sk_D) :=
  if sk_bi s1 4 = true then if (d.1 20 0 s1.toNatClampNeg) = 0 then (self d (v1 + (1 : Int32)) v2 v3).bind fun x2 => some x2 else (l_X7_tryFrom_68 self sk_fu (d, v1, v2, v3, (0 : Int32))) else none
set_option maxRecDepth 100000 in
set_option maxHeartbeats 4000000 in
theorem t_X7_tryFrom_47 {l : Launch} {fu : Nat} {self : sk_D → Int32 → Int32 → Int32 → Option (sk_D)} {d : sk_D} {v1 : Int32} {v2 : Int32} {v3 : Int32} {s1 : Int32} (hself : ∀ (d : sk_D) (v1 : Int32) (v2 : Int32) (v3 : Int32) (res : sk_D), self d v1 v2 v3 = some res → sk_M l (fu + 2) m_X7_tryFrom [.inr (.inr (some (19, 0))), .inl v1, .inl v2, .inl v3, .inr (.inr (some (2, 0))), .inr (.inr (some (3, 0)))] (sk_mm d) none (sk_mm res)) {res : sk_D} (hq : q_X7_tryFrom_47 self d v1 v2 v3 s1 = some res) :
    sk_G l (sk_rm (fu + 3) 0 0) m_X7_tryFrom sk_Ex0 (sk_Zm m_X7_tryFrom none (sk_mm res)) 0 0 47 [some (.inr (.inr (some (19, 0)))), some (.inl v1), some (.inl v2), some (.inl v3), some (.inr (.inr (some (2, 0)))), some (.inr (.inr (some (3, 0)))), none, none] [.inl s1, .inr (.inr (some (20, 0)))] (sk_mm d) := by
  unfold q_X7_tryFrom_47 at hq
  obtain ⟨hb1, hq⟩ := sk_ifn hq
  refine sm_zald 48 (sk_td o_X7_tryFrom 28 rfl) rfl rfl sz_20 hb1 ?_
  refine sg_if_ne 65 51 (sk_td o_X7_tryFrom 29 rfl) (by decide) rfl (fun hc => ?_) (fun hc => ?_)
  · rw [if_neg hc] at hq
    refine sg_iconst (v := (0 : Int32)) 66 (sk_td o_X7_tryFrom 40 rfl) rfl (by decide) ?_
    refine sg_istore 68 [some (.inr (.inr (some (19, 0)))), some (.inl v1), some (.inl v2), some (.inl v3), some (.inr (.inr (some (2, 0)))), some (.inr (.inr (some (3, 0)))), some (.inl (0 : Int32)), none] (sk_td o_X7_tryFrom 41 rfl) rfl rfl (Nat.le_of_ble_eq_true rfl) rfl ?_
    exact lt_X7_tryFrom_68 hself sk_fu (d, v1, v2, v3, (0 : Int32)) _ hq
  · rw [if_pos hc] at hq
    refine sg_aload_n 52 (sk_td o_X7_tryFrom 30 rfl) rfl rfl ?_
    refine sg_iload_n 53 (sk_td o_X7_tryFrom 31 rfl) rfl rfl ?_
    refine sg_iconst (v := (1 : Int32)) 54 (sk_td o_X7_tryFrom 32 rfl) rfl (by decide) ?_
    refine sg_iadd 55 (sk_td o_X7_tryFrom 33 rfl) rfl ?_
    refine sg_iload_n 56 (sk_td o_X7_tryFrom 34 rfl) rfl rfl ?_
    refine sg_iload_n 57 (sk_td o_X7_tryFrom 35 rfl) rfl rfl ?_
    refine sg_aload 59 (sk_td o_X7_tryFrom 36 rfl) rfl rfl ?_
    refine sg_aload 61 (sk_td o_X7_tryFrom 37 rfl) rfl rfl ?_
    obtain ⟨x2, hr_x2, hq⟩ := sk_bnd hq
    refine sm_callS6v 64 (hself _ _ _ _ _ hr_x2) (sk_td o_X7_tryFrom 38 rfl) rfl ls_X7_27 rfl (sk_rok2 (by show (fu + 2) + 1 ≤ fu + 3; omega) (by show 8 + (8 + 11) + 60 * (fu + 2) ≤ 60 * (fu + 3); omega) rfl rfl) (Nat.le_of_ble_eq_true rfl) ?_
    obtain rfl := Option.some.inj hq
    exact sg_vret (sk_td o_X7_tryFrom 39 rfl) rfl
def q_X7_tryFrom_30 (self : sk_D → Int32 → Int32 → Int32 → Option (sk_D)) (d : sk_D) : Option (sk_D) :=
  some (sk_wf d 21 0 (va_cpy (d.1 22 0) (d.1 21 0) 0 0 4))
set_option maxRecDepth 100000 in
set_option maxHeartbeats 4000000 in
theorem t_X7_tryFrom_30 {l : Launch} {fu : Nat} {self : sk_D → Int32 → Int32 → Int32 → Option (sk_D)} {d : sk_D} (hself : ∀ (d : sk_D) (v1 : Int32) (v2 : Int32) (v3 : Int32) (res : sk_D), self d v1 v2 v3 = some res → sk_M l (fu + 2) m_X7_tryFrom [.inr (.inr (some (19, 0))), .inl v1, .inl v2, .inl v3, .inr (.inr (some (2, 0))), .inr (.inr (some (3, 0)))] (sk_mm d) none (sk_mm res)) {res : sk_D} (hq : q_X7_tryFrom_30 self d = some res) :
    sk_G l (sk_rm (fu + 3) 0 0) m_X7_tryFrom sk_Ex0 (sk_Zm m_X7_tryFrom none (sk_mm res)) 0 0 30 [none, none, none, none, none, none, none, none] [.inl (4 : Int32), .inl (0 : Int32), .inr (.inr (some (21, 0))), .inl (0 : Int32), .inr (.inr (some (22, 0)))] (sk_mm d) := by
  unfold q_X7_tryFrom_30 at hq
  refine sm_copy 33 (sk_td o_X7_tryFrom 18 rfl) rfl ka_X7_31 sk_acN sk_acS sk_acI rfl rfl sz_22 sz_21 (by decide) (by decide) (by show 1 ≤ fu + 3; omega) (by show 40 ≤ 60 * (fu + 3); omega) (Nat.le_of_ble_eq_true rfl) ?_
  obtain rfl := Option.some.inj hq
  exact sg_vret (sk_td o_X7_tryFrom 19 rfl) rfl
def q_X7_tryFrom_0 (self : sk_D → Int32 → Int32 → Int32 → Option (sk_D)) (d : sk_D) (v1 : Int32) (v2 : Int32) (v3 : Int32) : Option (sk_D) :=
  if v3 < (d.1 19 0 3) then if v1 < (4 : Int32) then if sk_bi v1 4 = true then (q_X7_tryFrom_47 self (sk_wi d 22 0 v1.toNatClampNeg (-9 : Int32)) v1 v2 v3 v1) else none else (q_X7_tryFrom_30 self (sk_wi d 19 0 3 v3)) else some d
set_option maxRecDepth 100000 in
set_option maxHeartbeats 4000000 in
theorem t_X7_tryFrom_0 {l : Launch} {fu : Nat} {self : sk_D → Int32 → Int32 → Int32 → Option (sk_D)} {d : sk_D} {v1 : Int32} {v2 : Int32} {v3 : Int32} (hself : ∀ (d : sk_D) (v1 : Int32) (v2 : Int32) (v3 : Int32) (res : sk_D), self d v1 v2 v3 = some res → sk_M l (fu + 2) m_X7_tryFrom [.inr (.inr (some (19, 0))), .inl v1, .inl v2, .inl v3, .inr (.inr (some (2, 0))), .inr (.inr (some (3, 0)))] (sk_mm d) none (sk_mm res)) {res : sk_D} (hq : q_X7_tryFrom_0 self d v1 v2 v3 = some res) :
    sk_G l (sk_rm (fu + 3) 0 0) m_X7_tryFrom sk_Ex0 (sk_Zm m_X7_tryFrom none (sk_mm res)) 0 0 0 [some (.inr (.inr (some (19, 0)))), some (.inl v1), some (.inl v2), some (.inl v3), some (.inr (.inr (some (2, 0)))), some (.inr (.inr (some (3, 0)))), none, none] [] (sk_mm d) := by
  unfold q_X7_tryFrom_0 at hq
  refine sg_iload_n 1 (sk_td o_X7_tryFrom 0 rfl) rfl rfl ?_
  refine sg_aload_n 2 (sk_td o_X7_tryFrom 1 rfl) rfl rfl ?_
  refine sm_getI 5 (sk_td o_X7_tryFrom 2 rfl) rfl kf_X7_23 rfl rfl sz_19 ?_
  refine sg_ic_lt 9 8 (sk_td o_X7_tryFrom 3 rfl) (by decide) rfl (fun hc => ?_) (fun hc => ?_)
  · rw [if_pos hc] at hq
    refine sg_iload_n 10 (sk_td o_X7_tryFrom 5 rfl) rfl rfl ?_
    refine sg_iconst (v := (4 : Int32)) 11 (sk_td o_X7_tryFrom 6 rfl) rfl (by decide) ?_
    refine sg_ic_lt 34 14 (sk_td o_X7_tryFrom 7 rfl) (by decide) rfl (fun hc => ?_) (fun hc => ?_)
    · rw [if_pos hc] at hq
      refine sg_aload_n 35 (sk_td o_X7_tryFrom 20 rfl) rfl rfl ?_
      refine sm_getR (22, 0) 38 (sk_td o_X7_tryFrom 21 rfl) rfl kf_X7_19 rfl rfl sz_19 rfl ?_
      refine sg_iload_n 39 (sk_td o_X7_tryFrom 22 rfl) rfl rfl ?_
      refine sg_bipush (v := (-9 : Int32)) 41 (sk_td o_X7_tryFrom 23 rfl) rfl (by decide) ?_
      obtain ⟨hb1, hq⟩ := sk_ifn hq
      refine sm_iast 42 (sk_td o_X7_tryFrom 24 rfl) rfl rfl sz_22 hb1 ?_
      refine sg_aload_n 43 (sk_td o_X7_tryFrom 25 rfl) rfl rfl ?_
      refine sm_getR (20, 0) 46 (sk_td o_X7_tryFrom 26 rfl) rfl kf_X7_9 rfl rfl sz_19 rfl ?_
      refine sg_iload_n 47 (sk_td o_X7_tryFrom 27 rfl) rfl rfl ?_
      exact t_X7_tryFrom_47 hself hq
    · rw [if_neg hc] at hq
      refine sg_aload_n 15 (sk_td o_X7_tryFrom 8 rfl) rfl rfl ?_
      refine sg_iload_n 16 (sk_td o_X7_tryFrom 9 rfl) rfl rfl ?_
      refine sm_putI 19 (sk_td o_X7_tryFrom 10 rfl) rfl kp_X7_23 rfl rfl sz_19 ?_
      refine sg_aload_n 20 (sk_td o_X7_tryFrom 11 rfl) rfl rfl ?_
      refine sm_getR (22, 0) 23 (sk_td o_X7_tryFrom 12 rfl) rfl kf_X7_19 rfl rfl sz_19 rfl ?_
      refine sg_iconst (v := (0 : Int32)) 24 (sk_td o_X7_tryFrom 13 rfl) rfl (by decide) ?_
      refine sg_aload_n 25 (sk_td o_X7_tryFrom 14 rfl) rfl rfl ?_
      refine sm_getR (21, 0) 28 (sk_td o_X7_tryFrom 15 rfl) rfl kf_X7_15 rfl rfl sz_19 rfl ?_
      refine sg_iconst (v := (0 : Int32)) 29 (sk_td o_X7_tryFrom 16 rfl) rfl (by decide) ?_
      refine sg_iconst (v := (4 : Int32)) 30 (sk_td o_X7_tryFrom 17 rfl) rfl (by decide) ?_
      refine sk_wk [false, false, false, false, false, false, true, true] (ls' := [none, none, none, none, none, none, none, none]) rfl ?_
      exact t_X7_tryFrom_30 hself hq
  · rw [if_neg hc] at hq
    obtain rfl := Option.some.inj hq
    exact sg_vret (sk_td o_X7_tryFrom 4 rfl) rfl
def q_X7_tryFrom : Nat → sk_D → Int32 → Int32 → Int32 → Option (sk_D)
  | 0 => fun _ _ _ _ => none
  | fu + 1 => fun d v1 v2 v3 => q_X7_tryFrom_0 (q_X7_tryFrom fu) d v1 v2 v3 
theorem s_X7_tryFrom {l : Launch} : ∀ {fu : Nat} {d : sk_D} {v1 : Int32} {v2 : Int32} {v3 : Int32} {res : sk_D} (hq : q_X7_tryFrom fu d v1 v2 v3 = some res) , sk_M l (fu + 2) m_X7_tryFrom [.inr (.inr (some (19, 0))), .inl v1, .inl v2, .inl v3, .inr (.inr (some (2, 0))), .inr (.inr (some (3, 0)))] (sk_mm d) none (sk_mm res)
  | 0, _, _, _, _, _, hq => by cases hq
  | fu + 1, d, v1, v2, v3, res, hq => by
    have h : sk_M l (fu + 3) m_X7_tryFrom [.inr (.inr (some (19, 0))), .inl v1, .inl v2, .inl v3, .inr (.inr (some (2, 0))), .inr (.inr (some (3, 0)))] (sk_mm d) none (sk_mm res) := sk_enter (by decide) (fun _ => Nat.le_of_ble_eq_true rfl) (Nat.le_of_ble_eq_true rfl) (t_X7_tryFrom_0 (fun d v1 v2 v3  res hq => s_X7_tryFrom hq) hq )
    rw [show fu + 1 + 2 = fu + 3 by omega]
    exact h
def q_X7_findBest_12 (d : sk_D) : Option (Int32 × sk_D) :=
  (q_X7_tryFrom 9 d (0 : Int32) (0 : Int32) (0 : Int32)).bind fun x1 => if (x1.1 19 0 3) = (3999997 : Int32) then some ((-9 : Int32), x1) else some ((x1.1 19 0 3), x1)
set_option maxRecDepth 100000 in
set_option maxHeartbeats 4000000 in
theorem t_X7_findBest_12 {l : Launch} {d : sk_D} {res : Int32 × sk_D} (hq : q_X7_findBest_12 d = some res) :
    sk_G l (sk_rm 12 0 0) m_X7_findBest sk_Ex0 (sk_Zm m_X7_findBest (some (.inl res.1)) (sk_mm res.2)) 0 0 12 [some (.inr (.inr (some (19, 0)))), none, none] [.inr (.inr (some (3, 0))), .inr (.inr (some (2, 0))), .inl (0 : Int32), .inl (0 : Int32), .inl (0 : Int32), .inr (.inr (some (19, 0)))] (sk_mm d) := by
  unfold q_X7_findBest_12 at hq
  obtain ⟨x1, hr_x1, hq⟩ := sk_bnd hq
  refine sm_callS6v 15 (s_X7_tryFrom (fu := 9) hr_x1) (sk_td o_X7_findBest 9 rfl) rfl ls_X7_27 rfl (sk_rok (Nat.le_of_ble_eq_true rfl) (Nat.le_of_ble_eq_true rfl) rfl rfl) (Nat.le_of_ble_eq_true rfl) ?_
  refine sg_aload_n 16 (sk_td o_X7_findBest 10 rfl) rfl rfl ?_
  refine sm_getI 19 (sk_td o_X7_findBest 11 rfl) rfl kf_X7_23 rfl rfl sz_19 ?_
  refine sg_ldc 21 (sk_td o_X7_findBest 12 rfl) rfl kc_X7_22 ?_
  refine sg_ic_ne 29 24 (sk_td o_X7_findBest 13 rfl) (by decide) rfl (fun hc => ?_) (fun hc => ?_)
  · rw [if_neg hc] at hq
    refine sg_aload_n 30 (sk_td o_X7_findBest 16 rfl) rfl rfl ?_
    refine sm_getI 33 (sk_td o_X7_findBest 17 rfl) rfl kf_X7_23 rfl rfl sz_19 ?_
    obtain rfl := Option.some.inj hq
    exact sg_iret (sk_td o_X7_findBest 18 rfl) rfl rfl
  · rw [if_pos hc] at hq
    refine sg_bipush (v := (-9 : Int32)) 26 (sk_td o_X7_findBest 14 rfl) rfl (by decide) ?_
    refine sg_goto 33 (sk_td o_X7_findBest 15 rfl) (by decide) ?_
    obtain rfl := Option.some.inj hq
    exact sg_iret (sk_td o_X7_findBest 18 rfl) rfl rfl
def q_X7_findBest_0 (d : sk_D) : Option (Int32 × sk_D) :=
  (q_X7_findBest_12 (sk_wi d 19 0 3 (3999997 : Int32)))
set_option maxRecDepth 100000 in
set_option maxHeartbeats 4000000 in
theorem t_X7_findBest_0 {l : Launch} {d : sk_D} {res : Int32 × sk_D} (hq : q_X7_findBest_0 d = some res) :
    sk_G l (sk_rm 12 0 0) m_X7_findBest sk_Ex0 (sk_Zm m_X7_findBest (some (.inl res.1)) (sk_mm res.2)) 0 0 0 [some (.inr (.inr (some (19, 0)))), some (.inr (.inr (some (2, 0)))), some (.inr (.inr (some (3, 0))))] [] (sk_mm d) := by
  unfold q_X7_findBest_0 at hq
  refine sg_aload_n 1 (sk_td o_X7_findBest 0 rfl) rfl rfl ?_
  refine sg_ldc 3 (sk_td o_X7_findBest 1 rfl) rfl kc_X7_22 ?_
  refine sm_putI 6 (sk_td o_X7_findBest 2 rfl) rfl kp_X7_23 rfl rfl sz_19 ?_
  refine sg_aload_n 7 (sk_td o_X7_findBest 3 rfl) rfl rfl ?_
  refine sg_iconst (v := (0 : Int32)) 8 (sk_td o_X7_findBest 4 rfl) rfl (by decide) ?_
  refine sg_iconst (v := (0 : Int32)) 9 (sk_td o_X7_findBest 5 rfl) rfl (by decide) ?_
  refine sg_iconst (v := (0 : Int32)) 10 (sk_td o_X7_findBest 6 rfl) rfl (by decide) ?_
  refine sg_aload_n 11 (sk_td o_X7_findBest 7 rfl) rfl rfl ?_
  refine sg_aload_n 12 (sk_td o_X7_findBest 8 rfl) rfl rfl ?_
  refine sk_wk [true, false, false] (ls' := [some (.inr (.inr (some (19, 0)))), none, none]) rfl ?_
  exact t_X7_findBest_12 hq
def q_X7_findBest (d : sk_D) : Option (Int32 × sk_D) := q_X7_findBest_0 d 
theorem s_X7_findBest {l : Launch} {d : sk_D} {res : Int32 × sk_D} (hq : q_X7_findBest d = some res) : sk_M l 12 m_X7_findBest [.inr (.inr (some (19, 0))), .inr (.inr (some (2, 0))), .inr (.inr (some (3, 0)))] (sk_mm d) (some (.inl res.1)) (sk_mm res.2) :=
  sk_enter (by decide) (fun _ => Nat.le_of_ble_eq_true rfl) (Nat.le_of_ble_eq_true rfl) (t_X7_findBest_0 hq )
def q_X8_freePupilNumber_2 (rec2 : (Int32) → Option (Int32)) (d : sk_D) (v1 : Int32) : Option (Int32) :=
  if (20 : Int32) ≤ v1 then some (-9 : Int32) else if sk_bi v1 20 = true then if (d.1 37 v1.toNatClampNeg 0) = 0 then some v1 else (rec2 (v1 + (1 : Int32))) else none
set_option maxRecDepth 100000 in
set_option maxHeartbeats 4000000 in
theorem t_X8_freePupilNumber_2 {l : Launch} {rec2 : (Int32) → Option (Int32)} {d : sk_D} {v1 : Int32} (hrec2 : ∀ (a : (Int32)) (res : Int32), rec2 a = some res → sk_G l (sk_rm 1 0 0) m_X8_freePupilNumber sk_Ex0 (sk_Zm m_X8_freePupilNumber (some (.inl res)) (sk_mm d)) 0 0 2 [some (.inr (.inr (some (0, 0)))), some (.inl a)] [] (sk_mm d)) {res : Int32} (hq : q_X8_freePupilNumber_2 rec2 d v1 = some res) :
    sk_G l (sk_rm 1 0 0) m_X8_freePupilNumber sk_Ex0 (sk_Zm m_X8_freePupilNumber (some (.inl res)) (sk_mm d)) 0 0 2 [some (.inr (.inr (some (0, 0)))), some (.inl v1)] [] (sk_mm d) := by
  unfold q_X8_freePupilNumber_2 at hq
  refine sg_iload_n 3 (sk_td o_X8_freePupilNumber 2 rfl) rfl rfl ?_
  refine sg_bipush (v := (20 : Int32)) 5 (sk_td o_X8_freePupilNumber 3 rfl) rfl (by decide) ?_
  refine sg_ic_ge 28 8 (sk_td o_X8_freePupilNumber 4 rfl) (by decide) rfl (fun hc => ?_) (fun hc => ?_)
  · rw [if_pos hc] at hq
    refine sg_bipush (v := (-9 : Int32)) 30 (sk_td o_X8_freePupilNumber 15 rfl) rfl (by decide) ?_
    obtain rfl := Option.some.inj hq
    exact sg_iret (sk_td o_X8_freePupilNumber 16 rfl) rfl rfl
  · rw [if_neg hc] at hq
    refine sg_aload_n 9 (sk_td o_X8_freePupilNumber 5 rfl) rfl rfl ?_
    refine sm_getR (1, 0) 12 (sk_td o_X8_freePupilNumber 6 rfl) rfl kf_X8_11 rfl rfl sz_0 rfl ?_
    refine sg_iload_n 13 (sk_td o_X8_freePupilNumber 7 rfl) rfl rfl ?_
    obtain ⟨hb1, hq⟩ := sk_ifn hq
    refine sm_aald (37, v1.toNatClampNeg) 14 (sk_td o_X8_freePupilNumber 8 rfl) rfl rfl (by decide) sz_1 hb1 (sr_1 (sk_bi.lt hb1)) ?_
    refine sm_getI 17 (sk_td o_X8_freePupilNumber 9 rfl) rfl kf_X8_108 rfl rfl (sk_bi.lt hb1) ?_
    refine sg_if_ne 22 20 (sk_td o_X8_freePupilNumber 10 rfl) (by decide) rfl (fun hc => ?_) (fun hc => ?_)
    · rw [if_neg hc] at hq
      refine sg_iinc (v1 + (1 : Int32)) 25 [some (.inr (.inr (some (0, 0)))), some (.inl (v1 + (1 : Int32)))] (sk_td o_X8_freePupilNumber 13 rfl) rfl rfl rfl rfl (Nat.le_of_ble_eq_true rfl) rfl ?_
      refine sg_goto 2 (sk_td o_X8_freePupilNumber 14 rfl) (by decide) ?_
      exact hrec2 (v1 + (1 : Int32)) _ hq
    · rw [if_pos hc] at hq
      refine sg_iload_n 21 (sk_td o_X8_freePupilNumber 11 rfl) rfl rfl ?_
      obtain rfl := Option.some.inj hq
      exact sg_iret (sk_td o_X8_freePupilNumber 12 rfl) rfl rfl
def l_X8_freePupilNumber_2 (d : sk_D) (fl : Nat) (a : (Int32)) : Option (Int32) := sk_it (fun rec2 a => q_X8_freePupilNumber_2 rec2 d a) fl a
theorem lt_X8_freePupilNumber_2 {l : Launch} {d : sk_D} : ∀ (fl : Nat) (a : (Int32)) (res : Int32), l_X8_freePupilNumber_2 d fl a = some res → sk_G l (sk_rm 1 0 0) m_X8_freePupilNumber sk_Ex0 (sk_Zm m_X8_freePupilNumber (some (.inl res)) (sk_mm d)) 0 0 2 [some (.inr (.inr (some (0, 0)))), some (.inl a)] [] (sk_mm d) :=
  sk_it_ind (P := fun (a : (Int32)) (res : Int32) => sk_G l (sk_rm 1 0 0) m_X8_freePupilNumber sk_Ex0 (sk_Zm m_X8_freePupilNumber (some (.inl res)) (sk_mm d)) 0 0 2 [some (.inr (.inr (some (0, 0)))), some (.inl a)] [] (sk_mm d)) (fun rec2 hrec2 a res hq  => t_X8_freePupilNumber_2 hrec2 hq )
def q_X8_freePupilNumber_0 (d : sk_D) : Option (Int32) :=
  (l_X8_freePupilNumber_2 d sk_fu (0 : Int32))
set_option maxRecDepth 100000 in
set_option maxHeartbeats 4000000 in
theorem t_X8_freePupilNumber_0 {l : Launch} {d : sk_D} {res : Int32} (hq : q_X8_freePupilNumber_0 d = some res) :
    sk_G l (sk_rm 1 0 0) m_X8_freePupilNumber sk_Ex0 (sk_Zm m_X8_freePupilNumber (some (.inl res)) (sk_mm d)) 0 0 0 [some (.inr (.inr (some (0, 0)))), none] [] (sk_mm d) := by
  unfold q_X8_freePupilNumber_0 at hq
  refine sg_iconst (v := (0 : Int32)) 1 (sk_td o_X8_freePupilNumber 0 rfl) rfl (by decide) ?_
  refine sg_istore_n 2 [some (.inr (.inr (some (0, 0)))), some (.inl (0 : Int32))] (sk_td o_X8_freePupilNumber 1 rfl) rfl rfl (Nat.le_of_ble_eq_true rfl) rfl ?_
  exact lt_X8_freePupilNumber_2 sk_fu (0 : Int32) _ hq
def q_X8_freePupilNumber (d : sk_D) : Option (Int32) := q_X8_freePupilNumber_0 d 
theorem s_X8_freePupilNumber {l : Launch} {d : sk_D} {res : Int32} (hq : q_X8_freePupilNumber d = some res) : sk_M l 1 m_X8_freePupilNumber [.inr (.inr (some (0, 0)))] (sk_mm d) (some (.inl res)) (sk_mm d) :=
  sk_enter (by decide) (fun _ => Nat.le_of_ble_eq_true rfl) (Nat.le_of_ble_eq_true rfl) (t_X8_freePupilNumber_0 hq )
def q_X8_isInOnePlace_62 (rec8 : (Int32 × Int32 × Int32 × Int32) → Option (Int32)) (d : sk_D) (v1 : Int32) (v2 : Int32) (v3 : Int32) (v4 : Int32) : Option (Int32) :=
  (rec8 (v1, v2, v3, (v4 + (1 : Int32))))
set_option maxRecDepth 100000 in
set_option maxHeartbeats 4000000 in
theorem t_X8_isInOnePlace_62 {l : Launch} {rec8 : (Int32 × Int32 × Int32 × Int32) → Option (Int32)} {d : sk_D} {v1 : Int32} {v2 : Int32} {v3 : Int32} {v4 : Int32} (hrec8 : ∀ (a : (Int32 × Int32 × Int32 × Int32)) (res : Int32), rec8 a = some res → sk_G l (sk_rm 2 0 0) m_X8_isInOnePlace sk_Ex0 (sk_Zm m_X8_isInOnePlace (some (.inl res)) (sk_mm d)) 0 0 8 [some (.inr (.inr (some (0, 0)))), some (.inl a.1), some (.inl a.2.1), some (.inl a.2.2.1), some (.inl a.2.2.2)] [] (sk_mm d)) {res : Int32} (hq : q_X8_isInOnePlace_62 rec8 d v1 v2 v3 v4 = some res) :
    sk_G l (sk_rm 2 0 0) m_X8_isInOnePlace sk_Ex0 (sk_Zm m_X8_isInOnePlace (some (.inl res)) (sk_mm d)) 0 0 62 [some (.inr (.inr (some (0, 0)))), some (.inl v1), some (.inl v2), some (.inl v3), some (.inl v4)] [] (sk_mm d) := by
  unfold q_X8_isInOnePlace_62 at hq
  refine sg_iinc (v4 + (1 : Int32)) 65 [some (.inr (.inr (some (0, 0)))), some (.inl v1), some (.inl v2), some (.inl v3), some (.inl (v4 + (1 : Int32)))] (sk_td o_X8_isInOnePlace 35 rfl) rfl rfl rfl rfl (Nat.le_of_ble_eq_true rfl) rfl ?_
  refine sg_goto 8 (sk_td o_X8_isInOnePlace 36 rfl) (by decide) ?_
  exact hrec8 (v1, v2, v3, (v4 + (1 : Int32))) _ hq
def q_X8_isInOnePlace_49 (rec8 : (Int32 × Int32 × Int32 × Int32) → Option (Int32)) (d : sk_D) (v1 : Int32) (v4 : Int32) : Option (Int32) :=
  if sk_bi v4 20 = true then (q_X8_isInOnePlace_62 rec8 d v1 (1 : Int32) (d.1 37 v4.toNatClampNeg 4) v4) else none
set_option maxRecDepth 100000 in
set_option maxHeartbeats 4000000 in
theorem t_X8_isInOnePlace_49 {l : Launch} {rec8 : (Int32 × Int32 × Int32 × Int32) → Option (Int32)} {d : sk_D} {v1 : Int32} {v4 : Int32} (hrec8 : ∀ (a : (Int32 × Int32 × Int32 × Int32)) (res : Int32), rec8 a = some res → sk_G l (sk_rm 2 0 0) m_X8_isInOnePlace sk_Ex0 (sk_Zm m_X8_isInOnePlace (some (.inl res)) (sk_mm d)) 0 0 8 [some (.inr (.inr (some (0, 0)))), some (.inl a.1), some (.inl a.2.1), some (.inl a.2.2.1), some (.inl a.2.2.2)] [] (sk_mm d)) {res : Int32} (hq : q_X8_isInOnePlace_49 rec8 d v1 v4 = some res) :
    sk_G l (sk_rm 2 0 0) m_X8_isInOnePlace sk_Ex0 (sk_Zm m_X8_isInOnePlace (some (.inl res)) (sk_mm d)) 0 0 49 [some (.inr (.inr (some (0, 0)))), some (.inl v1), none, none, some (.inl v4)] [] (sk_mm d) := by
  unfold q_X8_isInOnePlace_49 at hq
  refine sg_iconst (v := (1 : Int32)) 50 (sk_td o_X8_isInOnePlace 27 rfl) rfl (by decide) ?_
  refine sg_istore_n 51 [some (.inr (.inr (some (0, 0)))), some (.inl v1), some (.inl (1 : Int32)), none, some (.inl v4)] (sk_td o_X8_isInOnePlace 28 rfl) rfl rfl (Nat.le_of_ble_eq_true rfl) rfl ?_
  refine sg_aload_n 52 (sk_td o_X8_isInOnePlace 29 rfl) rfl rfl ?_
  refine sm_getR (1, 0) 55 (sk_td o_X8_isInOnePlace 30 rfl) rfl kf_X8_11 rfl rfl sz_0 rfl ?_
  refine sg_iload 57 (sk_td o_X8_isInOnePlace 31 rfl) rfl rfl ?_
  obtain ⟨hb1, hq⟩ := sk_ifn hq
  refine sm_aald (37, v4.toNatClampNeg) 58 (sk_td o_X8_isInOnePlace 32 rfl) rfl rfl (by decide) sz_1 hb1 (sr_1 (sk_bi.lt hb1)) ?_
  refine sm_getI 61 (sk_td o_X8_isInOnePlace 33 rfl) rfl kf_X8_124 rfl rfl (sk_bi.lt hb1) ?_
  refine sg_istore_n 62 [some (.inr (.inr (some (0, 0)))), some (.inl v1), some (.inl (1 : Int32)), some (.inl (d.1 37 v4.toNatClampNeg 4)), some (.inl v4)] (sk_td o_X8_isInOnePlace 34 rfl) rfl rfl (Nat.le_of_ble_eq_true rfl) rfl ?_
  exact t_X8_isInOnePlace_62 hrec8 hq
def q_X8_isInOnePlace_8 (rec8 : (Int32 × Int32 × Int32 × Int32) → Option (Int32)) (d : sk_D) (v1 : Int32) (v2 : Int32) (v3 : Int32) (v4 : Int32) : Option (Int32) :=
  if (20 : Int32) ≤ v4 then some (1 : Int32) else if sk_bi v4 20 = true then (q_X4_isMember d v4.toNatClampNeg v1).bind fun x2 => if x2 = 0 then (q_X8_isInOnePlace_62 rec8 d v1 v2 v3 v4) else if v2 = 0 then (q_X8_isInOnePlace_49 rec8 d v1 v4) else if sk_bi v4 20 = true then if (d.1 37 v4.toNatClampNeg 4) = v3 then (q_X8_isInOnePlace_49 rec8 d v1 v4) else some (0 : Int32) else none else none
set_option maxRecDepth 100000 in
set_option maxHeartbeats 4000000 in
theorem t_X8_isInOnePlace_8 {l : Launch} {rec8 : (Int32 × Int32 × Int32 × Int32) → Option (Int32)} {d : sk_D} {v1 : Int32} {v2 : Int32} {v3 : Int32} {v4 : Int32} (hrec8 : ∀ (a : (Int32 × Int32 × Int32 × Int32)) (res : Int32), rec8 a = some res → sk_G l (sk_rm 2 0 0) m_X8_isInOnePlace sk_Ex0 (sk_Zm m_X8_isInOnePlace (some (.inl res)) (sk_mm d)) 0 0 8 [some (.inr (.inr (some (0, 0)))), some (.inl a.1), some (.inl a.2.1), some (.inl a.2.2.1), some (.inl a.2.2.2)] [] (sk_mm d)) {res : Int32} (hq : q_X8_isInOnePlace_8 rec8 d v1 v2 v3 v4 = some res) :
    sk_G l (sk_rm 2 0 0) m_X8_isInOnePlace sk_Ex0 (sk_Zm m_X8_isInOnePlace (some (.inl res)) (sk_mm d)) 0 0 8 [some (.inr (.inr (some (0, 0)))), some (.inl v1), some (.inl v2), some (.inl v3), some (.inl v4)] [] (sk_mm d) := by
  unfold q_X8_isInOnePlace_8 at hq
  refine sg_iload 10 (sk_td o_X8_isInOnePlace 6 rfl) rfl rfl ?_
  refine sg_bipush (v := (20 : Int32)) 12 (sk_td o_X8_isInOnePlace 7 rfl) rfl (by decide) ?_
  refine sg_ic_ge 68 15 (sk_td o_X8_isInOnePlace 8 rfl) (by decide) rfl (fun hc => ?_) (fun hc => ?_)
  · rw [if_pos hc] at hq
    refine sg_iconst (v := (1 : Int32)) 69 (sk_td o_X8_isInOnePlace 37 rfl) rfl (by decide) ?_
    obtain rfl := Option.some.inj hq
    exact sg_iret (sk_td o_X8_isInOnePlace 38 rfl) rfl (show narrow .boolean (.int (1 : Int32)) = .int (1 : Int32) by decide)
  · rw [if_neg hc] at hq
    refine sg_aload_n 16 (sk_td o_X8_isInOnePlace 9 rfl) rfl rfl ?_
    refine sm_getR (1, 0) 19 (sk_td o_X8_isInOnePlace 10 rfl) rfl kf_X8_11 rfl rfl sz_0 rfl ?_
    refine sg_iload 21 (sk_td o_X8_isInOnePlace 11 rfl) rfl rfl ?_
    obtain ⟨hb1, hq⟩ := sk_ifn hq
    refine sm_aald (37, v4.toNatClampNeg) 22 (sk_td o_X8_isInOnePlace 12 rfl) rfl rfl (by decide) sz_1 hb1 (sr_1 (sk_bi.lt hb1)) ?_
    refine sg_iload_n 23 (sk_td o_X8_isInOnePlace 13 rfl) rfl rfl ?_
    obtain ⟨x2, hr_x2, hq⟩ := sk_bnd hq
    refine sm_callV1i 26 (s_X4_isMember hr_x2 (sk_bi.lt hb1)) (sk_td o_X8_isInOnePlace 14 rfl) rfl lv_X8_127 rfl rfl rfl (sk_bi.lt hb1) (sk_rok (Nat.le_of_ble_eq_true rfl) (Nat.le_of_ble_eq_true rfl) rfl rfl) (Nat.le_of_ble_eq_true rfl) ?_
    refine sg_if_eq 62 29 (sk_td o_X8_isInOnePlace 15 rfl) (by decide) rfl (fun hc => ?_) (fun hc => ?_)
    · rw [if_pos hc] at hq
      exact t_X8_isInOnePlace_62 hrec8 hq
    · rw [if_neg hc] at hq
      refine sg_iload_n 30 (sk_td o_X8_isInOnePlace 16 rfl) rfl rfl ?_
      refine sg_if_eq 49 33 (sk_td o_X8_isInOnePlace 17 rfl) (by decide) rfl (fun hc => ?_) (fun hc => ?_)
      · rw [if_pos hc] at hq
        refine sk_wk [true, true, false, false, true] (ls' := [some (.inr (.inr (some (0, 0)))), some (.inl v1), none, none, some (.inl v4)]) rfl ?_
        exact t_X8_isInOnePlace_49 hrec8 hq
      · rw [if_neg hc] at hq
        refine sg_aload_n 34 (sk_td o_X8_isInOnePlace 18 rfl) rfl rfl ?_
        refine sm_getR (1, 0) 37 (sk_td o_X8_isInOnePlace 19 rfl) rfl kf_X8_11 rfl rfl sz_0 rfl ?_
        refine sg_iload 39 (sk_td o_X8_isInOnePlace 20 rfl) rfl rfl ?_
        obtain ⟨hb3, hq⟩ := sk_ifn hq
        refine sm_aald (37, v4.toNatClampNeg) 40 (sk_td o_X8_isInOnePlace 21 rfl) rfl rfl (by decide) sz_1 hb3 (sr_1 (sk_bi.lt hb3)) ?_
        refine sm_getI 43 (sk_td o_X8_isInOnePlace 22 rfl) rfl kf_X8_124 rfl rfl (sk_bi.lt hb3) ?_
        refine sg_iload_n 44 (sk_td o_X8_isInOnePlace 23 rfl) rfl rfl ?_
        refine sg_ic_eq 49 47 (sk_td o_X8_isInOnePlace 24 rfl) (by decide) rfl (fun hc => ?_) (fun hc => ?_)
        · rw [if_pos hc] at hq
          refine sk_wk [true, true, false, false, true] (ls' := [some (.inr (.inr (some (0, 0)))), some (.inl v1), none, none, some (.inl v4)]) rfl ?_
          exact t_X8_isInOnePlace_49 hrec8 hq
        · rw [if_neg hc] at hq
          refine sg_iconst (v := (0 : Int32)) 48 (sk_td o_X8_isInOnePlace 25 rfl) rfl (by decide) ?_
          obtain rfl := Option.some.inj hq
          exact sg_iret (sk_td o_X8_isInOnePlace 26 rfl) rfl (show narrow .boolean (.int (0 : Int32)) = .int (0 : Int32) by decide)
def l_X8_isInOnePlace_8 (d : sk_D) (fl : Nat) (a : (Int32 × Int32 × Int32 × Int32)) : Option (Int32) := sk_it (fun rec8 a => q_X8_isInOnePlace_8 rec8 d a.1 a.2.1 a.2.2.1 a.2.2.2) fl a
theorem lt_X8_isInOnePlace_8 {l : Launch} {d : sk_D} : ∀ (fl : Nat) (a : (Int32 × Int32 × Int32 × Int32)) (res : Int32), l_X8_isInOnePlace_8 d fl a = some res → sk_G l (sk_rm 2 0 0) m_X8_isInOnePlace sk_Ex0 (sk_Zm m_X8_isInOnePlace (some (.inl res)) (sk_mm d)) 0 0 8 [some (.inr (.inr (some (0, 0)))), some (.inl a.1), some (.inl a.2.1), some (.inl a.2.2.1), some (.inl a.2.2.2)] [] (sk_mm d) :=
  sk_it_ind (P := fun (a : (Int32 × Int32 × Int32 × Int32)) (res : Int32) => sk_G l (sk_rm 2 0 0) m_X8_isInOnePlace sk_Ex0 (sk_Zm m_X8_isInOnePlace (some (.inl res)) (sk_mm d)) 0 0 8 [some (.inr (.inr (some (0, 0)))), some (.inl a.1), some (.inl a.2.1), some (.inl a.2.2.1), some (.inl a.2.2.2)] [] (sk_mm d)) (fun rec8 hrec8 a res hq  => t_X8_isInOnePlace_8 hrec8 hq )
def q_X8_isInOnePlace_0 (d : sk_D) (v1 : Int32) : Option (Int32) :=
  (l_X8_isInOnePlace_8 d sk_fu (v1, (0 : Int32), (-9 : Int32), (0 : Int32)))
set_option maxRecDepth 100000 in
set_option maxHeartbeats 4000000 in
theorem t_X8_isInOnePlace_0 {l : Launch} {d : sk_D} {v1 : Int32} {res : Int32} (hq : q_X8_isInOnePlace_0 d v1 = some res) :
    sk_G l (sk_rm 2 0 0) m_X8_isInOnePlace sk_Ex0 (sk_Zm m_X8_isInOnePlace (some (.inl res)) (sk_mm d)) 0 0 0 [some (.inr (.inr (some (0, 0)))), some (.inl v1), none, none, none] [] (sk_mm d) := by
  unfold q_X8_isInOnePlace_0 at hq
  refine sg_iconst (v := (0 : Int32)) 1 (sk_td o_X8_isInOnePlace 0 rfl) rfl (by decide) ?_
  refine sg_istore_n 2 [some (.inr (.inr (some (0, 0)))), some (.inl v1), some (.inl (0 : Int32)), none, none] (sk_td o_X8_isInOnePlace 1 rfl) rfl rfl (Nat.le_of_ble_eq_true rfl) rfl ?_
  refine sg_bipush (v := (-9 : Int32)) 4 (sk_td o_X8_isInOnePlace 2 rfl) rfl (by decide) ?_
  refine sg_istore_n 5 [some (.inr (.inr (some (0, 0)))), some (.inl v1), some (.inl (0 : Int32)), some (.inl (-9 : Int32)), none] (sk_td o_X8_isInOnePlace 3 rfl) rfl rfl (Nat.le_of_ble_eq_true rfl) rfl ?_
  refine sg_iconst (v := (0 : Int32)) 6 (sk_td o_X8_isInOnePlace 4 rfl) rfl (by decide) ?_
  refine sg_istore 8 [some (.inr (.inr (some (0, 0)))), some (.inl v1), some (.inl (0 : Int32)), some (.inl (-9 : Int32)), some (.inl (0 : Int32))] (sk_td o_X8_isInOnePlace 5 rfl) rfl rfl (Nat.le_of_ble_eq_true rfl) rfl ?_
  exact lt_X8_isInOnePlace_8 sk_fu (v1, (0 : Int32), (-9 : Int32), (0 : Int32)) _ hq
def q_X8_isInOnePlace (d : sk_D) (v1 : Int32) : Option (Int32) := q_X8_isInOnePlace_0 d v1 
theorem s_X8_isInOnePlace {l : Launch} {d : sk_D} {v1 : Int32} {res : Int32} (hq : q_X8_isInOnePlace d v1 = some res) : sk_M l 2 m_X8_isInOnePlace [.inr (.inr (some (0, 0))), .inl v1] (sk_mm d) (some (.inl res)) (sk_mm d) :=
  sk_enter (by decide) (fun _ => Nat.le_of_ble_eq_true rfl) (Nat.le_of_ble_eq_true rfl) (t_X8_isInOnePlace_0 hq )
def q_X8_separateIfBroken_77 (rec30 : (sk_D × Int32 × Int32 × Int32) → Option (Int32 × sk_D)) (d : sk_D) (v1 : Int32) (v2 : Int32) (v3 : Int32) : Option (Int32 × sk_D) :=
  (rec30 (d, v1, v2, (v3 + (1 : Int32))))
set_option maxRecDepth 100000 in
set_option maxHeartbeats 4000000 in
theorem t_X8_separateIfBroken_77 {l : Launch} {rec30 : (sk_D × Int32 × Int32 × Int32) → Option (Int32 × sk_D)} {d : sk_D} {v1 : Int32} {v2 : Int32} {v3 : Int32} (hrec30 : ∀ (a : (sk_D × Int32 × Int32 × Int32)) (res : Int32 × sk_D), rec30 a = some res → sk_G l (sk_rm 3 0 0) m_X8_separateIfBroken sk_Ex0 (sk_Zm m_X8_separateIfBroken (some (.inl res.1)) (sk_mm res.2)) 0 0 30 [some (.inr (.inr (some (0, 0)))), some (.inl a.2.1), some (.inl a.2.2.1), some (.inl a.2.2.2)] [] (sk_mm a.1)) {res : Int32 × sk_D} (hq : q_X8_separateIfBroken_77 rec30 d v1 v2 v3 = some res) :
    sk_G l (sk_rm 3 0 0) m_X8_separateIfBroken sk_Ex0 (sk_Zm m_X8_separateIfBroken (some (.inl res.1)) (sk_mm res.2)) 0 0 77 [some (.inr (.inr (some (0, 0)))), some (.inl v1), some (.inl v2), some (.inl v3)] [] (sk_mm d) := by
  unfold q_X8_separateIfBroken_77 at hq
  refine sg_iinc (v3 + (1 : Int32)) 80 [some (.inr (.inr (some (0, 0)))), some (.inl v1), some (.inl v2), some (.inl (v3 + (1 : Int32)))] (sk_td o_X8_separateIfBroken 42 rfl) rfl rfl rfl rfl (Nat.le_of_ble_eq_true rfl) rfl ?_
  refine sg_goto 30 (sk_td o_X8_separateIfBroken 43 rfl) (by decide) ?_
  exact hrec30 (d, v1, v2, (v3 + (1 : Int32))) _ hq
def q_X8_separateIfBroken_30 (rec30 : (sk_D × Int32 × Int32 × Int32) → Option (Int32 × sk_D)) (d : sk_D) (v1 : Int32) (v2 : Int32) (v3 : Int32) : Option (Int32 × sk_D) :=
  if (20 : Int32) ≤ v3 then some (v2, d) else if sk_bi v3 20 = true then (q_X4_isMember d v3.toNatClampNeg v1).bind fun x2 => if x2 = 0 then (q_X8_separateIfBroken_77 rec30 d v1 v2 v3) else if sk_bi v3 20 = true then if (d.1 37 v3.toNatClampNeg 4) = (-9 : Int32) then (q_X8_separateIfBroken_77 rec30 d v1 v2 v3) else if sk_bi v3 20 = true then (q_X8_separateIfBroken_77 rec30 (sk_wi d 37 v3.toNatClampNeg 4 (-9 : Int32)) v1 (v2 + (1 : Int32)) v3) else none else none else none
set_option maxRecDepth 100000 in
set_option maxHeartbeats 4000000 in
theorem t_X8_separateIfBroken_30 {l : Launch} {rec30 : (sk_D × Int32 × Int32 × Int32) → Option (Int32 × sk_D)} {d : sk_D} {v1 : Int32} {v2 : Int32} {v3 : Int32} (hrec30 : ∀ (a : (sk_D × Int32 × Int32 × Int32)) (res : Int32 × sk_D), rec30 a = some res → sk_G l (sk_rm 3 0 0) m_X8_separateIfBroken sk_Ex0 (sk_Zm m_X8_separateIfBroken (some (.inl res.1)) (sk_mm res.2)) 0 0 30 [some (.inr (.inr (some (0, 0)))), some (.inl a.2.1), some (.inl a.2.2.1), some (.inl a.2.2.2)] [] (sk_mm a.1)) {res : Int32 × sk_D} (hq : q_X8_separateIfBroken_30 rec30 d v1 v2 v3 = some res) :
    sk_G l (sk_rm 3 0 0) m_X8_separateIfBroken sk_Ex0 (sk_Zm m_X8_separateIfBroken (some (.inl res.1)) (sk_mm res.2)) 0 0 30 [some (.inr (.inr (some (0, 0)))), some (.inl v1), some (.inl v2), some (.inl v3)] [] (sk_mm d) := by
  unfold q_X8_separateIfBroken_30 at hq
  refine sg_iload_n 31 (sk_td o_X8_separateIfBroken 18 rfl) rfl rfl ?_
  refine sg_bipush (v := (20 : Int32)) 33 (sk_td o_X8_separateIfBroken 19 rfl) rfl (by decide) ?_
  refine sg_ic_ge 83 36 (sk_td o_X8_separateIfBroken 20 rfl) (by decide) rfl (fun hc => ?_) (fun hc => ?_)
  · rw [if_pos hc] at hq
    refine sg_iload_n 84 (sk_td o_X8_separateIfBroken 44 rfl) rfl rfl ?_
    obtain rfl := Option.some.inj hq
    exact sg_iret (sk_td o_X8_separateIfBroken 45 rfl) rfl rfl
  · rw [if_neg hc] at hq
    refine sg_aload_n 37 (sk_td o_X8_separateIfBroken 21 rfl) rfl rfl ?_
    refine sm_getR (1, 0) 40 (sk_td o_X8_separateIfBroken 22 rfl) rfl kf_X8_11 rfl rfl sz_0 rfl ?_
    refine sg_iload_n 41 (sk_td o_X8_separateIfBroken 23 rfl) rfl rfl ?_
    obtain ⟨hb1, hq⟩ := sk_ifn hq
    refine sm_aald (37, v3.toNatClampNeg) 42 (sk_td o_X8_separateIfBroken 24 rfl) rfl rfl (by decide) sz_1 hb1 (sr_1 (sk_bi.lt hb1)) ?_
    refine sg_iload_n 43 (sk_td o_X8_separateIfBroken 25 rfl) rfl rfl ?_
    obtain ⟨x2, hr_x2, hq⟩ := sk_bnd hq
    refine sm_callV1i 46 (s_X4_isMember hr_x2 (sk_bi.lt hb1)) (sk_td o_X8_separateIfBroken 26 rfl) rfl lv_X8_127 rfl rfl rfl (sk_bi.lt hb1) (sk_rok (Nat.le_of_ble_eq_true rfl) (Nat.le_of_ble_eq_true rfl) rfl rfl) (Nat.le_of_ble_eq_true rfl) ?_
    refine sg_if_eq 77 49 (sk_td o_X8_separateIfBroken 27 rfl) (by decide) rfl (fun hc => ?_) (fun hc => ?_)
    · rw [if_pos hc] at hq
      exact t_X8_separateIfBroken_77 hrec30 hq
    · rw [if_neg hc] at hq
      refine sg_aload_n 50 (sk_td o_X8_separateIfBroken 28 rfl) rfl rfl ?_
      refine sm_getR (1, 0) 53 (sk_td o_X8_separateIfBroken 29 rfl) rfl kf_X8_11 rfl rfl sz_0 rfl ?_
      refine sg_iload_n 54 (sk_td o_X8_separateIfBroken 30 rfl) rfl rfl ?_
      obtain ⟨hb3, hq⟩ := sk_ifn hq
      refine sm_aald (37, v3.toNatClampNeg) 55 (sk_td o_X8_separateIfBroken 31 rfl) rfl rfl (by decide) sz_1 hb3 (sr_1 (sk_bi.lt hb3)) ?_
      refine sm_getI 58 (sk_td o_X8_separateIfBroken 32 rfl) rfl kf_X8_124 rfl rfl (sk_bi.lt hb3) ?_
      refine sg_bipush (v := (-9 : Int32)) 60 (sk_td o_X8_separateIfBroken 33 rfl) rfl (by decide) ?_
      refine sg_ic_eq 77 63 (sk_td o_X8_separateIfBroken 34 rfl) (by decide) rfl (fun hc => ?_) (fun hc => ?_)
      · rw [if_pos hc] at hq
        exact t_X8_separateIfBroken_77 hrec30 hq
      · rw [if_neg hc] at hq
        refine sg_aload_n 64 (sk_td o_X8_separateIfBroken 35 rfl) rfl rfl ?_
        refine sm_getR (1, 0) 67 (sk_td o_X8_separateIfBroken 36 rfl) rfl kf_X8_11 rfl rfl sz_0 rfl ?_
        refine sg_iload_n 68 (sk_td o_X8_separateIfBroken 37 rfl) rfl rfl ?_
        obtain ⟨hb4, hq⟩ := sk_ifn hq
        refine sm_aald (37, v3.toNatClampNeg) 69 (sk_td o_X8_separateIfBroken 38 rfl) rfl rfl (by decide) sz_1 hb4 (sr_1 (sk_bi.lt hb4)) ?_
        refine sg_bipush (v := (-9 : Int32)) 71 (sk_td o_X8_separateIfBroken 39 rfl) rfl (by decide) ?_
        refine sm_putI 74 (sk_td o_X8_separateIfBroken 40 rfl) rfl kp_X8_124 rfl rfl (sk_bi.lt hb4) ?_
        refine sg_iinc (v2 + (1 : Int32)) 77 [some (.inr (.inr (some (0, 0)))), some (.inl v1), some (.inl (v2 + (1 : Int32))), some (.inl v3)] (sk_td o_X8_separateIfBroken 41 rfl) rfl rfl rfl rfl (Nat.le_of_ble_eq_true rfl) rfl ?_
        exact t_X8_separateIfBroken_77 hrec30 hq
def l_X8_separateIfBroken_30 (fl : Nat) (a : (sk_D × Int32 × Int32 × Int32)) : Option (Int32 × sk_D) := sk_it (fun rec30 a => q_X8_separateIfBroken_30 rec30 a.1 a.2.1 a.2.2.1 a.2.2.2) fl a
theorem lt_X8_separateIfBroken_30 {l : Launch} : ∀ (fl : Nat) (a : (sk_D × Int32 × Int32 × Int32)) (res : Int32 × sk_D), l_X8_separateIfBroken_30 fl a = some res → sk_G l (sk_rm 3 0 0) m_X8_separateIfBroken sk_Ex0 (sk_Zm m_X8_separateIfBroken (some (.inl res.1)) (sk_mm res.2)) 0 0 30 [some (.inr (.inr (some (0, 0)))), some (.inl a.2.1), some (.inl a.2.2.1), some (.inl a.2.2.2)] [] (sk_mm a.1) :=
  sk_it_ind (P := fun (a : (sk_D × Int32 × Int32 × Int32)) (res : Int32 × sk_D) => sk_G l (sk_rm 3 0 0) m_X8_separateIfBroken sk_Ex0 (sk_Zm m_X8_separateIfBroken (some (.inl res.1)) (sk_mm res.2)) 0 0 30 [some (.inr (.inr (some (0, 0)))), some (.inl a.2.1), some (.inl a.2.2.1), some (.inl a.2.2.2)] [] (sk_mm a.1)) (fun rec30 hrec30 a res hq  => t_X8_separateIfBroken_30 hrec30 hq )
def q_X8_separateIfBroken_0 (d : sk_D) (v1 : Int32) : Option (Int32 × sk_D) :=
  (q_X8_isFamily d v1).bind fun x1 => if x1 = 0 then some ((0 : Int32), d) else if sk_bi v1 8 = true then if (d.1 5 0 v1.toNatClampNeg) = 0 then some ((0 : Int32), d) else (q_X8_isInOnePlace d v1).bind fun x3 => if x3 = 0 then (l_X8_separateIfBroken_30 sk_fu (d, v1, (0 : Int32), (0 : Int32))) else some ((0 : Int32), d) else none
set_option maxRecDepth 100000 in
set_option maxHeartbeats 4000000 in
theorem t_X8_separateIfBroken_0 {l : Launch} {d : sk_D} {v1 : Int32} {res : Int32 × sk_D} (hq : q_X8_separateIfBroken_0 d v1 = some res) :
    sk_G l (sk_rm 3 0 0) m_X8_separateIfBroken sk_Ex0 (sk_Zm m_X8_separateIfBroken (some (.inl res.1)) (sk_mm res.2)) 0 0 0 [some (.inr (.inr (some (0, 0)))), some (.inl v1), none, none] [] (sk_mm d) := by
  unfold q_X8_separateIfBroken_0 at hq
  refine sg_iload_n 1 (sk_td o_X8_separateIfBroken 0 rfl) rfl rfl ?_
  obtain ⟨x1, hr_x1, hq⟩ := sk_bnd hq
  refine sm_callS1i 4 (s_X8_isFamily hr_x1) (sk_td o_X8_separateIfBroken 1 rfl) rfl ls_X8_89 rfl (sk_rok (Nat.le_of_ble_eq_true rfl) (Nat.le_of_ble_eq_true rfl) rfl rfl) (Nat.le_of_ble_eq_true rfl) ?_
  refine sg_if_eq 24 7 (sk_td o_X8_separateIfBroken 2 rfl) (by decide) rfl (fun hc => ?_) (fun hc => ?_)
  · rw [if_pos hc] at hq
    refine sg_iconst (v := (0 : Int32)) 25 (sk_td o_X8_separateIfBroken 12 rfl) rfl (by decide) ?_
    obtain rfl := Option.some.inj hq
    exact sg_iret (sk_td o_X8_separateIfBroken 13 rfl) rfl rfl
  · rw [if_neg hc] at hq
    refine sg_aload_n 8 (sk_td o_X8_separateIfBroken 3 rfl) rfl rfl ?_
    refine sm_getR (5, 0) 11 (sk_td o_X8_separateIfBroken 4 rfl) rfl kf_X8_33 rfl rfl sz_0 rfl ?_
    refine sg_iload_n 12 (sk_td o_X8_separateIfBroken 5 rfl) rfl rfl ?_
    obtain ⟨hb2, hq⟩ := sk_ifn hq
    refine sm_zald 13 (sk_td o_X8_separateIfBroken 6 rfl) rfl rfl sz_5 hb2 ?_
    refine sg_if_eq 24 16 (sk_td o_X8_separateIfBroken 7 rfl) (by decide) rfl (fun hc => ?_) (fun hc => ?_)
    · rw [if_pos hc] at hq
      refine sg_iconst (v := (0 : Int32)) 25 (sk_td o_X8_separateIfBroken 12 rfl) rfl (by decide) ?_
      obtain rfl := Option.some.inj hq
      exact sg_iret (sk_td o_X8_separateIfBroken 13 rfl) rfl rfl
    · rw [if_neg hc] at hq
      refine sg_aload_n 17 (sk_td o_X8_separateIfBroken 8 rfl) rfl rfl ?_
      refine sg_iload_n 18 (sk_td o_X8_separateIfBroken 9 rfl) rfl rfl ?_
      obtain ⟨x3, hr_x3, hq⟩ := sk_bnd hq
      refine sm_callV1i 21 (s_X8_isInOnePlace hr_x3) (sk_td o_X8_separateIfBroken 10 rfl) rfl lv_X8_381 rfl rfl rfl sz_0 (sk_rok (Nat.le_of_ble_eq_true rfl) (Nat.le_of_ble_eq_true rfl) rfl rfl) (Nat.le_of_ble_eq_true rfl) ?_
      refine sg_if_eq 26 24 (sk_td o_X8_separateIfBroken 11 rfl) (by decide) rfl (fun hc => ?_) (fun hc => ?_)
      · rw [if_pos hc] at hq
        refine sg_iconst (v := (0 : Int32)) 27 (sk_td o_X8_separateIfBroken 14 rfl) rfl (by decide) ?_
        refine sg_istore_n 28 [some (.inr (.inr (some (0, 0)))), some (.inl v1), some (.inl (0 : Int32)), none] (sk_td o_X8_separateIfBroken 15 rfl) rfl rfl (Nat.le_of_ble_eq_true rfl) rfl ?_
        refine sg_iconst (v := (0 : Int32)) 29 (sk_td o_X8_separateIfBroken 16 rfl) rfl (by decide) ?_
        refine sg_istore_n 30 [some (.inr (.inr (some (0, 0)))), some (.inl v1), some (.inl (0 : Int32)), some (.inl (0 : Int32))] (sk_td o_X8_separateIfBroken 17 rfl) rfl rfl (Nat.le_of_ble_eq_true rfl) rfl ?_
        exact lt_X8_separateIfBroken_30 sk_fu (d, v1, (0 : Int32), (0 : Int32)) _ hq
      · rw [if_neg hc] at hq
        refine sg_iconst (v := (0 : Int32)) 25 (sk_td o_X8_separateIfBroken 12 rfl) rfl (by decide) ?_
        obtain rfl := Option.some.inj hq
        exact sg_iret (sk_td o_X8_separateIfBroken 13 rfl) rfl rfl
def q_X8_separateIfBroken (d : sk_D) (v1 : Int32) : Option (Int32 × sk_D) := q_X8_separateIfBroken_0 d v1 
theorem s_X8_separateIfBroken {l : Launch} {d : sk_D} {v1 : Int32} {res : Int32 × sk_D} (hq : q_X8_separateIfBroken d v1 = some res) : sk_M l 3 m_X8_separateIfBroken [.inr (.inr (some (0, 0))), .inl v1] (sk_mm d) (some (.inl res.1)) (sk_mm res.2) :=
  sk_enter (by decide) (fun _ => Nat.le_of_ble_eq_true rfl) (Nat.le_of_ble_eq_true rfl) (t_X8_separateIfBroken_0 hq )
def q_X8_addPupil_37 (d : sk_D) (v1 : Int32) (v2 : Int32) (v3 : Int32) : Option (Int32 × sk_D) :=
  (q_X8_freePupilNumber d).bind fun x1 => (q_X8_within d x1 (0 : Int32) (19 : Int32)).bind fun x2 => if x2 = 0 then some ((-3 : Int32), d) else if sk_bi x1 20 = true then (q_X4_enrol d x1.toNatClampNeg v1 v2 v3).bind fun x4 => (q_X8_separateIfBroken x4 v3).bind fun x5 => some (x1, x5.2) else none
set_option maxRecDepth 100000 in
set_option maxHeartbeats 4000000 in
theorem t_X8_addPupil_37 {l : Launch} {d : sk_D} {v1 : Int32} {v2 : Int32} {v3 : Int32} {res : Int32 × sk_D} (hq : q_X8_addPupil_37 d v1 v2 v3 = some res) :
    sk_G l (sk_rm 4 0 0) m_X8_addPupil sk_Ex0 (sk_Zm m_X8_addPupil (some (.inl res.1)) (sk_mm res.2)) 0 0 37 [some (.inr (.inr (some (0, 0)))), some (.inl v1), some (.inl v2), some (.inl v3), none] [] (sk_mm d) := by
  unfold q_X8_addPupil_37 at hq
  refine sg_aload_n 38 (sk_td o_X8_addPupil 20 rfl) rfl rfl ?_
  obtain ⟨x1, hr_x1, hq⟩ := sk_bnd hq
  refine sm_callV0i 41 (s_X8_freePupilNumber hr_x1) (sk_td o_X8_addPupil 21 rfl) rfl lv_X8_93 rfl rfl rfl sz_0 (sk_rok (Nat.le_of_ble_eq_true rfl) (Nat.le_of_ble_eq_true rfl) rfl rfl) (Nat.le_of_ble_eq_true rfl) ?_
  refine sg_istore 43 [some (.inr (.inr (some (0, 0)))), some (.inl v1), some (.inl v2), some (.inl v3), some (.inl x1)] (sk_td o_X8_addPupil 22 rfl) rfl rfl (Nat.le_of_ble_eq_true rfl) rfl ?_
  refine sg_iload 45 (sk_td o_X8_addPupil 23 rfl) rfl rfl ?_
  refine sg_iconst (v := (0 : Int32)) 46 (sk_td o_X8_addPupil 24 rfl) rfl (by decide) ?_
  refine sg_bipush (v := (19 : Int32)) 48 (sk_td o_X8_addPupil 25 rfl) rfl (by decide) ?_
  obtain ⟨x2, hr_x2, hq⟩ := sk_bnd hq
  refine sm_callS3i 51 (s_X8_within hr_x2) (sk_td o_X8_addPupil 26 rfl) rfl ls_X8_85 rfl (sk_rok (Nat.le_of_ble_eq_true rfl) (Nat.le_of_ble_eq_true rfl) rfl rfl) (Nat.le_of_ble_eq_true rfl) ?_
  refine sg_if_ne 57 54 (sk_td o_X8_addPupil 27 rfl) (by decide) rfl (fun hc => ?_) (fun hc => ?_)
  · rw [if_neg hc] at hq
    refine sg_aload_n 58 (sk_td o_X8_addPupil 30 rfl) rfl rfl ?_
    refine sm_getR (1, 0) 61 (sk_td o_X8_addPupil 31 rfl) rfl kf_X8_11 rfl rfl sz_0 rfl ?_
    refine sg_iload 63 (sk_td o_X8_addPupil 32 rfl) rfl rfl ?_
    obtain ⟨hb3, hq⟩ := sk_ifn hq
    refine sm_aald (37, x1.toNatClampNeg) 64 (sk_td o_X8_addPupil 33 rfl) rfl rfl (by decide) sz_1 hb3 (sr_1 (sk_bi.lt hb3)) ?_
    refine sg_iload_n 65 (sk_td o_X8_addPupil 34 rfl) rfl rfl ?_
    refine sg_iload_n 66 (sk_td o_X8_addPupil 35 rfl) rfl rfl ?_
    refine sg_iload_n 67 (sk_td o_X8_addPupil 36 rfl) rfl rfl ?_
    obtain ⟨x4, hr_x4, hq⟩ := sk_bnd hq
    refine sm_callV3v 70 (s_X4_enrol hr_x4 (sk_bi.lt hb3)) (sk_td o_X8_addPupil 37 rfl) rfl lv_X8_97 rfl rfl rfl (sk_bi.lt hb3) (sk_rok (Nat.le_of_ble_eq_true rfl) (Nat.le_of_ble_eq_true rfl) rfl rfl) (Nat.le_of_ble_eq_true rfl) ?_
    refine sg_aload_n 71 (sk_td o_X8_addPupil 38 rfl) rfl rfl ?_
    refine sg_iload_n 72 (sk_td o_X8_addPupil 39 rfl) rfl rfl ?_
    obtain ⟨x5, hr_x5, hq⟩ := sk_bnd hq
    refine sm_callV1i 75 (s_X8_separateIfBroken hr_x5) (sk_td o_X8_addPupil 40 rfl) rfl lv_X8_101 rfl rfl rfl sz_0 (sk_rok (Nat.le_of_ble_eq_true rfl) (Nat.le_of_ble_eq_true rfl) rfl rfl) (Nat.le_of_ble_eq_true rfl) ?_
    refine sg_popI 76 (sk_td o_X8_addPupil 41 rfl) rfl ?_
    refine sg_iload 78 (sk_td o_X8_addPupil 42 rfl) rfl rfl ?_
    obtain rfl := Option.some.inj hq
    exact sg_iret (sk_td o_X8_addPupil 43 rfl) rfl rfl
  · rw [if_pos hc] at hq
    refine sg_bipush (v := (-3 : Int32)) 56 (sk_td o_X8_addPupil 28 rfl) rfl (by decide) ?_
    obtain rfl := Option.some.inj hq
    exact sg_iret (sk_td o_X8_addPupil 29 rfl) rfl rfl
def q_X8_addPupil_0 (d : sk_D) (v1 : Int32) (v2 : Int32) (v3 : Int32) : Option (Int32 × sk_D) :=
  (q_X8_within d v1 (0 : Int32) (7 : Int32)).bind fun x1 => if x1 = 0 then some ((-1 : Int32), d) else (q_X8_within d v2 (1 : Int32) (63 : Int32)).bind fun x2 => if x2 = 0 then some ((-1 : Int32), d) else if v3 = (-9 : Int32) then (q_X8_addPupil_37 d v1 v2 v3) else (q_X8_isFamily d v3).bind fun x3 => if x3 = 0 then some ((-1 : Int32), d) else (q_X8_addPupil_37 d v1 v2 v3)
set_option maxRecDepth 100000 in
set_option maxHeartbeats 4000000 in
theorem t_X8_addPupil_0 {l : Launch} {d : sk_D} {v1 : Int32} {v2 : Int32} {v3 : Int32} {res : Int32 × sk_D} (hq : q_X8_addPupil_0 d v1 v2 v3 = some res) :
    sk_G l (sk_rm 4 0 0) m_X8_addPupil sk_Ex0 (sk_Zm m_X8_addPupil (some (.inl res.1)) (sk_mm res.2)) 0 0 0 [some (.inr (.inr (some (0, 0)))), some (.inl v1), some (.inl v2), some (.inl v3), none] [] (sk_mm d) := by
  unfold q_X8_addPupil_0 at hq
  refine sg_iload_n 1 (sk_td o_X8_addPupil 0 rfl) rfl rfl ?_
  refine sg_iconst (v := (0 : Int32)) 2 (sk_td o_X8_addPupil 1 rfl) rfl (by decide) ?_
  refine sg_bipush (v := (7 : Int32)) 4 (sk_td o_X8_addPupil 2 rfl) rfl (by decide) ?_
  obtain ⟨x1, hr_x1, hq⟩ := sk_bnd hq
  refine sm_callS3i 7 (s_X8_within hr_x1) (sk_td o_X8_addPupil 3 rfl) rfl ls_X8_85 rfl (sk_rok (Nat.le_of_ble_eq_true rfl) (Nat.le_of_ble_eq_true rfl) rfl rfl) (Nat.le_of_ble_eq_true rfl) ?_
  refine sg_if_eq 20 10 (sk_td o_X8_addPupil 4 rfl) (by decide) rfl (fun hc => ?_) (fun hc => ?_)
  · rw [if_pos hc] at hq
    refine sg_iconst (v := (-1 : Int32)) 21 (sk_td o_X8_addPupil 10 rfl) rfl (by decide) ?_
    obtain rfl := Option.some.inj hq
    exact sg_iret (sk_td o_X8_addPupil 11 rfl) rfl rfl
  · rw [if_neg hc] at hq
    refine sg_iload_n 11 (sk_td o_X8_addPupil 5 rfl) rfl rfl ?_
    refine sg_iconst (v := (1 : Int32)) 12 (sk_td o_X8_addPupil 6 rfl) rfl (by decide) ?_
    refine sg_bipush (v := (63 : Int32)) 14 (sk_td o_X8_addPupil 7 rfl) rfl (by decide) ?_
    obtain ⟨x2, hr_x2, hq⟩ := sk_bnd hq
    refine sm_callS3i 17 (s_X8_within hr_x2) (sk_td o_X8_addPupil 8 rfl) rfl ls_X8_85 rfl (sk_rok (Nat.le_of_ble_eq_true rfl) (Nat.le_of_ble_eq_true rfl) rfl rfl) (Nat.le_of_ble_eq_true rfl) ?_
    refine sg_if_ne 22 20 (sk_td o_X8_addPupil 9 rfl) (by decide) rfl (fun hc => ?_) (fun hc => ?_)
    · rw [if_neg hc] at hq
      refine sg_iload_n 23 (sk_td o_X8_addPupil 12 rfl) rfl rfl ?_
      refine sg_bipush (v := (-9 : Int32)) 25 (sk_td o_X8_addPupil 13 rfl) rfl (by decide) ?_
      refine sg_ic_eq 37 28 (sk_td o_X8_addPupil 14 rfl) (by decide) rfl (fun hc => ?_) (fun hc => ?_)
      · rw [if_pos hc] at hq
        exact t_X8_addPupil_37 hq
      · rw [if_neg hc] at hq
        refine sg_iload_n 29 (sk_td o_X8_addPupil 15 rfl) rfl rfl ?_
        obtain ⟨x3, hr_x3, hq⟩ := sk_bnd hq
        refine sm_callS1i 32 (s_X8_isFamily hr_x3) (sk_td o_X8_addPupil 16 rfl) rfl ls_X8_89 rfl (sk_rok (Nat.le_of_ble_eq_true rfl) (Nat.le_of_ble_eq_true rfl) rfl rfl) (Nat.le_of_ble_eq_true rfl) ?_
        refine sg_if_ne 37 35 (sk_td o_X8_addPupil 17 rfl) (by decide) rfl (fun hc => ?_) (fun hc => ?_)
        · rw [if_neg hc] at hq
          exact t_X8_addPupil_37 hq
        · rw [if_pos hc] at hq
          refine sg_iconst (v := (-1 : Int32)) 36 (sk_td o_X8_addPupil 18 rfl) rfl (by decide) ?_
          obtain rfl := Option.some.inj hq
          exact sg_iret (sk_td o_X8_addPupil 19 rfl) rfl rfl
    · rw [if_pos hc] at hq
      refine sg_iconst (v := (-1 : Int32)) 21 (sk_td o_X8_addPupil 10 rfl) rfl (by decide) ?_
      obtain rfl := Option.some.inj hq
      exact sg_iret (sk_td o_X8_addPupil 11 rfl) rfl rfl
def q_X8_addPupil (d : sk_D) (v1 : Int32) (v2 : Int32) (v3 : Int32) : Option (Int32 × sk_D) := q_X8_addPupil_0 d v1 v2 v3 
theorem s_X8_addPupil {l : Launch} {d : sk_D} {v1 : Int32} {v2 : Int32} {v3 : Int32} {res : Int32 × sk_D} (hq : q_X8_addPupil d v1 v2 v3 = some res) : sk_M l 4 m_X8_addPupil [.inr (.inr (some (0, 0))), .inl v1, .inl v2, .inl v3] (sk_mm d) (some (.inl res.1)) (sk_mm res.2) :=
  sk_enter (by decide) (fun _ => Nat.le_of_ble_eq_true rfl) (Nat.le_of_ble_eq_true rfl) (t_X8_addPupil_0 hq )
def q_X8_hasPupil_0 (d : sk_D) (v1 : Int32) : Option (Int32) :=
  (q_X8_within d v1 (0 : Int32) (19 : Int32)).bind fun x1 => if x1 = 0 then some (0 : Int32) else if sk_bi v1 20 = true then if (d.1 37 v1.toNatClampNeg 0) = 0 then some (0 : Int32) else some (1 : Int32) else none
set_option maxRecDepth 100000 in
set_option maxHeartbeats 4000000 in
theorem t_X8_hasPupil_0 {l : Launch} {d : sk_D} {v1 : Int32} {res : Int32} (hq : q_X8_hasPupil_0 d v1 = some res) :
    sk_G l (sk_rm 2 0 0) m_X8_hasPupil sk_Ex0 (sk_Zm m_X8_hasPupil (some (.inl res)) (sk_mm d)) 0 0 0 [some (.inr (.inr (some (0, 0)))), some (.inl v1)] [] (sk_mm d) := by
  unfold q_X8_hasPupil_0 at hq
  refine sg_iload_n 1 (sk_td o_X8_hasPupil 0 rfl) rfl rfl ?_
  refine sg_iconst (v := (0 : Int32)) 2 (sk_td o_X8_hasPupil 1 rfl) rfl (by decide) ?_
  refine sg_bipush (v := (19 : Int32)) 4 (sk_td o_X8_hasPupil 2 rfl) rfl (by decide) ?_
  obtain ⟨x1, hr_x1, hq⟩ := sk_bnd hq
  refine sm_callS3i 7 (s_X8_within hr_x1) (sk_td o_X8_hasPupil 3 rfl) rfl ls_X8_85 rfl (sk_rok (Nat.le_of_ble_eq_true rfl) (Nat.le_of_ble_eq_true rfl) rfl rfl) (Nat.le_of_ble_eq_true rfl) ?_
  refine sg_if_eq 26 10 (sk_td o_X8_hasPupil 4 rfl) (by decide) rfl (fun hc => ?_) (fun hc => ?_)
  · rw [if_pos hc] at hq
    refine sg_iconst (v := (0 : Int32)) 27 (sk_td o_X8_hasPupil 13 rfl) rfl (by decide) ?_
    obtain rfl := Option.some.inj hq
    exact sg_iret (sk_td o_X8_hasPupil 14 rfl) rfl (show narrow .boolean (.int (0 : Int32)) = .int (0 : Int32) by decide)
  · rw [if_neg hc] at hq
    refine sg_aload_n 11 (sk_td o_X8_hasPupil 5 rfl) rfl rfl ?_
    refine sm_getR (1, 0) 14 (sk_td o_X8_hasPupil 6 rfl) rfl kf_X8_11 rfl rfl sz_0 rfl ?_
    refine sg_iload_n 15 (sk_td o_X8_hasPupil 7 rfl) rfl rfl ?_
    obtain ⟨hb2, hq⟩ := sk_ifn hq
    refine sm_aald (37, v1.toNatClampNeg) 16 (sk_td o_X8_hasPupil 8 rfl) rfl rfl (by decide) sz_1 hb2 (sr_1 (sk_bi.lt hb2)) ?_
    refine sm_getI 19 (sk_td o_X8_hasPupil 9 rfl) rfl kf_X8_108 rfl rfl (sk_bi.lt hb2) ?_
    refine sg_if_eq 26 22 (sk_td o_X8_hasPupil 10 rfl) (by decide) rfl (fun hc => ?_) (fun hc => ?_)
    · rw [if_pos hc] at hq
      refine sg_iconst (v := (0 : Int32)) 27 (sk_td o_X8_hasPupil 13 rfl) rfl (by decide) ?_
      obtain rfl := Option.some.inj hq
      exact sg_iret (sk_td o_X8_hasPupil 14 rfl) rfl (show narrow .boolean (.int (0 : Int32)) = .int (0 : Int32) by decide)
    · rw [if_neg hc] at hq
      refine sg_iconst (v := (1 : Int32)) 23 (sk_td o_X8_hasPupil 11 rfl) rfl (by decide) ?_
      refine sg_goto 27 (sk_td o_X8_hasPupil 12 rfl) (by decide) ?_
      obtain rfl := Option.some.inj hq
      exact sg_iret (sk_td o_X8_hasPupil 14 rfl) rfl (show narrow .boolean (.int (1 : Int32)) = .int (1 : Int32) by decide)
def q_X8_hasPupil (d : sk_D) (v1 : Int32) : Option (Int32) := q_X8_hasPupil_0 d v1 
theorem s_X8_hasPupil {l : Launch} {d : sk_D} {v1 : Int32} {res : Int32} (hq : q_X8_hasPupil d v1 = some res) : sk_M l 2 m_X8_hasPupil [.inr (.inr (some (0, 0))), .inl v1] (sk_mm d) (some (.inl res)) (sk_mm d) :=
  sk_enter (by decide) (fun _ => Nat.le_of_ble_eq_true rfl) (Nat.le_of_ble_eq_true rfl) (t_X8_hasPupil_0 hq )
def q_X8_pupils_25 (rec4 : (Int32 × Int32) → Option (Int32)) (d : sk_D) (v1 : Int32) (v2 : Int32) : Option (Int32) :=
  (rec4 (v1, (v2 + (1 : Int32))))
set_option maxRecDepth 100000 in
set_option maxHeartbeats 4000000 in
theorem t_X8_pupils_25 {l : Launch} {rec4 : (Int32 × Int32) → Option (Int32)} {d : sk_D} {v1 : Int32} {v2 : Int32} (hrec4 : ∀ (a : (Int32 × Int32)) (res : Int32), rec4 a = some res → sk_G l (sk_rm 1 0 0) m_X8_pupils sk_Ex0 (sk_Zm m_X8_pupils (some (.inl res)) (sk_mm d)) 0 0 4 [some (.inr (.inr (some (0, 0)))), some (.inl a.1), some (.inl a.2)] [] (sk_mm d)) {res : Int32} (hq : q_X8_pupils_25 rec4 d v1 v2 = some res) :
    sk_G l (sk_rm 1 0 0) m_X8_pupils sk_Ex0 (sk_Zm m_X8_pupils (some (.inl res)) (sk_mm d)) 0 0 25 [some (.inr (.inr (some (0, 0)))), some (.inl v1), some (.inl v2)] [] (sk_mm d) := by
  unfold q_X8_pupils_25 at hq
  refine sg_iinc (v2 + (1 : Int32)) 28 [some (.inr (.inr (some (0, 0)))), some (.inl v1), some (.inl (v2 + (1 : Int32)))] (sk_td o_X8_pupils 14 rfl) rfl rfl rfl rfl (Nat.le_of_ble_eq_true rfl) rfl ?_
  refine sg_goto 4 (sk_td o_X8_pupils 15 rfl) (by decide) ?_
  exact hrec4 (v1, (v2 + (1 : Int32))) _ hq
def q_X8_pupils_4 (rec4 : (Int32 × Int32) → Option (Int32)) (d : sk_D) (v1 : Int32) (v2 : Int32) : Option (Int32) :=
  if (20 : Int32) ≤ v2 then some v1 else if sk_bi v2 20 = true then if (d.1 37 v2.toNatClampNeg 0) = 0 then (q_X8_pupils_25 rec4 d v1 v2) else (q_X8_pupils_25 rec4 d (v1 + (1 : Int32)) v2) else none
set_option maxRecDepth 100000 in
set_option maxHeartbeats 4000000 in
theorem t_X8_pupils_4 {l : Launch} {rec4 : (Int32 × Int32) → Option (Int32)} {d : sk_D} {v1 : Int32} {v2 : Int32} (hrec4 : ∀ (a : (Int32 × Int32)) (res : Int32), rec4 a = some res → sk_G l (sk_rm 1 0 0) m_X8_pupils sk_Ex0 (sk_Zm m_X8_pupils (some (.inl res)) (sk_mm d)) 0 0 4 [some (.inr (.inr (some (0, 0)))), some (.inl a.1), some (.inl a.2)] [] (sk_mm d)) {res : Int32} (hq : q_X8_pupils_4 rec4 d v1 v2 = some res) :
    sk_G l (sk_rm 1 0 0) m_X8_pupils sk_Ex0 (sk_Zm m_X8_pupils (some (.inl res)) (sk_mm d)) 0 0 4 [some (.inr (.inr (some (0, 0)))), some (.inl v1), some (.inl v2)] [] (sk_mm d) := by
  unfold q_X8_pupils_4 at hq
  refine sg_iload_n 5 (sk_td o_X8_pupils 4 rfl) rfl rfl ?_
  refine sg_bipush (v := (20 : Int32)) 7 (sk_td o_X8_pupils 5 rfl) rfl (by decide) ?_
  refine sg_ic_ge 31 10 (sk_td o_X8_pupils 6 rfl) (by decide) rfl (fun hc => ?_) (fun hc => ?_)
  · rw [if_pos hc] at hq
    refine sg_iload_n 32 (sk_td o_X8_pupils 16 rfl) rfl rfl ?_
    obtain rfl := Option.some.inj hq
    exact sg_iret (sk_td o_X8_pupils 17 rfl) rfl rfl
  · rw [if_neg hc] at hq
    refine sg_aload_n 11 (sk_td o_X8_pupils 7 rfl) rfl rfl ?_
    refine sm_getR (1, 0) 14 (sk_td o_X8_pupils 8 rfl) rfl kf_X8_11 rfl rfl sz_0 rfl ?_
    refine sg_iload_n 15 (sk_td o_X8_pupils 9 rfl) rfl rfl ?_
    obtain ⟨hb1, hq⟩ := sk_ifn hq
    refine sm_aald (37, v2.toNatClampNeg) 16 (sk_td o_X8_pupils 10 rfl) rfl rfl (by decide) sz_1 hb1 (sr_1 (sk_bi.lt hb1)) ?_
    refine sm_getI 19 (sk_td o_X8_pupils 11 rfl) rfl kf_X8_108 rfl rfl (sk_bi.lt hb1) ?_
    refine sg_if_eq 25 22 (sk_td o_X8_pupils 12 rfl) (by decide) rfl (fun hc => ?_) (fun hc => ?_)
    · rw [if_pos hc] at hq
      exact t_X8_pupils_25 hrec4 hq
    · rw [if_neg hc] at hq
      refine sg_iinc (v1 + (1 : Int32)) 25 [some (.inr (.inr (some (0, 0)))), some (.inl (v1 + (1 : Int32))), some (.inl v2)] (sk_td o_X8_pupils 13 rfl) rfl rfl rfl rfl (Nat.le_of_ble_eq_true rfl) rfl ?_
      exact t_X8_pupils_25 hrec4 hq
def l_X8_pupils_4 (d : sk_D) (fl : Nat) (a : (Int32 × Int32)) : Option (Int32) := sk_it (fun rec4 a => q_X8_pupils_4 rec4 d a.1 a.2) fl a
theorem lt_X8_pupils_4 {l : Launch} {d : sk_D} : ∀ (fl : Nat) (a : (Int32 × Int32)) (res : Int32), l_X8_pupils_4 d fl a = some res → sk_G l (sk_rm 1 0 0) m_X8_pupils sk_Ex0 (sk_Zm m_X8_pupils (some (.inl res)) (sk_mm d)) 0 0 4 [some (.inr (.inr (some (0, 0)))), some (.inl a.1), some (.inl a.2)] [] (sk_mm d) :=
  sk_it_ind (P := fun (a : (Int32 × Int32)) (res : Int32) => sk_G l (sk_rm 1 0 0) m_X8_pupils sk_Ex0 (sk_Zm m_X8_pupils (some (.inl res)) (sk_mm d)) 0 0 4 [some (.inr (.inr (some (0, 0)))), some (.inl a.1), some (.inl a.2)] [] (sk_mm d)) (fun rec4 hrec4 a res hq  => t_X8_pupils_4 hrec4 hq )
def q_X8_pupils_0 (d : sk_D) : Option (Int32) :=
  (l_X8_pupils_4 d sk_fu ((0 : Int32), (0 : Int32)))
set_option maxRecDepth 100000 in
set_option maxHeartbeats 4000000 in
theorem t_X8_pupils_0 {l : Launch} {d : sk_D} {res : Int32} (hq : q_X8_pupils_0 d = some res) :
    sk_G l (sk_rm 1 0 0) m_X8_pupils sk_Ex0 (sk_Zm m_X8_pupils (some (.inl res)) (sk_mm d)) 0 0 0 [some (.inr (.inr (some (0, 0)))), none, none] [] (sk_mm d) := by
  unfold q_X8_pupils_0 at hq
  refine sg_iconst (v := (0 : Int32)) 1 (sk_td o_X8_pupils 0 rfl) rfl (by decide) ?_
  refine sg_istore_n 2 [some (.inr (.inr (some (0, 0)))), some (.inl (0 : Int32)), none] (sk_td o_X8_pupils 1 rfl) rfl rfl (Nat.le_of_ble_eq_true rfl) rfl ?_
  refine sg_iconst (v := (0 : Int32)) 3 (sk_td o_X8_pupils 2 rfl) rfl (by decide) ?_
  refine sg_istore_n 4 [some (.inr (.inr (some (0, 0)))), some (.inl (0 : Int32)), some (.inl (0 : Int32))] (sk_td o_X8_pupils 3 rfl) rfl rfl (Nat.le_of_ble_eq_true rfl) rfl ?_
  exact lt_X8_pupils_4 sk_fu ((0 : Int32), (0 : Int32)) _ hq
def q_X8_pupils (d : sk_D) : Option (Int32) := q_X8_pupils_0 d 
theorem s_X8_pupils {l : Launch} {d : sk_D} {res : Int32} (hq : q_X8_pupils d = some res) : sk_M l 1 m_X8_pupils [.inr (.inr (some (0, 0)))] (sk_mm d) (some (.inl res)) (sk_mm d) :=
  sk_enter (by decide) (fun _ => Nat.le_of_ble_eq_true rfl) (Nat.le_of_ble_eq_true rfl) (t_X8_pupils_0 hq )
def q_X8_removePupil_21 (d : sk_D) : Option (Int32 × sk_D) :=
  (q_X8_pupils d).bind fun x1 => some (x1, d)
set_option maxRecDepth 100000 in
set_option maxHeartbeats 4000000 in
theorem t_X8_removePupil_21 {l : Launch} {d : sk_D} {res : Int32 × sk_D} (hq : q_X8_removePupil_21 d = some res) :
    sk_G l (sk_rm 3 0 0) m_X8_removePupil sk_Ex0 (sk_Zm m_X8_removePupil (some (.inl res.1)) (sk_mm res.2)) 0 0 21 [none, none] [.inr (.inr (some (0, 0)))] (sk_mm d) := by
  unfold q_X8_removePupil_21 at hq
  obtain ⟨x1, hr_x1, hq⟩ := sk_bnd hq
  refine sm_callV0i 24 (s_X8_pupils hr_x1) (sk_td o_X8_removePupil 13 rfl) rfl lv_X8_112 rfl rfl rfl sz_0 (sk_rok (Nat.le_of_ble_eq_true rfl) (Nat.le_of_ble_eq_true rfl) rfl rfl) (Nat.le_of_ble_eq_true rfl) ?_
  obtain rfl := Option.some.inj hq
  exact sg_iret (sk_td o_X8_removePupil 14 rfl) rfl rfl
def q_X8_removePupil_0 (d : sk_D) (v1 : Int32) : Option (Int32 × sk_D) :=
  (q_X8_hasPupil d v1).bind fun x1 => if x1 = 0 then some ((-1 : Int32), d) else if sk_bi v1 20 = true then (q_X8_removePupil_21 (sk_wi d 37 v1.toNatClampNeg 0 (0 : Int32))) else none
set_option maxRecDepth 100000 in
set_option maxHeartbeats 4000000 in
theorem t_X8_removePupil_0 {l : Launch} {d : sk_D} {v1 : Int32} {res : Int32 × sk_D} (hq : q_X8_removePupil_0 d v1 = some res) :
    sk_G l (sk_rm 3 0 0) m_X8_removePupil sk_Ex0 (sk_Zm m_X8_removePupil (some (.inl res.1)) (sk_mm res.2)) 0 0 0 [some (.inr (.inr (some (0, 0)))), some (.inl v1)] [] (sk_mm d) := by
  unfold q_X8_removePupil_0 at hq
  refine sg_aload_n 1 (sk_td o_X8_removePupil 0 rfl) rfl rfl ?_
  refine sg_iload_n 2 (sk_td o_X8_removePupil 1 rfl) rfl rfl ?_
  obtain ⟨x1, hr_x1, hq⟩ := sk_bnd hq
  refine sm_callV1i 5 (s_X8_hasPupil hr_x1) (sk_td o_X8_removePupil 2 rfl) rfl lv_X8_105 rfl rfl rfl sz_0 (sk_rok (Nat.le_of_ble_eq_true rfl) (Nat.le_of_ble_eq_true rfl) rfl rfl) (Nat.le_of_ble_eq_true rfl) ?_
  refine sg_if_ne 10 8 (sk_td o_X8_removePupil 3 rfl) (by decide) rfl (fun hc => ?_) (fun hc => ?_)
  · rw [if_neg hc] at hq
    refine sg_aload_n 11 (sk_td o_X8_removePupil 6 rfl) rfl rfl ?_
    refine sm_getR (1, 0) 14 (sk_td o_X8_removePupil 7 rfl) rfl kf_X8_11 rfl rfl sz_0 rfl ?_
    refine sg_iload_n 15 (sk_td o_X8_removePupil 8 rfl) rfl rfl ?_
    obtain ⟨hb2, hq⟩ := sk_ifn hq
    refine sm_aald (37, v1.toNatClampNeg) 16 (sk_td o_X8_removePupil 9 rfl) rfl rfl (by decide) sz_1 hb2 (sr_1 (sk_bi.lt hb2)) ?_
    refine sg_iconst (v := (0 : Int32)) 17 (sk_td o_X8_removePupil 10 rfl) rfl (by decide) ?_
    refine sm_putZ 20 (sk_td o_X8_removePupil 11 rfl) rfl kp_X8_108 rfl rfl (sk_bi.lt hb2) (by decide) (by decide) ?_
    refine sg_aload_n 21 (sk_td o_X8_removePupil 12 rfl) rfl rfl ?_
    refine sk_wk [false, false] (ls' := [none, none]) rfl ?_
    exact t_X8_removePupil_21 hq
  · rw [if_pos hc] at hq
    refine sg_iconst (v := (-1 : Int32)) 9 (sk_td o_X8_removePupil 4 rfl) rfl (by decide) ?_
    obtain rfl := Option.some.inj hq
    exact sg_iret (sk_td o_X8_removePupil 5 rfl) rfl rfl
def q_X8_removePupil (d : sk_D) (v1 : Int32) : Option (Int32 × sk_D) := q_X8_removePupil_0 d v1 
theorem s_X8_removePupil {l : Launch} {d : sk_D} {v1 : Int32} {res : Int32 × sk_D} (hq : q_X8_removePupil d v1 = some res) : sk_M l 3 m_X8_removePupil [.inr (.inr (some (0, 0))), .inl v1] (sk_mm d) (some (.inl res.1)) (sk_mm res.2) :=
  sk_enter (by decide) (fun _ => Nat.le_of_ble_eq_true rfl) (Nat.le_of_ble_eq_true rfl) (t_X8_removePupil_0 hq )
def q_X8_level_0 (d : sk_D) (v1 : Int32) : Option (Int32) :=
  (q_X8_hasPupil d v1).bind fun x1 => if x1 = 0 then some (-1 : Int32) else if sk_bi v1 20 = true then some (d.1 37 v1.toNatClampNeg 1) else none
set_option maxRecDepth 100000 in
set_option maxHeartbeats 4000000 in
theorem t_X8_level_0 {l : Launch} {d : sk_D} {v1 : Int32} {res : Int32} (hq : q_X8_level_0 d v1 = some res) :
    sk_G l (sk_rm 3 0 0) m_X8_level sk_Ex0 (sk_Zm m_X8_level (some (.inl res)) (sk_mm d)) 0 0 0 [some (.inr (.inr (some (0, 0)))), some (.inl v1)] [] (sk_mm d) := by
  unfold q_X8_level_0 at hq
  refine sg_aload_n 1 (sk_td o_X8_level 0 rfl) rfl rfl ?_
  refine sg_iload_n 2 (sk_td o_X8_level 1 rfl) rfl rfl ?_
  obtain ⟨x1, hr_x1, hq⟩ := sk_bnd hq
  refine sm_callV1i 5 (s_X8_hasPupil hr_x1) (sk_td o_X8_level 2 rfl) rfl lv_X8_105 rfl rfl rfl sz_0 (sk_rok (Nat.le_of_ble_eq_true rfl) (Nat.le_of_ble_eq_true rfl) rfl rfl) (Nat.le_of_ble_eq_true rfl) ?_
  refine sg_if_eq 20 8 (sk_td o_X8_level 3 rfl) (by decide) rfl (fun hc => ?_) (fun hc => ?_)
  · rw [if_pos hc] at hq
    refine sg_iconst (v := (-1 : Int32)) 21 (sk_td o_X8_level 10 rfl) rfl (by decide) ?_
    obtain rfl := Option.some.inj hq
    exact sg_iret (sk_td o_X8_level 11 rfl) rfl rfl
  · rw [if_neg hc] at hq
    refine sg_aload_n 9 (sk_td o_X8_level 4 rfl) rfl rfl ?_
    refine sm_getR (1, 0) 12 (sk_td o_X8_level 5 rfl) rfl kf_X8_11 rfl rfl sz_0 rfl ?_
    refine sg_iload_n 13 (sk_td o_X8_level 6 rfl) rfl rfl ?_
    obtain ⟨hb2, hq⟩ := sk_ifn hq
    refine sm_aald (37, v1.toNatClampNeg) 14 (sk_td o_X8_level 7 rfl) rfl rfl (by decide) sz_1 hb2 (sr_1 (sk_bi.lt hb2)) ?_
    refine sm_getI 17 (sk_td o_X8_level 8 rfl) rfl kf_X8_115 rfl rfl (sk_bi.lt hb2) ?_
    refine sg_goto 21 (sk_td o_X8_level 9 rfl) (by decide) ?_
    obtain rfl := Option.some.inj hq
    exact sg_iret (sk_td o_X8_level 11 rfl) rfl rfl
def q_X8_level (d : sk_D) (v1 : Int32) : Option (Int32) := q_X8_level_0 d v1 
theorem s_X8_level {l : Launch} {d : sk_D} {v1 : Int32} {res : Int32} (hq : q_X8_level d v1 = some res) : sk_M l 3 m_X8_level [.inr (.inr (some (0, 0))), .inl v1] (sk_mm d) (some (.inl res)) (sk_mm d) :=
  sk_enter (by decide) (fun _ => Nat.le_of_ble_eq_true rfl) (Nat.le_of_ble_eq_true rfl) (t_X8_level_0 hq )
def q_X8_languages_0 (d : sk_D) (v1 : Int32) : Option (Int32) :=
  (q_X8_hasPupil d v1).bind fun x1 => if x1 = 0 then some (-1 : Int32) else if sk_bi v1 20 = true then some (d.1 37 v1.toNatClampNeg 2) else none
set_option maxRecDepth 100000 in
set_option maxHeartbeats 4000000 in
theorem t_X8_languages_0 {l : Launch} {d : sk_D} {v1 : Int32} {res : Int32} (hq : q_X8_languages_0 d v1 = some res) :
    sk_G l (sk_rm 3 0 0) m_X8_languages sk_Ex0 (sk_Zm m_X8_languages (some (.inl res)) (sk_mm d)) 0 0 0 [some (.inr (.inr (some (0, 0)))), some (.inl v1)] [] (sk_mm d) := by
  unfold q_X8_languages_0 at hq
  refine sg_aload_n 1 (sk_td o_X8_languages 0 rfl) rfl rfl ?_
  refine sg_iload_n 2 (sk_td o_X8_languages 1 rfl) rfl rfl ?_
  obtain ⟨x1, hr_x1, hq⟩ := sk_bnd hq
  refine sm_callV1i 5 (s_X8_hasPupil hr_x1) (sk_td o_X8_languages 2 rfl) rfl lv_X8_105 rfl rfl rfl sz_0 (sk_rok (Nat.le_of_ble_eq_true rfl) (Nat.le_of_ble_eq_true rfl) rfl rfl) (Nat.le_of_ble_eq_true rfl) ?_
  refine sg_if_eq 20 8 (sk_td o_X8_languages 3 rfl) (by decide) rfl (fun hc => ?_) (fun hc => ?_)
  · rw [if_pos hc] at hq
    refine sg_iconst (v := (-1 : Int32)) 21 (sk_td o_X8_languages 10 rfl) rfl (by decide) ?_
    obtain rfl := Option.some.inj hq
    exact sg_iret (sk_td o_X8_languages 11 rfl) rfl rfl
  · rw [if_neg hc] at hq
    refine sg_aload_n 9 (sk_td o_X8_languages 4 rfl) rfl rfl ?_
    refine sm_getR (1, 0) 12 (sk_td o_X8_languages 5 rfl) rfl kf_X8_11 rfl rfl sz_0 rfl ?_
    refine sg_iload_n 13 (sk_td o_X8_languages 6 rfl) rfl rfl ?_
    obtain ⟨hb2, hq⟩ := sk_ifn hq
    refine sm_aald (37, v1.toNatClampNeg) 14 (sk_td o_X8_languages 7 rfl) rfl rfl (by decide) sz_1 hb2 (sr_1 (sk_bi.lt hb2)) ?_
    refine sm_getI 17 (sk_td o_X8_languages 8 rfl) rfl kf_X8_118 rfl rfl (sk_bi.lt hb2) ?_
    refine sg_goto 21 (sk_td o_X8_languages 9 rfl) (by decide) ?_
    obtain rfl := Option.some.inj hq
    exact sg_iret (sk_td o_X8_languages 11 rfl) rfl rfl
def q_X8_languages (d : sk_D) (v1 : Int32) : Option (Int32) := q_X8_languages_0 d v1 
theorem s_X8_languages {l : Launch} {d : sk_D} {v1 : Int32} {res : Int32} (hq : q_X8_languages d v1 = some res) : sk_M l 3 m_X8_languages [.inr (.inr (some (0, 0))), .inl v1] (sk_mm d) (some (.inl res)) (sk_mm d) :=
  sk_enter (by decide) (fun _ => Nat.le_of_ble_eq_true rfl) (Nat.le_of_ble_eq_true rfl) (t_X8_languages_0 hq )
def q_X8_family_0 (d : sk_D) (v1 : Int32) : Option (Int32) :=
  (q_X8_hasPupil d v1).bind fun x1 => if x1 = 0 then some (-1 : Int32) else if sk_bi v1 20 = true then some (d.1 37 v1.toNatClampNeg 3) else none
set_option maxRecDepth 100000 in
set_option maxHeartbeats 4000000 in
theorem t_X8_family_0 {l : Launch} {d : sk_D} {v1 : Int32} {res : Int32} (hq : q_X8_family_0 d v1 = some res) :
    sk_G l (sk_rm 3 0 0) m_X8_family sk_Ex0 (sk_Zm m_X8_family (some (.inl res)) (sk_mm d)) 0 0 0 [some (.inr (.inr (some (0, 0)))), some (.inl v1)] [] (sk_mm d) := by
  unfold q_X8_family_0 at hq
  refine sg_aload_n 1 (sk_td o_X8_family 0 rfl) rfl rfl ?_
  refine sg_iload_n 2 (sk_td o_X8_family 1 rfl) rfl rfl ?_
  obtain ⟨x1, hr_x1, hq⟩ := sk_bnd hq
  refine sm_callV1i 5 (s_X8_hasPupil hr_x1) (sk_td o_X8_family 2 rfl) rfl lv_X8_105 rfl rfl rfl sz_0 (sk_rok (Nat.le_of_ble_eq_true rfl) (Nat.le_of_ble_eq_true rfl) rfl rfl) (Nat.le_of_ble_eq_true rfl) ?_
  refine sg_if_eq 20 8 (sk_td o_X8_family 3 rfl) (by decide) rfl (fun hc => ?_) (fun hc => ?_)
  · rw [if_pos hc] at hq
    refine sg_iconst (v := (-1 : Int32)) 21 (sk_td o_X8_family 10 rfl) rfl (by decide) ?_
    obtain rfl := Option.some.inj hq
    exact sg_iret (sk_td o_X8_family 11 rfl) rfl rfl
  · rw [if_neg hc] at hq
    refine sg_aload_n 9 (sk_td o_X8_family 4 rfl) rfl rfl ?_
    refine sm_getR (1, 0) 12 (sk_td o_X8_family 5 rfl) rfl kf_X8_11 rfl rfl sz_0 rfl ?_
    refine sg_iload_n 13 (sk_td o_X8_family 6 rfl) rfl rfl ?_
    obtain ⟨hb2, hq⟩ := sk_ifn hq
    refine sm_aald (37, v1.toNatClampNeg) 14 (sk_td o_X8_family 7 rfl) rfl rfl (by decide) sz_1 hb2 (sr_1 (sk_bi.lt hb2)) ?_
    refine sm_getI 17 (sk_td o_X8_family 8 rfl) rfl kf_X8_121 rfl rfl (sk_bi.lt hb2) ?_
    refine sg_goto 21 (sk_td o_X8_family 9 rfl) (by decide) ?_
    obtain rfl := Option.some.inj hq
    exact sg_iret (sk_td o_X8_family 11 rfl) rfl rfl
def q_X8_family (d : sk_D) (v1 : Int32) : Option (Int32) := q_X8_family_0 d v1 
theorem s_X8_family {l : Launch} {d : sk_D} {v1 : Int32} {res : Int32} (hq : q_X8_family d v1 = some res) : sk_M l 3 m_X8_family [.inr (.inr (some (0, 0))), .inl v1] (sk_mm d) (some (.inl res)) (sk_mm d) :=
  sk_enter (by decide) (fun _ => Nat.le_of_ble_eq_true rfl) (Nat.le_of_ble_eq_true rfl) (t_X8_family_0 hq )
def q_X8_group_0 (d : sk_D) (v1 : Int32) : Option (Int32) :=
  (q_X8_hasPupil d v1).bind fun x1 => if x1 = 0 then some (-1 : Int32) else if sk_bi v1 20 = true then some (d.1 37 v1.toNatClampNeg 4) else none
set_option maxRecDepth 100000 in
set_option maxHeartbeats 4000000 in
theorem t_X8_group_0 {l : Launch} {d : sk_D} {v1 : Int32} {res : Int32} (hq : q_X8_group_0 d v1 = some res) :
    sk_G l (sk_rm 3 0 0) m_X8_group sk_Ex0 (sk_Zm m_X8_group (some (.inl res)) (sk_mm d)) 0 0 0 [some (.inr (.inr (some (0, 0)))), some (.inl v1)] [] (sk_mm d) := by
  unfold q_X8_group_0 at hq
  refine sg_aload_n 1 (sk_td o_X8_group 0 rfl) rfl rfl ?_
  refine sg_iload_n 2 (sk_td o_X8_group 1 rfl) rfl rfl ?_
  obtain ⟨x1, hr_x1, hq⟩ := sk_bnd hq
  refine sm_callV1i 5 (s_X8_hasPupil hr_x1) (sk_td o_X8_group 2 rfl) rfl lv_X8_105 rfl rfl rfl sz_0 (sk_rok (Nat.le_of_ble_eq_true rfl) (Nat.le_of_ble_eq_true rfl) rfl rfl) (Nat.le_of_ble_eq_true rfl) ?_
  refine sg_if_eq 20 8 (sk_td o_X8_group 3 rfl) (by decide) rfl (fun hc => ?_) (fun hc => ?_)
  · rw [if_pos hc] at hq
    refine sg_iconst (v := (-1 : Int32)) 21 (sk_td o_X8_group 10 rfl) rfl (by decide) ?_
    obtain rfl := Option.some.inj hq
    exact sg_iret (sk_td o_X8_group 11 rfl) rfl rfl
  · rw [if_neg hc] at hq
    refine sg_aload_n 9 (sk_td o_X8_group 4 rfl) rfl rfl ?_
    refine sm_getR (1, 0) 12 (sk_td o_X8_group 5 rfl) rfl kf_X8_11 rfl rfl sz_0 rfl ?_
    refine sg_iload_n 13 (sk_td o_X8_group 6 rfl) rfl rfl ?_
    obtain ⟨hb2, hq⟩ := sk_ifn hq
    refine sm_aald (37, v1.toNatClampNeg) 14 (sk_td o_X8_group 7 rfl) rfl rfl (by decide) sz_1 hb2 (sr_1 (sk_bi.lt hb2)) ?_
    refine sm_getI 17 (sk_td o_X8_group 8 rfl) rfl kf_X8_124 rfl rfl (sk_bi.lt hb2) ?_
    refine sg_goto 21 (sk_td o_X8_group 9 rfl) (by decide) ?_
    obtain rfl := Option.some.inj hq
    exact sg_iret (sk_td o_X8_group 11 rfl) rfl rfl
def q_X8_group (d : sk_D) (v1 : Int32) : Option (Int32) := q_X8_group_0 d v1 
theorem s_X8_group {l : Launch} {d : sk_D} {v1 : Int32} {res : Int32} (hq : q_X8_group d v1 = some res) : sk_M l 3 m_X8_group [.inr (.inr (some (0, 0))), .inl v1] (sk_mm d) (some (.inl res)) (sk_mm d) :=
  sk_enter (by decide) (fun _ => Nat.le_of_ble_eq_true rfl) (Nat.le_of_ble_eq_true rfl) (t_X8_group_0 hq )
def q_X8_setTogether_18 (d : sk_D) (s1 : Int32) : Option (Int32 × sk_D) :=
  (q_X8_separateIfBroken d s1).bind fun x1 => some (x1.1, x1.2)
set_option maxRecDepth 100000 in
set_option maxHeartbeats 4000000 in
theorem t_X8_setTogether_18 {l : Launch} {d : sk_D} {s1 : Int32} {res : Int32 × sk_D} (hq : q_X8_setTogether_18 d s1 = some res) :
    sk_G l (sk_rm 4 0 0) m_X8_setTogether sk_Ex0 (sk_Zm m_X8_setTogether (some (.inl res.1)) (sk_mm res.2)) 0 0 18 [none, none, none] [.inl s1, .inr (.inr (some (0, 0)))] (sk_mm d) := by
  unfold q_X8_setTogether_18 at hq
  obtain ⟨x1, hr_x1, hq⟩ := sk_bnd hq
  refine sm_callV1i 21 (s_X8_separateIfBroken hr_x1) (sk_td o_X8_setTogether 12 rfl) rfl lv_X8_101 rfl rfl rfl sz_0 (sk_rok (Nat.le_of_ble_eq_true rfl) (Nat.le_of_ble_eq_true rfl) rfl rfl) (Nat.le_of_ble_eq_true rfl) ?_
  obtain rfl := Option.some.inj hq
  exact sg_iret (sk_td o_X8_setTogether 13 rfl) rfl rfl
def q_X8_setTogether_0 (d : sk_D) (v1 : Int32) (v2 : Int32) : Option (Int32 × sk_D) :=
  (q_X8_isFamily d v1).bind fun x1 => if x1 = 0 then some ((-1 : Int32), d) else if sk_bi v1 8 = true then (q_X8_setTogether_18 (sk_wi d 5 0 v1.toNatClampNeg (vp_nar .boolean v2)) v1) else none
set_option maxRecDepth 100000 in
set_option maxHeartbeats 4000000 in
theorem t_X8_setTogether_0 {l : Launch} {d : sk_D} {v1 : Int32} {v2 : Int32} {res : Int32 × sk_D} (hq : q_X8_setTogether_0 d v1 v2 = some res) :
    sk_G l (sk_rm 4 0 0) m_X8_setTogether sk_Ex0 (sk_Zm m_X8_setTogether (some (.inl res.1)) (sk_mm res.2)) 0 0 0 [some (.inr (.inr (some (0, 0)))), some (.inl v1), some (.inl v2)] [] (sk_mm d) := by
  unfold q_X8_setTogether_0 at hq
  refine sg_iload_n 1 (sk_td o_X8_setTogether 0 rfl) rfl rfl ?_
  obtain ⟨x1, hr_x1, hq⟩ := sk_bnd hq
  refine sm_callS1i 4 (s_X8_isFamily hr_x1) (sk_td o_X8_setTogether 1 rfl) rfl ls_X8_89 rfl (sk_rok (Nat.le_of_ble_eq_true rfl) (Nat.le_of_ble_eq_true rfl) rfl rfl) (Nat.le_of_ble_eq_true rfl) ?_
  refine sg_if_ne 9 7 (sk_td o_X8_setTogether 2 rfl) (by decide) rfl (fun hc => ?_) (fun hc => ?_)
  · rw [if_neg hc] at hq
    refine sg_aload_n 10 (sk_td o_X8_setTogether 5 rfl) rfl rfl ?_
    refine sm_getR (5, 0) 13 (sk_td o_X8_setTogether 6 rfl) rfl kf_X8_33 rfl rfl sz_0 rfl ?_
    refine sg_iload_n 14 (sk_td o_X8_setTogether 7 rfl) rfl rfl ?_
    refine sg_iload_n 15 (sk_td o_X8_setTogether 8 rfl) rfl rfl ?_
    obtain ⟨hb2, hq⟩ := sk_ifn hq
    refine sm_zast 16 (sk_td o_X8_setTogether 9 rfl) rfl rfl sz_5 hb2 ?_
    refine sg_aload_n 17 (sk_td o_X8_setTogether 10 rfl) rfl rfl ?_
    refine sg_iload_n 18 (sk_td o_X8_setTogether 11 rfl) rfl rfl ?_
    refine sk_wk [false, false, false] (ls' := [none, none, none]) rfl ?_
    exact t_X8_setTogether_18 hq
  · rw [if_pos hc] at hq
    refine sg_iconst (v := (-1 : Int32)) 8 (sk_td o_X8_setTogether 3 rfl) rfl (by decide) ?_
    obtain rfl := Option.some.inj hq
    exact sg_iret (sk_td o_X8_setTogether 4 rfl) rfl rfl
def q_X8_setTogether (d : sk_D) (v1 : Int32) (v2 : Int32) : Option (Int32 × sk_D) := q_X8_setTogether_0 d v1 v2 
theorem s_X8_setTogether {l : Launch} {d : sk_D} {v1 : Int32} {v2 : Int32} {res : Int32 × sk_D} (hq : q_X8_setTogether d v1 v2 = some res) : sk_M l 4 m_X8_setTogether [.inr (.inr (some (0, 0))), .inl v1, .inl v2] (sk_mm d) (some (.inl res.1)) (sk_mm res.2) :=
  sk_enter (by decide) (fun _ => Nat.le_of_ble_eq_true rfl) (Nat.le_of_ble_eq_true rfl) (t_X8_setTogether_0 hq )
def q_X8_spread_68 (rec17 : (Int32 × Int32 × Int32 × Int32) → Option (Int32)) (d : sk_D) (v1 : Int32) (v2 : Int32) (v3 : Int32) (v4 : Int32) : Option (Int32) :=
  (rec17 (v1, v2, v3, (v4 + (1 : Int32))))
set_option maxRecDepth 100000 in
set_option maxHeartbeats 4000000 in
theorem t_X8_spread_68 {l : Launch} {rec17 : (Int32 × Int32 × Int32 × Int32) → Option (Int32)} {d : sk_D} {v1 : Int32} {v2 : Int32} {v3 : Int32} {v4 : Int32} (hrec17 : ∀ (a : (Int32 × Int32 × Int32 × Int32)) (res : Int32), rec17 a = some res → sk_G l (sk_rm 3 0 0) m_X8_spread sk_Ex0 (sk_Zm m_X8_spread (some (.inl res)) (sk_mm d)) 0 0 17 [some (.inr (.inr (some (0, 0)))), some (.inl a.1), some (.inl a.2.1), some (.inl a.2.2.1), some (.inl a.2.2.2)] [] (sk_mm d)) {res : Int32} (hq : q_X8_spread_68 rec17 d v1 v2 v3 v4 = some res) :
    sk_G l (sk_rm 3 0 0) m_X8_spread sk_Ex0 (sk_Zm m_X8_spread (some (.inl res)) (sk_mm d)) 0 0 68 [some (.inr (.inr (some (0, 0)))), some (.inl v1), some (.inl v2), some (.inl v3), some (.inl v4)] [] (sk_mm d) := by
  unfold q_X8_spread_68 at hq
  refine sg_iinc (v4 + (1 : Int32)) 71 [some (.inr (.inr (some (0, 0)))), some (.inl v1), some (.inl v2), some (.inl v3), some (.inl (v4 + (1 : Int32)))] (sk_td o_X8_spread 37 rfl) rfl rfl rfl rfl (Nat.le_of_ble_eq_true rfl) rfl ?_
  refine sg_goto 17 (sk_td o_X8_spread 38 rfl) (by decide) ?_
  exact hrec17 (v1, v2, v3, (v4 + (1 : Int32))) _ hq
def q_X8_spread_17 (rec17 : (Int32 × Int32 × Int32 × Int32) → Option (Int32)) (d : sk_D) (v1 : Int32) (v2 : Int32) (v3 : Int32) (v4 : Int32) : Option (Int32) :=
  if (20 : Int32) ≤ v4 then if 0 ≤ v3 then some (v3 - v2) else some (-9 : Int32) else if sk_bi v4 20 = true then (q_X4_isMember d v4.toNatClampNeg v1).bind fun x2 => if x2 = 0 then (q_X8_spread_68 rec17 d v1 v2 v3 v4) else if sk_bi v4 20 = true then if sk_bi v4 20 = true then (q_X8_spread_68 rec17 d v1 (if (d.1 37 v4.toNatClampNeg 1) < v2 then (d.1 37 v4.toNatClampNeg 1) else v2) (if v3 < (d.1 37 v4.toNatClampNeg 1) then (d.1 37 v4.toNatClampNeg 1) else v3) v4) else none else none else none
set_option maxRecDepth 100000 in
set_option maxHeartbeats 4000000 in
theorem t_X8_spread_17 {l : Launch} {rec17 : (Int32 × Int32 × Int32 × Int32) → Option (Int32)} {d : sk_D} {v1 : Int32} {v2 : Int32} {v3 : Int32} {v4 : Int32} (hrec17 : ∀ (a : (Int32 × Int32 × Int32 × Int32)) (res : Int32), rec17 a = some res → sk_G l (sk_rm 3 0 0) m_X8_spread sk_Ex0 (sk_Zm m_X8_spread (some (.inl res)) (sk_mm d)) 0 0 17 [some (.inr (.inr (some (0, 0)))), some (.inl a.1), some (.inl a.2.1), some (.inl a.2.2.1), some (.inl a.2.2.2)] [] (sk_mm d)) {res : Int32} (hq : q_X8_spread_17 rec17 d v1 v2 v3 v4 = some res) :
    sk_G l (sk_rm 3 0 0) m_X8_spread sk_Ex0 (sk_Zm m_X8_spread (some (.inl res)) (sk_mm d)) 0 0 17 [some (.inr (.inr (some (0, 0)))), some (.inl v1), some (.inl v2), some (.inl v3), some (.inl v4)] [] (sk_mm d) := by
  unfold q_X8_spread_17 at hq
  refine sg_iload 19 (sk_td o_X8_spread 11 rfl) rfl rfl ?_
  refine sg_bipush (v := (20 : Int32)) 21 (sk_td o_X8_spread 12 rfl) rfl (by decide) ?_
  refine sg_ic_ge 74 24 (sk_td o_X8_spread 13 rfl) (by decide) rfl (fun hc => ?_) (fun hc => ?_)
  · rw [if_pos hc] at hq
    refine sg_iload_n 75 (sk_td o_X8_spread 39 rfl) rfl rfl ?_
    refine sg_if_ge 83 78 (sk_td o_X8_spread 40 rfl) (by decide) rfl (fun hc => ?_) (fun hc => ?_)
    · rw [if_pos hc] at hq
      refine sg_iload_n 84 (sk_td o_X8_spread 43 rfl) rfl rfl ?_
      refine sg_iload_n 85 (sk_td o_X8_spread 44 rfl) rfl rfl ?_
      refine sg_isub 86 (sk_td o_X8_spread 45 rfl) rfl ?_
      obtain rfl := Option.some.inj hq
      exact sg_iret (sk_td o_X8_spread 46 rfl) rfl rfl
    · rw [if_neg hc] at hq
      refine sg_bipush (v := (-9 : Int32)) 80 (sk_td o_X8_spread 41 rfl) rfl (by decide) ?_
      refine sg_goto 86 (sk_td o_X8_spread 42 rfl) (by decide) ?_
      obtain rfl := Option.some.inj hq
      exact sg_iret (sk_td o_X8_spread 46 rfl) rfl rfl
  · rw [if_neg hc] at hq
    refine sg_aload_n 25 (sk_td o_X8_spread 14 rfl) rfl rfl ?_
    refine sm_getR (1, 0) 28 (sk_td o_X8_spread 15 rfl) rfl kf_X8_11 rfl rfl sz_0 rfl ?_
    refine sg_iload 30 (sk_td o_X8_spread 16 rfl) rfl rfl ?_
    obtain ⟨hb1, hq⟩ := sk_ifn hq
    refine sm_aald (37, v4.toNatClampNeg) 31 (sk_td o_X8_spread 17 rfl) rfl rfl (by decide) sz_1 hb1 (sr_1 (sk_bi.lt hb1)) ?_
    refine sg_iload_n 32 (sk_td o_X8_spread 18 rfl) rfl rfl ?_
    obtain ⟨x2, hr_x2, hq⟩ := sk_bnd hq
    refine sm_callV1i 35 (s_X4_isMember hr_x2 (sk_bi.lt hb1)) (sk_td o_X8_spread 19 rfl) rfl lv_X8_127 rfl rfl rfl (sk_bi.lt hb1) (sk_rok (Nat.le_of_ble_eq_true rfl) (Nat.le_of_ble_eq_true rfl) rfl rfl) (Nat.le_of_ble_eq_true rfl) ?_
    refine sg_if_eq 68 38 (sk_td o_X8_spread 20 rfl) (by decide) rfl (fun hc => ?_) (fun hc => ?_)
    · rw [if_pos hc] at hq
      exact t_X8_spread_68 hrec17 hq
    · rw [if_neg hc] at hq
      refine sg_iload_n 39 (sk_td o_X8_spread 21 rfl) rfl rfl ?_
      refine sg_aload_n 40 (sk_td o_X8_spread 22 rfl) rfl rfl ?_
      refine sm_getR (1, 0) 43 (sk_td o_X8_spread 23 rfl) rfl kf_X8_11 rfl rfl sz_0 rfl ?_
      refine sg_iload 45 (sk_td o_X8_spread 24 rfl) rfl rfl ?_
      obtain ⟨hb3, hq⟩ := sk_ifn hq
      refine sm_aald (37, v4.toNatClampNeg) 46 (sk_td o_X8_spread 25 rfl) rfl rfl (by decide) sz_1 hb3 (sr_1 (sk_bi.lt hb3)) ?_
      refine sm_getI 49 (sk_td o_X8_spread 26 rfl) rfl kf_X8_115 rfl rfl (sk_bi.lt hb3) ?_
      refine sm_min 52 (sk_td o_X8_spread 27 rfl) rfl kM_X8_130 (Nat.le_of_ble_eq_true rfl) (Nat.le_of_ble_eq_true rfl) (Nat.le_of_ble_eq_true rfl) ?_
      refine sg_istore_n 53 [some (.inr (.inr (some (0, 0)))), some (.inl v1), some (.inl (if (d.1 37 v4.toNatClampNeg 1) < v2 then (d.1 37 v4.toNatClampNeg 1) else v2)), some (.inl v3), some (.inl v4)] (sk_td o_X8_spread 28 rfl) rfl rfl (Nat.le_of_ble_eq_true rfl) rfl ?_
      refine sg_iload_n 54 (sk_td o_X8_spread 29 rfl) rfl rfl ?_
      refine sg_aload_n 55 (sk_td o_X8_spread 30 rfl) rfl rfl ?_
      refine sm_getR (1, 0) 58 (sk_td o_X8_spread 31 rfl) rfl kf_X8_11 rfl rfl sz_0 rfl ?_
      refine sg_iload 60 (sk_td o_X8_spread 32 rfl) rfl rfl ?_
      obtain ⟨hb4, hq⟩ := sk_ifn hq
      refine sm_aald (37, v4.toNatClampNeg) 61 (sk_td o_X8_spread 33 rfl) rfl rfl (by decide) sz_1 hb4 (sr_1 (sk_bi.lt hb4)) ?_
      refine sm_getI 64 (sk_td o_X8_spread 34 rfl) rfl kf_X8_115 rfl rfl (sk_bi.lt hb4) ?_
      refine sm_max 67 (sk_td o_X8_spread 35 rfl) rfl kM_X8_136 (Nat.le_of_ble_eq_true rfl) (Nat.le_of_ble_eq_true rfl) (Nat.le_of_ble_eq_true rfl) ?_
      refine sg_istore_n 68 [some (.inr (.inr (some (0, 0)))), some (.inl v1), some (.inl (if (d.1 37 v4.toNatClampNeg 1) < v2 then (d.1 37 v4.toNatClampNeg 1) else v2)), some (.inl (if v3 < (d.1 37 v4.toNatClampNeg 1) then (d.1 37 v4.toNatClampNeg 1) else v3)), some (.inl v4)] (sk_td o_X8_spread 36 rfl) rfl rfl (Nat.le_of_ble_eq_true rfl) rfl ?_
      exact t_X8_spread_68 hrec17 hq
def l_X8_spread_17 (d : sk_D) (fl : Nat) (a : (Int32 × Int32 × Int32 × Int32)) : Option (Int32) := sk_it (fun rec17 a => q_X8_spread_17 rec17 d a.1 a.2.1 a.2.2.1 a.2.2.2) fl a
theorem lt_X8_spread_17 {l : Launch} {d : sk_D} : ∀ (fl : Nat) (a : (Int32 × Int32 × Int32 × Int32)) (res : Int32), l_X8_spread_17 d fl a = some res → sk_G l (sk_rm 3 0 0) m_X8_spread sk_Ex0 (sk_Zm m_X8_spread (some (.inl res)) (sk_mm d)) 0 0 17 [some (.inr (.inr (some (0, 0)))), some (.inl a.1), some (.inl a.2.1), some (.inl a.2.2.1), some (.inl a.2.2.2)] [] (sk_mm d) :=
  sk_it_ind (P := fun (a : (Int32 × Int32 × Int32 × Int32)) (res : Int32) => sk_G l (sk_rm 3 0 0) m_X8_spread sk_Ex0 (sk_Zm m_X8_spread (some (.inl res)) (sk_mm d)) 0 0 17 [some (.inr (.inr (some (0, 0)))), some (.inl a.1), some (.inl a.2.1), some (.inl a.2.2.1), some (.inl a.2.2.2)] [] (sk_mm d)) (fun rec17 hrec17 a res hq  => t_X8_spread_17 hrec17 hq )
def q_X8_spread_0 (d : sk_D) (v1 : Int32) : Option (Int32) :=
  (q_X8_isFamily d v1).bind fun x1 => if x1 = 0 then some (-1 : Int32) else (l_X8_spread_17 d sk_fu (v1, (8 : Int32), (-1 : Int32), (0 : Int32)))
set_option maxRecDepth 100000 in
set_option maxHeartbeats 4000000 in
theorem t_X8_spread_0 {l : Launch} {d : sk_D} {v1 : Int32} {res : Int32} (hq : q_X8_spread_0 d v1 = some res) :
    sk_G l (sk_rm 3 0 0) m_X8_spread sk_Ex0 (sk_Zm m_X8_spread (some (.inl res)) (sk_mm d)) 0 0 0 [some (.inr (.inr (some (0, 0)))), some (.inl v1), none, none, none] [] (sk_mm d) := by
  unfold q_X8_spread_0 at hq
  refine sg_iload_n 1 (sk_td o_X8_spread 0 rfl) rfl rfl ?_
  obtain ⟨x1, hr_x1, hq⟩ := sk_bnd hq
  refine sm_callS1i 4 (s_X8_isFamily hr_x1) (sk_td o_X8_spread 1 rfl) rfl ls_X8_89 rfl (sk_rok (Nat.le_of_ble_eq_true rfl) (Nat.le_of_ble_eq_true rfl) rfl rfl) (Nat.le_of_ble_eq_true rfl) ?_
  refine sg_if_ne 9 7 (sk_td o_X8_spread 2 rfl) (by decide) rfl (fun hc => ?_) (fun hc => ?_)
  · rw [if_neg hc] at hq
    refine sg_bipush (v := (8 : Int32)) 11 (sk_td o_X8_spread 5 rfl) rfl (by decide) ?_
    refine sg_istore_n 12 [some (.inr (.inr (some (0, 0)))), some (.inl v1), some (.inl (8 : Int32)), none, none] (sk_td o_X8_spread 6 rfl) rfl rfl (Nat.le_of_ble_eq_true rfl) rfl ?_
    refine sg_iconst (v := (-1 : Int32)) 13 (sk_td o_X8_spread 7 rfl) rfl (by decide) ?_
    refine sg_istore_n 14 [some (.inr (.inr (some (0, 0)))), some (.inl v1), some (.inl (8 : Int32)), some (.inl (-1 : Int32)), none] (sk_td o_X8_spread 8 rfl) rfl rfl (Nat.le_of_ble_eq_true rfl) rfl ?_
    refine sg_iconst (v := (0 : Int32)) 15 (sk_td o_X8_spread 9 rfl) rfl (by decide) ?_
    refine sg_istore 17 [some (.inr (.inr (some (0, 0)))), some (.inl v1), some (.inl (8 : Int32)), some (.inl (-1 : Int32)), some (.inl (0 : Int32))] (sk_td o_X8_spread 10 rfl) rfl rfl (Nat.le_of_ble_eq_true rfl) rfl ?_
    exact lt_X8_spread_17 sk_fu (v1, (8 : Int32), (-1 : Int32), (0 : Int32)) _ hq
  · rw [if_pos hc] at hq
    refine sg_iconst (v := (-1 : Int32)) 8 (sk_td o_X8_spread 3 rfl) rfl (by decide) ?_
    obtain rfl := Option.some.inj hq
    exact sg_iret (sk_td o_X8_spread 4 rfl) rfl rfl
def q_X8_spread (d : sk_D) (v1 : Int32) : Option (Int32) := q_X8_spread_0 d v1 
theorem s_X8_spread {l : Launch} {d : sk_D} {v1 : Int32} {res : Int32} (hq : q_X8_spread d v1 = some res) : sk_M l 3 m_X8_spread [.inr (.inr (some (0, 0))), .inl v1] (sk_mm d) (some (.inl res)) (sk_mm d) :=
  sk_enter (by decide) (fun _ => Nat.le_of_ble_eq_true rfl) (Nat.le_of_ble_eq_true rfl) (t_X8_spread_0 hq )
def q_X8_isExercise_0 (d : sk_D) (v0 : Int32) : Option (Int32) :=
  (q_X8_within d v0 (0 : Int32) (3 : Int32)).bind fun x1 => if sk_nb x1 = true then some x1 else none
set_option maxRecDepth 100000 in
set_option maxHeartbeats 4000000 in
theorem t_X8_isExercise_0 {l : Launch} {d : sk_D} {v0 : Int32} {res : Int32} (hq : q_X8_isExercise_0 d v0 = some res) :
    sk_G l (sk_rm 2 0 0) m_X8_isExercise sk_Ex0 (sk_Zm m_X8_isExercise (some (.inl res)) (sk_mm d)) 0 0 0 [some (.inl v0)] [] (sk_mm d) := by
  unfold q_X8_isExercise_0 at hq
  refine sg_iload_n 1 (sk_td o_X8_isExercise 0 rfl) rfl rfl ?_
  refine sg_iconst (v := (0 : Int32)) 2 (sk_td o_X8_isExercise 1 rfl) rfl (by decide) ?_
  refine sg_iconst (v := (3 : Int32)) 3 (sk_td o_X8_isExercise 2 rfl) rfl (by decide) ?_
  obtain ⟨x1, hr_x1, hq⟩ := sk_bnd hq
  refine sm_callS3i 6 (s_X8_within hr_x1) (sk_td o_X8_isExercise 3 rfl) rfl ls_X8_85 rfl (sk_rok (Nat.le_of_ble_eq_true rfl) (Nat.le_of_ble_eq_true rfl) rfl rfl) (Nat.le_of_ble_eq_true rfl) ?_
  obtain ⟨hn2, hq⟩ := sk_ifn hq
  obtain rfl := Option.some.inj hq
  exact sg_iret (sk_td o_X8_isExercise 4 rfl) rfl (sk_nb.z hn2)
def q_X8_isExercise (d : sk_D) (v0 : Int32) : Option (Int32) := q_X8_isExercise_0 d v0 
theorem s_X8_isExercise {l : Launch} {d : sk_D} {v0 : Int32} {res : Int32} (hq : q_X8_isExercise d v0 = some res) : sk_M l 2 m_X8_isExercise [.inl v0] (sk_mm d) (some (.inl res)) (sk_mm d) :=
  sk_enter (by decide) (fun _ => Nat.le_of_ble_eq_true rfl) (Nat.le_of_ble_eq_true rfl) (t_X8_isExercise_0 hq )
def q_X8_score_45 (d : sk_D) (h0 : Nat) : Option (Int32 × sk_D) :=
  (q_X4_countScores d h0).bind fun x1 => some (x1, d)
set_option maxRecDepth 100000 in
set_option maxHeartbeats 4000000 in
theorem t_X8_score_45 {l : Launch} {d : sk_D} {h0 : Nat} {res : Int32 × sk_D} (hq : q_X8_score_45 d h0 = some res) (hk_h0 : h0 < sk_cnt 37) :
    sk_G l (sk_rm 3 0 0) m_X8_score sk_Ex0 (sk_Zm m_X8_score (some (.inl res.1)) (sk_mm res.2)) 0 0 45 [none, none, none, none] [.inr (.inr (some (37, h0)))] (sk_mm d) := by
  unfold q_X8_score_45 at hq
  obtain ⟨x1, hr_x1, hq⟩ := sk_bnd hq
  refine sm_callV0i 48 (s_X4_countScores hr_x1 hk_h0) (sk_td o_X8_score 26 rfl) rfl lv_X8_146 rfl rfl rfl hk_h0 (sk_rok (Nat.le_of_ble_eq_true rfl) (Nat.le_of_ble_eq_true rfl) rfl rfl) (Nat.le_of_ble_eq_true rfl) ?_
  obtain rfl := Option.some.inj hq
  exact sg_iret (sk_td o_X8_score 27 rfl) rfl rfl
def q_X8_score_0 (d : sk_D) (v1 : Int32) (v2 : Int32) (v3 : Int32) : Option (Int32 × sk_D) :=
  (q_X8_hasPupil d v1).bind fun x1 => if x1 = 0 then some ((-1 : Int32), d) else (q_X8_isExercise d v2).bind fun x2 => if x2 = 0 then some ((-1 : Int32), d) else (q_X8_within d v3 (0 : Int32) (10 : Int32)).bind fun x3 => if x3 = 0 then some ((-1 : Int32), d) else if sk_bi v1 20 = true then if sk_bi v2 4 = true then if sk_bi v1 20 = true then (q_X8_score_45 (sk_wi d 38 v1.toNatClampNeg v2.toNatClampNeg v3) v1.toNatClampNeg) else none else none else none
set_option maxRecDepth 100000 in
set_option maxHeartbeats 4000000 in
theorem t_X8_score_0 {l : Launch} {d : sk_D} {v1 : Int32} {v2 : Int32} {v3 : Int32} {res : Int32 × sk_D} (hq : q_X8_score_0 d v1 v2 v3 = some res) :
    sk_G l (sk_rm 3 0 0) m_X8_score sk_Ex0 (sk_Zm m_X8_score (some (.inl res.1)) (sk_mm res.2)) 0 0 0 [some (.inr (.inr (some (0, 0)))), some (.inl v1), some (.inl v2), some (.inl v3)] [] (sk_mm d) := by
  unfold q_X8_score_0 at hq
  refine sg_aload_n 1 (sk_td o_X8_score 0 rfl) rfl rfl ?_
  refine sg_iload_n 2 (sk_td o_X8_score 1 rfl) rfl rfl ?_
  obtain ⟨x1, hr_x1, hq⟩ := sk_bnd hq
  refine sm_callV1i 5 (s_X8_hasPupil hr_x1) (sk_td o_X8_score 2 rfl) rfl lv_X8_105 rfl rfl rfl sz_0 (sk_rok (Nat.le_of_ble_eq_true rfl) (Nat.le_of_ble_eq_true rfl) rfl rfl) (Nat.le_of_ble_eq_true rfl) ?_
  refine sg_if_eq 25 8 (sk_td o_X8_score 3 rfl) (by decide) rfl (fun hc => ?_) (fun hc => ?_)
  · rw [if_pos hc] at hq
    refine sg_iconst (v := (-1 : Int32)) 26 (sk_td o_X8_score 12 rfl) rfl (by decide) ?_
    obtain rfl := Option.some.inj hq
    exact sg_iret (sk_td o_X8_score 13 rfl) rfl rfl
  · rw [if_neg hc] at hq
    refine sg_iload_n 9 (sk_td o_X8_score 4 rfl) rfl rfl ?_
    obtain ⟨x2, hr_x2, hq⟩ := sk_bnd hq
    refine sm_callS1i 12 (s_X8_isExercise hr_x2) (sk_td o_X8_score 5 rfl) rfl ls_X8_139 rfl (sk_rok (Nat.le_of_ble_eq_true rfl) (Nat.le_of_ble_eq_true rfl) rfl rfl) (Nat.le_of_ble_eq_true rfl) ?_
    refine sg_if_eq 25 15 (sk_td o_X8_score 6 rfl) (by decide) rfl (fun hc => ?_) (fun hc => ?_)
    · rw [if_pos hc] at hq
      refine sg_iconst (v := (-1 : Int32)) 26 (sk_td o_X8_score 12 rfl) rfl (by decide) ?_
      obtain rfl := Option.some.inj hq
      exact sg_iret (sk_td o_X8_score 13 rfl) rfl rfl
    · rw [if_neg hc] at hq
      refine sg_iload_n 16 (sk_td o_X8_score 7 rfl) rfl rfl ?_
      refine sg_iconst (v := (0 : Int32)) 17 (sk_td o_X8_score 8 rfl) rfl (by decide) ?_
      refine sg_bipush (v := (10 : Int32)) 19 (sk_td o_X8_score 9 rfl) rfl (by decide) ?_
      obtain ⟨x3, hr_x3, hq⟩ := sk_bnd hq
      refine sm_callS3i 22 (s_X8_within hr_x3) (sk_td o_X8_score 10 rfl) rfl ls_X8_85 rfl (sk_rok (Nat.le_of_ble_eq_true rfl) (Nat.le_of_ble_eq_true rfl) rfl rfl) (Nat.le_of_ble_eq_true rfl) ?_
      refine sg_if_ne 27 25 (sk_td o_X8_score 11 rfl) (by decide) rfl (fun hc => ?_) (fun hc => ?_)
      · rw [if_neg hc] at hq
        refine sg_aload_n 28 (sk_td o_X8_score 14 rfl) rfl rfl ?_
        refine sm_getR (1, 0) 31 (sk_td o_X8_score 15 rfl) rfl kf_X8_11 rfl rfl sz_0 rfl ?_
        refine sg_iload_n 32 (sk_td o_X8_score 16 rfl) rfl rfl ?_
        obtain ⟨hb4, hq⟩ := sk_ifn hq
        refine sm_aald (37, v1.toNatClampNeg) 33 (sk_td o_X8_score 17 rfl) rfl rfl (by decide) sz_1 hb4 (sr_1 (sk_bi.lt hb4)) ?_
        refine sm_getR (38, v1.toNatClampNeg) 36 (sk_td o_X8_score 18 rfl) rfl kf_X8_142 rfl rfl (sk_bi.lt hb4) rfl ?_
        refine sg_iload_n 37 (sk_td o_X8_score 19 rfl) rfl rfl ?_
        refine sg_iload_n 38 (sk_td o_X8_score 20 rfl) rfl rfl ?_
        obtain ⟨hb5, hq⟩ := sk_ifn hq
        refine sm_iast 39 (sk_td o_X8_score 21 rfl) rfl rfl (sk_bi.lt hb4) hb5 ?_
        refine sg_aload_n 40 (sk_td o_X8_score 22 rfl) rfl rfl ?_
        refine sm_getR (1, 0) 43 (sk_td o_X8_score 23 rfl) rfl kf_X8_11 rfl rfl sz_0 rfl ?_
        refine sg_iload_n 44 (sk_td o_X8_score 24 rfl) rfl rfl ?_
        obtain ⟨hb6, hq⟩ := sk_ifn hq
        refine sm_aald (37, v1.toNatClampNeg) 45 (sk_td o_X8_score 25 rfl) rfl rfl (by decide) sz_1 hb6 (sr_1 (sk_bi.lt hb6)) ?_
        refine sk_wk [false, false, false, false] (ls' := [none, none, none, none]) rfl ?_
        exact t_X8_score_45 hq (sk_bi.lt hb6)
      · rw [if_pos hc] at hq
        refine sg_iconst (v := (-1 : Int32)) 26 (sk_td o_X8_score 12 rfl) rfl (by decide) ?_
        obtain rfl := Option.some.inj hq
        exact sg_iret (sk_td o_X8_score 13 rfl) rfl rfl
def q_X8_score (d : sk_D) (v1 : Int32) (v2 : Int32) (v3 : Int32) : Option (Int32 × sk_D) := q_X8_score_0 d v1 v2 v3 
theorem s_X8_score {l : Launch} {d : sk_D} {v1 : Int32} {v2 : Int32} {v3 : Int32} {res : Int32 × sk_D} (hq : q_X8_score d v1 v2 v3 = some res) : sk_M l 3 m_X8_score [.inr (.inr (some (0, 0))), .inl v1, .inl v2, .inl v3] (sk_mm d) (some (.inl res.1)) (sk_mm res.2) :=
  sk_enter (by decide) (fun _ => Nat.le_of_ble_eq_true rfl) (Nat.le_of_ble_eq_true rfl) (t_X8_score_0 hq )
def q_X8_scoreOf_0 (d : sk_D) (v1 : Int32) (v2 : Int32) : Option (Int32) :=
  (q_X8_hasPupil d v1).bind fun x1 => if x1 = 0 then some (-1 : Int32) else (q_X8_isExercise d v2).bind fun x2 => if x2 = 0 then some (-1 : Int32) else if sk_bi v1 20 = true then if sk_bi v2 4 = true then some (d.1 38 v1.toNatClampNeg v2.toNatClampNeg) else none else none
set_option maxRecDepth 100000 in
set_option maxHeartbeats 4000000 in
theorem t_X8_scoreOf_0 {l : Launch} {d : sk_D} {v1 : Int32} {v2 : Int32} {res : Int32} (hq : q_X8_scoreOf_0 d v1 v2 = some res) :
    sk_G l (sk_rm 3 0 0) m_X8_scoreOf sk_Ex0 (sk_Zm m_X8_scoreOf (some (.inl res)) (sk_mm d)) 0 0 0 [some (.inr (.inr (some (0, 0)))), some (.inl v1), some (.inl v2)] [] (sk_mm d) := by
  unfold q_X8_scoreOf_0 at hq
  refine sg_aload_n 1 (sk_td o_X8_scoreOf 0 rfl) rfl rfl ?_
  refine sg_iload_n 2 (sk_td o_X8_scoreOf 1 rfl) rfl rfl ?_
  obtain ⟨x1, hr_x1, hq⟩ := sk_bnd hq
  refine sm_callV1i 5 (s_X8_hasPupil hr_x1) (sk_td o_X8_scoreOf 2 rfl) rfl lv_X8_105 rfl rfl rfl sz_0 (sk_rok (Nat.le_of_ble_eq_true rfl) (Nat.le_of_ble_eq_true rfl) rfl rfl) (Nat.le_of_ble_eq_true rfl) ?_
  refine sg_if_eq 15 8 (sk_td o_X8_scoreOf 3 rfl) (by decide) rfl (fun hc => ?_) (fun hc => ?_)
  · rw [if_pos hc] at hq
    refine sg_iconst (v := (-1 : Int32)) 16 (sk_td o_X8_scoreOf 7 rfl) rfl (by decide) ?_
    obtain rfl := Option.some.inj hq
    exact sg_iret (sk_td o_X8_scoreOf 8 rfl) rfl rfl
  · rw [if_neg hc] at hq
    refine sg_iload_n 9 (sk_td o_X8_scoreOf 4 rfl) rfl rfl ?_
    obtain ⟨x2, hr_x2, hq⟩ := sk_bnd hq
    refine sm_callS1i 12 (s_X8_isExercise hr_x2) (sk_td o_X8_scoreOf 5 rfl) rfl ls_X8_139 rfl (sk_rok (Nat.le_of_ble_eq_true rfl) (Nat.le_of_ble_eq_true rfl) rfl rfl) (Nat.le_of_ble_eq_true rfl) ?_
    refine sg_if_ne 17 15 (sk_td o_X8_scoreOf 6 rfl) (by decide) rfl (fun hc => ?_) (fun hc => ?_)
    · rw [if_neg hc] at hq
      refine sg_aload_n 18 (sk_td o_X8_scoreOf 9 rfl) rfl rfl ?_
      refine sm_getR (1, 0) 21 (sk_td o_X8_scoreOf 10 rfl) rfl kf_X8_11 rfl rfl sz_0 rfl ?_
      refine sg_iload_n 22 (sk_td o_X8_scoreOf 11 rfl) rfl rfl ?_
      obtain ⟨hb3, hq⟩ := sk_ifn hq
      refine sm_aald (37, v1.toNatClampNeg) 23 (sk_td o_X8_scoreOf 12 rfl) rfl rfl (by decide) sz_1 hb3 (sr_1 (sk_bi.lt hb3)) ?_
      refine sm_getR (38, v1.toNatClampNeg) 26 (sk_td o_X8_scoreOf 13 rfl) rfl kf_X8_142 rfl rfl (sk_bi.lt hb3) rfl ?_
      refine sg_iload_n 27 (sk_td o_X8_scoreOf 14 rfl) rfl rfl ?_
      obtain ⟨hb4, hq⟩ := sk_ifn hq
      refine sm_iald 28 (sk_td o_X8_scoreOf 15 rfl) rfl rfl (sk_bi.lt hb3) hb4 ?_
      obtain rfl := Option.some.inj hq
      exact sg_iret (sk_td o_X8_scoreOf 16 rfl) rfl rfl
    · rw [if_pos hc] at hq
      refine sg_iconst (v := (-1 : Int32)) 16 (sk_td o_X8_scoreOf 7 rfl) rfl (by decide) ?_
      obtain rfl := Option.some.inj hq
      exact sg_iret (sk_td o_X8_scoreOf 8 rfl) rfl rfl
def q_X8_scoreOf (d : sk_D) (v1 : Int32) (v2 : Int32) : Option (Int32) := q_X8_scoreOf_0 d v1 v2 
theorem s_X8_scoreOf {l : Launch} {d : sk_D} {v1 : Int32} {v2 : Int32} {res : Int32} (hq : q_X8_scoreOf d v1 v2 = some res) : sk_M l 3 m_X8_scoreOf [.inr (.inr (some (0, 0))), .inl v1, .inl v2] (sk_mm d) (some (.inl res)) (sk_mm d) :=
  sk_enter (by decide) (fun _ => Nat.le_of_ble_eq_true rfl) (Nat.le_of_ble_eq_true rfl) (t_X8_scoreOf_0 hq )
def q_X8_setMarks_0 (d : sk_D) (v1 : Int32) (v2 : Int32) (v3 : Int32) : Option (Int32 × sk_D) :=
  (q_X8_within d v1 (0 : Int32) (40 : Int32)).bind fun x1 => if x1 = 0 then some ((-1 : Int32), d) else (q_X8_within d v2 (0 : Int32) (10 : Int32)).bind fun x2 => if x2 = 0 then some ((-1 : Int32), d) else (q_X8_within d v3 (0 : Int32) v1).bind fun x3 => if x3 = 0 then some ((-1 : Int32), d) else some ((d.1 0 0 10), (sk_wi (sk_wi (sk_wi d 0 0 10 v1) 0 0 11 v2) 0 0 12 v3))
set_option maxRecDepth 100000 in
set_option maxHeartbeats 4000000 in
theorem t_X8_setMarks_0 {l : Launch} {d : sk_D} {v1 : Int32} {v2 : Int32} {v3 : Int32} {res : Int32 × sk_D} (hq : q_X8_setMarks_0 d v1 v2 v3 = some res) :
    sk_G l (sk_rm 2 0 0) m_X8_setMarks sk_Ex0 (sk_Zm m_X8_setMarks (some (.inl res.1)) (sk_mm res.2)) 0 0 0 [some (.inr (.inr (some (0, 0)))), some (.inl v1), some (.inl v2), some (.inl v3), none] [] (sk_mm d) := by
  unfold q_X8_setMarks_0 at hq
  refine sg_iload_n 1 (sk_td o_X8_setMarks 0 rfl) rfl rfl ?_
  refine sg_iconst (v := (0 : Int32)) 2 (sk_td o_X8_setMarks 1 rfl) rfl (by decide) ?_
  refine sg_bipush (v := (40 : Int32)) 4 (sk_td o_X8_setMarks 2 rfl) rfl (by decide) ?_
  obtain ⟨x1, hr_x1, hq⟩ := sk_bnd hq
  refine sm_callS3i 7 (s_X8_within hr_x1) (sk_td o_X8_setMarks 3 rfl) rfl ls_X8_85 rfl (sk_rok (Nat.le_of_ble_eq_true rfl) (Nat.le_of_ble_eq_true rfl) rfl rfl) (Nat.le_of_ble_eq_true rfl) ?_
  refine sg_if_eq 29 10 (sk_td o_X8_setMarks 4 rfl) (by decide) rfl (fun hc => ?_) (fun hc => ?_)
  · rw [if_pos hc] at hq
    refine sg_iconst (v := (-1 : Int32)) 30 (sk_td o_X8_setMarks 15 rfl) rfl (by decide) ?_
    obtain rfl := Option.some.inj hq
    exact sg_iret (sk_td o_X8_setMarks 16 rfl) rfl rfl
  · rw [if_neg hc] at hq
    refine sg_iload_n 11 (sk_td o_X8_setMarks 5 rfl) rfl rfl ?_
    refine sg_iconst (v := (0 : Int32)) 12 (sk_td o_X8_setMarks 6 rfl) rfl (by decide) ?_
    refine sg_bipush (v := (10 : Int32)) 14 (sk_td o_X8_setMarks 7 rfl) rfl (by decide) ?_
    obtain ⟨x2, hr_x2, hq⟩ := sk_bnd hq
    refine sm_callS3i 17 (s_X8_within hr_x2) (sk_td o_X8_setMarks 8 rfl) rfl ls_X8_85 rfl (sk_rok (Nat.le_of_ble_eq_true rfl) (Nat.le_of_ble_eq_true rfl) rfl rfl) (Nat.le_of_ble_eq_true rfl) ?_
    refine sg_if_eq 29 20 (sk_td o_X8_setMarks 9 rfl) (by decide) rfl (fun hc => ?_) (fun hc => ?_)
    · rw [if_pos hc] at hq
      refine sg_iconst (v := (-1 : Int32)) 30 (sk_td o_X8_setMarks 15 rfl) rfl (by decide) ?_
      obtain rfl := Option.some.inj hq
      exact sg_iret (sk_td o_X8_setMarks 16 rfl) rfl rfl
    · rw [if_neg hc] at hq
      refine sg_iload_n 21 (sk_td o_X8_setMarks 10 rfl) rfl rfl ?_
      refine sg_iconst (v := (0 : Int32)) 22 (sk_td o_X8_setMarks 11 rfl) rfl (by decide) ?_
      refine sg_iload_n 23 (sk_td o_X8_setMarks 12 rfl) rfl rfl ?_
      obtain ⟨x3, hr_x3, hq⟩ := sk_bnd hq
      refine sm_callS3i 26 (s_X8_within hr_x3) (sk_td o_X8_setMarks 13 rfl) rfl ls_X8_85 rfl (sk_rok (Nat.le_of_ble_eq_true rfl) (Nat.le_of_ble_eq_true rfl) rfl rfl) (Nat.le_of_ble_eq_true rfl) ?_
      refine sg_if_ne 31 29 (sk_td o_X8_setMarks 14 rfl) (by decide) rfl (fun hc => ?_) (fun hc => ?_)
      · rw [if_neg hc] at hq
        refine sg_aload_n 32 (sk_td o_X8_setMarks 17 rfl) rfl rfl ?_
        refine sm_getI 35 (sk_td o_X8_setMarks 18 rfl) rfl kf_X8_69 rfl rfl sz_0 ?_
        refine sg_istore 37 [some (.inr (.inr (some (0, 0)))), some (.inl v1), some (.inl v2), some (.inl v3), some (.inl (d.1 0 0 10))] (sk_td o_X8_setMarks 19 rfl) rfl rfl (Nat.le_of_ble_eq_true rfl) rfl ?_
        refine sg_aload_n 38 (sk_td o_X8_setMarks 20 rfl) rfl rfl ?_
        refine sg_iload_n 39 (sk_td o_X8_setMarks 21 rfl) rfl rfl ?_
        refine sm_putI 42 (sk_td o_X8_setMarks 22 rfl) rfl kp_X8_69 rfl rfl sz_0 ?_
        refine sg_aload_n 43 (sk_td o_X8_setMarks 23 rfl) rfl rfl ?_
        refine sg_iload_n 44 (sk_td o_X8_setMarks 24 rfl) rfl rfl ?_
        refine sm_putI 47 (sk_td o_X8_setMarks 25 rfl) rfl kp_X8_72 rfl rfl sz_0 ?_
        refine sg_aload_n 48 (sk_td o_X8_setMarks 26 rfl) rfl rfl ?_
        refine sg_iload_n 49 (sk_td o_X8_setMarks 27 rfl) rfl rfl ?_
        refine sm_putI 52 (sk_td o_X8_setMarks 28 rfl) rfl kp_X8_75 rfl rfl sz_0 ?_
        refine sg_iload 54 (sk_td o_X8_setMarks 29 rfl) rfl rfl ?_
        obtain rfl := Option.some.inj hq
        exact sg_iret (sk_td o_X8_setMarks 30 rfl) rfl rfl
      · rw [if_pos hc] at hq
        refine sg_iconst (v := (-1 : Int32)) 30 (sk_td o_X8_setMarks 15 rfl) rfl (by decide) ?_
        obtain rfl := Option.some.inj hq
        exact sg_iret (sk_td o_X8_setMarks 16 rfl) rfl rfl
def q_X8_setMarks (d : sk_D) (v1 : Int32) (v2 : Int32) (v3 : Int32) : Option (Int32 × sk_D) := q_X8_setMarks_0 d v1 v2 v3 
theorem s_X8_setMarks {l : Launch} {d : sk_D} {v1 : Int32} {v2 : Int32} {v3 : Int32} {res : Int32 × sk_D} (hq : q_X8_setMarks d v1 v2 v3 = some res) : sk_M l 2 m_X8_setMarks [.inr (.inr (some (0, 0))), .inl v1, .inl v2, .inl v3] (sk_mm d) (some (.inl res.1)) (sk_mm res.2) :=
  sk_enter (by decide) (fun _ => Nat.le_of_ble_eq_true rfl) (Nat.le_of_ble_eq_true rfl) (t_X8_setMarks_0 hq )
def q_X8_levelAfterTest_36 (d : sk_D) (k1 : Nat) (v2 : Int32) : Option (Int32) :=
  if (d.1 0 0 12) ≤ v2 then some (d.1 37 k1 1) else some (if ((d.1 37 k1 1) - (1 : Int32)) < (0 : Int32) then (0 : Int32) else ((d.1 37 k1 1) - (1 : Int32)))
set_option maxRecDepth 100000 in
set_option maxHeartbeats 4000000 in
theorem t_X8_levelAfterTest_36 {l : Launch} {d : sk_D} {k1 : Nat} {v2 : Int32} {res : Int32} (hq : q_X8_levelAfterTest_36 d k1 v2 = some res) (hk_k1 : k1 < sk_cnt 37) :
    sk_G l (sk_rm 2 0 0) m_X8_levelAfterTest sk_Ex0 (sk_Zm m_X8_levelAfterTest (some (.inl res)) (sk_mm d)) 0 0 36 [some (.inr (.inr (some (0, 0)))), some (.inr (.inr (some (37, k1)))), some (.inl v2)] [] (sk_mm d) := by
  unfold q_X8_levelAfterTest_36 at hq
  refine sg_iload_n 37 (sk_td o_X8_levelAfterTest 19 rfl) rfl rfl ?_
  refine sg_aload_n 38 (sk_td o_X8_levelAfterTest 20 rfl) rfl rfl ?_
  refine sm_getI 41 (sk_td o_X8_levelAfterTest 21 rfl) rfl kf_X8_75 rfl rfl sz_0 ?_
  refine sg_ic_ge 57 44 (sk_td o_X8_levelAfterTest 22 rfl) (by decide) rfl (fun hc => ?_) (fun hc => ?_)
  · rw [if_pos hc] at hq
    refine sg_aload_n 58 (sk_td o_X8_levelAfterTest 30 rfl) rfl rfl ?_
    refine sm_getI 61 (sk_td o_X8_levelAfterTest 31 rfl) rfl kf_X8_115 rfl rfl hk_k1 ?_
    obtain rfl := Option.some.inj hq
    exact sg_iret (sk_td o_X8_levelAfterTest 32 rfl) rfl rfl
  · rw [if_neg hc] at hq
    refine sg_aload_n 45 (sk_td o_X8_levelAfterTest 23 rfl) rfl rfl ?_
    refine sm_getI 48 (sk_td o_X8_levelAfterTest 24 rfl) rfl kf_X8_115 rfl rfl hk_k1 ?_
    refine sg_iconst (v := (1 : Int32)) 49 (sk_td o_X8_levelAfterTest 25 rfl) rfl (by decide) ?_
    refine sg_isub 50 (sk_td o_X8_levelAfterTest 26 rfl) rfl ?_
    refine sg_iconst (v := (0 : Int32)) 51 (sk_td o_X8_levelAfterTest 27 rfl) rfl (by decide) ?_
    refine sm_max 54 (sk_td o_X8_levelAfterTest 28 rfl) rfl kM_X8_136 (Nat.le_of_ble_eq_true rfl) (Nat.le_of_ble_eq_true rfl) (Nat.le_of_ble_eq_true rfl) ?_
    refine sg_goto 61 (sk_td o_X8_levelAfterTest 29 rfl) (by decide) ?_
    obtain rfl := Option.some.inj hq
    exact sg_iret (sk_td o_X8_levelAfterTest 32 rfl) rfl rfl
def q_X8_levelAfterTest_0 (d : sk_D) (k1 : Nat) : Option (Int32) :=
  (q_X4_sumScores d k1).bind fun x1 => if x1 < (d.1 0 0 10) then (q_X8_levelAfterTest_36 d k1 x1) else (q_X4_lowestScore d k1).bind fun x2 => if x2 < (d.1 0 0 11) then (q_X8_levelAfterTest_36 d k1 x1) else some (if (7 : Int32) < ((d.1 37 k1 1) + (1 : Int32)) then (7 : Int32) else ((d.1 37 k1 1) + (1 : Int32)))
set_option maxRecDepth 100000 in
set_option maxHeartbeats 4000000 in
theorem t_X8_levelAfterTest_0 {l : Launch} {d : sk_D} {k1 : Nat} {res : Int32} (hq : q_X8_levelAfterTest_0 d k1 = some res) (hk_k1 : k1 < sk_cnt 37) :
    sk_G l (sk_rm 2 0 0) m_X8_levelAfterTest sk_Ex0 (sk_Zm m_X8_levelAfterTest (some (.inl res)) (sk_mm d)) 0 0 0 [some (.inr (.inr (some (0, 0)))), some (.inr (.inr (some (37, k1)))), none] [] (sk_mm d) := by
  unfold q_X8_levelAfterTest_0 at hq
  refine sg_aload_n 1 (sk_td o_X8_levelAfterTest 0 rfl) rfl rfl ?_
  obtain ⟨x1, hr_x1, hq⟩ := sk_bnd hq
  refine sm_callV0i 4 (s_X4_sumScores hr_x1 hk_k1) (sk_td o_X8_levelAfterTest 1 rfl) rfl lv_X8_384 rfl rfl rfl hk_k1 (sk_rok (Nat.le_of_ble_eq_true rfl) (Nat.le_of_ble_eq_true rfl) rfl rfl) (Nat.le_of_ble_eq_true rfl) ?_
  refine sg_istore_n 5 [some (.inr (.inr (some (0, 0)))), some (.inr (.inr (some (37, k1)))), some (.inl x1)] (sk_td o_X8_levelAfterTest 2 rfl) rfl rfl (Nat.le_of_ble_eq_true rfl) rfl ?_
  refine sg_iload_n 6 (sk_td o_X8_levelAfterTest 3 rfl) rfl rfl ?_
  refine sg_aload_n 7 (sk_td o_X8_levelAfterTest 4 rfl) rfl rfl ?_
  refine sm_getI 10 (sk_td o_X8_levelAfterTest 5 rfl) rfl kf_X8_69 rfl rfl sz_0 ?_
  refine sg_ic_lt 36 13 (sk_td o_X8_levelAfterTest 6 rfl) (by decide) rfl (fun hc => ?_) (fun hc => ?_)
  · rw [if_pos hc] at hq
    exact t_X8_levelAfterTest_36 hq hk_k1
  · rw [if_neg hc] at hq
    refine sg_aload_n 14 (sk_td o_X8_levelAfterTest 7 rfl) rfl rfl ?_
    obtain ⟨x2, hr_x2, hq⟩ := sk_bnd hq
    refine sm_callV0i 17 (s_X4_lowestScore hr_x2 hk_k1) (sk_td o_X8_levelAfterTest 8 rfl) rfl lv_X8_387 rfl rfl rfl hk_k1 (sk_rok (Nat.le_of_ble_eq_true rfl) (Nat.le_of_ble_eq_true rfl) rfl rfl) (Nat.le_of_ble_eq_true rfl) ?_
    refine sg_aload_n 18 (sk_td o_X8_levelAfterTest 9 rfl) rfl rfl ?_
    refine sm_getI 21 (sk_td o_X8_levelAfterTest 10 rfl) rfl kf_X8_72 rfl rfl sz_0 ?_
    refine sg_ic_lt 36 24 (sk_td o_X8_levelAfterTest 11 rfl) (by decide) rfl (fun hc => ?_) (fun hc => ?_)
    · rw [if_pos hc] at hq
      exact t_X8_levelAfterTest_36 hq hk_k1
    · rw [if_neg hc] at hq
      refine sg_aload_n 25 (sk_td o_X8_levelAfterTest 12 rfl) rfl rfl ?_
      refine sm_getI 28 (sk_td o_X8_levelAfterTest 13 rfl) rfl kf_X8_115 rfl rfl hk_k1 ?_
      refine sg_iconst (v := (1 : Int32)) 29 (sk_td o_X8_levelAfterTest 14 rfl) rfl (by decide) ?_
      refine sg_iadd 30 (sk_td o_X8_levelAfterTest 15 rfl) rfl ?_
      refine sg_bipush (v := (7 : Int32)) 32 (sk_td o_X8_levelAfterTest 16 rfl) rfl (by decide) ?_
      refine sm_min 35 (sk_td o_X8_levelAfterTest 17 rfl) rfl kM_X8_130 (Nat.le_of_ble_eq_true rfl) (Nat.le_of_ble_eq_true rfl) (Nat.le_of_ble_eq_true rfl) ?_
      obtain rfl := Option.some.inj hq
      exact sg_iret (sk_td o_X8_levelAfterTest 18 rfl) rfl rfl
def q_X8_levelAfterTest (d : sk_D) (k1 : Nat) : Option (Int32) := q_X8_levelAfterTest_0 d k1 
theorem s_X8_levelAfterTest {l : Launch} {d : sk_D} {k1 : Nat} {res : Int32} (hq : q_X8_levelAfterTest d k1 = some res) (hk_k1 : k1 < sk_cnt 37) : sk_M l 2 m_X8_levelAfterTest [.inr (.inr (some (0, 0))), .inr (.inr (some (37, k1)))] (sk_mm d) (some (.inl res)) (sk_mm d) :=
  sk_enter (by decide) (fun _ => Nat.le_of_ble_eq_true rfl) (Nat.le_of_ble_eq_true rfl) (t_X8_levelAfterTest_0 hq hk_k1 )
def q_X8_hasGroup_0 (d : sk_D) (v1 : Int32) : Option (Int32) :=
  (q_X8_within d v1 (0 : Int32) (3 : Int32)).bind fun x1 => if x1 = 0 then some (0 : Int32) else if sk_bi v1 4 = true then if (d.1 39 v1.toNatClampNeg 0) = 0 then some (0 : Int32) else some (1 : Int32) else none
set_option maxRecDepth 100000 in
set_option maxHeartbeats 4000000 in
theorem t_X8_hasGroup_0 {l : Launch} {d : sk_D} {v1 : Int32} {res : Int32} (hq : q_X8_hasGroup_0 d v1 = some res) :
    sk_G l (sk_rm 2 0 0) m_X8_hasGroup sk_Ex0 (sk_Zm m_X8_hasGroup (some (.inl res)) (sk_mm d)) 0 0 0 [some (.inr (.inr (some (0, 0)))), some (.inl v1)] [] (sk_mm d) := by
  unfold q_X8_hasGroup_0 at hq
  refine sg_iload_n 1 (sk_td o_X8_hasGroup 0 rfl) rfl rfl ?_
  refine sg_iconst (v := (0 : Int32)) 2 (sk_td o_X8_hasGroup 1 rfl) rfl (by decide) ?_
  refine sg_iconst (v := (3 : Int32)) 3 (sk_td o_X8_hasGroup 2 rfl) rfl (by decide) ?_
  obtain ⟨x1, hr_x1, hq⟩ := sk_bnd hq
  refine sm_callS3i 6 (s_X8_within hr_x1) (sk_td o_X8_hasGroup 3 rfl) rfl ls_X8_85 rfl (sk_rok (Nat.le_of_ble_eq_true rfl) (Nat.le_of_ble_eq_true rfl) rfl rfl) (Nat.le_of_ble_eq_true rfl) ?_
  refine sg_if_eq 25 9 (sk_td o_X8_hasGroup 4 rfl) (by decide) rfl (fun hc => ?_) (fun hc => ?_)
  · rw [if_pos hc] at hq
    refine sg_iconst (v := (0 : Int32)) 26 (sk_td o_X8_hasGroup 13 rfl) rfl (by decide) ?_
    obtain rfl := Option.some.inj hq
    exact sg_iret (sk_td o_X8_hasGroup 14 rfl) rfl (show narrow .boolean (.int (0 : Int32)) = .int (0 : Int32) by decide)
  · rw [if_neg hc] at hq
    refine sg_aload_n 10 (sk_td o_X8_hasGroup 5 rfl) rfl rfl ?_
    refine sm_getR (2, 0) 13 (sk_td o_X8_hasGroup 6 rfl) rfl kf_X8_17 rfl rfl sz_0 rfl ?_
    refine sg_iload_n 14 (sk_td o_X8_hasGroup 7 rfl) rfl rfl ?_
    obtain ⟨hb2, hq⟩ := sk_ifn hq
    refine sm_aald (39, v1.toNatClampNeg) 15 (sk_td o_X8_hasGroup 8 rfl) rfl rfl (by decide) sz_2 hb2 (sr_2 (sk_bi.lt hb2)) ?_
    refine sm_getI 18 (sk_td o_X8_hasGroup 9 rfl) rfl kf_X8_181 rfl rfl (sk_bi.lt hb2) ?_
    refine sg_if_eq 25 21 (sk_td o_X8_hasGroup 10 rfl) (by decide) rfl (fun hc => ?_) (fun hc => ?_)
    · rw [if_pos hc] at hq
      refine sg_iconst (v := (0 : Int32)) 26 (sk_td o_X8_hasGroup 13 rfl) rfl (by decide) ?_
      obtain rfl := Option.some.inj hq
      exact sg_iret (sk_td o_X8_hasGroup 14 rfl) rfl (show narrow .boolean (.int (0 : Int32)) = .int (0 : Int32) by decide)
    · rw [if_neg hc] at hq
      refine sg_iconst (v := (1 : Int32)) 22 (sk_td o_X8_hasGroup 11 rfl) rfl (by decide) ?_
      refine sg_goto 26 (sk_td o_X8_hasGroup 12 rfl) (by decide) ?_
      obtain rfl := Option.some.inj hq
      exact sg_iret (sk_td o_X8_hasGroup 14 rfl) rfl (show narrow .boolean (.int (1 : Int32)) = .int (1 : Int32) by decide)
def q_X8_hasGroup (d : sk_D) (v1 : Int32) : Option (Int32) := q_X8_hasGroup_0 d v1 
theorem s_X8_hasGroup {l : Launch} {d : sk_D} {v1 : Int32} {res : Int32} (hq : q_X8_hasGroup d v1 = some res) : sk_M l 2 m_X8_hasGroup [.inr (.inr (some (0, 0))), .inl v1] (sk_mm d) (some (.inl res)) (sk_mm d) :=
  sk_enter (by decide) (fun _ => Nat.le_of_ble_eq_true rfl) (Nat.le_of_ble_eq_true rfl) (t_X8_hasGroup_0 hq )
def q_X8_grade_95 (d : sk_D) (k2 : Nat) (h1 : Nat) : Option (Int32 × sk_D) :=
  (q_X8_separateIfBroken d (d.1 37 h1 3)).bind fun x1 => some ((x1.2.1 37 k2 1), x1.2)
set_option maxRecDepth 100000 in
set_option maxHeartbeats 4000000 in
theorem t_X8_grade_95 {l : Launch} {d : sk_D} {k2 : Nat} {h1 : Nat} {res : Int32 × sk_D} (hq : q_X8_grade_95 d k2 h1 = some res) (hk_k2 : k2 < sk_cnt 37) (hk_h1 : h1 < sk_cnt 37) :
    sk_G l (sk_rm 4 0 0) m_X8_grade sk_Ex0 (sk_Zm m_X8_grade (some (.inl res.1)) (sk_mm res.2)) 0 0 95 [none, none, some (.inr (.inr (some (37, k2))))] [.inr (.inr (some (37, h1))), .inr (.inr (some (0, 0)))] (sk_mm d) := by
  unfold q_X8_grade_95 at hq
  refine sm_getI 98 (sk_td o_X8_grade 51 rfl) rfl kf_X8_121 rfl rfl hk_h1 ?_
  obtain ⟨x1, hr_x1, hq⟩ := sk_bnd hq
  refine sm_callV1i 101 (s_X8_separateIfBroken hr_x1) (sk_td o_X8_grade 52 rfl) rfl lv_X8_101 rfl rfl rfl sz_0 (sk_rok (Nat.le_of_ble_eq_true rfl) (Nat.le_of_ble_eq_true rfl) rfl rfl) (Nat.le_of_ble_eq_true rfl) ?_
  refine sg_popI 102 (sk_td o_X8_grade 53 rfl) rfl ?_
  refine sg_aload_n 103 (sk_td o_X8_grade 54 rfl) rfl rfl ?_
  refine sm_getI 106 (sk_td o_X8_grade 55 rfl) rfl kf_X8_115 rfl rfl hk_k2 ?_
  obtain rfl := Option.some.inj hq
  exact sg_iret (sk_td o_X8_grade 56 rfl) rfl rfl
def q_X8_grade_62 (d : sk_D) (k2 : Nat) (h1 : Nat) : Option (Int32 × sk_D) :=
  (q_X8_hasGroup d (d.1 37 h1 4)).bind fun x1 => if x1 = 0 then some ((d.1 37 k2 1), d) else if sk_bi (d.1 37 k2 4) 4 = true then (q_X0_suits d ((d.1 37 k2 4).toNatClampNeg) k2).bind fun x3 => if x3 = 0 then (q_X8_grade_95 (sk_wi d 37 k2 4 (-9 : Int32)) k2 k2) else some ((d.1 37 k2 1), d) else none
set_option maxRecDepth 100000 in
set_option maxHeartbeats 4000000 in
theorem t_X8_grade_62 {l : Launch} {d : sk_D} {k2 : Nat} {h1 : Nat} {res : Int32 × sk_D} (hq : q_X8_grade_62 d k2 h1 = some res) (hk_k2 : k2 < sk_cnt 37) (hk_h1 : h1 < sk_cnt 37) :
    sk_G l (sk_rm 4 0 0) m_X8_grade sk_Ex0 (sk_Zm m_X8_grade (some (.inl res.1)) (sk_mm res.2)) 0 0 62 [some (.inr (.inr (some (0, 0)))), none, some (.inr (.inr (some (37, k2))))] [.inr (.inr (some (37, h1))), .inr (.inr (some (0, 0)))] (sk_mm d) := by
  unfold q_X8_grade_62 at hq
  refine sm_getI 65 (sk_td o_X8_grade 35 rfl) rfl kf_X8_124 rfl rfl hk_h1 ?_
  obtain ⟨x1, hr_x1, hq⟩ := sk_bnd hq
  refine sm_callV1i 68 (s_X8_hasGroup hr_x1) (sk_td o_X8_grade 36 rfl) rfl lv_X8_159 rfl rfl rfl sz_0 (sk_rok (Nat.le_of_ble_eq_true rfl) (Nat.le_of_ble_eq_true rfl) rfl rfl) (Nat.le_of_ble_eq_true rfl) ?_
  refine sg_if_eq 102 71 (sk_td o_X8_grade 37 rfl) (by decide) rfl (fun hc => ?_) (fun hc => ?_)
  · rw [if_pos hc] at hq
    refine sg_aload_n 103 (sk_td o_X8_grade 54 rfl) rfl rfl ?_
    refine sm_getI 106 (sk_td o_X8_grade 55 rfl) rfl kf_X8_115 rfl rfl hk_k2 ?_
    obtain rfl := Option.some.inj hq
    exact sg_iret (sk_td o_X8_grade 56 rfl) rfl rfl
  · rw [if_neg hc] at hq
    refine sg_aload_n 72 (sk_td o_X8_grade 38 rfl) rfl rfl ?_
    refine sm_getR (2, 0) 75 (sk_td o_X8_grade 39 rfl) rfl kf_X8_17 rfl rfl sz_0 rfl ?_
    refine sg_aload_n 76 (sk_td o_X8_grade 40 rfl) rfl rfl ?_
    refine sm_getI 79 (sk_td o_X8_grade 41 rfl) rfl kf_X8_124 rfl rfl hk_k2 ?_
    obtain ⟨hb2, hq⟩ := sk_ifn hq
    refine sm_aald (39, (d.1 37 k2 4).toNatClampNeg) 80 (sk_td o_X8_grade 42 rfl) rfl rfl (by decide) sz_2 hb2 (sr_2 (sk_bi.lt hb2)) ?_
    refine sg_aload_n 81 (sk_td o_X8_grade 43 rfl) rfl rfl ?_
    obtain ⟨x3, hr_x3, hq⟩ := sk_bnd hq
    refine sm_callV1i 84 (s_X0_suits hr_x3 (sk_bi.lt hb2) hk_k2) (sk_td o_X8_grade 44 rfl) rfl lv_X8_162 rfl rfl rfl (sk_bi.lt hb2) (sk_rok (Nat.le_of_ble_eq_true rfl) (Nat.le_of_ble_eq_true rfl) rfl rfl) (Nat.le_of_ble_eq_true rfl) ?_
    refine sg_if_ne 102 87 (sk_td o_X8_grade 45 rfl) (by decide) rfl (fun hc => ?_) (fun hc => ?_)
    · rw [if_neg hc] at hq
      refine sg_aload_n 103 (sk_td o_X8_grade 54 rfl) rfl rfl ?_
      refine sm_getI 106 (sk_td o_X8_grade 55 rfl) rfl kf_X8_115 rfl rfl hk_k2 ?_
      obtain rfl := Option.some.inj hq
      exact sg_iret (sk_td o_X8_grade 56 rfl) rfl rfl
    · rw [if_pos hc] at hq
      refine sg_aload_n 88 (sk_td o_X8_grade 46 rfl) rfl rfl ?_
      refine sg_bipush (v := (-9 : Int32)) 90 (sk_td o_X8_grade 47 rfl) rfl (by decide) ?_
      refine sm_putI 93 (sk_td o_X8_grade 48 rfl) rfl kp_X8_124 rfl rfl hk_k2 ?_
      refine sg_aload_n 94 (sk_td o_X8_grade 49 rfl) rfl rfl ?_
      refine sg_aload_n 95 (sk_td o_X8_grade 50 rfl) rfl rfl ?_
      refine sk_wk [false, true, true] (ls' := [none, none, some (.inr (.inr (some (37, k2))))]) rfl ?_
      exact t_X8_grade_95 hq hk_k2 hk_k2
def q_X8_grade_49 (d : sk_D) (k2 : Nat) (h0 : Nat) : Option (Int32 × sk_D) :=
  (q_X4_clearScores d h0).bind fun x1 => (q_X8_grade_62 (sk_wi x1 37 k2 5 (x1.1 0 0 13)) k2 k2)
set_option maxRecDepth 100000 in
set_option maxHeartbeats 4000000 in
theorem t_X8_grade_49 {l : Launch} {d : sk_D} {k2 : Nat} {h0 : Nat} {res : Int32 × sk_D} (hq : q_X8_grade_49 d k2 h0 = some res) (hk_k2 : k2 < sk_cnt 37) (hk_h0 : h0 < sk_cnt 37) :
    sk_G l (sk_rm 4 0 0) m_X8_grade sk_Ex0 (sk_Zm m_X8_grade (some (.inl res.1)) (sk_mm res.2)) 0 0 49 [some (.inr (.inr (some (0, 0)))), none, some (.inr (.inr (some (37, k2))))] [.inr (.inr (some (37, h0)))] (sk_mm d) := by
  unfold q_X8_grade_49 at hq
  obtain ⟨x1, hr_x1, hq⟩ := sk_bnd hq
  refine sm_callV0v 52 (s_X4_clearScores hr_x1 hk_h0) (sk_td o_X8_grade 28 rfl) rfl lv_X8_156 rfl rfl rfl hk_h0 (sk_rok (Nat.le_of_ble_eq_true rfl) (Nat.le_of_ble_eq_true rfl) rfl rfl) (Nat.le_of_ble_eq_true rfl) ?_
  refine sg_aload_n 53 (sk_td o_X8_grade 29 rfl) rfl rfl ?_
  refine sg_aload_n 54 (sk_td o_X8_grade 30 rfl) rfl rfl ?_
  refine sm_getI 57 (sk_td o_X8_grade 31 rfl) rfl kf_X8_78 rfl rfl sz_0 ?_
  refine sm_putI 60 (sk_td o_X8_grade 32 rfl) rfl kp_X8_149 rfl rfl hk_k2 ?_
  refine sg_aload_n 61 (sk_td o_X8_grade 33 rfl) rfl rfl ?_
  refine sg_aload_n 62 (sk_td o_X8_grade 34 rfl) rfl rfl ?_
  exact t_X8_grade_62 hq hk_k2 hk_k2
def q_X8_grade_0 (d : sk_D) (v1 : Int32) : Option (Int32 × sk_D) :=
  (q_X8_hasPupil d v1).bind fun x1 => if x1 = 0 then some ((-1 : Int32), d) else if sk_bi v1 20 = true then (q_X4_countScores d v1.toNatClampNeg).bind fun x3 => if x3 < (4 : Int32) then some ((-2 : Int32), d) else if (d.1 37 v1.toNatClampNeg 5) = (d.1 0 0 13) then some ((-2 : Int32), d) else (q_X8_levelAfterTest d v1.toNatClampNeg).bind fun x4 => (q_X8_grade_49 (sk_wi d 37 v1.toNatClampNeg 1 x4) v1.toNatClampNeg v1.toNatClampNeg) else none
set_option maxRecDepth 100000 in
set_option maxHeartbeats 4000000 in
theorem t_X8_grade_0 {l : Launch} {d : sk_D} {v1 : Int32} {res : Int32 × sk_D} (hq : q_X8_grade_0 d v1 = some res) :
    sk_G l (sk_rm 4 0 0) m_X8_grade sk_Ex0 (sk_Zm m_X8_grade (some (.inl res.1)) (sk_mm res.2)) 0 0 0 [some (.inr (.inr (some (0, 0)))), some (.inl v1), none] [] (sk_mm d) := by
  unfold q_X8_grade_0 at hq
  refine sg_aload_n 1 (sk_td o_X8_grade 0 rfl) rfl rfl ?_
  refine sg_iload_n 2 (sk_td o_X8_grade 1 rfl) rfl rfl ?_
  obtain ⟨x1, hr_x1, hq⟩ := sk_bnd hq
  refine sm_callV1i 5 (s_X8_hasPupil hr_x1) (sk_td o_X8_grade 2 rfl) rfl lv_X8_105 rfl rfl rfl sz_0 (sk_rok (Nat.le_of_ble_eq_true rfl) (Nat.le_of_ble_eq_true rfl) rfl rfl) (Nat.le_of_ble_eq_true rfl) ?_
  refine sg_if_ne 10 8 (sk_td o_X8_grade 3 rfl) (by decide) rfl (fun hc => ?_) (fun hc => ?_)
  · rw [if_neg hc] at hq
    refine sg_aload_n 11 (sk_td o_X8_grade 6 rfl) rfl rfl ?_
    refine sm_getR (1, 0) 14 (sk_td o_X8_grade 7 rfl) rfl kf_X8_11 rfl rfl sz_0 rfl ?_
    refine sg_iload_n 15 (sk_td o_X8_grade 8 rfl) rfl rfl ?_
    obtain ⟨hb2, hq⟩ := sk_ifn hq
    refine sm_aald (37, v1.toNatClampNeg) 16 (sk_td o_X8_grade 9 rfl) rfl rfl (by decide) sz_1 hb2 (sr_1 (sk_bi.lt hb2)) ?_
    refine sg_astore_n 17 [some (.inr (.inr (some (0, 0)))), some (.inl v1), some (.inr (.inr (some (37, v1.toNatClampNeg))))] (sk_td o_X8_grade 10 rfl) rfl rfl (Nat.le_of_ble_eq_true rfl) rfl ?_
    refine sg_aload_n 18 (sk_td o_X8_grade 11 rfl) rfl rfl ?_
    obtain ⟨x3, hr_x3, hq⟩ := sk_bnd hq
    refine sm_callV0i 21 (s_X4_countScores hr_x3 (sk_bi.lt hb2)) (sk_td o_X8_grade 12 rfl) rfl lv_X8_146 rfl rfl rfl (sk_bi.lt hb2) (sk_rok (Nat.le_of_ble_eq_true rfl) (Nat.le_of_ble_eq_true rfl) rfl rfl) (Nat.le_of_ble_eq_true rfl) ?_
    refine sg_iconst (v := (4 : Int32)) 22 (sk_td o_X8_grade 13 rfl) rfl (by decide) ?_
    refine sg_ic_lt 36 25 (sk_td o_X8_grade 14 rfl) (by decide) rfl (fun hc => ?_) (fun hc => ?_)
    · rw [if_pos hc] at hq
      refine sg_bipush (v := (-2 : Int32)) 38 (sk_td o_X8_grade 20 rfl) rfl (by decide) ?_
      obtain rfl := Option.some.inj hq
      exact sg_iret (sk_td o_X8_grade 21 rfl) rfl rfl
    · rw [if_neg hc] at hq
      refine sg_aload_n 26 (sk_td o_X8_grade 15 rfl) rfl rfl ?_
      refine sm_getI 29 (sk_td o_X8_grade 16 rfl) rfl kf_X8_149 rfl rfl (sk_bi.lt hb2) ?_
      refine sg_aload_n 30 (sk_td o_X8_grade 17 rfl) rfl rfl ?_
      refine sm_getI 33 (sk_td o_X8_grade 18 rfl) rfl kf_X8_78 rfl rfl sz_0 ?_
      refine sg_ic_ne 39 36 (sk_td o_X8_grade 19 rfl) (by decide) rfl (fun hc => ?_) (fun hc => ?_)
      · rw [if_neg hc] at hq
        refine sg_aload_n 40 (sk_td o_X8_grade 22 rfl) rfl rfl ?_
        refine sg_aload_n 41 (sk_td o_X8_grade 23 rfl) rfl rfl ?_
        refine sg_aload_n 42 (sk_td o_X8_grade 24 rfl) rfl rfl ?_
        obtain ⟨x4, hr_x4, hq⟩ := sk_bnd hq
        refine sm_callV1i 45 (s_X8_levelAfterTest hr_x4 (sk_bi.lt hb2)) (sk_td o_X8_grade 25 rfl) rfl lv_X8_152 rfl rfl rfl sz_0 (sk_rok (Nat.le_of_ble_eq_true rfl) (Nat.le_of_ble_eq_true rfl) rfl rfl) (Nat.le_of_ble_eq_true rfl) ?_
        refine sm_putI 48 (sk_td o_X8_grade 26 rfl) rfl kp_X8_115 rfl rfl (sk_bi.lt hb2) ?_
        refine sg_aload_n 49 (sk_td o_X8_grade 27 rfl) rfl rfl ?_
        refine sk_wk [true, false, true] (ls' := [some (.inr (.inr (some (0, 0)))), none, some (.inr (.inr (some (37, v1.toNatClampNeg))))]) rfl ?_
        exact t_X8_grade_49 hq (sk_bi.lt hb2) (sk_bi.lt hb2)
      · rw [if_pos hc] at hq
        refine sg_bipush (v := (-2 : Int32)) 38 (sk_td o_X8_grade 20 rfl) rfl (by decide) ?_
        obtain rfl := Option.some.inj hq
        exact sg_iret (sk_td o_X8_grade 21 rfl) rfl rfl
  · rw [if_pos hc] at hq
    refine sg_iconst (v := (-1 : Int32)) 9 (sk_td o_X8_grade 4 rfl) rfl (by decide) ?_
    obtain rfl := Option.some.inj hq
    exact sg_iret (sk_td o_X8_grade 5 rfl) rfl rfl
def q_X8_grade (d : sk_D) (v1 : Int32) : Option (Int32 × sk_D) := q_X8_grade_0 d v1 
theorem s_X8_grade {l : Launch} {d : sk_D} {v1 : Int32} {res : Int32 × sk_D} (hq : q_X8_grade d v1 = some res) : sk_M l 4 m_X8_grade [.inr (.inr (some (0, 0))), .inl v1] (sk_mm d) (some (.inl res.1)) (sk_mm res.2) :=
  sk_enter (by decide) (fun _ => Nat.le_of_ble_eq_true rfl) (Nat.le_of_ble_eq_true rfl) (t_X8_grade_0 hq )
def q_X8_nextDay_11 (d : sk_D) : Option (Int32 × sk_D) :=
  some ((d.1 0 0 13), d)
set_option maxRecDepth 100000 in
set_option maxHeartbeats 4000000 in
theorem t_X8_nextDay_11 {l : Launch} {d : sk_D} {res : Int32 × sk_D} (hq : q_X8_nextDay_11 d = some res) :
    sk_G l (sk_rm 1 0 0) m_X8_nextDay sk_Ex0 (sk_Zm m_X8_nextDay (some (.inl res.1)) (sk_mm res.2)) 0 0 11 [none] [.inr (.inr (some (0, 0)))] (sk_mm d) := by
  unfold q_X8_nextDay_11 at hq
  refine sm_getI 14 (sk_td o_X8_nextDay 7 rfl) rfl kf_X8_78 rfl rfl sz_0 ?_
  obtain rfl := Option.some.inj hq
  exact sg_iret (sk_td o_X8_nextDay 8 rfl) rfl rfl
def q_X8_nextDay_0 (d : sk_D) : Option (Int32 × sk_D) :=
  (q_X8_nextDay_11 (sk_wi d 0 0 13 ((d.1 0 0 13) + (1 : Int32))))
set_option maxRecDepth 100000 in
set_option maxHeartbeats 4000000 in
theorem t_X8_nextDay_0 {l : Launch} {d : sk_D} {res : Int32 × sk_D} (hq : q_X8_nextDay_0 d = some res) :
    sk_G l (sk_rm 1 0 0) m_X8_nextDay sk_Ex0 (sk_Zm m_X8_nextDay (some (.inl res.1)) (sk_mm res.2)) 0 0 0 [some (.inr (.inr (some (0, 0))))] [] (sk_mm d) := by
  unfold q_X8_nextDay_0 at hq
  refine sg_aload_n 1 (sk_td o_X8_nextDay 0 rfl) rfl rfl ?_
  refine sg_dupR 2 (sk_td o_X8_nextDay 1 rfl) rfl ?_
  refine sm_getI 5 (sk_td o_X8_nextDay 2 rfl) rfl kf_X8_78 rfl rfl sz_0 ?_
  refine sg_iconst (v := (1 : Int32)) 6 (sk_td o_X8_nextDay 3 rfl) rfl (by decide) ?_
  refine sg_iadd 7 (sk_td o_X8_nextDay 4 rfl) rfl ?_
  refine sm_putI 10 (sk_td o_X8_nextDay 5 rfl) rfl kp_X8_78 rfl rfl sz_0 ?_
  refine sg_aload_n 11 (sk_td o_X8_nextDay 6 rfl) rfl rfl ?_
  refine sk_wk [false] (ls' := [none]) rfl ?_
  exact t_X8_nextDay_11 hq
def q_X8_nextDay (d : sk_D) : Option (Int32 × sk_D) := q_X8_nextDay_0 d 
theorem s_X8_nextDay {l : Launch} {d : sk_D} {res : Int32 × sk_D} (hq : q_X8_nextDay d = some res) : sk_M l 1 m_X8_nextDay [.inr (.inr (some (0, 0)))] (sk_mm d) (some (.inl res.1)) (sk_mm res.2) :=
  sk_enter (by decide) (fun _ => Nat.le_of_ble_eq_true rfl) (Nat.le_of_ble_eq_true rfl) (t_X8_nextDay_0 hq )
def q_X8_isGroupKind_0 (d : sk_D) (v0 : Int32) (v1 : Int32) (v2 : Int32) : Option (Int32) :=
  (q_X8_within d v0 (0 : Int32) (7 : Int32)).bind fun x1 => if x1 = 0 then some (0 : Int32) else (q_X8_within d v1 (0 : Int32) (5 : Int32)).bind fun x2 => if x2 = 0 then some (0 : Int32) else (q_X8_within d v2 (1 : Int32) (6 : Int32)).bind fun x3 => if x3 = 0 then some (0 : Int32) else some (1 : Int32)
set_option maxRecDepth 100000 in
set_option maxHeartbeats 4000000 in
theorem t_X8_isGroupKind_0 {l : Launch} {d : sk_D} {v0 : Int32} {v1 : Int32} {v2 : Int32} {res : Int32} (hq : q_X8_isGroupKind_0 d v0 v1 v2 = some res) :
    sk_G l (sk_rm 2 0 0) m_X8_isGroupKind sk_Ex0 (sk_Zm m_X8_isGroupKind (some (.inl res)) (sk_mm d)) 0 0 0 [some (.inl v0), some (.inl v1), some (.inl v2)] [] (sk_mm d) := by
  unfold q_X8_isGroupKind_0 at hq
  refine sg_iload_n 1 (sk_td o_X8_isGroupKind 0 rfl) rfl rfl ?_
  refine sg_iconst (v := (0 : Int32)) 2 (sk_td o_X8_isGroupKind 1 rfl) rfl (by decide) ?_
  refine sg_bipush (v := (7 : Int32)) 4 (sk_td o_X8_isGroupKind 2 rfl) rfl (by decide) ?_
  obtain ⟨x1, hr_x1, hq⟩ := sk_bnd hq
  refine sm_callS3i 7 (s_X8_within hr_x1) (sk_td o_X8_isGroupKind 3 rfl) rfl ls_X8_85 rfl (sk_rok (Nat.le_of_ble_eq_true rfl) (Nat.le_of_ble_eq_true rfl) rfl rfl) (Nat.le_of_ble_eq_true rfl) ?_
  refine sg_if_eq 33 10 (sk_td o_X8_isGroupKind 4 rfl) (by decide) rfl (fun hc => ?_) (fun hc => ?_)
  · rw [if_pos hc] at hq
    refine sg_iconst (v := (0 : Int32)) 34 (sk_td o_X8_isGroupKind 17 rfl) rfl (by decide) ?_
    obtain rfl := Option.some.inj hq
    exact sg_iret (sk_td o_X8_isGroupKind 18 rfl) rfl (show narrow .boolean (.int (0 : Int32)) = .int (0 : Int32) by decide)
  · rw [if_neg hc] at hq
    refine sg_iload_n 11 (sk_td o_X8_isGroupKind 5 rfl) rfl rfl ?_
    refine sg_iconst (v := (0 : Int32)) 12 (sk_td o_X8_isGroupKind 6 rfl) rfl (by decide) ?_
    refine sg_iconst (v := (5 : Int32)) 13 (sk_td o_X8_isGroupKind 7 rfl) rfl (by decide) ?_
    obtain ⟨x2, hr_x2, hq⟩ := sk_bnd hq
    refine sm_callS3i 16 (s_X8_within hr_x2) (sk_td o_X8_isGroupKind 8 rfl) rfl ls_X8_85 rfl (sk_rok (Nat.le_of_ble_eq_true rfl) (Nat.le_of_ble_eq_true rfl) rfl rfl) (Nat.le_of_ble_eq_true rfl) ?_
    refine sg_if_eq 33 19 (sk_td o_X8_isGroupKind 9 rfl) (by decide) rfl (fun hc => ?_) (fun hc => ?_)
    · rw [if_pos hc] at hq
      refine sg_iconst (v := (0 : Int32)) 34 (sk_td o_X8_isGroupKind 17 rfl) rfl (by decide) ?_
      obtain rfl := Option.some.inj hq
      exact sg_iret (sk_td o_X8_isGroupKind 18 rfl) rfl (show narrow .boolean (.int (0 : Int32)) = .int (0 : Int32) by decide)
    · rw [if_neg hc] at hq
      refine sg_iload_n 20 (sk_td o_X8_isGroupKind 10 rfl) rfl rfl ?_
      refine sg_iconst (v := (1 : Int32)) 21 (sk_td o_X8_isGroupKind 11 rfl) rfl (by decide) ?_
      refine sg_bipush (v := (6 : Int32)) 23 (sk_td o_X8_isGroupKind 12 rfl) rfl (by decide) ?_
      obtain ⟨x3, hr_x3, hq⟩ := sk_bnd hq
      refine sm_callS3i 26 (s_X8_within hr_x3) (sk_td o_X8_isGroupKind 13 rfl) rfl ls_X8_85 rfl (sk_rok (Nat.le_of_ble_eq_true rfl) (Nat.le_of_ble_eq_true rfl) rfl rfl) (Nat.le_of_ble_eq_true rfl) ?_
      refine sg_if_eq 33 29 (sk_td o_X8_isGroupKind 14 rfl) (by decide) rfl (fun hc => ?_) (fun hc => ?_)
      · rw [if_pos hc] at hq
        refine sg_iconst (v := (0 : Int32)) 34 (sk_td o_X8_isGroupKind 17 rfl) rfl (by decide) ?_
        obtain rfl := Option.some.inj hq
        exact sg_iret (sk_td o_X8_isGroupKind 18 rfl) rfl (show narrow .boolean (.int (0 : Int32)) = .int (0 : Int32) by decide)
      · rw [if_neg hc] at hq
        refine sg_iconst (v := (1 : Int32)) 30 (sk_td o_X8_isGroupKind 15 rfl) rfl (by decide) ?_
        refine sg_goto 34 (sk_td o_X8_isGroupKind 16 rfl) (by decide) ?_
        obtain rfl := Option.some.inj hq
        exact sg_iret (sk_td o_X8_isGroupKind 18 rfl) rfl (show narrow .boolean (.int (1 : Int32)) = .int (1 : Int32) by decide)
def q_X8_isGroupKind (d : sk_D) (v0 : Int32) (v1 : Int32) (v2 : Int32) : Option (Int32) := q_X8_isGroupKind_0 d v0 v1 v2 
theorem s_X8_isGroupKind {l : Launch} {d : sk_D} {v0 : Int32} {v1 : Int32} {v2 : Int32} {res : Int32} (hq : q_X8_isGroupKind d v0 v1 v2 = some res) : sk_M l 2 m_X8_isGroupKind [.inl v0, .inl v1, .inl v2] (sk_mm d) (some (.inl res)) (sk_mm d) :=
  sk_enter (by decide) (fun _ => Nat.le_of_ble_eq_true rfl) (Nat.le_of_ble_eq_true rfl) (t_X8_isGroupKind_0 hq )
def q_X8_freeGroupNumber_2 (rec2 : (Int32) → Option (Int32)) (d : sk_D) (v1 : Int32) : Option (Int32) :=
  if (4 : Int32) ≤ v1 then some (-9 : Int32) else if sk_bi v1 4 = true then if (d.1 39 v1.toNatClampNeg 0) = 0 then some v1 else (rec2 (v1 + (1 : Int32))) else none
set_option maxRecDepth 100000 in
set_option maxHeartbeats 4000000 in
theorem t_X8_freeGroupNumber_2 {l : Launch} {rec2 : (Int32) → Option (Int32)} {d : sk_D} {v1 : Int32} (hrec2 : ∀ (a : (Int32)) (res : Int32), rec2 a = some res → sk_G l (sk_rm 1 0 0) m_X8_freeGroupNumber sk_Ex0 (sk_Zm m_X8_freeGroupNumber (some (.inl res)) (sk_mm d)) 0 0 2 [some (.inr (.inr (some (0, 0)))), some (.inl a)] [] (sk_mm d)) {res : Int32} (hq : q_X8_freeGroupNumber_2 rec2 d v1 = some res) :
    sk_G l (sk_rm 1 0 0) m_X8_freeGroupNumber sk_Ex0 (sk_Zm m_X8_freeGroupNumber (some (.inl res)) (sk_mm d)) 0 0 2 [some (.inr (.inr (some (0, 0)))), some (.inl v1)] [] (sk_mm d) := by
  unfold q_X8_freeGroupNumber_2 at hq
  refine sg_iload_n 3 (sk_td o_X8_freeGroupNumber 2 rfl) rfl rfl ?_
  refine sg_iconst (v := (4 : Int32)) 4 (sk_td o_X8_freeGroupNumber 3 rfl) rfl (by decide) ?_
  refine sg_ic_ge 27 7 (sk_td o_X8_freeGroupNumber 4 rfl) (by decide) rfl (fun hc => ?_) (fun hc => ?_)
  · rw [if_pos hc] at hq
    refine sg_bipush (v := (-9 : Int32)) 29 (sk_td o_X8_freeGroupNumber 15 rfl) rfl (by decide) ?_
    obtain rfl := Option.some.inj hq
    exact sg_iret (sk_td o_X8_freeGroupNumber 16 rfl) rfl rfl
  · rw [if_neg hc] at hq
    refine sg_aload_n 8 (sk_td o_X8_freeGroupNumber 5 rfl) rfl rfl ?_
    refine sm_getR (2, 0) 11 (sk_td o_X8_freeGroupNumber 6 rfl) rfl kf_X8_17 rfl rfl sz_0 rfl ?_
    refine sg_iload_n 12 (sk_td o_X8_freeGroupNumber 7 rfl) rfl rfl ?_
    obtain ⟨hb1, hq⟩ := sk_ifn hq
    refine sm_aald (39, v1.toNatClampNeg) 13 (sk_td o_X8_freeGroupNumber 8 rfl) rfl rfl (by decide) sz_2 hb1 (sr_2 (sk_bi.lt hb1)) ?_
    refine sm_getI 16 (sk_td o_X8_freeGroupNumber 9 rfl) rfl kf_X8_181 rfl rfl (sk_bi.lt hb1) ?_
    refine sg_if_ne 21 19 (sk_td o_X8_freeGroupNumber 10 rfl) (by decide) rfl (fun hc => ?_) (fun hc => ?_)
    · rw [if_neg hc] at hq
      refine sg_iinc (v1 + (1 : Int32)) 24 [some (.inr (.inr (some (0, 0)))), some (.inl (v1 + (1 : Int32)))] (sk_td o_X8_freeGroupNumber 13 rfl) rfl rfl rfl rfl (Nat.le_of_ble_eq_true rfl) rfl ?_
      refine sg_goto 2 (sk_td o_X8_freeGroupNumber 14 rfl) (by decide) ?_
      exact hrec2 (v1 + (1 : Int32)) _ hq
    · rw [if_pos hc] at hq
      refine sg_iload_n 20 (sk_td o_X8_freeGroupNumber 11 rfl) rfl rfl ?_
      obtain rfl := Option.some.inj hq
      exact sg_iret (sk_td o_X8_freeGroupNumber 12 rfl) rfl rfl
def l_X8_freeGroupNumber_2 (d : sk_D) (fl : Nat) (a : (Int32)) : Option (Int32) := sk_it (fun rec2 a => q_X8_freeGroupNumber_2 rec2 d a) fl a
theorem lt_X8_freeGroupNumber_2 {l : Launch} {d : sk_D} : ∀ (fl : Nat) (a : (Int32)) (res : Int32), l_X8_freeGroupNumber_2 d fl a = some res → sk_G l (sk_rm 1 0 0) m_X8_freeGroupNumber sk_Ex0 (sk_Zm m_X8_freeGroupNumber (some (.inl res)) (sk_mm d)) 0 0 2 [some (.inr (.inr (some (0, 0)))), some (.inl a)] [] (sk_mm d) :=
  sk_it_ind (P := fun (a : (Int32)) (res : Int32) => sk_G l (sk_rm 1 0 0) m_X8_freeGroupNumber sk_Ex0 (sk_Zm m_X8_freeGroupNumber (some (.inl res)) (sk_mm d)) 0 0 2 [some (.inr (.inr (some (0, 0)))), some (.inl a)] [] (sk_mm d)) (fun rec2 hrec2 a res hq  => t_X8_freeGroupNumber_2 hrec2 hq )
def q_X8_freeGroupNumber_0 (d : sk_D) : Option (Int32) :=
  (l_X8_freeGroupNumber_2 d sk_fu (0 : Int32))
set_option maxRecDepth 100000 in
set_option maxHeartbeats 4000000 in
theorem t_X8_freeGroupNumber_0 {l : Launch} {d : sk_D} {res : Int32} (hq : q_X8_freeGroupNumber_0 d = some res) :
    sk_G l (sk_rm 1 0 0) m_X8_freeGroupNumber sk_Ex0 (sk_Zm m_X8_freeGroupNumber (some (.inl res)) (sk_mm d)) 0 0 0 [some (.inr (.inr (some (0, 0)))), none] [] (sk_mm d) := by
  unfold q_X8_freeGroupNumber_0 at hq
  refine sg_iconst (v := (0 : Int32)) 1 (sk_td o_X8_freeGroupNumber 0 rfl) rfl (by decide) ?_
  refine sg_istore_n 2 [some (.inr (.inr (some (0, 0)))), some (.inl (0 : Int32))] (sk_td o_X8_freeGroupNumber 1 rfl) rfl rfl (Nat.le_of_ble_eq_true rfl) rfl ?_
  exact lt_X8_freeGroupNumber_2 sk_fu (0 : Int32) _ hq
def q_X8_freeGroupNumber (d : sk_D) : Option (Int32) := q_X8_freeGroupNumber_0 d 
theorem s_X8_freeGroupNumber {l : Launch} {d : sk_D} {res : Int32} (hq : q_X8_freeGroupNumber d = some res) : sk_M l 1 m_X8_freeGroupNumber [.inr (.inr (some (0, 0)))] (sk_mm d) (some (.inl res)) (sk_mm d) :=
  sk_enter (by decide) (fun _ => Nat.le_of_ble_eq_true rfl) (Nat.le_of_ble_eq_true rfl) (t_X8_freeGroupNumber_0 hq )
def q_X8_openGroup_0 (d : sk_D) (v1 : Int32) (v2 : Int32) (v3 : Int32) : Option (Int32 × sk_D) :=
  (q_X8_isGroupKind d v1 v2 v3).bind fun x1 => if x1 = 0 then some ((-1 : Int32), d) else (q_X8_freeGroupNumber d).bind fun x2 => (q_X8_within d x2 (0 : Int32) (3 : Int32)).bind fun x3 => if x3 = 0 then some ((-3 : Int32), d) else if sk_bi x2 4 = true then (q_X0_begin d x2.toNatClampNeg v1 v2 v3).bind fun x5 => some (x2, x5) else none
set_option maxRecDepth 100000 in
set_option maxHeartbeats 4000000 in
theorem t_X8_openGroup_0 {l : Launch} {d : sk_D} {v1 : Int32} {v2 : Int32} {v3 : Int32} {res : Int32 × sk_D} (hq : q_X8_openGroup_0 d v1 v2 v3 = some res) :
    sk_G l (sk_rm 3 0 0) m_X8_openGroup sk_Ex0 (sk_Zm m_X8_openGroup (some (.inl res.1)) (sk_mm res.2)) 0 0 0 [some (.inr (.inr (some (0, 0)))), some (.inl v1), some (.inl v2), some (.inl v3), none] [] (sk_mm d) := by
  unfold q_X8_openGroup_0 at hq
  refine sg_iload_n 1 (sk_td o_X8_openGroup 0 rfl) rfl rfl ?_
  refine sg_iload_n 2 (sk_td o_X8_openGroup 1 rfl) rfl rfl ?_
  refine sg_iload_n 3 (sk_td o_X8_openGroup 2 rfl) rfl rfl ?_
  obtain ⟨x1, hr_x1, hq⟩ := sk_bnd hq
  refine sm_callS3i 6 (s_X8_isGroupKind hr_x1) (sk_td o_X8_openGroup 3 rfl) rfl ls_X8_166 rfl (sk_rok (Nat.le_of_ble_eq_true rfl) (Nat.le_of_ble_eq_true rfl) rfl rfl) (Nat.le_of_ble_eq_true rfl) ?_
  refine sg_if_ne 11 9 (sk_td o_X8_openGroup 4 rfl) (by decide) rfl (fun hc => ?_) (fun hc => ?_)
  · rw [if_neg hc] at hq
    refine sg_aload_n 12 (sk_td o_X8_openGroup 7 rfl) rfl rfl ?_
    obtain ⟨x2, hr_x2, hq⟩ := sk_bnd hq
    refine sm_callV0i 15 (s_X8_freeGroupNumber hr_x2) (sk_td o_X8_openGroup 8 rfl) rfl lv_X8_169 rfl rfl rfl sz_0 (sk_rok (Nat.le_of_ble_eq_true rfl) (Nat.le_of_ble_eq_true rfl) rfl rfl) (Nat.le_of_ble_eq_true rfl) ?_
    refine sg_istore 17 [some (.inr (.inr (some (0, 0)))), some (.inl v1), some (.inl v2), some (.inl v3), some (.inl x2)] (sk_td o_X8_openGroup 9 rfl) rfl rfl (Nat.le_of_ble_eq_true rfl) rfl ?_
    refine sg_iload 19 (sk_td o_X8_openGroup 10 rfl) rfl rfl ?_
    refine sg_iconst (v := (0 : Int32)) 20 (sk_td o_X8_openGroup 11 rfl) rfl (by decide) ?_
    refine sg_iconst (v := (3 : Int32)) 21 (sk_td o_X8_openGroup 12 rfl) rfl (by decide) ?_
    obtain ⟨x3, hr_x3, hq⟩ := sk_bnd hq
    refine sm_callS3i 24 (s_X8_within hr_x3) (sk_td o_X8_openGroup 13 rfl) rfl ls_X8_85 rfl (sk_rok (Nat.le_of_ble_eq_true rfl) (Nat.le_of_ble_eq_true rfl) rfl rfl) (Nat.le_of_ble_eq_true rfl) ?_
    refine sg_if_ne 30 27 (sk_td o_X8_openGroup 14 rfl) (by decide) rfl (fun hc => ?_) (fun hc => ?_)
    · rw [if_neg hc] at hq
      refine sg_aload_n 31 (sk_td o_X8_openGroup 17 rfl) rfl rfl ?_
      refine sm_getR (2, 0) 34 (sk_td o_X8_openGroup 18 rfl) rfl kf_X8_17 rfl rfl sz_0 rfl ?_
      refine sg_iload 36 (sk_td o_X8_openGroup 19 rfl) rfl rfl ?_
      obtain ⟨hb4, hq⟩ := sk_ifn hq
      refine sm_aald (39, x2.toNatClampNeg) 37 (sk_td o_X8_openGroup 20 rfl) rfl rfl (by decide) sz_2 hb4 (sr_2 (sk_bi.lt hb4)) ?_
      refine sg_iload_n 38 (sk_td o_X8_openGroup 21 rfl) rfl rfl ?_
      refine sg_iload_n 39 (sk_td o_X8_openGroup 22 rfl) rfl rfl ?_
      refine sg_iload_n 40 (sk_td o_X8_openGroup 23 rfl) rfl rfl ?_
      obtain ⟨x5, hr_x5, hq⟩ := sk_bnd hq
      refine sm_callV3v 43 (s_X0_begin hr_x5 (sk_bi.lt hb4)) (sk_td o_X8_openGroup 24 rfl) rfl lv_X8_172 rfl rfl rfl (sk_bi.lt hb4) (sk_rok (Nat.le_of_ble_eq_true rfl) (Nat.le_of_ble_eq_true rfl) rfl rfl) (Nat.le_of_ble_eq_true rfl) ?_
      refine sg_iload 45 (sk_td o_X8_openGroup 25 rfl) rfl rfl ?_
      obtain rfl := Option.some.inj hq
      exact sg_iret (sk_td o_X8_openGroup 26 rfl) rfl rfl
    · rw [if_pos hc] at hq
      refine sg_bipush (v := (-3 : Int32)) 29 (sk_td o_X8_openGroup 15 rfl) rfl (by decide) ?_
      obtain rfl := Option.some.inj hq
      exact sg_iret (sk_td o_X8_openGroup 16 rfl) rfl rfl
  · rw [if_pos hc] at hq
    refine sg_iconst (v := (-1 : Int32)) 10 (sk_td o_X8_openGroup 5 rfl) rfl (by decide) ?_
    obtain rfl := Option.some.inj hq
    exact sg_iret (sk_td o_X8_openGroup 6 rfl) rfl rfl
def q_X8_openGroup (d : sk_D) (v1 : Int32) (v2 : Int32) (v3 : Int32) : Option (Int32 × sk_D) := q_X8_openGroup_0 d v1 v2 v3 
theorem s_X8_openGroup {l : Launch} {d : sk_D} {v1 : Int32} {v2 : Int32} {v3 : Int32} {res : Int32 × sk_D} (hq : q_X8_openGroup d v1 v2 v3 = some res) : sk_M l 3 m_X8_openGroup [.inr (.inr (some (0, 0))), .inl v1, .inl v2, .inl v3] (sk_mm d) (some (.inl res.1)) (sk_mm res.2) :=
  sk_enter (by decide) (fun _ => Nat.le_of_ble_eq_true rfl) (Nat.le_of_ble_eq_true rfl) (t_X8_openGroup_0 hq )
def q_X8_closeGroup_47 (rec14 : (sk_D × Int32 × Int32 × Int32) → Option (Int32 × sk_D)) (d : sk_D) (v1 : Int32) (v2 : Int32) (v3 : Int32) : Option (Int32 × sk_D) :=
  (rec14 (d, v1, v2, (v3 + (1 : Int32))))
set_option maxRecDepth 100000 in
set_option maxHeartbeats 4000000 in
theorem t_X8_closeGroup_47 {l : Launch} {rec14 : (sk_D × Int32 × Int32 × Int32) → Option (Int32 × sk_D)} {d : sk_D} {v1 : Int32} {v2 : Int32} {v3 : Int32} (hrec14 : ∀ (a : (sk_D × Int32 × Int32 × Int32)) (res : Int32 × sk_D), rec14 a = some res → sk_G l (sk_rm 3 0 0) m_X8_closeGroup sk_Ex0 (sk_Zm m_X8_closeGroup (some (.inl res.1)) (sk_mm res.2)) 0 0 14 [some (.inr (.inr (some (0, 0)))), some (.inl a.2.1), some (.inl a.2.2.1), some (.inl a.2.2.2)] [] (sk_mm a.1)) {res : Int32 × sk_D} (hq : q_X8_closeGroup_47 rec14 d v1 v2 v3 = some res) :
    sk_G l (sk_rm 3 0 0) m_X8_closeGroup sk_Ex0 (sk_Zm m_X8_closeGroup (some (.inl res.1)) (sk_mm res.2)) 0 0 47 [some (.inr (.inr (some (0, 0)))), some (.inl v1), some (.inl v2), some (.inl v3)] [] (sk_mm d) := by
  unfold q_X8_closeGroup_47 at hq
  refine sg_iinc (v3 + (1 : Int32)) 50 [some (.inr (.inr (some (0, 0)))), some (.inl v1), some (.inl v2), some (.inl (v3 + (1 : Int32)))] (sk_td o_X8_closeGroup 27 rfl) rfl rfl rfl rfl (Nat.le_of_ble_eq_true rfl) rfl ?_
  refine sg_goto 14 (sk_td o_X8_closeGroup 28 rfl) (by decide) ?_
  exact hrec14 (d, v1, v2, (v3 + (1 : Int32))) _ hq
def q_X8_closeGroup_14 (rec14 : (sk_D × Int32 × Int32 × Int32) → Option (Int32 × sk_D)) (d : sk_D) (v1 : Int32) (v2 : Int32) (v3 : Int32) : Option (Int32 × sk_D) :=
  if (20 : Int32) ≤ v3 then if sk_bi v1 4 = true then (q_X0_end d v1.toNatClampNeg).bind fun x2 => some (v2, x2) else none else if sk_bi v3 20 = true then (q_X4_isIn d v3.toNatClampNeg v1).bind fun x4 => if x4 = 0 then (q_X8_closeGroup_47 rec14 d v1 v2 v3) else if sk_bi v3 20 = true then (q_X8_closeGroup_47 rec14 (sk_wi d 37 v3.toNatClampNeg 4 (-9 : Int32)) v1 (v2 + (1 : Int32)) v3) else none else none
set_option maxRecDepth 100000 in
set_option maxHeartbeats 4000000 in
theorem t_X8_closeGroup_14 {l : Launch} {rec14 : (sk_D × Int32 × Int32 × Int32) → Option (Int32 × sk_D)} {d : sk_D} {v1 : Int32} {v2 : Int32} {v3 : Int32} (hrec14 : ∀ (a : (sk_D × Int32 × Int32 × Int32)) (res : Int32 × sk_D), rec14 a = some res → sk_G l (sk_rm 3 0 0) m_X8_closeGroup sk_Ex0 (sk_Zm m_X8_closeGroup (some (.inl res.1)) (sk_mm res.2)) 0 0 14 [some (.inr (.inr (some (0, 0)))), some (.inl a.2.1), some (.inl a.2.2.1), some (.inl a.2.2.2)] [] (sk_mm a.1)) {res : Int32 × sk_D} (hq : q_X8_closeGroup_14 rec14 d v1 v2 v3 = some res) :
    sk_G l (sk_rm 3 0 0) m_X8_closeGroup sk_Ex0 (sk_Zm m_X8_closeGroup (some (.inl res.1)) (sk_mm res.2)) 0 0 14 [some (.inr (.inr (some (0, 0)))), some (.inl v1), some (.inl v2), some (.inl v3)] [] (sk_mm d) := by
  unfold q_X8_closeGroup_14 at hq
  refine sg_iload_n 15 (sk_td o_X8_closeGroup 10 rfl) rfl rfl ?_
  refine sg_bipush (v := (20 : Int32)) 17 (sk_td o_X8_closeGroup 11 rfl) rfl (by decide) ?_
  refine sg_ic_ge 53 20 (sk_td o_X8_closeGroup 12 rfl) (by decide) rfl (fun hc => ?_) (fun hc => ?_)
  · rw [if_pos hc] at hq
    refine sg_aload_n 54 (sk_td o_X8_closeGroup 29 rfl) rfl rfl ?_
    refine sm_getR (2, 0) 57 (sk_td o_X8_closeGroup 30 rfl) rfl kf_X8_17 rfl rfl sz_0 rfl ?_
    refine sg_iload_n 58 (sk_td o_X8_closeGroup 31 rfl) rfl rfl ?_
    obtain ⟨hb1, hq⟩ := sk_ifn hq
    refine sm_aald (39, v1.toNatClampNeg) 59 (sk_td o_X8_closeGroup 32 rfl) rfl rfl (by decide) sz_2 hb1 (sr_2 (sk_bi.lt hb1)) ?_
    obtain ⟨x2, hr_x2, hq⟩ := sk_bnd hq
    refine sm_callV0v 62 (s_X0_end hr_x2 (sk_bi.lt hb1)) (sk_td o_X8_closeGroup 33 rfl) rfl lv_X8_178 rfl rfl rfl (sk_bi.lt hb1) (sk_rok (Nat.le_of_ble_eq_true rfl) (Nat.le_of_ble_eq_true rfl) rfl rfl) (Nat.le_of_ble_eq_true rfl) ?_
    refine sg_iload_n 63 (sk_td o_X8_closeGroup 34 rfl) rfl rfl ?_
    obtain rfl := Option.some.inj hq
    exact sg_iret (sk_td o_X8_closeGroup 35 rfl) rfl rfl
  · rw [if_neg hc] at hq
    refine sg_aload_n 21 (sk_td o_X8_closeGroup 13 rfl) rfl rfl ?_
    refine sm_getR (1, 0) 24 (sk_td o_X8_closeGroup 14 rfl) rfl kf_X8_11 rfl rfl sz_0 rfl ?_
    refine sg_iload_n 25 (sk_td o_X8_closeGroup 15 rfl) rfl rfl ?_
    obtain ⟨hb3, hq⟩ := sk_ifn hq
    refine sm_aald (37, v3.toNatClampNeg) 26 (sk_td o_X8_closeGroup 16 rfl) rfl rfl (by decide) sz_1 hb3 (sr_1 (sk_bi.lt hb3)) ?_
    refine sg_iload_n 27 (sk_td o_X8_closeGroup 17 rfl) rfl rfl ?_
    obtain ⟨x4, hr_x4, hq⟩ := sk_bnd hq
    refine sm_callV1i 30 (s_X4_isIn hr_x4 (sk_bi.lt hb3)) (sk_td o_X8_closeGroup 18 rfl) rfl lv_X8_175 rfl rfl rfl (sk_bi.lt hb3) (sk_rok (Nat.le_of_ble_eq_true rfl) (Nat.le_of_ble_eq_true rfl) rfl rfl) (Nat.le_of_ble_eq_true rfl) ?_
    refine sg_if_eq 47 33 (sk_td o_X8_closeGroup 19 rfl) (by decide) rfl (fun hc => ?_) (fun hc => ?_)
    · rw [if_pos hc] at hq
      exact t_X8_closeGroup_47 hrec14 hq
    · rw [if_neg hc] at hq
      refine sg_aload_n 34 (sk_td o_X8_closeGroup 20 rfl) rfl rfl ?_
      refine sm_getR (1, 0) 37 (sk_td o_X8_closeGroup 21 rfl) rfl kf_X8_11 rfl rfl sz_0 rfl ?_
      refine sg_iload_n 38 (sk_td o_X8_closeGroup 22 rfl) rfl rfl ?_
      obtain ⟨hb5, hq⟩ := sk_ifn hq
      refine sm_aald (37, v3.toNatClampNeg) 39 (sk_td o_X8_closeGroup 23 rfl) rfl rfl (by decide) sz_1 hb5 (sr_1 (sk_bi.lt hb5)) ?_
      refine sg_bipush (v := (-9 : Int32)) 41 (sk_td o_X8_closeGroup 24 rfl) rfl (by decide) ?_
      refine sm_putI 44 (sk_td o_X8_closeGroup 25 rfl) rfl kp_X8_124 rfl rfl (sk_bi.lt hb5) ?_
      refine sg_iinc (v2 + (1 : Int32)) 47 [some (.inr (.inr (some (0, 0)))), some (.inl v1), some (.inl (v2 + (1 : Int32))), some (.inl v3)] (sk_td o_X8_closeGroup 26 rfl) rfl rfl rfl rfl (Nat.le_of_ble_eq_true rfl) rfl ?_
      exact t_X8_closeGroup_47 hrec14 hq
def l_X8_closeGroup_14 (fl : Nat) (a : (sk_D × Int32 × Int32 × Int32)) : Option (Int32 × sk_D) := sk_it (fun rec14 a => q_X8_closeGroup_14 rec14 a.1 a.2.1 a.2.2.1 a.2.2.2) fl a
theorem lt_X8_closeGroup_14 {l : Launch} : ∀ (fl : Nat) (a : (sk_D × Int32 × Int32 × Int32)) (res : Int32 × sk_D), l_X8_closeGroup_14 fl a = some res → sk_G l (sk_rm 3 0 0) m_X8_closeGroup sk_Ex0 (sk_Zm m_X8_closeGroup (some (.inl res.1)) (sk_mm res.2)) 0 0 14 [some (.inr (.inr (some (0, 0)))), some (.inl a.2.1), some (.inl a.2.2.1), some (.inl a.2.2.2)] [] (sk_mm a.1) :=
  sk_it_ind (P := fun (a : (sk_D × Int32 × Int32 × Int32)) (res : Int32 × sk_D) => sk_G l (sk_rm 3 0 0) m_X8_closeGroup sk_Ex0 (sk_Zm m_X8_closeGroup (some (.inl res.1)) (sk_mm res.2)) 0 0 14 [some (.inr (.inr (some (0, 0)))), some (.inl a.2.1), some (.inl a.2.2.1), some (.inl a.2.2.2)] [] (sk_mm a.1)) (fun rec14 hrec14 a res hq  => t_X8_closeGroup_14 hrec14 hq )
def q_X8_closeGroup_0 (d : sk_D) (v1 : Int32) : Option (Int32 × sk_D) :=
  (q_X8_hasGroup d v1).bind fun x1 => if x1 = 0 then some ((-1 : Int32), d) else (l_X8_closeGroup_14 sk_fu (d, v1, (0 : Int32), (0 : Int32)))
set_option maxRecDepth 100000 in
set_option maxHeartbeats 4000000 in
theorem t_X8_closeGroup_0 {l : Launch} {d : sk_D} {v1 : Int32} {res : Int32 × sk_D} (hq : q_X8_closeGroup_0 d v1 = some res) :
    sk_G l (sk_rm 3 0 0) m_X8_closeGroup sk_Ex0 (sk_Zm m_X8_closeGroup (some (.inl res.1)) (sk_mm res.2)) 0 0 0 [some (.inr (.inr (some (0, 0)))), some (.inl v1), none, none] [] (sk_mm d) := by
  unfold q_X8_closeGroup_0 at hq
  refine sg_aload_n 1 (sk_td o_X8_closeGroup 0 rfl) rfl rfl ?_
  refine sg_iload_n 2 (sk_td o_X8_closeGroup 1 rfl) rfl rfl ?_
  obtain ⟨x1, hr_x1, hq⟩ := sk_bnd hq
  refine sm_callV1i 5 (s_X8_hasGroup hr_x1) (sk_td o_X8_closeGroup 2 rfl) rfl lv_X8_159 rfl rfl rfl sz_0 (sk_rok (Nat.le_of_ble_eq_true rfl) (Nat.le_of_ble_eq_true rfl) rfl rfl) (Nat.le_of_ble_eq_true rfl) ?_
  refine sg_if_ne 10 8 (sk_td o_X8_closeGroup 3 rfl) (by decide) rfl (fun hc => ?_) (fun hc => ?_)
  · rw [if_neg hc] at hq
    refine sg_iconst (v := (0 : Int32)) 11 (sk_td o_X8_closeGroup 6 rfl) rfl (by decide) ?_
    refine sg_istore_n 12 [some (.inr (.inr (some (0, 0)))), some (.inl v1), some (.inl (0 : Int32)), none] (sk_td o_X8_closeGroup 7 rfl) rfl rfl (Nat.le_of_ble_eq_true rfl) rfl ?_
    refine sg_iconst (v := (0 : Int32)) 13 (sk_td o_X8_closeGroup 8 rfl) rfl (by decide) ?_
    refine sg_istore_n 14 [some (.inr (.inr (some (0, 0)))), some (.inl v1), some (.inl (0 : Int32)), some (.inl (0 : Int32))] (sk_td o_X8_closeGroup 9 rfl) rfl rfl (Nat.le_of_ble_eq_true rfl) rfl ?_
    exact lt_X8_closeGroup_14 sk_fu (d, v1, (0 : Int32), (0 : Int32)) _ hq
  · rw [if_pos hc] at hq
    refine sg_iconst (v := (-1 : Int32)) 9 (sk_td o_X8_closeGroup 4 rfl) rfl (by decide) ?_
    obtain rfl := Option.some.inj hq
    exact sg_iret (sk_td o_X8_closeGroup 5 rfl) rfl rfl
def q_X8_closeGroup (d : sk_D) (v1 : Int32) : Option (Int32 × sk_D) := q_X8_closeGroup_0 d v1 
theorem s_X8_closeGroup {l : Launch} {d : sk_D} {v1 : Int32} {res : Int32 × sk_D} (hq : q_X8_closeGroup d v1 = some res) : sk_M l 3 m_X8_closeGroup [.inr (.inr (some (0, 0))), .inl v1] (sk_mm d) (some (.inl res.1)) (sk_mm res.2) :=
  sk_enter (by decide) (fun _ => Nat.le_of_ble_eq_true rfl) (Nat.le_of_ble_eq_true rfl) (t_X8_closeGroup_0 hq )
def q_X8_groups_24 (rec4 : (Int32 × Int32) → Option (Int32)) (d : sk_D) (v1 : Int32) (v2 : Int32) : Option (Int32) :=
  (rec4 (v1, (v2 + (1 : Int32))))
set_option maxRecDepth 100000 in
set_option maxHeartbeats 4000000 in
theorem t_X8_groups_24 {l : Launch} {rec4 : (Int32 × Int32) → Option (Int32)} {d : sk_D} {v1 : Int32} {v2 : Int32} (hrec4 : ∀ (a : (Int32 × Int32)) (res : Int32), rec4 a = some res → sk_G l (sk_rm 1 0 0) m_X8_groups sk_Ex0 (sk_Zm m_X8_groups (some (.inl res)) (sk_mm d)) 0 0 4 [some (.inr (.inr (some (0, 0)))), some (.inl a.1), some (.inl a.2)] [] (sk_mm d)) {res : Int32} (hq : q_X8_groups_24 rec4 d v1 v2 = some res) :
    sk_G l (sk_rm 1 0 0) m_X8_groups sk_Ex0 (sk_Zm m_X8_groups (some (.inl res)) (sk_mm d)) 0 0 24 [some (.inr (.inr (some (0, 0)))), some (.inl v1), some (.inl v2)] [] (sk_mm d) := by
  unfold q_X8_groups_24 at hq
  refine sg_iinc (v2 + (1 : Int32)) 27 [some (.inr (.inr (some (0, 0)))), some (.inl v1), some (.inl (v2 + (1 : Int32)))] (sk_td o_X8_groups 14 rfl) rfl rfl rfl rfl (Nat.le_of_ble_eq_true rfl) rfl ?_
  refine sg_goto 4 (sk_td o_X8_groups 15 rfl) (by decide) ?_
  exact hrec4 (v1, (v2 + (1 : Int32))) _ hq
def q_X8_groups_4 (rec4 : (Int32 × Int32) → Option (Int32)) (d : sk_D) (v1 : Int32) (v2 : Int32) : Option (Int32) :=
  if (4 : Int32) ≤ v2 then some v1 else if sk_bi v2 4 = true then if (d.1 39 v2.toNatClampNeg 0) = 0 then (q_X8_groups_24 rec4 d v1 v2) else (q_X8_groups_24 rec4 d (v1 + (1 : Int32)) v2) else none
set_option maxRecDepth 100000 in
set_option maxHeartbeats 4000000 in
theorem t_X8_groups_4 {l : Launch} {rec4 : (Int32 × Int32) → Option (Int32)} {d : sk_D} {v1 : Int32} {v2 : Int32} (hrec4 : ∀ (a : (Int32 × Int32)) (res : Int32), rec4 a = some res → sk_G l (sk_rm 1 0 0) m_X8_groups sk_Ex0 (sk_Zm m_X8_groups (some (.inl res)) (sk_mm d)) 0 0 4 [some (.inr (.inr (some (0, 0)))), some (.inl a.1), some (.inl a.2)] [] (sk_mm d)) {res : Int32} (hq : q_X8_groups_4 rec4 d v1 v2 = some res) :
    sk_G l (sk_rm 1 0 0) m_X8_groups sk_Ex0 (sk_Zm m_X8_groups (some (.inl res)) (sk_mm d)) 0 0 4 [some (.inr (.inr (some (0, 0)))), some (.inl v1), some (.inl v2)] [] (sk_mm d) := by
  unfold q_X8_groups_4 at hq
  refine sg_iload_n 5 (sk_td o_X8_groups 4 rfl) rfl rfl ?_
  refine sg_iconst (v := (4 : Int32)) 6 (sk_td o_X8_groups 5 rfl) rfl (by decide) ?_
  refine sg_ic_ge 30 9 (sk_td o_X8_groups 6 rfl) (by decide) rfl (fun hc => ?_) (fun hc => ?_)
  · rw [if_pos hc] at hq
    refine sg_iload_n 31 (sk_td o_X8_groups 16 rfl) rfl rfl ?_
    obtain rfl := Option.some.inj hq
    exact sg_iret (sk_td o_X8_groups 17 rfl) rfl rfl
  · rw [if_neg hc] at hq
    refine sg_aload_n 10 (sk_td o_X8_groups 7 rfl) rfl rfl ?_
    refine sm_getR (2, 0) 13 (sk_td o_X8_groups 8 rfl) rfl kf_X8_17 rfl rfl sz_0 rfl ?_
    refine sg_iload_n 14 (sk_td o_X8_groups 9 rfl) rfl rfl ?_
    obtain ⟨hb1, hq⟩ := sk_ifn hq
    refine sm_aald (39, v2.toNatClampNeg) 15 (sk_td o_X8_groups 10 rfl) rfl rfl (by decide) sz_2 hb1 (sr_2 (sk_bi.lt hb1)) ?_
    refine sm_getI 18 (sk_td o_X8_groups 11 rfl) rfl kf_X8_181 rfl rfl (sk_bi.lt hb1) ?_
    refine sg_if_eq 24 21 (sk_td o_X8_groups 12 rfl) (by decide) rfl (fun hc => ?_) (fun hc => ?_)
    · rw [if_pos hc] at hq
      exact t_X8_groups_24 hrec4 hq
    · rw [if_neg hc] at hq
      refine sg_iinc (v1 + (1 : Int32)) 24 [some (.inr (.inr (some (0, 0)))), some (.inl (v1 + (1 : Int32))), some (.inl v2)] (sk_td o_X8_groups 13 rfl) rfl rfl rfl rfl (Nat.le_of_ble_eq_true rfl) rfl ?_
      exact t_X8_groups_24 hrec4 hq
def l_X8_groups_4 (d : sk_D) (fl : Nat) (a : (Int32 × Int32)) : Option (Int32) := sk_it (fun rec4 a => q_X8_groups_4 rec4 d a.1 a.2) fl a
theorem lt_X8_groups_4 {l : Launch} {d : sk_D} : ∀ (fl : Nat) (a : (Int32 × Int32)) (res : Int32), l_X8_groups_4 d fl a = some res → sk_G l (sk_rm 1 0 0) m_X8_groups sk_Ex0 (sk_Zm m_X8_groups (some (.inl res)) (sk_mm d)) 0 0 4 [some (.inr (.inr (some (0, 0)))), some (.inl a.1), some (.inl a.2)] [] (sk_mm d) :=
  sk_it_ind (P := fun (a : (Int32 × Int32)) (res : Int32) => sk_G l (sk_rm 1 0 0) m_X8_groups sk_Ex0 (sk_Zm m_X8_groups (some (.inl res)) (sk_mm d)) 0 0 4 [some (.inr (.inr (some (0, 0)))), some (.inl a.1), some (.inl a.2)] [] (sk_mm d)) (fun rec4 hrec4 a res hq  => t_X8_groups_4 hrec4 hq )
def q_X8_groups_0 (d : sk_D) : Option (Int32) :=
  (l_X8_groups_4 d sk_fu ((0 : Int32), (0 : Int32)))
set_option maxRecDepth 100000 in
set_option maxHeartbeats 4000000 in
theorem t_X8_groups_0 {l : Launch} {d : sk_D} {res : Int32} (hq : q_X8_groups_0 d = some res) :
    sk_G l (sk_rm 1 0 0) m_X8_groups sk_Ex0 (sk_Zm m_X8_groups (some (.inl res)) (sk_mm d)) 0 0 0 [some (.inr (.inr (some (0, 0)))), none, none] [] (sk_mm d) := by
  unfold q_X8_groups_0 at hq
  refine sg_iconst (v := (0 : Int32)) 1 (sk_td o_X8_groups 0 rfl) rfl (by decide) ?_
  refine sg_istore_n 2 [some (.inr (.inr (some (0, 0)))), some (.inl (0 : Int32)), none] (sk_td o_X8_groups 1 rfl) rfl rfl (Nat.le_of_ble_eq_true rfl) rfl ?_
  refine sg_iconst (v := (0 : Int32)) 3 (sk_td o_X8_groups 2 rfl) rfl (by decide) ?_
  refine sg_istore_n 4 [some (.inr (.inr (some (0, 0)))), some (.inl (0 : Int32)), some (.inl (0 : Int32))] (sk_td o_X8_groups 3 rfl) rfl rfl (Nat.le_of_ble_eq_true rfl) rfl ?_
  exact lt_X8_groups_4 sk_fu ((0 : Int32), (0 : Int32)) _ hq
def q_X8_groups (d : sk_D) : Option (Int32) := q_X8_groups_0 d 
theorem s_X8_groups {l : Launch} {d : sk_D} {res : Int32} (hq : q_X8_groups d = some res) : sk_M l 1 m_X8_groups [.inr (.inr (some (0, 0)))] (sk_mm d) (some (.inl res)) (sk_mm d) :=
  sk_enter (by decide) (fun _ => Nat.le_of_ble_eq_true rfl) (Nat.le_of_ble_eq_true rfl) (t_X8_groups_0 hq )
