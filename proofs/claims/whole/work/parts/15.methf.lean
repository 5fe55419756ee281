/-! decompiled: X9_addPupil X9_removePupil X9_pupils X9_level X9_languages X9_family X9_group X9_setTogether X9_spreadOf X9_spread X9_isExercise X9_scoreMany X9_score X9_scoreOf X9_setMarks X9_isFitting X9_grade X9_nextDay X9_hasGroup X9_areOfGroup X9_groupMany X9_freeGroup X9_openGroup X9_sizeOf X9_isActive X9_closeGroup X9_groups X9_groupLevel -/
def q_X9_addPupil_114 (rec114 : (sk_D × Int32 × Int32 × Int32) → Option (Int32 × sk_D)) (d : sk_D) (v3 : Int32) (v4 : Int32) (v5 : Int32) : Option (Int32 × sk_D) :=
  if (4 : Int32) ≤ v5 then (q_X9_keepRule d v3).bind fun x1 => some (v4, x1.2) else if sk_bi (((4 : Int32) * v4) + v5) 80 = true then (rec114 ((sk_wi d 50 0 (((4 : Int32) * v4) + v5).toNatClampNeg (-9 : Int32)), v3, v4, (v5 + (1 : Int32)))) else none
set_option maxRecDepth 100000 in
set_option maxHeartbeats 4000000 in
theorem t_X9_addPupil_114 {l : Launch} {rec114 : (sk_D × Int32 × Int32 × Int32) → Option (Int32 × sk_D)} {d : sk_D} {v3 : Int32} {v4 : Int32} {v5 : Int32} (hrec114 : ∀ (a : (sk_D × Int32 × Int32 × Int32)) (res : Int32 × sk_D), rec114 a = some res → sk_G l (sk_rm 4 0 0) m_X9_addPupil sk_Ex0 (sk_Zm m_X9_addPupil (some (.inl res.1)) (sk_mm res.2)) 0 0 114 [some (.inr (.inr (some (44, 0)))), none, none, some (.inl a.2.1), some (.inl a.2.2.1), some (.inl a.2.2.2)] [] (sk_mm a.1)) {res : Int32 × sk_D} (hq : q_X9_addPupil_114 rec114 d v3 v4 v5 = some res) :
    sk_G l (sk_rm 4 0 0) m_X9_addPupil sk_Ex0 (sk_Zm m_X9_addPupil (some (.inl res.1)) (sk_mm res.2)) 0 0 114 [some (.inr (.inr (some (44, 0)))), none, none, some (.inl v3), some (.inl v4), some (.inl v5)] [] (sk_mm d) := by
  unfold q_X9_addPupil_114 at hq
  refine sg_iload 116 (sk_td o_X9_addPupil 62 rfl) rfl rfl ?_
  refine sg_iconst (v := (4 : Int32)) 117 (sk_td o_X9_addPupil 63 rfl) rfl (by decide) ?_
  refine sg_ic_ge 140 120 (sk_td o_X9_addPupil 64 rfl) (by decide) rfl (fun hc => ?_) (fun hc => ?_)
  · rw [if_pos hc] at hq
    refine sg_aload_n 141 (sk_td o_X9_addPupil 76 rfl) rfl rfl ?_
    refine sg_iload_n 142 (sk_td o_X9_addPupil 77 rfl) rfl rfl ?_
    obtain ⟨x1, hr_x1, hq⟩ := sk_bnd hq
    refine sm_callV1i 145 (s_X9_keepRule hr_x1) (sk_td o_X9_addPupil 78 rfl) rfl lv_X9_194 rfl rfl rfl sz_44 (sk_rok (Nat.le_of_ble_eq_true rfl) (Nat.le_of_ble_eq_true rfl) rfl rfl) (Nat.le_of_ble_eq_true rfl) ?_
    refine sg_popI 146 (sk_td o_X9_addPupil 79 rfl) rfl ?_
    refine sg_iload 148 (sk_td o_X9_addPupil 80 rfl) rfl rfl ?_
    obtain rfl := Option.some.inj hq
    exact sg_iret (sk_td o_X9_addPupil 81 rfl) rfl rfl
  · rw [if_neg hc] at hq
    refine sg_aload_n 121 (sk_td o_X9_addPupil 65 rfl) rfl rfl ?_
    refine sm_getR (50, 0) 124 (sk_td o_X9_addPupil 66 rfl) rfl kf_X9_35 rfl rfl sz_44 rfl ?_
    refine sg_iconst (v := (4 : Int32)) 125 (sk_td o_X9_addPupil 67 rfl) rfl (by decide) ?_
    refine sg_iload 127 (sk_td o_X9_addPupil 68 rfl) rfl rfl ?_
    refine sg_imul 128 (sk_td o_X9_addPupil 69 rfl) rfl ?_
    refine sg_iload 130 (sk_td o_X9_addPupil 70 rfl) rfl rfl ?_
    refine sg_iadd 131 (sk_td o_X9_addPupil 71 rfl) rfl ?_
    refine sg_bipush (v := (-9 : Int32)) 133 (sk_td o_X9_addPupil 72 rfl) rfl (by decide) ?_
    obtain ⟨hb2, hq⟩ := sk_ifn hq
    refine sm_iast 134 (sk_td o_X9_addPupil 73 rfl) rfl rfl sz_50 hb2 ?_
    refine sg_iinc (v5 + (1 : Int32)) 137 [some (.inr (.inr (some (44, 0)))), none, none, some (.inl v3), some (.inl v4), some (.inl (v5 + (1 : Int32)))] (sk_td o_X9_addPupil 74 rfl) rfl rfl rfl rfl (Nat.le_of_ble_eq_true rfl) rfl ?_
    refine sg_goto 114 (sk_td o_X9_addPupil 75 rfl) (by decide) ?_
    exact hrec114 ((sk_wi d 50 0 (((4 : Int32) * v4) + v5).toNatClampNeg (-9 : Int32)), v3, v4, (v5 + (1 : Int32))) _ hq
def l_X9_addPupil_114 (fl : Nat) (a : (sk_D × Int32 × Int32 × Int32)) : Option (Int32 × sk_D) := sk_it (fun rec114 a => q_X9_addPupil_114 rec114 a.1 a.2.1 a.2.2.1 a.2.2.2) fl a
theorem lt_X9_addPupil_114 {l : Launch} : ∀ (fl : Nat) (a : (sk_D × Int32 × Int32 × Int32)) (res : Int32 × sk_D), l_X9_addPupil_114 fl a = some res → sk_G l (sk_rm 4 0 0) m_X9_addPupil sk_Ex0 (sk_Zm m_X9_addPupil (some (.inl res.1)) (sk_mm res.2)) 0 0 114 [some (.inr (.inr (some (44, 0)))), none, none, some (.inl a.2.1), some (.inl a.2.2.1), some (.inl a.2.2.2)] [] (sk_mm a.1) :=
  sk_it_ind (P := fun (a : (sk_D × Int32 × Int32 × Int32)) (res : Int32 × sk_D) => sk_G l (sk_rm 4 0 0) m_X9_addPupil sk_Ex0 (sk_Zm m_X9_addPupil (some (.inl res.1)) (sk_mm res.2)) 0 0 114 [some (.inr (.inr (some (44, 0)))), none, none, some (.inl a.2.1), some (.inl a.2.2.1), some (.inl a.2.2.2)] [] (sk_mm a.1)) (fun rec114 hrec114 a res hq  => t_X9_addPupil_114 hrec114 hq )
def q_X9_addPupil_44 (rec44 : (sk_D × Int32 × Int32 × Int32 × Int32) → Option (Int32 × sk_D)) (d : sk_D) (v1 : Int32) (v2 : Int32) (v3 : Int32) (v4 : Int32) : Option (Int32 × sk_D) :=
  if sk_bi v4 20 = true then if (d.1 45 0 v4.toNatClampNeg) = (1 : Int32) then (rec44 (d, v1, v2, v3, (v4 + (1 : Int32)))) else if sk_bi v4 20 = true then if sk_bi v4 20 = true then if sk_bi v4 20 = true then if sk_bi v4 20 = true then if sk_bi v4 20 = true then if sk_bi v4 20 = true then (l_X9_addPupil_114 sk_fu ((sk_wi (sk_wi (sk_wi (sk_wi (sk_wi (sk_wi d 45 0 v4.toNatClampNeg (1 : Int32)) 46 0 v4.toNatClampNeg v1) 47 0 v4.toNatClampNeg v2) 48 0 v4.toNatClampNeg v3) 49 0 v4.toNatClampNeg (-9 : Int32)) 51 0 v4.toNatClampNeg (-9 : Int32)), v3, v4, (0 : Int32))) else none else none else none else none else none else none else none
set_option maxRecDepth 100000 in
set_option maxHeartbeats 4000000 in
theorem t_X9_addPupil_44 {l : Launch} {rec44 : (sk_D × Int32 × Int32 × Int32 × Int32) → Option (Int32 × sk_D)} {d : sk_D} {v1 : Int32} {v2 : Int32} {v3 : Int32} {v4 : Int32} (hrec44 : ∀ (a : (sk_D × Int32 × Int32 × Int32 × Int32)) (res : Int32 × sk_D), rec44 a = some res → sk_G l (sk_rm 4 0 0) m_X9_addPupil sk_Ex0 (sk_Zm m_X9_addPupil (some (.inl res.1)) (sk_mm res.2)) 0 0 44 [some (.inr (.inr (some (44, 0)))), some (.inl a.2.1), some (.inl a.2.2.1), some (.inl a.2.2.2.1), some (.inl a.2.2.2.2), none] [] (sk_mm a.1)) {res : Int32 × sk_D} (hq : q_X9_addPupil_44 rec44 d v1 v2 v3 v4 = some res) :
    sk_G l (sk_rm 4 0 0) m_X9_addPupil sk_Ex0 (sk_Zm m_X9_addPupil (some (.inl res.1)) (sk_mm res.2)) 0 0 44 [some (.inr (.inr (some (44, 0)))), some (.inl v1), some (.inl v2), some (.inl v3), some (.inl v4), none] [] (sk_mm d) := by
  unfold q_X9_addPupil_44 at hq
  refine sg_aload_n 45 (sk_td o_X9_addPupil 22 rfl) rfl rfl ?_
  refine sm_getR (45, 0) 48 (sk_td o_X9_addPupil 23 rfl) rfl kf_X9_19 rfl rfl sz_44 rfl ?_
  refine sg_iload 50 (sk_td o_X9_addPupil 24 rfl) rfl rfl ?_
  obtain ⟨hb1, hq⟩ := sk_ifn hq
  refine sm_iald 51 (sk_td o_X9_addPupil 25 rfl) rfl rfl sz_45 hb1 ?_
  refine sg_iconst (v := (1 : Int32)) 52 (sk_td o_X9_addPupil 26 rfl) rfl (by decide) ?_
  refine sg_ic_ne 61 55 (sk_td o_X9_addPupil 27 rfl) (by decide) rfl (fun hc => ?_) (fun hc => ?_)
  · rw [if_neg hc] at hq
    refine sg_aload_n 62 (sk_td o_X9_addPupil 30 rfl) rfl rfl ?_
    refine sm_getR (45, 0) 65 (sk_td o_X9_addPupil 31 rfl) rfl kf_X9_19 rfl rfl sz_44 rfl ?_
    refine sg_iload 67 (sk_td o_X9_addPupil 32 rfl) rfl rfl ?_
    refine sg_iconst (v := (1 : Int32)) 68 (sk_td o_X9_addPupil 33 rfl) rfl (by decide) ?_
    obtain ⟨hb2, hq⟩ := sk_ifn hq
    refine sm_iast 69 (sk_td o_X9_addPupil 34 rfl) rfl rfl sz_45 hb2 ?_
    refine sg_aload_n 70 (sk_td o_X9_addPupil 35 rfl) rfl rfl ?_
    refine sm_getR (46, 0) 73 (sk_td o_X9_addPupil 36 rfl) rfl kf_X9_23 rfl rfl sz_44 rfl ?_
    refine sg_iload 75 (sk_td o_X9_addPupil 37 rfl) rfl rfl ?_
    refine sg_iload_n 76 (sk_td o_X9_addPupil 38 rfl) rfl rfl ?_
    obtain ⟨hb3, hq⟩ := sk_ifn hq
    refine sm_iast 77 (sk_td o_X9_addPupil 39 rfl) rfl rfl sz_46 hb3 ?_
    refine sg_aload_n 78 (sk_td o_X9_addPupil 40 rfl) rfl rfl ?_
    refine sm_getR (47, 0) 81 (sk_td o_X9_addPupil 41 rfl) rfl kf_X9_26 rfl rfl sz_44 rfl ?_
    refine sg_iload 83 (sk_td o_X9_addPupil 42 rfl) rfl rfl ?_
    refine sg_iload_n 84 (sk_td o_X9_addPupil 43 rfl) rfl rfl ?_
    obtain ⟨hb4, hq⟩ := sk_ifn hq
    refine sm_iast 85 (sk_td o_X9_addPupil 44 rfl) rfl rfl sz_47 hb4 ?_
    refine sg_aload_n 86 (sk_td o_X9_addPupil 45 rfl) rfl rfl ?_
    refine sm_getR (48, 0) 89 (sk_td o_X9_addPupil 46 rfl) rfl kf_X9_29 rfl rfl sz_44 rfl ?_
    refine sg_iload 91 (sk_td o_X9_addPupil 47 rfl) rfl rfl ?_
    refine sg_iload_n 92 (sk_td o_X9_addPupil 48 rfl) rfl rfl ?_
    obtain ⟨hb5, hq⟩ := sk_ifn hq
    refine sm_iast 93 (sk_td o_X9_addPupil 49 rfl) rfl rfl sz_48 hb5 ?_
    refine sg_aload_n 94 (sk_td o_X9_addPupil 50 rfl) rfl rfl ?_
    refine sm_getR (49, 0) 97 (sk_td o_X9_addPupil 51 rfl) rfl kf_X9_32 rfl rfl sz_44 rfl ?_
    refine sg_iload 99 (sk_td o_X9_addPupil 52 rfl) rfl rfl ?_
    refine sg_bipush (v := (-9 : Int32)) 101 (sk_td o_X9_addPupil 53 rfl) rfl (by decide) ?_
    obtain ⟨hb6, hq⟩ := sk_ifn hq
    refine sm_iast 102 (sk_td o_X9_addPupil 54 rfl) rfl rfl sz_49 hb6 ?_
    refine sg_aload_n 103 (sk_td o_X9_addPupil 55 rfl) rfl rfl ?_
    refine sm_getR (51, 0) 106 (sk_td o_X9_addPupil 56 rfl) rfl kf_X9_38 rfl rfl sz_44 rfl ?_
    refine sg_iload 108 (sk_td o_X9_addPupil 57 rfl) rfl rfl ?_
    refine sg_bipush (v := (-9 : Int32)) 110 (sk_td o_X9_addPupil 58 rfl) rfl (by decide) ?_
    obtain ⟨hb7, hq⟩ := sk_ifn hq
    refine sm_iast 111 (sk_td o_X9_addPupil 59 rfl) rfl rfl sz_51 hb7 ?_
    refine sg_iconst (v := (0 : Int32)) 112 (sk_td o_X9_addPupil 60 rfl) rfl (by decide) ?_
    refine sg_istore 114 [some (.inr (.inr (some (44, 0)))), some (.inl v1), some (.inl v2), some (.inl v3), some (.inl v4), some (.inl (0 : Int32))] (sk_td o_X9_addPupil 61 rfl) rfl rfl (Nat.le_of_ble_eq_true rfl) rfl ?_
    refine sk_wk [true, false, false, true, true, true] (ls' := [some (.inr (.inr (some (44, 0)))), none, none, some (.inl v3), some (.inl v4), some (.inl (0 : Int32))]) rfl ?_
    exact lt_X9_addPupil_114 sk_fu ((sk_wi (sk_wi (sk_wi (sk_wi (sk_wi (sk_wi d 45 0 v4.toNatClampNeg (1 : Int32)) 46 0 v4.toNatClampNeg v1) 47 0 v4.toNatClampNeg v2) 48 0 v4.toNatClampNeg v3) 49 0 v4.toNatClampNeg (-9 : Int32)) 51 0 v4.toNatClampNeg (-9 : Int32)), v3, v4, (0 : Int32)) _ hq
  · rw [if_pos hc] at hq
    refine sg_iinc (v4 + (1 : Int32)) 58 [some (.inr (.inr (some (44, 0)))), some (.inl v1), some (.inl v2), some (.inl v3), some (.inl (v4 + (1 : Int32))), none] (sk_td o_X9_addPupil 28 rfl) rfl rfl rfl rfl (Nat.le_of_ble_eq_true rfl) rfl ?_
    refine sg_goto 44 (sk_td o_X9_addPupil 29 rfl) (by decide) ?_
    exact hrec44 (d, v1, v2, v3, (v4 + (1 : Int32))) _ hq
def l_X9_addPupil_44 (fl : Nat) (a : (sk_D × Int32 × Int32 × Int32 × Int32)) : Option (Int32 × sk_D) := sk_it (fun rec44 a => q_X9_addPupil_44 rec44 a.1 a.2.1 a.2.2.1 a.2.2.2.1 a.2.2.2.2) fl a
theorem lt_X9_addPupil_44 {l : Launch} : ∀ (fl : Nat) (a : (sk_D × Int32 × Int32 × Int32 × Int32)) (res : Int32 × sk_D), l_X9_addPupil_44 fl a = some res → sk_G l (sk_rm 4 0 0) m_X9_addPupil sk_Ex0 (sk_Zm m_X9_addPupil (some (.inl res.1)) (sk_mm res.2)) 0 0 44 [some (.inr (.inr (some (44, 0)))), some (.inl a.2.1), some (.inl a.2.2.1), some (.inl a.2.2.2.1), some (.inl a.2.2.2.2), none] [] (sk_mm a.1) :=
  sk_it_ind (P := fun (a : (sk_D × Int32 × Int32 × Int32 × Int32)) (res : Int32 × sk_D) => sk_G l (sk_rm 4 0 0) m_X9_addPupil sk_Ex0 (sk_Zm m_X9_addPupil (some (.inl res.1)) (sk_mm res.2)) 0 0 44 [some (.inr (.inr (some (44, 0)))), some (.inl a.2.1), some (.inl a.2.2.1), some (.inl a.2.2.2.1), some (.inl a.2.2.2.2), none] [] (sk_mm a.1)) (fun rec44 hrec44 a res hq  => t_X9_addPupil_44 hrec44 hq )
def q_X9_addPupil_29 (d : sk_D) (v1 : Int32) (v2 : Int32) (v3 : Int32) : Option (Int32 × sk_D) :=
  (q_X9_pupilMany d).bind fun x1 => if x1 = (20 : Int32) then some ((-3 : Int32), d) else (l_X9_addPupil_44 sk_fu (d, v1, v2, v3, (0 : Int32)))
set_option maxRecDepth 100000 in
set_option maxHeartbeats 4000000 in
theorem t_X9_addPupil_29 {l : Launch} {d : sk_D} {v1 : Int32} {v2 : Int32} {v3 : Int32} {res : Int32 × sk_D} (hq : q_X9_addPupil_29 d v1 v2 v3 = some res) :
    sk_G l (sk_rm 4 0 0) m_X9_addPupil sk_Ex0 (sk_Zm m_X9_addPupil (some (.inl res.1)) (sk_mm res.2)) 0 0 29 [some (.inr (.inr (some (44, 0)))), some (.inl v1), some (.inl v2), some (.inl v3), none, none] [] (sk_mm d) := by
  unfold q_X9_addPupil_29 at hq
  refine sg_aload_n 30 (sk_td o_X9_addPupil 14 rfl) rfl rfl ?_
  obtain ⟨x1, hr_x1, hq⟩ := sk_bnd hq
  refine sm_callV0i 33 (s_X9_pupilMany hr_x1) (sk_td o_X9_addPupil 15 rfl) rfl lv_X9_190 rfl rfl rfl sz_44 (sk_rok (Nat.le_of_ble_eq_true rfl) (Nat.le_of_ble_eq_true rfl) rfl rfl) (Nat.le_of_ble_eq_true rfl) ?_
  refine sg_bipush (v := (20 : Int32)) 35 (sk_td o_X9_addPupil 16 rfl) rfl (by decide) ?_
  refine sg_ic_ne 41 38 (sk_td o_X9_addPupil 17 rfl) (by decide) rfl (fun hc => ?_) (fun hc => ?_)
  · rw [if_neg hc] at hq
    refine sg_iconst (v := (0 : Int32)) 42 (sk_td o_X9_addPupil 20 rfl) rfl (by decide) ?_
    refine sg_istore 44 [some (.inr (.inr (some (44, 0)))), some (.inl v1), some (.inl v2), some (.inl v3), some (.inl (0 : Int32)), none] (sk_td o_X9_addPupil 21 rfl) rfl rfl (Nat.le_of_ble_eq_true rfl) rfl ?_
    exact lt_X9_addPupil_44 sk_fu (d, v1, v2, v3, (0 : Int32)) _ hq
  · rw [if_pos hc] at hq
    refine sg_bipush (v := (-3 : Int32)) 40 (sk_td o_X9_addPupil 18 rfl) rfl (by decide) ?_
    obtain rfl := Option.some.inj hq
    exact sg_iret (sk_td o_X9_addPupil 19 rfl) rfl rfl
def q_X9_addPupil_0 (d : sk_D) (v1 : Int32) (v2 : Int32) (v3 : Int32) : Option (Int32 × sk_D) :=
  (q_X9_isLevel d v1).bind fun x1 => if x1 = 0 then some ((-1 : Int32), d) else (q_X9_isLanguages d v2).bind fun x2 => if x2 = 0 then some ((-1 : Int32), d) else if v3 = (-9 : Int32) then (q_X9_addPupil_29 d v1 v2 v3) else (q_X9_isFamily d v3).bind fun x3 => if x3 = 0 then some ((-1 : Int32), d) else (q_X9_addPupil_29 d v1 v2 v3)
set_option maxRecDepth 100000 in
set_option maxHeartbeats 4000000 in
theorem t_X9_addPupil_0 {l : Launch} {d : sk_D} {v1 : Int32} {v2 : Int32} {v3 : Int32} {res : Int32 × sk_D} (hq : q_X9_addPupil_0 d v1 v2 v3 = some res) :
    sk_G l (sk_rm 4 0 0) m_X9_addPupil sk_Ex0 (sk_Zm m_X9_addPupil (some (.inl res.1)) (sk_mm res.2)) 0 0 0 [some (.inr (.inr (some (44, 0)))), some (.inl v1), some (.inl v2), some (.inl v3), none, none] [] (sk_mm d) := by
  unfold q_X9_addPupil_0 at hq
  refine sg_iload_n 1 (sk_td o_X9_addPupil 0 rfl) rfl rfl ?_
  obtain ⟨x1, hr_x1, hq⟩ := sk_bnd hq
  refine sm_callS1i 4 (s_X9_isLevel hr_x1) (sk_td o_X9_addPupil 1 rfl) rfl ls_X9_180 rfl (sk_rok (Nat.le_of_ble_eq_true rfl) (Nat.le_of_ble_eq_true rfl) rfl rfl) (Nat.le_of_ble_eq_true rfl) ?_
  refine sg_if_eq 27 7 (sk_td o_X9_addPupil 2 rfl) (by decide) rfl (fun hc => ?_) (fun hc => ?_)
  · rw [if_pos hc] at hq
    refine sg_iconst (v := (-1 : Int32)) 28 (sk_td o_X9_addPupil 12 rfl) rfl (by decide) ?_
    obtain rfl := Option.some.inj hq
    exact sg_iret (sk_td o_X9_addPupil 13 rfl) rfl rfl
  · rw [if_neg hc] at hq
    refine sg_iload_n 8 (sk_td o_X9_addPupil 3 rfl) rfl rfl ?_
    obtain ⟨x2, hr_x2, hq⟩ := sk_bnd hq
    refine sm_callS1i 11 (s_X9_isLanguages hr_x2) (sk_td o_X9_addPupil 4 rfl) rfl ls_X9_184 rfl (sk_rok (Nat.le_of_ble_eq_true rfl) (Nat.le_of_ble_eq_true rfl) rfl rfl) (Nat.le_of_ble_eq_true rfl) ?_
    refine sg_if_eq 27 14 (sk_td o_X9_addPupil 5 rfl) (by decide) rfl (fun hc => ?_) (fun hc => ?_)
    · rw [if_pos hc] at hq
      refine sg_iconst (v := (-1 : Int32)) 28 (sk_td o_X9_addPupil 12 rfl) rfl (by decide) ?_
      obtain rfl := Option.some.inj hq
      exact sg_iret (sk_td o_X9_addPupil 13 rfl) rfl rfl
    · rw [if_neg hc] at hq
      refine sg_iload_n 15 (sk_td o_X9_addPupil 6 rfl) rfl rfl ?_
      refine sg_bipush (v := (-9 : Int32)) 17 (sk_td o_X9_addPupil 7 rfl) rfl (by decide) ?_
      refine sg_ic_eq 29 20 (sk_td o_X9_addPupil 8 rfl) (by decide) rfl (fun hc => ?_) (fun hc => ?_)
      · rw [if_pos hc] at hq
        exact t_X9_addPupil_29 hq
      · rw [if_neg hc] at hq
        refine sg_iload_n 21 (sk_td o_X9_addPupil 9 rfl) rfl rfl ?_
        obtain ⟨x3, hr_x3, hq⟩ := sk_bnd hq
        refine sm_callS1i 24 (s_X9_isFamily hr_x3) (sk_td o_X9_addPupil 10 rfl) rfl ls_X9_187 rfl (sk_rok (Nat.le_of_ble_eq_true rfl) (Nat.le_of_ble_eq_true rfl) rfl rfl) (Nat.le_of_ble_eq_true rfl) ?_
        refine sg_if_ne 29 27 (sk_td o_X9_addPupil 11 rfl) (by decide) rfl (fun hc => ?_) (fun hc => ?_)
        · rw [if_neg hc] at hq
          exact t_X9_addPupil_29 hq
        · rw [if_pos hc] at hq
          refine sg_iconst (v := (-1 : Int32)) 28 (sk_td o_X9_addPupil 12 rfl) rfl (by decide) ?_
          obtain rfl := Option.some.inj hq
          exact sg_iret (sk_td o_X9_addPupil 13 rfl) rfl rfl
def q_X9_addPupil (d : sk_D) (v1 : Int32) (v2 : Int32) (v3 : Int32) : Option (Int32 × sk_D) := q_X9_addPupil_0 d v1 v2 v3 
theorem s_X9_addPupil {l : Launch} {d : sk_D} {v1 : Int32} {v2 : Int32} {v3 : Int32} {res : Int32 × sk_D} (hq : q_X9_addPupil d v1 v2 v3 = some res) : sk_M l 4 m_X9_addPupil [.inr (.inr (some (44, 0))), .inl v1, .inl v2, .inl v3] (sk_mm d) (some (.inl res.1)) (sk_mm res.2) :=
  sk_enter (by decide) (fun _ => Nat.le_of_ble_eq_true rfl) (Nat.le_of_ble_eq_true rfl) (t_X9_addPupil_0 hq )
def q_X9_removePupil_18 (d : sk_D) : Option (Int32 × sk_D) :=
  (q_X9_pupilMany d).bind fun x1 => some (x1, d)
set_option maxRecDepth 100000 in
set_option maxHeartbeats 4000000 in
theorem t_X9_removePupil_18 {l : Launch} {d : sk_D} {res : Int32 × sk_D} (hq : q_X9_removePupil_18 d = some res) :
    sk_G l (sk_rm 3 0 0) m_X9_removePupil sk_Ex0 (sk_Zm m_X9_removePupil (some (.inl res.1)) (sk_mm res.2)) 0 0 18 [none, none] [.inr (.inr (some (44, 0)))] (sk_mm d) := by
  unfold q_X9_removePupil_18 at hq
  obtain ⟨x1, hr_x1, hq⟩ := sk_bnd hq
  refine sm_callV0i 21 (s_X9_pupilMany hr_x1) (sk_td o_X9_removePupil 12 rfl) rfl lv_X9_190 rfl rfl rfl sz_44 (sk_rok (Nat.le_of_ble_eq_true rfl) (Nat.le_of_ble_eq_true rfl) rfl rfl) (Nat.le_of_ble_eq_true rfl) ?_
  obtain rfl := Option.some.inj hq
  exact sg_iret (sk_td o_X9_removePupil 13 rfl) rfl rfl
def q_X9_removePupil_0 (d : sk_D) (v1 : Int32) : Option (Int32 × sk_D) :=
  (q_X9_hasPupil d v1).bind fun x1 => if x1 = 0 then some ((-1 : Int32), d) else if sk_bi v1 20 = true then (q_X9_removePupil_18 (sk_wi d 45 0 v1.toNatClampNeg (0 : Int32))) else none
set_option maxRecDepth 100000 in
set_option maxHeartbeats 4000000 in
theorem t_X9_removePupil_0 {l : Launch} {d : sk_D} {v1 : Int32} {res : Int32 × sk_D} (hq : q_X9_removePupil_0 d v1 = some res) :
    sk_G l (sk_rm 3 0 0) m_X9_removePupil sk_Ex0 (sk_Zm m_X9_removePupil (some (.inl res.1)) (sk_mm res.2)) 0 0 0 [some (.inr (.inr (some (44, 0)))), some (.inl v1)] [] (sk_mm d) := by
  unfold q_X9_removePupil_0 at hq
  refine sg_aload_n 1 (sk_td o_X9_removePupil 0 rfl) rfl rfl ?_
  refine sg_iload_n 2 (sk_td o_X9_removePupil 1 rfl) rfl rfl ?_
  obtain ⟨x1, hr_x1, hq⟩ := sk_bnd hq
  refine sm_callV1i 5 (s_X9_hasPupil hr_x1) (sk_td o_X9_removePupil 2 rfl) rfl lv_X9_197 rfl rfl rfl sz_44 (sk_rok (Nat.le_of_ble_eq_true rfl) (Nat.le_of_ble_eq_true rfl) rfl rfl) (Nat.le_of_ble_eq_true rfl) ?_
  refine sg_if_ne 10 8 (sk_td o_X9_removePupil 3 rfl) (by decide) rfl (fun hc => ?_) (fun hc => ?_)
  · rw [if_neg hc] at hq
    refine sg_aload_n 11 (sk_td o_X9_removePupil 6 rfl) rfl rfl ?_
    refine sm_getR (45, 0) 14 (sk_td o_X9_removePupil 7 rfl) rfl kf_X9_19 rfl rfl sz_44 rfl ?_
    refine sg_iload_n 15 (sk_td o_X9_removePupil 8 rfl) rfl rfl ?_
    refine sg_iconst (v := (0 : Int32)) 16 (sk_td o_X9_removePupil 9 rfl) rfl (by decide) ?_
    obtain ⟨hb2, hq⟩ := sk_ifn hq
    refine sm_iast 17 (sk_td o_X9_removePupil 10 rfl) rfl rfl sz_45 hb2 ?_
    refine sg_aload_n 18 (sk_td o_X9_removePupil 11 rfl) rfl rfl ?_
    refine sk_wk [false, false] (ls' := [none, none]) rfl ?_
    exact t_X9_removePupil_18 hq
  · rw [if_pos hc] at hq
    refine sg_iconst (v := (-1 : Int32)) 9 (sk_td o_X9_removePupil 4 rfl) rfl (by decide) ?_
    obtain rfl := Option.some.inj hq
    exact sg_iret (sk_td o_X9_removePupil 5 rfl) rfl rfl
def q_X9_removePupil (d : sk_D) (v1 : Int32) : Option (Int32 × sk_D) := q_X9_removePupil_0 d v1 
theorem s_X9_removePupil {l : Launch} {d : sk_D} {v1 : Int32} {res : Int32 × sk_D} (hq : q_X9_removePupil d v1 = some res) : sk_M l 3 m_X9_removePupil [.inr (.inr (some (44, 0))), .inl v1] (sk_mm d) (some (.inl res.1)) (sk_mm res.2) :=
  sk_enter (by decide) (fun _ => Nat.le_of_ble_eq_true rfl) (Nat.le_of_ble_eq_true rfl) (t_X9_removePupil_0 hq )
def q_X9_pupils_0 (d : sk_D) : Option (Int32) :=
  (q_X9_pupilMany d).bind fun x1 => some x1
set_option maxRecDepth 100000 in
set_option maxHeartbeats 4000000 in
theorem t_X9_pupils_0 {l : Launch} {d : sk_D} {res : Int32} (hq : q_X9_pupils_0 d = some res) :
    sk_G l (sk_rm 2 0 0) m_X9_pupils sk_Ex0 (sk_Zm m_X9_pupils (some (.inl res)) (sk_mm d)) 0 0 0 [some (.inr (.inr (some (44, 0))))] [] (sk_mm d) := by
  unfold q_X9_pupils_0 at hq
  refine sg_aload_n 1 (sk_td o_X9_pupils 0 rfl) rfl rfl ?_
  obtain ⟨x1, hr_x1, hq⟩ := sk_bnd hq
  refine sm_callV0i 4 (s_X9_pupilMany hr_x1) (sk_td o_X9_pupils 1 rfl) rfl lv_X9_190 rfl rfl rfl sz_44 (sk_rok (Nat.le_of_ble_eq_true rfl) (Nat.le_of_ble_eq_true rfl) rfl rfl) (Nat.le_of_ble_eq_true rfl) ?_
  obtain rfl := Option.some.inj hq
  exact sg_iret (sk_td o_X9_pupils 2 rfl) rfl rfl
def q_X9_pupils (d : sk_D) : Option (Int32) := q_X9_pupils_0 d 
theorem s_X9_pupils {l : Launch} {d : sk_D} {res : Int32} (hq : q_X9_pupils d = some res) : sk_M l 2 m_X9_pupils [.inr (.inr (some (44, 0)))] (sk_mm d) (some (.inl res)) (sk_mm d) :=
  sk_enter (by decide) (fun _ => Nat.le_of_ble_eq_true rfl) (Nat.le_of_ble_eq_true rfl) (t_X9_pupils_0 hq )
def q_X9_level_0 (d : sk_D) (v1 : Int32) : Option (Int32) :=
  (q_X9_hasPupil d v1).bind fun x1 => if x1 = 0 then some (-1 : Int32) else if sk_bi v1 20 = true then some (d.1 46 0 v1.toNatClampNeg) else none
set_option maxRecDepth 100000 in
set_option maxHeartbeats 4000000 in
theorem t_X9_level_0 {l : Launch} {d : sk_D} {v1 : Int32} {res : Int32} (hq : q_X9_level_0 d v1 = some res) :
    sk_G l (sk_rm 3 0 0) m_X9_level sk_Ex0 (sk_Zm m_X9_level (some (.inl res)) (sk_mm d)) 0 0 0 [some (.inr (.inr (some (44, 0)))), some (.inl v1)] [] (sk_mm d) := by
  unfold q_X9_level_0 at hq
  refine sg_aload_n 1 (sk_td o_X9_level 0 rfl) rfl rfl ?_
  refine sg_iload_n 2 (sk_td o_X9_level 1 rfl) rfl rfl ?_
  obtain ⟨x1, hr_x1, hq⟩ := sk_bnd hq
  refine sm_callV1i 5 (s_X9_hasPupil hr_x1) (sk_td o_X9_level 2 rfl) rfl lv_X9_197 rfl rfl rfl sz_44 (sk_rok (Nat.le_of_ble_eq_true rfl) (Nat.le_of_ble_eq_true rfl) rfl rfl) (Nat.le_of_ble_eq_true rfl) ?_
  refine sg_if_eq 17 8 (sk_td o_X9_level 3 rfl) (by decide) rfl (fun hc => ?_) (fun hc => ?_)
  · rw [if_pos hc] at hq
    refine sg_iconst (v := (-1 : Int32)) 18 (sk_td o_X9_level 9 rfl) rfl (by decide) ?_
    obtain rfl := Option.some.inj hq
    exact sg_iret (sk_td o_X9_level 10 rfl) rfl rfl
  · rw [if_neg hc] at hq
    refine sg_aload_n 9 (sk_td o_X9_level 4 rfl) rfl rfl ?_
    refine sm_getR (46, 0) 12 (sk_td o_X9_level 5 rfl) rfl kf_X9_23 rfl rfl sz_44 rfl ?_
    refine sg_iload_n 13 (sk_td o_X9_level 6 rfl) rfl rfl ?_
    obtain ⟨hb2, hq⟩ := sk_ifn hq
    refine sm_iald 14 (sk_td o_X9_level 7 rfl) rfl rfl sz_46 hb2 ?_
    refine sg_goto 18 (sk_td o_X9_level 8 rfl) (by decide) ?_
    obtain rfl := Option.some.inj hq
    exact sg_iret (sk_td o_X9_level 10 rfl) rfl rfl
def q_X9_level (d : sk_D) (v1 : Int32) : Option (Int32) := q_X9_level_0 d v1 
theorem s_X9_level {l : Launch} {d : sk_D} {v1 : Int32} {res : Int32} (hq : q_X9_level d v1 = some res) : sk_M l 3 m_X9_level [.inr (.inr (some (44, 0))), .inl v1] (sk_mm d) (some (.inl res)) (sk_mm d) :=
  sk_enter (by decide) (fun _ => Nat.le_of_ble_eq_true rfl) (Nat.le_of_ble_eq_true rfl) (t_X9_level_0 hq )
def q_X9_languages_0 (d : sk_D) (v1 : Int32) : Option (Int32) :=
  (q_X9_hasPupil d v1).bind fun x1 => if x1 = 0 then some (-1 : Int32) else if sk_bi v1 20 = true then some (d.1 47 0 v1.toNatClampNeg) else none
set_option maxRecDepth 100000 in
set_option maxHeartbeats 4000000 in
theorem t_X9_languages_0 {l : Launch} {d : sk_D} {v1 : Int32} {res : Int32} (hq : q_X9_languages_0 d v1 = some res) :
    sk_G l (sk_rm 3 0 0) m_X9_languages sk_Ex0 (sk_Zm m_X9_languages (some (.inl res)) (sk_mm d)) 0 0 0 [some (.inr (.inr (some (44, 0)))), some (.inl v1)] [] (sk_mm d) := by
  unfold q_X9_languages_0 at hq
  refine sg_aload_n 1 (sk_td o_X9_languages 0 rfl) rfl rfl ?_
  refine sg_iload_n 2 (sk_td o_X9_languages 1 rfl) rfl rfl ?_
  obtain ⟨x1, hr_x1, hq⟩ := sk_bnd hq
  refine sm_callV1i 5 (s_X9_hasPupil hr_x1) (sk_td o_X9_languages 2 rfl) rfl lv_X9_197 rfl rfl rfl sz_44 (sk_rok (Nat.le_of_ble_eq_true rfl) (Nat.le_of_ble_eq_true rfl) rfl rfl) (Nat.le_of_ble_eq_true rfl) ?_
  refine sg_if_eq 17 8 (sk_td o_X9_languages 3 rfl) (by decide) rfl (fun hc => ?_) (fun hc => ?_)
  · rw [if_pos hc] at hq
    refine sg_iconst (v := (-1 : Int32)) 18 (sk_td o_X9_languages 9 rfl) rfl (by decide) ?_
    obtain rfl := Option.some.inj hq
    exact sg_iret (sk_td o_X9_languages 10 rfl) rfl rfl
  · rw [if_neg hc] at hq
    refine sg_aload_n 9 (sk_td o_X9_languages 4 rfl) rfl rfl ?_
    refine sm_getR (47, 0) 12 (sk_td o_X9_languages 5 rfl) rfl kf_X9_26 rfl rfl sz_44 rfl ?_
    refine sg_iload_n 13 (sk_td o_X9_languages 6 rfl) rfl rfl ?_
    obtain ⟨hb2, hq⟩ := sk_ifn hq
    refine sm_iald 14 (sk_td o_X9_languages 7 rfl) rfl rfl sz_47 hb2 ?_
    refine sg_goto 18 (sk_td o_X9_languages 8 rfl) (by decide) ?_
    obtain rfl := Option.some.inj hq
    exact sg_iret (sk_td o_X9_languages 10 rfl) rfl rfl
def q_X9_languages (d : sk_D) (v1 : Int32) : Option (Int32) := q_X9_languages_0 d v1 
theorem s_X9_languages {l : Launch} {d : sk_D} {v1 : Int32} {res : Int32} (hq : q_X9_languages d v1 = some res) : sk_M l 3 m_X9_languages [.inr (.inr (some (44, 0))), .inl v1] (sk_mm d) (some (.inl res)) (sk_mm d) :=
  sk_enter (by decide) (fun _ => Nat.le_of_ble_eq_true rfl) (Nat.le_of_ble_eq_true rfl) (t_X9_languages_0 hq )
def q_X9_family_0 (d : sk_D) (v1 : Int32) : Option (Int32) :=
  (q_X9_hasPupil d v1).bind fun x1 => if x1 = 0 then some (-1 : Int32) else if sk_bi v1 20 = true then some (d.1 48 0 v1.toNatClampNeg) else none
set_option maxRecDepth 100000 in
set_option maxHeartbeats 4000000 in
theorem t_X9_family_0 {l : Launch} {d : sk_D} {v1 : Int32} {res : Int32} (hq : q_X9_family_0 d v1 = some res) :
    sk_G l (sk_rm 3 0 0) m_X9_family sk_Ex0 (sk_Zm m_X9_family (some (.inl res)) (sk_mm d)) 0 0 0 [some (.inr (.inr (some (44, 0)))), some (.inl v1)] [] (sk_mm d) := by
  unfold q_X9_family_0 at hq
  refine sg_aload_n 1 (sk_td o_X9_family 0 rfl) rfl rfl ?_
  refine sg_iload_n 2 (sk_td o_X9_family 1 rfl) rfl rfl ?_
  obtain ⟨x1, hr_x1, hq⟩ := sk_bnd hq
  refine sm_callV1i 5 (s_X9_hasPupil hr_x1) (sk_td o_X9_family 2 rfl) rfl lv_X9_197 rfl rfl rfl sz_44 (sk_rok (Nat.le_of_ble_eq_true rfl) (Nat.le_of_ble_eq_true rfl) rfl rfl) (Nat.le_of_ble_eq_true rfl) ?_
  refine sg_if_eq 17 8 (sk_td o_X9_family 3 rfl) (by decide) rfl (fun hc => ?_) (fun hc => ?_)
  · rw [if_pos hc] at hq
    refine sg_iconst (v := (-1 : Int32)) 18 (sk_td o_X9_family 9 rfl) rfl (by decide) ?_
    obtain rfl := Option.some.inj hq
    exact sg_iret (sk_td o_X9_family 10 rfl) rfl rfl
  · rw [if_neg hc] at hq
    refine sg_aload_n 9 (sk_td o_X9_family 4 rfl) rfl rfl ?_
    refine sm_getR (48, 0) 12 (sk_td o_X9_family 5 rfl) rfl kf_X9_29 rfl rfl sz_44 rfl ?_
    refine sg_iload_n 13 (sk_td o_X9_family 6 rfl) rfl rfl ?_
    obtain ⟨hb2, hq⟩ := sk_ifn hq
    refine sm_iald 14 (sk_td o_X9_family 7 rfl) rfl rfl sz_48 hb2 ?_
    refine sg_goto 18 (sk_td o_X9_family 8 rfl) (by decide) ?_
    obtain rfl := Option.some.inj hq
    exact sg_iret (sk_td o_X9_family 10 rfl) rfl rfl
def q_X9_family (d : sk_D) (v1 : Int32) : Option (Int32) := q_X9_family_0 d v1 
theorem s_X9_family {l : Launch} {d : sk_D} {v1 : Int32} {res : Int32} (hq : q_X9_family d v1 = some res) : sk_M l 3 m_X9_family [.inr (.inr (some (44, 0))), .inl v1] (sk_mm d) (some (.inl res)) (sk_mm d) :=
  sk_enter (by decide) (fun _ => Nat.le_of_ble_eq_true rfl) (Nat.le_of_ble_eq_true rfl) (t_X9_family_0 hq )
def q_X9_group_0 (d : sk_D) (v1 : Int32) : Option (Int32) :=
  (q_X9_hasPupil d v1).bind fun x1 => if x1 = 0 then some (-1 : Int32) else if sk_bi v1 20 = true then some (d.1 49 0 v1.toNatClampNeg) else none
set_option maxRecDepth 100000 in
set_option maxHeartbeats 4000000 in
theorem t_X9_group_0 {l : Launch} {d : sk_D} {v1 : Int32} {res : Int32} (hq : q_X9_group_0 d v1 = some res) :
    sk_G l (sk_rm 3 0 0) m_X9_group sk_Ex0 (sk_Zm m_X9_group (some (.inl res)) (sk_mm d)) 0 0 0 [some (.inr (.inr (some (44, 0)))), some (.inl v1)] [] (sk_mm d) := by
  unfold q_X9_group_0 at hq
  refine sg_aload_n 1 (sk_td o_X9_group 0 rfl) rfl rfl ?_
  refine sg_iload_n 2 (sk_td o_X9_group 1 rfl) rfl rfl ?_
  obtain ⟨x1, hr_x1, hq⟩ := sk_bnd hq
  refine sm_callV1i 5 (s_X9_hasPupil hr_x1) (sk_td o_X9_group 2 rfl) rfl lv_X9_197 rfl rfl rfl sz_44 (sk_rok (Nat.le_of_ble_eq_true rfl) (Nat.le_of_ble_eq_true rfl) rfl rfl) (Nat.le_of_ble_eq_true rfl) ?_
  refine sg_if_eq 17 8 (sk_td o_X9_group 3 rfl) (by decide) rfl (fun hc => ?_) (fun hc => ?_)
  · rw [if_pos hc] at hq
    refine sg_iconst (v := (-1 : Int32)) 18 (sk_td o_X9_group 9 rfl) rfl (by decide) ?_
    obtain rfl := Option.some.inj hq
    exact sg_iret (sk_td o_X9_group 10 rfl) rfl rfl
  · rw [if_neg hc] at hq
    refine sg_aload_n 9 (sk_td o_X9_group 4 rfl) rfl rfl ?_
    refine sm_getR (49, 0) 12 (sk_td o_X9_group 5 rfl) rfl kf_X9_32 rfl rfl sz_44 rfl ?_
    refine sg_iload_n 13 (sk_td o_X9_group 6 rfl) rfl rfl ?_
    obtain ⟨hb2, hq⟩ := sk_ifn hq
    refine sm_iald 14 (sk_td o_X9_group 7 rfl) rfl rfl sz_49 hb2 ?_
    refine sg_goto 18 (sk_td o_X9_group 8 rfl) (by decide) ?_
    obtain rfl := Option.some.inj hq
    exact sg_iret (sk_td o_X9_group 10 rfl) rfl rfl
def q_X9_group (d : sk_D) (v1 : Int32) : Option (Int32) := q_X9_group_0 d v1 
theorem s_X9_group {l : Launch} {d : sk_D} {v1 : Int32} {res : Int32} (hq : q_X9_group d v1 = some res) : sk_M l 3 m_X9_group [.inr (.inr (some (44, 0))), .inl v1] (sk_mm d) (some (.inl res)) (sk_mm d) :=
  sk_enter (by decide) (fun _ => Nat.le_of_ble_eq_true rfl) (Nat.le_of_ble_eq_true rfl) (t_X9_group_0 hq )
def q_X9_setTogether_26 (d : sk_D) (s1 : Int32) : Option (Int32 × sk_D) :=
  (q_X9_keepRule d s1).bind fun x1 => some (x1.1, x1.2)
set_option maxRecDepth 100000 in
set_option maxHeartbeats 4000000 in
theorem t_X9_setTogether_26 {l : Launch} {d : sk_D} {s1 : Int32} {res : Int32 × sk_D} (hq : q_X9_setTogether_26 d s1 = some res) :
    sk_G l (sk_rm 4 0 0) m_X9_setTogether sk_Ex0 (sk_Zm m_X9_setTogether (some (.inl res.1)) (sk_mm res.2)) 0 0 26 [none, none, none] [.inl s1, .inr (.inr (some (44, 0)))] (sk_mm d) := by
  unfold q_X9_setTogether_26 at hq
  obtain ⟨x1, hr_x1, hq⟩ := sk_bnd hq
  refine sm_callV1i 29 (s_X9_keepRule hr_x1) (sk_td o_X9_setTogether 16 rfl) rfl lv_X9_194 rfl rfl rfl sz_44 (sk_rok (Nat.le_of_ble_eq_true rfl) (Nat.le_of_ble_eq_true rfl) rfl rfl) (Nat.le_of_ble_eq_true rfl) ?_
  obtain rfl := Option.some.inj hq
  exact sg_iret (sk_td o_X9_setTogether 17 rfl) rfl rfl
def q_X9_setTogether_23 (d : sk_D) (v1 : Int32) (s1 : Int32) (s2 : Int32) : Option (Int32 × sk_D) :=
  if sk_bi s1 8 = true then (q_X9_setTogether_26 (sk_wi d 52 0 s1.toNatClampNeg s2) v1) else none
set_option maxRecDepth 100000 in
set_option maxHeartbeats 4000000 in
theorem t_X9_setTogether_23 {l : Launch} {d : sk_D} {v1 : Int32} {s1 : Int32} {s2 : Int32} {res : Int32 × sk_D} (hq : q_X9_setTogether_23 d v1 s1 s2 = some res) :
    sk_G l (sk_rm 4 0 0) m_X9_setTogether sk_Ex0 (sk_Zm m_X9_setTogether (some (.inl res.1)) (sk_mm res.2)) 0 0 23 [some (.inr (.inr (some (44, 0)))), some (.inl v1), none] [.inl s2, .inl s1, .inr (.inr (some (52, 0)))] (sk_mm d) := by
  unfold q_X9_setTogether_23 at hq
  obtain ⟨hb1, hq⟩ := sk_ifn hq
  refine sm_iast 24 (sk_td o_X9_setTogether 13 rfl) rfl rfl sz_52 hb1 ?_
  refine sg_aload_n 25 (sk_td o_X9_setTogether 14 rfl) rfl rfl ?_
  refine sg_iload_n 26 (sk_td o_X9_setTogether 15 rfl) rfl rfl ?_
  refine sk_wk [false, false, true] (ls' := [none, none, none]) rfl ?_
  exact t_X9_setTogether_26 hq
def q_X9_setTogether_0 (d : sk_D) (v1 : Int32) (v2 : Int32) : Option (Int32 × sk_D) :=
  (q_X9_isFamily d v1).bind fun x1 => if x1 = 0 then some ((-1 : Int32), d) else if v2 = 0 then (q_X9_setTogether_23 d v1 v1 (0 : Int32)) else (q_X9_setTogether_23 d v1 v1 (1 : Int32))
set_option maxRecDepth 100000 in
set_option maxHeartbeats 4000000 in
theorem t_X9_setTogether_0 {l : Launch} {d : sk_D} {v1 : Int32} {v2 : Int32} {res : Int32 × sk_D} (hq : q_X9_setTogether_0 d v1 v2 = some res) :
    sk_G l (sk_rm 4 0 0) m_X9_setTogether sk_Ex0 (sk_Zm m_X9_setTogether (some (.inl res.1)) (sk_mm res.2)) 0 0 0 [some (.inr (.inr (some (44, 0)))), some (.inl v1), some (.inl v2)] [] (sk_mm d) := by
  unfold q_X9_setTogether_0 at hq
  refine sg_iload_n 1 (sk_td o_X9_setTogether 0 rfl) rfl rfl ?_
  obtain ⟨x1, hr_x1, hq⟩ := sk_bnd hq
  refine sm_callS1i 4 (s_X9_isFamily hr_x1) (sk_td o_X9_setTogether 1 rfl) rfl ls_X9_187 rfl (sk_rok (Nat.le_of_ble_eq_true rfl) (Nat.le_of_ble_eq_true rfl) rfl rfl) (Nat.le_of_ble_eq_true rfl) ?_
  refine sg_if_ne 9 7 (sk_td o_X9_setTogether 2 rfl) (by decide) rfl (fun hc => ?_) (fun hc => ?_)
  · rw [if_neg hc] at hq
    refine sg_aload_n 10 (sk_td o_X9_setTogether 5 rfl) rfl rfl ?_
    refine sm_getR (52, 0) 13 (sk_td o_X9_setTogether 6 rfl) rfl kf_X9_41 rfl rfl sz_44 rfl ?_
    refine sg_iload_n 14 (sk_td o_X9_setTogether 7 rfl) rfl rfl ?_
    refine sg_iload_n 15 (sk_td o_X9_setTogether 8 rfl) rfl rfl ?_
    refine sg_if_eq 22 18 (sk_td o_X9_setTogether 9 rfl) (by decide) rfl (fun hc => ?_) (fun hc => ?_)
    · rw [if_pos hc] at hq
      refine sg_iconst (v := (0 : Int32)) 23 (sk_td o_X9_setTogether 12 rfl) rfl (by decide) ?_
      refine sk_wk [true, true, false] (ls' := [some (.inr (.inr (some (44, 0)))), some (.inl v1), none]) rfl ?_
      exact t_X9_setTogether_23 hq
    · rw [if_neg hc] at hq
      refine sg_iconst (v := (1 : Int32)) 19 (sk_td o_X9_setTogether 10 rfl) rfl (by decide) ?_
      refine sg_goto 23 (sk_td o_X9_setTogether 11 rfl) (by decide) ?_
      refine sk_wk [true, true, false] (ls' := [some (.inr (.inr (some (44, 0)))), some (.inl v1), none]) rfl ?_
      exact t_X9_setTogether_23 hq
  · rw [if_pos hc] at hq
    refine sg_iconst (v := (-1 : Int32)) 8 (sk_td o_X9_setTogether 3 rfl) rfl (by decide) ?_
    obtain rfl := Option.some.inj hq
    exact sg_iret (sk_td o_X9_setTogether 4 rfl) rfl rfl
def q_X9_setTogether (d : sk_D) (v1 : Int32) (v2 : Int32) : Option (Int32 × sk_D) := q_X9_setTogether_0 d v1 v2 
theorem s_X9_setTogether {l : Launch} {d : sk_D} {v1 : Int32} {v2 : Int32} {res : Int32 × sk_D} (hq : q_X9_setTogether d v1 v2 = some res) : sk_M l 4 m_X9_setTogether [.inr (.inr (some (44, 0))), .inl v1, .inl v2] (sk_mm d) (some (.inl res.1)) (sk_mm res.2) :=
  sk_enter (by decide) (fun _ => Nat.le_of_ble_eq_true rfl) (Nat.le_of_ble_eq_true rfl) (t_X9_setTogether_0 hq )
def q_X9_spreadOf_71 (rec8 : (Int32 × Int32 × Int32 × Int32) → Option (Int32)) (d : sk_D) (v1 : Int32) (v2 : Int32) (v3 : Int32) (v4 : Int32) : Option (Int32) :=
  (rec8 (v1, v2, v3, (v4 + (1 : Int32))))
set_option maxRecDepth 100000 in
set_option maxHeartbeats 4000000 in
theorem t_X9_spreadOf_71 {l : Launch} {rec8 : (Int32 × Int32 × Int32 × Int32) → Option (Int32)} {d : sk_D} {v1 : Int32} {v2 : Int32} {v3 : Int32} {v4 : Int32} (hrec8 : ∀ (a : (Int32 × Int32 × Int32 × Int32)) (res : Int32), rec8 a = some res → sk_G l (sk_rm 2 0 0) m_X9_spreadOf sk_Ex0 (sk_Zm m_X9_spreadOf (some (.inl res)) (sk_mm d)) 0 0 8 [some (.inr (.inr (some (44, 0)))), some (.inl a.1), some (.inl a.2.1), some (.inl a.2.2.1), some (.inl a.2.2.2)] [] (sk_mm d)) {res : Int32} (hq : q_X9_spreadOf_71 rec8 d v1 v2 v3 v4 = some res) :
    sk_G l (sk_rm 2 0 0) m_X9_spreadOf sk_Ex0 (sk_Zm m_X9_spreadOf (some (.inl res)) (sk_mm d)) 0 0 71 [some (.inr (.inr (some (44, 0)))), some (.inl v1), some (.inl v2), some (.inl v3), some (.inl v4)] [] (sk_mm d) := by
  unfold q_X9_spreadOf_71 at hq
  refine sg_iinc (v4 + (1 : Int32)) 74 [some (.inr (.inr (some (44, 0)))), some (.inl v1), some (.inl v2), some (.inl v3), some (.inl (v4 + (1 : Int32)))] (sk_td o_X9_spreadOf 40 rfl) rfl rfl rfl rfl (Nat.le_of_ble_eq_true rfl) rfl ?_
  refine sg_goto 8 (sk_td o_X9_spreadOf 41 rfl) (by decide) ?_
  exact hrec8 (v1, v2, v3, (v4 + (1 : Int32))) _ hq
def q_X9_spreadOf_70 (rec8 : (Int32 × Int32 × Int32 × Int32) → Option (Int32)) (d : sk_D) (v1 : Int32) (v2 : Int32) (v4 : Int32) (s0 : Int32) : Option (Int32) :=
  (q_X9_spreadOf_71 rec8 d v1 v2 s0 v4)
set_option maxRecDepth 100000 in
set_option maxHeartbeats 4000000 in
theorem t_X9_spreadOf_70 {l : Launch} {rec8 : (Int32 × Int32 × Int32 × Int32) → Option (Int32)} {d : sk_D} {v1 : Int32} {v2 : Int32} {v4 : Int32} {s0 : Int32} (hrec8 : ∀ (a : (Int32 × Int32 × Int32 × Int32)) (res : Int32), rec8 a = some res → sk_G l (sk_rm 2 0 0) m_X9_spreadOf sk_Ex0 (sk_Zm m_X9_spreadOf (some (.inl res)) (sk_mm d)) 0 0 8 [some (.inr (.inr (some (44, 0)))), some (.inl a.1), some (.inl a.2.1), some (.inl a.2.2.1), some (.inl a.2.2.2)] [] (sk_mm d)) {res : Int32} (hq : q_X9_spreadOf_70 rec8 d v1 v2 v4 s0 = some res) :
    sk_G l (sk_rm 2 0 0) m_X9_spreadOf sk_Ex0 (sk_Zm m_X9_spreadOf (some (.inl res)) (sk_mm d)) 0 0 70 [some (.inr (.inr (some (44, 0)))), some (.inl v1), some (.inl v2), none, some (.inl v4)] [.inl s0] (sk_mm d) := by
  unfold q_X9_spreadOf_70 at hq
  refine sg_istore_n 71 [some (.inr (.inr (some (44, 0)))), some (.inl v1), some (.inl v2), some (.inl s0), some (.inl v4)] (sk_td o_X9_spreadOf 39 rfl) rfl rfl (Nat.le_of_ble_eq_true rfl) rfl ?_
  exact t_X9_spreadOf_71 hrec8 hq
def q_X9_spreadOf_47 (rec8 : (Int32 × Int32 × Int32 × Int32) → Option (Int32)) (d : sk_D) (v1 : Int32) (v3 : Int32) (v4 : Int32) (s0 : Int32) : Option (Int32) :=
  if sk_bi v4 20 = true then if (d.1 46 0 v4.toNatClampNeg) ≤ v3 then (q_X9_spreadOf_70 rec8 d v1 s0 v4 v3) else if sk_bi v4 20 = true then (q_X9_spreadOf_70 rec8 d v1 s0 v4 (d.1 46 0 v4.toNatClampNeg)) else none else none
set_option maxRecDepth 100000 in
set_option maxHeartbeats 4000000 in
theorem t_X9_spreadOf_47 {l : Launch} {rec8 : (Int32 × Int32 × Int32 × Int32) → Option (Int32)} {d : sk_D} {v1 : Int32} {v3 : Int32} {v4 : Int32} {s0 : Int32} (hrec8 : ∀ (a : (Int32 × Int32 × Int32 × Int32)) (res : Int32), rec8 a = some res → sk_G l (sk_rm 2 0 0) m_X9_spreadOf sk_Ex0 (sk_Zm m_X9_spreadOf (some (.inl res)) (sk_mm d)) 0 0 8 [some (.inr (.inr (some (44, 0)))), some (.inl a.1), some (.inl a.2.1), some (.inl a.2.2.1), some (.inl a.2.2.2)] [] (sk_mm d)) {res : Int32} (hq : q_X9_spreadOf_47 rec8 d v1 v3 v4 s0 = some res) :
    sk_G l (sk_rm 2 0 0) m_X9_spreadOf sk_Ex0 (sk_Zm m_X9_spreadOf (some (.inl res)) (sk_mm d)) 0 0 47 [some (.inr (.inr (some (44, 0)))), some (.inl v1), none, some (.inl v3), some (.inl v4)] [.inl s0] (sk_mm d) := by
  unfold q_X9_spreadOf_47 at hq
  refine sg_istore_n 48 [some (.inr (.inr (some (44, 0)))), some (.inl v1), some (.inl s0), some (.inl v3), some (.inl v4)] (sk_td o_X9_spreadOf 26 rfl) rfl rfl (Nat.le_of_ble_eq_true rfl) rfl ?_
  refine sg_aload_n 49 (sk_td o_X9_spreadOf 27 rfl) rfl rfl ?_
  refine sm_getR (46, 0) 52 (sk_td o_X9_spreadOf 28 rfl) rfl kf_X9_23 rfl rfl sz_44 rfl ?_
  refine sg_iload 54 (sk_td o_X9_spreadOf 29 rfl) rfl rfl ?_
  obtain ⟨hb1, hq⟩ := sk_ifn hq
  refine sm_iald 55 (sk_td o_X9_spreadOf 30 rfl) rfl rfl sz_46 hb1 ?_
  refine sg_iload_n 56 (sk_td o_X9_spreadOf 31 rfl) rfl rfl ?_
  refine sg_ic_le 69 59 (sk_td o_X9_spreadOf 32 rfl) (by decide) rfl (fun hc => ?_) (fun hc => ?_)
  · rw [if_pos hc] at hq
    refine sg_iload_n 70 (sk_td o_X9_spreadOf 38 rfl) rfl rfl ?_
    refine sk_wk [true, true, true, false, true] (ls' := [some (.inr (.inr (some (44, 0)))), some (.inl v1), some (.inl s0), none, some (.inl v4)]) rfl ?_
    exact t_X9_spreadOf_70 hrec8 hq
  · rw [if_neg hc] at hq
    refine sg_aload_n 60 (sk_td o_X9_spreadOf 33 rfl) rfl rfl ?_
    refine sm_getR (46, 0) 63 (sk_td o_X9_spreadOf 34 rfl) rfl kf_X9_23 rfl rfl sz_44 rfl ?_
    refine sg_iload 65 (sk_td o_X9_spreadOf 35 rfl) rfl rfl ?_
    obtain ⟨hb2, hq⟩ := sk_ifn hq
    refine sm_iald 66 (sk_td o_X9_spreadOf 36 rfl) rfl rfl sz_46 hb2 ?_
    refine sg_goto 70 (sk_td o_X9_spreadOf 37 rfl) (by decide) ?_
    refine sk_wk [true, true, true, false, true] (ls' := [some (.inr (.inr (some (44, 0)))), some (.inl v1), some (.inl s0), none, some (.inl v4)]) rfl ?_
    exact t_X9_spreadOf_70 hrec8 hq
def q_X9_spreadOf_8 (rec8 : (Int32 × Int32 × Int32 × Int32) → Option (Int32)) (d : sk_D) (v1 : Int32) (v2 : Int32) (v3 : Int32) (v4 : Int32) : Option (Int32) :=
  if (20 : Int32) ≤ v4 then if 0 ≤ v3 then some (v3 - v2) else some (-9 : Int32) else (q_X9_isOf d v4 v1).bind fun x1 => if x1 = 0 then (q_X9_spreadOf_71 rec8 d v1 v2 v3 v4) else if sk_bi v4 20 = true then if v2 ≤ (d.1 46 0 v4.toNatClampNeg) then (q_X9_spreadOf_47 rec8 d v1 v3 v4 v2) else if sk_bi v4 20 = true then (q_X9_spreadOf_47 rec8 d v1 v3 v4 (d.1 46 0 v4.toNatClampNeg)) else none else none
set_option maxRecDepth 100000 in
set_option maxHeartbeats 4000000 in
theorem t_X9_spreadOf_8 {l : Launch} {rec8 : (Int32 × Int32 × Int32 × Int32) → Option (Int32)} {d : sk_D} {v1 : Int32} {v2 : Int32} {v3 : Int32} {v4 : Int32} (hrec8 : ∀ (a : (Int32 × Int32 × Int32 × Int32)) (res : Int32), rec8 a = some res → sk_G l (sk_rm 2 0 0) m_X9_spreadOf sk_Ex0 (sk_Zm m_X9_spreadOf (some (.inl res)) (sk_mm d)) 0 0 8 [some (.inr (.inr (some (44, 0)))), some (.inl a.1), some (.inl a.2.1), some (.inl a.2.2.1), some (.inl a.2.2.2)] [] (sk_mm d)) {res : Int32} (hq : q_X9_spreadOf_8 rec8 d v1 v2 v3 v4 = some res) :
    sk_G l (sk_rm 2 0 0) m_X9_spreadOf sk_Ex0 (sk_Zm m_X9_spreadOf (some (.inl res)) (sk_mm d)) 0 0 8 [some (.inr (.inr (some (44, 0)))), some (.inl v1), some (.inl v2), some (.inl v3), some (.inl v4)] [] (sk_mm d) := by
  unfold q_X9_spreadOf_8 at hq
  refine sg_iload 10 (sk_td o_X9_spreadOf 6 rfl) rfl rfl ?_
  refine sg_bipush (v := (20 : Int32)) 12 (sk_td o_X9_spreadOf 7 rfl) rfl (by decide) ?_
  refine sg_ic_ge 77 15 (sk_td o_X9_spreadOf 8 rfl) (by decide) rfl (fun hc => ?_) (fun hc => ?_)
  · rw [if_pos hc] at hq
    refine sg_iload_n 78 (sk_td o_X9_spreadOf 42 rfl) rfl rfl ?_
    refine sg_if_ge 86 81 (sk_td o_X9_spreadOf 43 rfl) (by decide) rfl (fun hc => ?_) (fun hc => ?_)
    · rw [if_pos hc] at hq
      refine sg_iload_n 87 (sk_td o_X9_spreadOf 46 rfl) rfl rfl ?_
      refine sg_iload_n 88 (sk_td o_X9_spreadOf 47 rfl) rfl rfl ?_
      refine sg_isub 89 (sk_td o_X9_spreadOf 48 rfl) rfl ?_
      obtain rfl := Option.some.inj hq
      exact sg_iret (sk_td o_X9_spreadOf 49 rfl) rfl rfl
    · rw [if_neg hc] at hq
      refine sg_bipush (v := (-9 : Int32)) 83 (sk_td o_X9_spreadOf 44 rfl) rfl (by decide) ?_
      refine sg_goto 89 (sk_td o_X9_spreadOf 45 rfl) (by decide) ?_
      obtain rfl := Option.some.inj hq
      exact sg_iret (sk_td o_X9_spreadOf 49 rfl) rfl rfl
  · rw [if_neg hc] at hq
    refine sg_aload_n 16 (sk_td o_X9_spreadOf 9 rfl) rfl rfl ?_
    refine sg_iload 18 (sk_td o_X9_spreadOf 10 rfl) rfl rfl ?_
    refine sg_iload_n 19 (sk_td o_X9_spreadOf 11 rfl) rfl rfl ?_
    obtain ⟨x1, hr_x1, hq⟩ := sk_bnd hq
    refine sm_callV2i 22 (s_X9_isOf hr_x1) (sk_td o_X9_spreadOf 12 rfl) rfl lv_X9_172 rfl rfl rfl sz_44 (sk_rok (Nat.le_of_ble_eq_true rfl) (Nat.le_of_ble_eq_true rfl) rfl rfl) (Nat.le_of_ble_eq_true rfl) ?_
    refine sg_if_eq 71 25 (sk_td o_X9_spreadOf 13 rfl) (by decide) rfl (fun hc => ?_) (fun hc => ?_)
    · rw [if_pos hc] at hq
      exact t_X9_spreadOf_71 hrec8 hq
    · rw [if_neg hc] at hq
      refine sg_aload_n 26 (sk_td o_X9_spreadOf 14 rfl) rfl rfl ?_
      refine sm_getR (46, 0) 29 (sk_td o_X9_spreadOf 15 rfl) rfl kf_X9_23 rfl rfl sz_44 rfl ?_
      refine sg_iload 31 (sk_td o_X9_spreadOf 16 rfl) rfl rfl ?_
      obtain ⟨hb2, hq⟩ := sk_ifn hq
      refine sm_iald 32 (sk_td o_X9_spreadOf 17 rfl) rfl rfl sz_46 hb2 ?_
      refine sg_iload_n 33 (sk_td o_X9_spreadOf 18 rfl) rfl rfl ?_
      refine sg_ic_ge 46 36 (sk_td o_X9_spreadOf 19 rfl) (by decide) rfl (fun hc => ?_) (fun hc => ?_)
      · rw [if_pos hc] at hq
        refine sg_iload_n 47 (sk_td o_X9_spreadOf 25 rfl) rfl rfl ?_
        refine sk_wk [true, true, false, true, true] (ls' := [some (.inr (.inr (some (44, 0)))), some (.inl v1), none, some (.inl v3), some (.inl v4)]) rfl ?_
        exact t_X9_spreadOf_47 hrec8 hq
      · rw [if_neg hc] at hq
        refine sg_aload_n 37 (sk_td o_X9_spreadOf 20 rfl) rfl rfl ?_
        refine sm_getR (46, 0) 40 (sk_td o_X9_spreadOf 21 rfl) rfl kf_X9_23 rfl rfl sz_44 rfl ?_
        refine sg_iload 42 (sk_td o_X9_spreadOf 22 rfl) rfl rfl ?_
        obtain ⟨hb3, hq⟩ := sk_ifn hq
        refine sm_iald 43 (sk_td o_X9_spreadOf 23 rfl) rfl rfl sz_46 hb3 ?_
        refine sg_goto 47 (sk_td o_X9_spreadOf 24 rfl) (by decide) ?_
        refine sk_wk [true, true, false, true, true] (ls' := [some (.inr (.inr (some (44, 0)))), some (.inl v1), none, some (.inl v3), some (.inl v4)]) rfl ?_
        exact t_X9_spreadOf_47 hrec8 hq
def l_X9_spreadOf_8 (d : sk_D) (fl : Nat) (a : (Int32 × Int32 × Int32 × Int32)) : Option (Int32) := sk_it (fun rec8 a => q_X9_spreadOf_8 rec8 d a.1 a.2.1 a.2.2.1 a.2.2.2) fl a
theorem lt_X9_spreadOf_8 {l : Launch} {d : sk_D} : ∀ (fl : Nat) (a : (Int32 × Int32 × Int32 × Int32)) (res : Int32), l_X9_spreadOf_8 d fl a = some res → sk_G l (sk_rm 2 0 0) m_X9_spreadOf sk_Ex0 (sk_Zm m_X9_spreadOf (some (.inl res)) (sk_mm d)) 0 0 8 [some (.inr (.inr (some (44, 0)))), some (.inl a.1), some (.inl a.2.1), some (.inl a.2.2.1), some (.inl a.2.2.2)] [] (sk_mm d) :=
  sk_it_ind (P := fun (a : (Int32 × Int32 × Int32 × Int32)) (res : Int32) => sk_G l (sk_rm 2 0 0) m_X9_spreadOf sk_Ex0 (sk_Zm m_X9_spreadOf (some (.inl res)) (sk_mm d)) 0 0 8 [some (.inr (.inr (some (44, 0)))), some (.inl a.1), some (.inl a.2.1), some (.inl a.2.2.1), some (.inl a.2.2.2)] [] (sk_mm d)) (fun rec8 hrec8 a res hq  => t_X9_spreadOf_8 hrec8 hq )
def q_X9_spreadOf_0 (d : sk_D) (v1 : Int32) : Option (Int32) :=
  (l_X9_spreadOf_8 d sk_fu (v1, (8 : Int32), (-1 : Int32), (0 : Int32)))
set_option maxRecDepth 100000 in
set_option maxHeartbeats 4000000 in
theorem t_X9_spreadOf_0 {l : Launch} {d : sk_D} {v1 : Int32} {res : Int32} (hq : q_X9_spreadOf_0 d v1 = some res) :
    sk_G l (sk_rm 2 0 0) m_X9_spreadOf sk_Ex0 (sk_Zm m_X9_spreadOf (some (.inl res)) (sk_mm d)) 0 0 0 [some (.inr (.inr (some (44, 0)))), some (.inl v1), none, none, none] [] (sk_mm d) := by
  unfold q_X9_spreadOf_0 at hq
  refine sg_bipush (v := (8 : Int32)) 2 (sk_td o_X9_spreadOf 0 rfl) rfl (by decide) ?_
  refine sg_istore_n 3 [some (.inr (.inr (some (44, 0)))), some (.inl v1), some (.inl (8 : Int32)), none, none] (sk_td o_X9_spreadOf 1 rfl) rfl rfl (Nat.le_of_ble_eq_true rfl) rfl ?_
  refine sg_iconst (v := (-1 : Int32)) 4 (sk_td o_X9_spreadOf 2 rfl) rfl (by decide) ?_
  refine sg_istore_n 5 [some (.inr (.inr (some (44, 0)))), some (.inl v1), some (.inl (8 : Int32)), some (.inl (-1 : Int32)), none] (sk_td o_X9_spreadOf 3 rfl) rfl rfl (Nat.le_of_ble_eq_true rfl) rfl ?_
  refine sg_iconst (v := (0 : Int32)) 6 (sk_td o_X9_spreadOf 4 rfl) rfl (by decide) ?_
  refine sg_istore 8 [some (.inr (.inr (some (44, 0)))), some (.inl v1), some (.inl (8 : Int32)), some (.inl (-1 : Int32)), some (.inl (0 : Int32))] (sk_td o_X9_spreadOf 5 rfl) rfl rfl (Nat.le_of_ble_eq_true rfl) rfl ?_
  exact lt_X9_spreadOf_8 sk_fu (v1, (8 : Int32), (-1 : Int32), (0 : Int32)) _ hq
def q_X9_spreadOf (d : sk_D) (v1 : Int32) : Option (Int32) := q_X9_spreadOf_0 d v1 
theorem s_X9_spreadOf {l : Launch} {d : sk_D} {v1 : Int32} {res : Int32} (hq : q_X9_spreadOf d v1 = some res) : sk_M l 2 m_X9_spreadOf [.inr (.inr (some (44, 0))), .inl v1] (sk_mm d) (some (.inl res)) (sk_mm d) :=
  sk_enter (by decide) (fun _ => Nat.le_of_ble_eq_true rfl) (Nat.le_of_ble_eq_true rfl) (t_X9_spreadOf_0 hq )
def q_X9_spread_0 (d : sk_D) (v1 : Int32) : Option (Int32) :=
  (q_X9_isFamily d v1).bind fun x1 => if x1 = 0 then some (-1 : Int32) else (q_X9_spreadOf d v1).bind fun x2 => some x2
set_option maxRecDepth 100000 in
set_option maxHeartbeats 4000000 in
theorem t_X9_spread_0 {l : Launch} {d : sk_D} {v1 : Int32} {res : Int32} (hq : q_X9_spread_0 d v1 = some res) :
    sk_G l (sk_rm 3 0 0) m_X9_spread sk_Ex0 (sk_Zm m_X9_spread (some (.inl res)) (sk_mm d)) 0 0 0 [some (.inr (.inr (some (44, 0)))), some (.inl v1)] [] (sk_mm d) := by
  unfold q_X9_spread_0 at hq
  refine sg_iload_n 1 (sk_td o_X9_spread 0 rfl) rfl rfl ?_
  obtain ⟨x1, hr_x1, hq⟩ := sk_bnd hq
  refine sm_callS1i 4 (s_X9_isFamily hr_x1) (sk_td o_X9_spread 1 rfl) rfl ls_X9_187 rfl (sk_rok (Nat.le_of_ble_eq_true rfl) (Nat.le_of_ble_eq_true rfl) rfl rfl) (Nat.le_of_ble_eq_true rfl) ?_
  refine sg_if_eq 15 7 (sk_td o_X9_spread 2 rfl) (by decide) rfl (fun hc => ?_) (fun hc => ?_)
  · rw [if_pos hc] at hq
    refine sg_iconst (v := (-1 : Int32)) 16 (sk_td o_X9_spread 7 rfl) rfl (by decide) ?_
    obtain rfl := Option.some.inj hq
    exact sg_iret (sk_td o_X9_spread 8 rfl) rfl rfl
  · rw [if_neg hc] at hq
    refine sg_aload_n 8 (sk_td o_X9_spread 3 rfl) rfl rfl ?_
    refine sg_iload_n 9 (sk_td o_X9_spread 4 rfl) rfl rfl ?_
    obtain ⟨x2, hr_x2, hq⟩ := sk_bnd hq
    refine sm_callV1i 12 (s_X9_spreadOf hr_x2) (sk_td o_X9_spread 5 rfl) rfl lv_X9_200 rfl rfl rfl sz_44 (sk_rok (Nat.le_of_ble_eq_true rfl) (Nat.le_of_ble_eq_true rfl) rfl rfl) (Nat.le_of_ble_eq_true rfl) ?_
    refine sg_goto 16 (sk_td o_X9_spread 6 rfl) (by decide) ?_
    obtain rfl := Option.some.inj hq
    exact sg_iret (sk_td o_X9_spread 8 rfl) rfl rfl
def q_X9_spread (d : sk_D) (v1 : Int32) : Option (Int32) := q_X9_spread_0 d v1 
theorem s_X9_spread {l : Launch} {d : sk_D} {v1 : Int32} {res : Int32} (hq : q_X9_spread d v1 = some res) : sk_M l 3 m_X9_spread [.inr (.inr (some (44, 0))), .inl v1] (sk_mm d) (some (.inl res)) (sk_mm d) :=
  sk_enter (by decide) (fun _ => Nat.le_of_ble_eq_true rfl) (Nat.le_of_ble_eq_true rfl) (t_X9_spread_0 hq )
def q_X9_isExercise_0 (d : sk_D) (v0 : Int32) : Option (Int32) :=
  (q_X9_within d v0 (0 : Int32) (3 : Int32)).bind fun x1 => if sk_nb x1 = true then some x1 else none
set_option maxRecDepth 100000 in
set_option maxHeartbeats 4000000 in
theorem t_X9_isExercise_0 {l : Launch} {d : sk_D} {v0 : Int32} {res : Int32} (hq : q_X9_isExercise_0 d v0 = some res) :
    sk_G l (sk_rm 2 0 0) m_X9_isExercise sk_Ex0 (sk_Zm m_X9_isExercise (some (.inl res)) (sk_mm d)) 0 0 0 [some (.inl v0)] [] (sk_mm d) := by
  unfold q_X9_isExercise_0 at hq
  refine sg_iload_n 1 (sk_td o_X9_isExercise 0 rfl) rfl rfl ?_
  refine sg_iconst (v := (0 : Int32)) 2 (sk_td o_X9_isExercise 1 rfl) rfl (by decide) ?_
  refine sg_iconst (v := (3 : Int32)) 3 (sk_td o_X9_isExercise 2 rfl) rfl (by decide) ?_
  obtain ⟨x1, hr_x1, hq⟩ := sk_bnd hq
  refine sm_callS3i 6 (s_X9_within hr_x1) (sk_td o_X9_isExercise 3 rfl) rfl ls_X9_168 rfl (sk_rok (Nat.le_of_ble_eq_true rfl) (Nat.le_of_ble_eq_true rfl) rfl rfl) (Nat.le_of_ble_eq_true rfl) ?_
  obtain ⟨hn2, hq⟩ := sk_ifn hq
  obtain rfl := Option.some.inj hq
  exact sg_iret (sk_td o_X9_isExercise 4 rfl) rfl (sk_nb.z hn2)
def q_X9_isExercise (d : sk_D) (v0 : Int32) : Option (Int32) := q_X9_isExercise_0 d v0 
theorem s_X9_isExercise {l : Launch} {d : sk_D} {v0 : Int32} {res : Int32} (hq : q_X9_isExercise d v0 = some res) : sk_M l 2 m_X9_isExercise [.inl v0] (sk_mm d) (some (.inl res)) (sk_mm d) :=
  sk_enter (by decide) (fun _ => Nat.le_of_ble_eq_true rfl) (Nat.le_of_ble_eq_true rfl) (t_X9_isExercise_0 hq )
def q_X9_scoreMany_30 (rec4 : (Int32 × Int32 × Int32) → Option (Int32)) (d : sk_D) (v1 : Int32) (v3 : Int32) (s0 : Int32) (s1 : Int32) : Option (Int32) :=
  (rec4 (v1, (s0 + s1), (v3 + (1 : Int32))))
set_option maxRecDepth 100000 in
set_option maxHeartbeats 4000000 in
theorem t_X9_scoreMany_30 {l : Launch} {rec4 : (Int32 × Int32 × Int32) → Option (Int32)} {d : sk_D} {v1 : Int32} {v3 : Int32} {s0 : Int32} {s1 : Int32} (hrec4 : ∀ (a : (Int32 × Int32 × Int32)) (res : Int32), rec4 a = some res → sk_G l (sk_rm 1 0 0) m_X9_scoreMany sk_Ex0 (sk_Zm m_X9_scoreMany (some (.inl res)) (sk_mm d)) 0 0 4 [some (.inr (.inr (some (44, 0)))), some (.inl a.1), some (.inl a.2.1), some (.inl a.2.2)] [] (sk_mm d)) {res : Int32} (hq : q_X9_scoreMany_30 rec4 d v1 v3 s0 s1 = some res) :
    sk_G l (sk_rm 1 0 0) m_X9_scoreMany sk_Ex0 (sk_Zm m_X9_scoreMany (some (.inl res)) (sk_mm d)) 0 0 30 [some (.inr (.inr (some (44, 0)))), some (.inl v1), none, some (.inl v3)] [.inl s1, .inl s0] (sk_mm d) := by
  unfold q_X9_scoreMany_30 at hq
  refine sg_iadd 31 (sk_td o_X9_scoreMany 21 rfl) rfl ?_
  refine sg_istore_n 32 [some (.inr (.inr (some (44, 0)))), some (.inl v1), some (.inl (s0 + s1)), some (.inl v3)] (sk_td o_X9_scoreMany 22 rfl) rfl rfl (Nat.le_of_ble_eq_true rfl) rfl ?_
  refine sg_iinc (v3 + (1 : Int32)) 35 [some (.inr (.inr (some (44, 0)))), some (.inl v1), some (.inl (s0 + s1)), some (.inl (v3 + (1 : Int32)))] (sk_td o_X9_scoreMany 23 rfl) rfl rfl rfl rfl (Nat.le_of_ble_eq_true rfl) rfl ?_
  refine sg_goto 4 (sk_td o_X9_scoreMany 24 rfl) (by decide) ?_
  exact hrec4 (v1, (s0 + s1), (v3 + (1 : Int32))) _ hq
def q_X9_scoreMany_4 (rec4 : (Int32 × Int32 × Int32) → Option (Int32)) (d : sk_D) (v1 : Int32) (v2 : Int32) (v3 : Int32) : Option (Int32) :=
  if (4 : Int32) ≤ v3 then some v2 else if sk_bi (((4 : Int32) * v1) + v3) 80 = true then if (d.1 50 0 (((4 : Int32) * v1) + v3).toNatClampNeg) = (-9 : Int32) then (q_X9_scoreMany_30 rec4 d v1 v3 v2 (0 : Int32)) else (q_X9_scoreMany_30 rec4 d v1 v3 v2 (1 : Int32)) else none
set_option maxRecDepth 100000 in
set_option maxHeartbeats 4000000 in
theorem t_X9_scoreMany_4 {l : Launch} {rec4 : (Int32 × Int32 × Int32) → Option (Int32)} {d : sk_D} {v1 : Int32} {v2 : Int32} {v3 : Int32} (hrec4 : ∀ (a : (Int32 × Int32 × Int32)) (res : Int32), rec4 a = some res → sk_G l (sk_rm 1 0 0) m_X9_scoreMany sk_Ex0 (sk_Zm m_X9_scoreMany (some (.inl res)) (sk_mm d)) 0 0 4 [some (.inr (.inr (some (44, 0)))), some (.inl a.1), some (.inl a.2.1), some (.inl a.2.2)] [] (sk_mm d)) {res : Int32} (hq : q_X9_scoreMany_4 rec4 d v1 v2 v3 = some res) :
    sk_G l (sk_rm 1 0 0) m_X9_scoreMany sk_Ex0 (sk_Zm m_X9_scoreMany (some (.inl res)) (sk_mm d)) 0 0 4 [some (.inr (.inr (some (44, 0)))), some (.inl v1), some (.inl v2), some (.inl v3)] [] (sk_mm d) := by
  unfold q_X9_scoreMany_4 at hq
  refine sg_iload_n 5 (sk_td o_X9_scoreMany 4 rfl) rfl rfl ?_
  refine sg_iconst (v := (4 : Int32)) 6 (sk_td o_X9_scoreMany 5 rfl) rfl (by decide) ?_
  refine sg_ic_ge 38 9 (sk_td o_X9_scoreMany 6 rfl) (by decide) rfl (fun hc => ?_) (fun hc => ?_)
  · rw [if_pos hc] at hq
    refine sg_iload_n 39 (sk_td o_X9_scoreMany 25 rfl) rfl rfl ?_
    obtain rfl := Option.some.inj hq
    exact sg_iret (sk_td o_X9_scoreMany 26 rfl) rfl rfl
  · rw [if_neg hc] at hq
    refine sg_iload_n 10 (sk_td o_X9_scoreMany 7 rfl) rfl rfl ?_
    refine sg_aload_n 11 (sk_td o_X9_scoreMany 8 rfl) rfl rfl ?_
    refine sm_getR (50, 0) 14 (sk_td o_X9_scoreMany 9 rfl) rfl kf_X9_35 rfl rfl sz_44 rfl ?_
    refine sg_iconst (v := (4 : Int32)) 15 (sk_td o_X9_scoreMany 10 rfl) rfl (by decide) ?_
    refine sg_iload_n 16 (sk_td o_X9_scoreMany 11 rfl) rfl rfl ?_
    refine sg_imul 17 (sk_td o_X9_scoreMany 12 rfl) rfl ?_
    refine sg_iload_n 18 (sk_td o_X9_scoreMany 13 rfl) rfl rfl ?_
    refine sg_iadd 19 (sk_td o_X9_scoreMany 14 rfl) rfl ?_
    obtain ⟨hb1, hq⟩ := sk_ifn hq
    refine sm_iald 20 (sk_td o_X9_scoreMany 15 rfl) rfl rfl sz_50 hb1 ?_
    refine sg_bipush (v := (-9 : Int32)) 22 (sk_td o_X9_scoreMany 16 rfl) rfl (by decide) ?_
    refine sg_ic_ne 29 25 (sk_td o_X9_scoreMany 17 rfl) (by decide) rfl (fun hc => ?_) (fun hc => ?_)
    · rw [if_neg hc] at hq
      refine sg_iconst (v := (1 : Int32)) 30 (sk_td o_X9_scoreMany 20 rfl) rfl (by decide) ?_
      refine sk_wk [true, true, false, true] (ls' := [some (.inr (.inr (some (44, 0)))), some (.inl v1), none, some (.inl v3)]) rfl ?_
      exact t_X9_scoreMany_30 hrec4 hq
    · rw [if_pos hc] at hq
      refine sg_iconst (v := (0 : Int32)) 26 (sk_td o_X9_scoreMany 18 rfl) rfl (by decide) ?_
      refine sg_goto 30 (sk_td o_X9_scoreMany 19 rfl) (by decide) ?_
      refine sk_wk [true, true, false, true] (ls' := [some (.inr (.inr (some (44, 0)))), some (.inl v1), none, some (.inl v3)]) rfl ?_
      exact t_X9_scoreMany_30 hrec4 hq
def l_X9_scoreMany_4 (d : sk_D) (fl : Nat) (a : (Int32 × Int32 × Int32)) : Option (Int32) := sk_it (fun rec4 a => q_X9_scoreMany_4 rec4 d a.1 a.2.1 a.2.2) fl a
theorem lt_X9_scoreMany_4 {l : Launch} {d : sk_D} : ∀ (fl : Nat) (a : (Int32 × Int32 × Int32)) (res : Int32), l_X9_scoreMany_4 d fl a = some res → sk_G l (sk_rm 1 0 0) m_X9_scoreMany sk_Ex0 (sk_Zm m_X9_scoreMany (some (.inl res)) (sk_mm d)) 0 0 4 [some (.inr (.inr (some (44, 0)))), some (.inl a.1), some (.inl a.2.1), some (.inl a.2.2)] [] (sk_mm d) :=
  sk_it_ind (P := fun (a : (Int32 × Int32 × Int32)) (res : Int32) => sk_G l (sk_rm 1 0 0) m_X9_scoreMany sk_Ex0 (sk_Zm m_X9_scoreMany (some (.inl res)) (sk_mm d)) 0 0 4 [some (.inr (.inr (some (44, 0)))), some (.inl a.1), some (.inl a.2.1), some (.inl a.2.2)] [] (sk_mm d)) (fun rec4 hrec4 a res hq  => t_X9_scoreMany_4 hrec4 hq )
def q_X9_scoreMany_0 (d : sk_D) (v1 : Int32) : Option (Int32) :=
  (l_X9_scoreMany_4 d sk_fu (v1, (0 : Int32), (0 : Int32)))
set_option maxRecDepth 100000 in
set_option maxHeartbeats 4000000 in
theorem t_X9_scoreMany_0 {l : Launch} {d : sk_D} {v1 : Int32} {res : Int32} (hq : q_X9_scoreMany_0 d v1 = some res) :
    sk_G l (sk_rm 1 0 0) m_X9_scoreMany sk_Ex0 (sk_Zm m_X9_scoreMany (some (.inl res)) (sk_mm d)) 0 0 0 [some (.inr (.inr (some (44, 0)))), some (.inl v1), none, none] [] (sk_mm d) := by
  unfold q_X9_scoreMany_0 at hq
  refine sg_iconst (v := (0 : Int32)) 1 (sk_td o_X9_scoreMany 0 rfl) rfl (by decide) ?_
  refine sg_istore_n 2 [some (.inr (.inr (some (44, 0)))), some (.inl v1), some (.inl (0 : Int32)), none] (sk_td o_X9_scoreMany 1 rfl) rfl rfl (Nat.le_of_ble_eq_true rfl) rfl ?_
  refine sg_iconst (v := (0 : Int32)) 3 (sk_td o_X9_scoreMany 2 rfl) rfl (by decide) ?_
  refine sg_istore_n 4 [some (.inr (.inr (some (44, 0)))), some (.inl v1), some (.inl (0 : Int32)), some (.inl (0 : Int32))] (sk_td o_X9_scoreMany 3 rfl) rfl rfl (Nat.le_of_ble_eq_true rfl) rfl ?_
  exact lt_X9_scoreMany_4 sk_fu (v1, (0 : Int32), (0 : Int32)) _ hq
def q_X9_scoreMany (d : sk_D) (v1 : Int32) : Option (Int32) := q_X9_scoreMany_0 d v1 
theorem s_X9_scoreMany {l : Launch} {d : sk_D} {v1 : Int32} {res : Int32} (hq : q_X9_scoreMany d v1 = some res) : sk_M l 1 m_X9_scoreMany [.inr (.inr (some (44, 0))), .inl v1] (sk_mm d) (some (.inl res)) (sk_mm d) :=
  sk_enter (by decide) (fun _ => Nat.le_of_ble_eq_true rfl) (Nat.le_of_ble_eq_true rfl) (t_X9_scoreMany_0 hq )
def q_X9_score_40 (d : sk_D) (s1 : Int32) : Option (Int32 × sk_D) :=
  (q_X9_scoreMany d s1).bind fun x1 => some (x1, d)
set_option maxRecDepth 100000 in
set_option maxHeartbeats 4000000 in
theorem t_X9_score_40 {l : Launch} {d : sk_D} {s1 : Int32} {res : Int32 × sk_D} (hq : q_X9_score_40 d s1 = some res) :
    sk_G l (sk_rm 3 0 0) m_X9_score sk_Ex0 (sk_Zm m_X9_score (some (.inl res.1)) (sk_mm res.2)) 0 0 40 [none, none, none, none] [.inl s1, .inr (.inr (some (44, 0)))] (sk_mm d) := by
  unfold q_X9_score_40 at hq
  obtain ⟨x1, hr_x1, hq⟩ := sk_bnd hq
  refine sm_callV1i 43 (s_X9_scoreMany hr_x1) (sk_td o_X9_score 25 rfl) rfl lv_X9_206 rfl rfl rfl sz_44 (sk_rok (Nat.le_of_ble_eq_true rfl) (Nat.le_of_ble_eq_true rfl) rfl rfl) (Nat.le_of_ble_eq_true rfl) ?_
  obtain rfl := Option.some.inj hq
  exact sg_iret (sk_td o_X9_score 26 rfl) rfl rfl
def q_X9_score_0 (d : sk_D) (v1 : Int32) (v2 : Int32) (v3 : Int32) : Option (Int32 × sk_D) :=
  (q_X9_hasPupil d v1).bind fun x1 => if x1 = 0 then some ((-1 : Int32), d) else (q_X9_isExercise d v2).bind fun x2 => if x2 = 0 then some ((-1 : Int32), d) else (q_X9_within d v3 (0 : Int32) (10 : Int32)).bind fun x3 => if x3 = 0 then some ((-1 : Int32), d) else if sk_bi (((4 : Int32) * v1) + v2) 80 = true then (q_X9_score_40 (sk_wi d 50 0 (((4 : Int32) * v1) + v2).toNatClampNeg v3) v1) else none
set_option maxRecDepth 100000 in
set_option maxHeartbeats 4000000 in
theorem t_X9_score_0 {l : Launch} {d : sk_D} {v1 : Int32} {v2 : Int32} {v3 : Int32} {res : Int32 × sk_D} (hq : q_X9_score_0 d v1 v2 v3 = some res) :
    sk_G l (sk_rm 3 0 0) m_X9_score sk_Ex0 (sk_Zm m_X9_score (some (.inl res.1)) (sk_mm res.2)) 0 0 0 [some (.inr (.inr (some (44, 0)))), some (.inl v1), some (.inl v2), some (.inl v3)] [] (sk_mm d) := by
  unfold q_X9_score_0 at hq
  refine sg_aload_n 1 (sk_td o_X9_score 0 rfl) rfl rfl ?_
  refine sg_iload_n 2 (sk_td o_X9_score 1 rfl) rfl rfl ?_
  obtain ⟨x1, hr_x1, hq⟩ := sk_bnd hq
  refine sm_callV1i 5 (s_X9_hasPupil hr_x1) (sk_td o_X9_score 2 rfl) rfl lv_X9_197 rfl rfl rfl sz_44 (sk_rok (Nat.le_of_ble_eq_true rfl) (Nat.le_of_ble_eq_true rfl) rfl rfl) (Nat.le_of_ble_eq_true rfl) ?_
  refine sg_if_eq 25 8 (sk_td o_X9_score 3 rfl) (by decide) rfl (fun hc => ?_) (fun hc => ?_)
  · rw [if_pos hc] at hq
    refine sg_iconst (v := (-1 : Int32)) 26 (sk_td o_X9_score 12 rfl) rfl (by decide) ?_
    obtain rfl := Option.some.inj hq
    exact sg_iret (sk_td o_X9_score 13 rfl) rfl rfl
  · rw [if_neg hc] at hq
    refine sg_iload_n 9 (sk_td o_X9_score 4 rfl) rfl rfl ?_
    obtain ⟨x2, hr_x2, hq⟩ := sk_bnd hq
    refine sm_callS1i 12 (s_X9_isExercise hr_x2) (sk_td o_X9_score 5 rfl) rfl ls_X9_203 rfl (sk_rok (Nat.le_of_ble_eq_true rfl) (Nat.le_of_ble_eq_true rfl) rfl rfl) (Nat.le_of_ble_eq_true rfl) ?_
    refine sg_if_eq 25 15 (sk_td o_X9_score 6 rfl) (by decide) rfl (fun hc => ?_) (fun hc => ?_)
    · rw [if_pos hc] at hq
      refine sg_iconst (v := (-1 : Int32)) 26 (sk_td o_X9_score 12 rfl) rfl (by decide) ?_
      obtain rfl := Option.some.inj hq
      exact sg_iret (sk_td o_X9_score 13 rfl) rfl rfl
    · rw [if_neg hc] at hq
      refine sg_iload_n 16 (sk_td o_X9_score 7 rfl) rfl rfl ?_
      refine sg_iconst (v := (0 : Int32)) 17 (sk_td o_X9_score 8 rfl) rfl (by decide) ?_
      refine sg_bipush (v := (10 : Int32)) 19 (sk_td o_X9_score 9 rfl) rfl (by decide) ?_
      obtain ⟨x3, hr_x3, hq⟩ := sk_bnd hq
      refine sm_callS3i 22 (s_X9_within hr_x3) (sk_td o_X9_score 10 rfl) rfl ls_X9_168 rfl (sk_rok (Nat.le_of_ble_eq_true rfl) (Nat.le_of_ble_eq_true rfl) rfl rfl) (Nat.le_of_ble_eq_true rfl) ?_
      refine sg_if_ne 27 25 (sk_td o_X9_score 11 rfl) (by decide) rfl (fun hc => ?_) (fun hc => ?_)
      · rw [if_neg hc] at hq
        refine sg_aload_n 28 (sk_td o_X9_score 14 rfl) rfl rfl ?_
        refine sm_getR (50, 0) 31 (sk_td o_X9_score 15 rfl) rfl kf_X9_35 rfl rfl sz_44 rfl ?_
        refine sg_iconst (v := (4 : Int32)) 32 (sk_td o_X9_score 16 rfl) rfl (by decide) ?_
        refine sg_iload_n 33 (sk_td o_X9_score 17 rfl) rfl rfl ?_
        refine sg_imul 34 (sk_td o_X9_score 18 rfl) rfl ?_
        refine sg_iload_n 35 (sk_td o_X9_score 19 rfl) rfl rfl ?_
        refine sg_iadd 36 (sk_td o_X9_score 20 rfl) rfl ?_
        refine sg_iload_n 37 (sk_td o_X9_score 21 rfl) rfl rfl ?_
        obtain ⟨hb4, hq⟩ := sk_ifn hq
        refine sm_iast 38 (sk_td o_X9_score 22 rfl) rfl rfl sz_50 hb4 ?_
        refine sg_aload_n 39 (sk_td o_X9_score 23 rfl) rfl rfl ?_
        refine sg_iload_n 40 (sk_td o_X9_score 24 rfl) rfl rfl ?_
        refine sk_wk [false, false, false, false] (ls' := [none, none, none, none]) rfl ?_
        exact t_X9_score_40 hq
      · rw [if_pos hc] at hq
        refine sg_iconst (v := (-1 : Int32)) 26 (sk_td o_X9_score 12 rfl) rfl (by decide) ?_
        obtain rfl := Option.some.inj hq
        exact sg_iret (sk_td o_X9_score 13 rfl) rfl rfl
def q_X9_score (d : sk_D) (v1 : Int32) (v2 : Int32) (v3 : Int32) : Option (Int32 × sk_D) := q_X9_score_0 d v1 v2 v3 
theorem s_X9_score {l : Launch} {d : sk_D} {v1 : Int32} {v2 : Int32} {v3 : Int32} {res : Int32 × sk_D} (hq : q_X9_score d v1 v2 v3 = some res) : sk_M l 3 m_X9_score [.inr (.inr (some (44, 0))), .inl v1, .inl v2, .inl v3] (sk_mm d) (some (.inl res.1)) (sk_mm res.2) :=
  sk_enter (by decide) (fun _ => Nat.le_of_ble_eq_true rfl) (Nat.le_of_ble_eq_true rfl) (t_X9_score_0 hq )
def q_X9_scoreOf_0 (d : sk_D) (v1 : Int32) (v2 : Int32) : Option (Int32) :=
  (q_X9_hasPupil d v1).bind fun x1 => if x1 = 0 then some (-1 : Int32) else (q_X9_isExercise d v2).bind fun x2 => if x2 = 0 then some (-1 : Int32) else if sk_bi (((4 : Int32) * v1) + v2) 80 = true then some (d.1 50 0 (((4 : Int32) * v1) + v2).toNatClampNeg) else none
set_option maxRecDepth 100000 in
set_option maxHeartbeats 4000000 in
theorem t_X9_scoreOf_0 {l : Launch} {d : sk_D} {v1 : Int32} {v2 : Int32} {res : Int32} (hq : q_X9_scoreOf_0 d v1 v2 = some res) :
    sk_G l (sk_rm 3 0 0) m_X9_scoreOf sk_Ex0 (sk_Zm m_X9_scoreOf (some (.inl res)) (sk_mm d)) 0 0 0 [some (.inr (.inr (some (44, 0)))), some (.inl v1), some (.inl v2)] [] (sk_mm d) := by
  unfold q_X9_scoreOf_0 at hq
  refine sg_aload_n 1 (sk_td o_X9_scoreOf 0 rfl) rfl rfl ?_
  refine sg_iload_n 2 (sk_td o_X9_scoreOf 1 rfl) rfl rfl ?_
  obtain ⟨x1, hr_x1, hq⟩ := sk_bnd hq
  refine sm_callV1i 5 (s_X9_hasPupil hr_x1) (sk_td o_X9_scoreOf 2 rfl) rfl lv_X9_197 rfl rfl rfl sz_44 (sk_rok (Nat.le_of_ble_eq_true rfl) (Nat.le_of_ble_eq_true rfl) rfl rfl) (Nat.le_of_ble_eq_true rfl) ?_
  refine sg_if_eq 28 8 (sk_td o_X9_scoreOf 3 rfl) (by decide) rfl (fun hc => ?_) (fun hc => ?_)
  · rw [if_pos hc] at hq
    refine sg_iconst (v := (-1 : Int32)) 29 (sk_td o_X9_scoreOf 16 rfl) rfl (by decide) ?_
    obtain rfl := Option.some.inj hq
    exact sg_iret (sk_td o_X9_scoreOf 17 rfl) rfl rfl
  · rw [if_neg hc] at hq
    refine sg_iload_n 9 (sk_td o_X9_scoreOf 4 rfl) rfl rfl ?_
    obtain ⟨x2, hr_x2, hq⟩ := sk_bnd hq
    refine sm_callS1i 12 (s_X9_isExercise hr_x2) (sk_td o_X9_scoreOf 5 rfl) rfl ls_X9_203 rfl (sk_rok (Nat.le_of_ble_eq_true rfl) (Nat.le_of_ble_eq_true rfl) rfl rfl) (Nat.le_of_ble_eq_true rfl) ?_
    refine sg_if_eq 28 15 (sk_td o_X9_scoreOf 6 rfl) (by decide) rfl (fun hc => ?_) (fun hc => ?_)
    · rw [if_pos hc] at hq
      refine sg_iconst (v := (-1 : Int32)) 29 (sk_td o_X9_scoreOf 16 rfl) rfl (by decide) ?_
      obtain rfl := Option.some.inj hq
      exact sg_iret (sk_td o_X9_scoreOf 17 rfl) rfl rfl
    · rw [if_neg hc] at hq
      refine sg_aload_n 16 (sk_td o_X9_scoreOf 7 rfl) rfl rfl ?_
      refine sm_getR (50, 0) 19 (sk_td o_X9_scoreOf 8 rfl) rfl kf_X9_35 rfl rfl sz_44 rfl ?_
      refine sg_iconst (v := (4 : Int32)) 20 (sk_td o_X9_scoreOf 9 rfl) rfl (by decide) ?_
      refine sg_iload_n 21 (sk_td o_X9_scoreOf 10 rfl) rfl rfl ?_
      refine sg_imul 22 (sk_td o_X9_scoreOf 11 rfl) rfl ?_
      refine sg_iload_n 23 (sk_td o_X9_scoreOf 12 rfl) rfl rfl ?_
      refine sg_iadd 24 (sk_td o_X9_scoreOf 13 rfl) rfl ?_
      obtain ⟨hb3, hq⟩ := sk_ifn hq
      refine sm_iald 25 (sk_td o_X9_scoreOf 14 rfl) rfl rfl sz_50 hb3 ?_
      refine sg_goto 29 (sk_td o_X9_scoreOf 15 rfl) (by decide) ?_
      obtain rfl := Option.some.inj hq
      exact sg_iret (sk_td o_X9_scoreOf 17 rfl) rfl rfl
def q_X9_scoreOf (d : sk_D) (v1 : Int32) (v2 : Int32) : Option (Int32) := q_X9_scoreOf_0 d v1 v2 
theorem s_X9_scoreOf {l : Launch} {d : sk_D} {v1 : Int32} {v2 : Int32} {res : Int32} (hq : q_X9_scoreOf d v1 v2 = some res) : sk_M l 3 m_X9_scoreOf [.inr (.inr (some (44, 0))), .inl v1, .inl v2] (sk_mm d) (some (.inl res)) (sk_mm d) :=
  sk_enter (by decide) (fun _ => Nat.le_of_ble_eq_true rfl) (Nat.le_of_ble_eq_true rfl) (t_X9_scoreOf_0 hq )
def q_X9_setMarks_0 (d : sk_D) (v1 : Int32) (v2 : Int32) (v3 : Int32) : Option (Int32 × sk_D) :=
  (q_X9_within d v1 (0 : Int32) (40 : Int32)).bind fun x1 => if x1 = 0 then some ((-1 : Int32), d) else (q_X9_within d v2 (0 : Int32) (10 : Int32)).bind fun x2 => if x2 = 0 then some ((-1 : Int32), d) else (q_X9_within d v3 (0 : Int32) v1).bind fun x3 => if x3 = 0 then some ((-1 : Int32), d) else some ((d.1 44 0 1), (sk_wi (sk_wi (sk_wi d 44 0 1 v1) 44 0 2 v2) 44 0 3 v3))
set_option maxRecDepth 100000 in
set_option maxHeartbeats 4000000 in
theorem t_X9_setMarks_0 {l : Launch} {d : sk_D} {v1 : Int32} {v2 : Int32} {v3 : Int32} {res : Int32 × sk_D} (hq : q_X9_setMarks_0 d v1 v2 v3 = some res) :
    sk_G l (sk_rm 2 0 0) m_X9_setMarks sk_Ex0 (sk_Zm m_X9_setMarks (some (.inl res.1)) (sk_mm res.2)) 0 0 0 [some (.inr (.inr (some (44, 0)))), some (.inl v1), some (.inl v2), some (.inl v3), none] [] (sk_mm d) := by
  unfold q_X9_setMarks_0 at hq
  refine sg_iload_n 1 (sk_td o_X9_setMarks 0 rfl) rfl rfl ?_
  refine sg_iconst (v := (0 : Int32)) 2 (sk_td o_X9_setMarks 1 rfl) rfl (by decide) ?_
  refine sg_bipush (v := (40 : Int32)) 4 (sk_td o_X9_setMarks 2 rfl) rfl (by decide) ?_
  obtain ⟨x1, hr_x1, hq⟩ := sk_bnd hq
  refine sm_callS3i 7 (s_X9_within hr_x1) (sk_td o_X9_setMarks 3 rfl) rfl ls_X9_168 rfl (sk_rok (Nat.le_of_ble_eq_true rfl) (Nat.le_of_ble_eq_true rfl) rfl rfl) (Nat.le_of_ble_eq_true rfl) ?_
  refine sg_if_eq 29 10 (sk_td o_X9_setMarks 4 rfl) (by decide) rfl (fun hc => ?_) (fun hc => ?_)
  · rw [if_pos hc] at hq
    refine sg_iconst (v := (-1 : Int32)) 30 (sk_td o_X9_setMarks 15 rfl) rfl (by decide) ?_
    obtain rfl := Option.some.inj hq
    exact sg_iret (sk_td o_X9_setMarks 16 rfl) rfl rfl
  · rw [if_neg hc] at hq
    refine sg_iload_n 11 (sk_td o_X9_setMarks 5 rfl) rfl rfl ?_
    refine sg_iconst (v := (0 : Int32)) 12 (sk_td o_X9_setMarks 6 rfl) rfl (by decide) ?_
    refine sg_bipush (v := (10 : Int32)) 14 (sk_td o_X9_setMarks 7 rfl) rfl (by decide) ?_
    obtain ⟨x2, hr_x2, hq⟩ := sk_bnd hq
    refine sm_callS3i 17 (s_X9_within hr_x2) (sk_td o_X9_setMarks 8 rfl) rfl ls_X9_168 rfl (sk_rok (Nat.le_of_ble_eq_true rfl) (Nat.le_of_ble_eq_true rfl) rfl rfl) (Nat.le_of_ble_eq_true rfl) ?_
    refine sg_if_eq 29 20 (sk_td o_X9_setMarks 9 rfl) (by decide) rfl (fun hc => ?_) (fun hc => ?_)
    · rw [if_pos hc] at hq
      refine sg_iconst (v := (-1 : Int32)) 30 (sk_td o_X9_setMarks 15 rfl) rfl (by decide) ?_
      obtain rfl := Option.some.inj hq
      exact sg_iret (sk_td o_X9_setMarks 16 rfl) rfl rfl
    · rw [if_neg hc] at hq
      refine sg_iload_n 21 (sk_td o_X9_setMarks 10 rfl) rfl rfl ?_
      refine sg_iconst (v := (0 : Int32)) 22 (sk_td o_X9_setMarks 11 rfl) rfl (by decide) ?_
      refine sg_iload_n 23 (sk_td o_X9_setMarks 12 rfl) rfl rfl ?_
      obtain ⟨x3, hr_x3, hq⟩ := sk_bnd hq
      refine sm_callS3i 26 (s_X9_within hr_x3) (sk_td o_X9_setMarks 13 rfl) rfl ls_X9_168 rfl (sk_rok (Nat.le_of_ble_eq_true rfl) (Nat.le_of_ble_eq_true rfl) rfl rfl) (Nat.le_of_ble_eq_true rfl) ?_
      refine sg_if_ne 31 29 (sk_td o_X9_setMarks 14 rfl) (by decide) rfl (fun hc => ?_) (fun hc => ?_)
      · rw [if_neg hc] at hq
        refine sg_aload_n 32 (sk_td o_X9_setMarks 17 rfl) rfl rfl ?_
        refine sm_getI 35 (sk_td o_X9_setMarks 18 rfl) rfl kf_X9_7 rfl rfl sz_44 ?_
        refine sg_istore 37 [some (.inr (.inr (some (44, 0)))), some (.inl v1), some (.inl v2), some (.inl v3), some (.inl (d.1 44 0 1))] (sk_td o_X9_setMarks 19 rfl) rfl rfl (Nat.le_of_ble_eq_true rfl) rfl ?_
        refine sg_aload_n 38 (sk_td o_X9_setMarks 20 rfl) rfl rfl ?_
        refine sg_iload_n 39 (sk_td o_X9_setMarks 21 rfl) rfl rfl ?_
        refine sm_putI 42 (sk_td o_X9_setMarks 22 rfl) rfl kp_X9_7 rfl rfl sz_44 ?_
        refine sg_aload_n 43 (sk_td o_X9_setMarks 23 rfl) rfl rfl ?_
        refine sg_iload_n 44 (sk_td o_X9_setMarks 24 rfl) rfl rfl ?_
        refine sm_putI 47 (sk_td o_X9_setMarks 25 rfl) rfl kp_X9_13 rfl rfl sz_44 ?_
        refine sg_aload_n 48 (sk_td o_X9_setMarks 26 rfl) rfl rfl ?_
        refine sg_iload_n 49 (sk_td o_X9_setMarks 27 rfl) rfl rfl ?_
        refine sm_putI 52 (sk_td o_X9_setMarks 28 rfl) rfl kp_X9_16 rfl rfl sz_44 ?_
        refine sg_iload 54 (sk_td o_X9_setMarks 29 rfl) rfl rfl ?_
        obtain rfl := Option.some.inj hq
        exact sg_iret (sk_td o_X9_setMarks 30 rfl) rfl rfl
      · rw [if_pos hc] at hq
        refine sg_iconst (v := (-1 : Int32)) 30 (sk_td o_X9_setMarks 15 rfl) rfl (by decide) ?_
        obtain rfl := Option.some.inj hq
        exact sg_iret (sk_td o_X9_setMarks 16 rfl) rfl rfl
def q_X9_setMarks (d : sk_D) (v1 : Int32) (v2 : Int32) (v3 : Int32) : Option (Int32 × sk_D) := q_X9_setMarks_0 d v1 v2 v3 
theorem s_X9_setMarks {l : Launch} {d : sk_D} {v1 : Int32} {v2 : Int32} {v3 : Int32} {res : Int32 × sk_D} (hq : q_X9_setMarks d v1 v2 v3 = some res) : sk_M l 2 m_X9_setMarks [.inr (.inr (some (44, 0))), .inl v1, .inl v2, .inl v3] (sk_mm d) (some (.inl res.1)) (sk_mm res.2) :=
  sk_enter (by decide) (fun _ => Nat.le_of_ble_eq_true rfl) (Nat.le_of_ble_eq_true rfl) (t_X9_setMarks_0 hq )
def q_X9_isFitting_0 (d : sk_D) (v1 : Int32) (v2 : Int32) (v3 : Int32) : Option (Int32) :=
  if sk_bi v1 20 = true then (q_X9_within d ((d.1 46 0 v1.toNatClampNeg) - v2) (-1 : Int32) (1 : Int32)).bind fun x2 => if x2 = 0 then some (0 : Int32) else if sk_bi v1 20 = true then if (((d.1 47 0 v1.toNatClampNeg) >>> (v3 &&& 31)) &&& (1 : Int32)) = (1 : Int32) then some (1 : Int32) else some (0 : Int32) else none else none
set_option maxRecDepth 100000 in
set_option maxHeartbeats 4000000 in
theorem t_X9_isFitting_0 {l : Launch} {d : sk_D} {v1 : Int32} {v2 : Int32} {v3 : Int32} {res : Int32} (hq : q_X9_isFitting_0 d v1 v2 v3 = some res) :
    sk_G l (sk_rm 2 0 0) m_X9_isFitting sk_Ex0 (sk_Zm m_X9_isFitting (some (.inl res)) (sk_mm d)) 0 0 0 [some (.inr (.inr (some (44, 0)))), some (.inl v1), some (.inl v2), some (.inl v3), none] [] (sk_mm d) := by
  unfold q_X9_isFitting_0 at hq
  refine sg_aload_n 1 (sk_td o_X9_isFitting 0 rfl) rfl rfl ?_
  refine sm_getR (46, 0) 4 (sk_td o_X9_isFitting 1 rfl) rfl kf_X9_23 rfl rfl sz_44 rfl ?_
  refine sg_iload_n 5 (sk_td o_X9_isFitting 2 rfl) rfl rfl ?_
  obtain ⟨hb1, hq⟩ := sk_ifn hq
  refine sm_iald 6 (sk_td o_X9_isFitting 3 rfl) rfl rfl sz_46 hb1 ?_
  refine sg_iload_n 7 (sk_td o_X9_isFitting 4 rfl) rfl rfl ?_
  refine sg_isub 8 (sk_td o_X9_isFitting 5 rfl) rfl ?_
  refine sg_istore 10 [some (.inr (.inr (some (44, 0)))), some (.inl v1), some (.inl v2), some (.inl v3), some (.inl ((d.1 46 0 v1.toNatClampNeg) - v2))] (sk_td o_X9_isFitting 6 rfl) rfl rfl (Nat.le_of_ble_eq_true rfl) rfl ?_
  refine sg_iload 12 (sk_td o_X9_isFitting 7 rfl) rfl rfl ?_
  refine sg_iconst (v := (-1 : Int32)) 13 (sk_td o_X9_isFitting 8 rfl) rfl (by decide) ?_
  refine sg_iconst (v := (1 : Int32)) 14 (sk_td o_X9_isFitting 9 rfl) rfl (by decide) ?_
  obtain ⟨x2, hr_x2, hq⟩ := sk_bnd hq
  refine sm_callS3i 17 (s_X9_within hr_x2) (sk_td o_X9_isFitting 10 rfl) rfl ls_X9_168 rfl (sk_rok (Nat.le_of_ble_eq_true rfl) (Nat.le_of_ble_eq_true rfl) rfl rfl) (Nat.le_of_ble_eq_true rfl) ?_
  refine sg_if_eq 38 20 (sk_td o_X9_isFitting 11 rfl) (by decide) rfl (fun hc => ?_) (fun hc => ?_)
  · rw [if_pos hc] at hq
    refine sg_iconst (v := (0 : Int32)) 39 (sk_td o_X9_isFitting 24 rfl) rfl (by decide) ?_
    obtain rfl := Option.some.inj hq
    exact sg_iret (sk_td o_X9_isFitting 25 rfl) rfl (show narrow .boolean (.int (0 : Int32)) = .int (0 : Int32) by decide)
  · rw [if_neg hc] at hq
    refine sg_aload_n 21 (sk_td o_X9_isFitting 12 rfl) rfl rfl ?_
    refine sm_getR (47, 0) 24 (sk_td o_X9_isFitting 13 rfl) rfl kf_X9_26 rfl rfl sz_44 rfl ?_
    refine sg_iload_n 25 (sk_td o_X9_isFitting 14 rfl) rfl rfl ?_
    obtain ⟨hb3, hq⟩ := sk_ifn hq
    refine sm_iald 26 (sk_td o_X9_isFitting 15 rfl) rfl rfl sz_47 hb3 ?_
    refine sg_iload_n 27 (sk_td o_X9_isFitting 16 rfl) rfl rfl ?_
    refine sg_ishr 28 (sk_td o_X9_isFitting 17 rfl) rfl ?_
    refine sg_iconst (v := (1 : Int32)) 29 (sk_td o_X9_isFitting 18 rfl) rfl (by decide) ?_
    refine sg_iand 30 (sk_td o_X9_isFitting 19 rfl) rfl ?_
    refine sg_iconst (v := (1 : Int32)) 31 (sk_td o_X9_isFitting 20 rfl) rfl (by decide) ?_
    refine sg_ic_ne 38 34 (sk_td o_X9_isFitting 21 rfl) (by decide) rfl (fun hc => ?_) (fun hc => ?_)
    · rw [if_neg hc] at hq
      refine sg_iconst (v := (0 : Int32)) 39 (sk_td o_X9_isFitting 24 rfl) rfl (by decide) ?_
      obtain rfl := Option.some.inj hq
      exact sg_iret (sk_td o_X9_isFitting 25 rfl) rfl (show narrow .boolean (.int (0 : Int32)) = .int (0 : Int32) by decide)
    · rw [if_pos hc] at hq
      refine sg_iconst (v := (1 : Int32)) 35 (sk_td o_X9_isFitting 22 rfl) rfl (by decide) ?_
      refine sg_goto 39 (sk_td o_X9_isFitting 23 rfl) (by decide) ?_
      obtain rfl := Option.some.inj hq
      exact sg_iret (sk_td o_X9_isFitting 25 rfl) rfl (show narrow .boolean (.int (1 : Int32)) = .int (1 : Int32) by decide)
def q_X9_isFitting (d : sk_D) (v1 : Int32) (v2 : Int32) (v3 : Int32) : Option (Int32) := q_X9_isFitting_0 d v1 v2 v3 
theorem s_X9_isFitting {l : Launch} {d : sk_D} {v1 : Int32} {v2 : Int32} {v3 : Int32} {res : Int32} (hq : q_X9_isFitting d v1 v2 v3 = some res) : sk_M l 2 m_X9_isFitting [.inr (.inr (some (44, 0))), .inl v1, .inl v2, .inl v3] (sk_mm d) (some (.inl res)) (sk_mm d) :=
  sk_enter (by decide) (fun _ => Nat.le_of_ble_eq_true rfl) (Nat.le_of_ble_eq_true rfl) (t_X9_isFitting_0 hq )
def q_X9_grade_259 (d : sk_D) (v1 : Int32) : Option (Int32 × sk_D) :=
  if sk_bi v1 20 = true then some ((d.1 46 0 v1.toNatClampNeg), d) else none
set_option maxRecDepth 100000 in
set_option maxHeartbeats 4000000 in
theorem t_X9_grade_259 {l : Launch} {d : sk_D} {v1 : Int32} {res : Int32 × sk_D} (hq : q_X9_grade_259 d v1 = some res) :
    sk_G l (sk_rm 4 0 0) m_X9_grade sk_Ex0 (sk_Zm m_X9_grade (some (.inl res.1)) (sk_mm res.2)) 0 0 259 [some (.inr (.inr (some (44, 0)))), some (.inl v1), none, none, none, none, none] [] (sk_mm d) := by
  unfold q_X9_grade_259 at hq
  refine sg_aload_n 260 (sk_td o_X9_grade 151 rfl) rfl rfl ?_
  refine sm_getR (46, 0) 263 (sk_td o_X9_grade 152 rfl) rfl kf_X9_23 rfl rfl sz_44 rfl ?_
  refine sg_iload_n 264 (sk_td o_X9_grade 153 rfl) rfl rfl ?_
  obtain ⟨hb1, hq⟩ := sk_ifn hq
  refine sm_iald 265 (sk_td o_X9_grade 154 rfl) rfl rfl sz_46 hb1 ?_
  obtain rfl := Option.some.inj hq
  exact sg_iret (sk_td o_X9_grade 155 rfl) rfl rfl
def q_X9_grade_254 (d : sk_D) (v1 : Int32) (s2 : Int32) : Option (Int32 × sk_D) :=
  if sk_bi s2 20 = true then (q_X9_keepRule d (d.1 48 0 s2.toNatClampNeg)).bind fun x2 => (q_X9_grade_259 x2.2 v1) else none
set_option maxRecDepth 100000 in
set_option maxHeartbeats 4000000 in
theorem t_X9_grade_254 {l : Launch} {d : sk_D} {v1 : Int32} {s2 : Int32} {res : Int32 × sk_D} (hq : q_X9_grade_254 d v1 s2 = some res) :
    sk_G l (sk_rm 4 0 0) m_X9_grade sk_Ex0 (sk_Zm m_X9_grade (some (.inl res.1)) (sk_mm res.2)) 0 0 254 [some (.inr (.inr (some (44, 0)))), some (.inl v1), none, none, none, none, none] [.inl s2, .inr (.inr (some (48, 0))), .inr (.inr (some (44, 0)))] (sk_mm d) := by
  unfold q_X9_grade_254 at hq
  obtain ⟨hb1, hq⟩ := sk_ifn hq
  refine sm_iald 255 (sk_td o_X9_grade 148 rfl) rfl rfl sz_48 hb1 ?_
  obtain ⟨x2, hr_x2, hq⟩ := sk_bnd hq
  refine sm_callV1i 258 (s_X9_keepRule hr_x2) (sk_td o_X9_grade 149 rfl) rfl lv_X9_194 rfl rfl rfl sz_44 (sk_rok (Nat.le_of_ble_eq_true rfl) (Nat.le_of_ble_eq_true rfl) rfl rfl) (Nat.le_of_ble_eq_true rfl) ?_
  refine sg_popI 259 (sk_td o_X9_grade 150 rfl) rfl ?_
  exact t_X9_grade_259 hq
def q_X9_grade_208 (d : sk_D) (v1 : Int32) (s1 : Int32) : Option (Int32 × sk_D) :=
  if sk_bi s1 20 = true then if (d.1 49 0 s1.toNatClampNeg) = (-9 : Int32) then (q_X9_grade_259 d v1) else if sk_bi (d.1 49 0 s1.toNatClampNeg) 4 = true then if sk_bi (d.1 49 0 s1.toNatClampNeg) 4 = true then (q_X9_isFitting d v1 (d.1 54 0 (d.1 49 0 s1.toNatClampNeg).toNatClampNeg) (d.1 55 0 (d.1 49 0 s1.toNatClampNeg).toNatClampNeg)).bind fun x4 => if x4 = 0 then if sk_bi v1 20 = true then (q_X9_grade_254 (sk_wi d 49 0 v1.toNatClampNeg (-9 : Int32)) v1 v1) else none else (q_X9_grade_259 d v1) else none else none else none
set_option maxRecDepth 100000 in
set_option maxHeartbeats 4000000 in
theorem t_X9_grade_208 {l : Launch} {d : sk_D} {v1 : Int32} {s1 : Int32} {res : Int32 × sk_D} (hq : q_X9_grade_208 d v1 s1 = some res) :
    sk_G l (sk_rm 4 0 0) m_X9_grade sk_Ex0 (sk_Zm m_X9_grade (some (.inl res.1)) (sk_mm res.2)) 0 0 208 [some (.inr (.inr (some (44, 0)))), some (.inl v1), none, none, none, none, none] [.inl s1, .inr (.inr (some (49, 0)))] (sk_mm d) := by
  unfold q_X9_grade_208 at hq
  obtain ⟨hb1, hq⟩ := sk_ifn hq
  refine sm_iald 209 (sk_td o_X9_grade 122 rfl) rfl rfl sz_49 hb1 ?_
  refine sg_istore 211 [some (.inr (.inr (some (44, 0)))), some (.inl v1), none, none, none, none, some (.inl (d.1 49 0 s1.toNatClampNeg))] (sk_td o_X9_grade 123 rfl) rfl rfl (Nat.le_of_ble_eq_true rfl) rfl ?_
  refine sg_iload 213 (sk_td o_X9_grade 124 rfl) rfl rfl ?_
  refine sg_bipush (v := (-9 : Int32)) 215 (sk_td o_X9_grade 125 rfl) rfl (by decide) ?_
  refine sg_ic_eq 259 218 (sk_td o_X9_grade 126 rfl) (by decide) rfl (fun hc => ?_) (fun hc => ?_)
  · rw [if_pos hc] at hq
    refine sk_wk [true, true, true, true, true, true, false] (ls' := [some (.inr (.inr (some (44, 0)))), some (.inl v1), none, none, none, none, none]) rfl ?_
    exact t_X9_grade_259 hq
  · rw [if_neg hc] at hq
    refine sg_aload_n 219 (sk_td o_X9_grade 127 rfl) rfl rfl ?_
    refine sg_iload_n 220 (sk_td o_X9_grade 128 rfl) rfl rfl ?_
    refine sg_aload_n 221 (sk_td o_X9_grade 129 rfl) rfl rfl ?_
    refine sm_getR (54, 0) 224 (sk_td o_X9_grade 130 rfl) rfl kf_X9_47 rfl rfl sz_44 rfl ?_
    refine sg_iload 226 (sk_td o_X9_grade 131 rfl) rfl rfl ?_
    obtain ⟨hb2, hq⟩ := sk_ifn hq
    refine sm_iald 227 (sk_td o_X9_grade 132 rfl) rfl rfl sz_54 hb2 ?_
    refine sg_aload_n 228 (sk_td o_X9_grade 133 rfl) rfl rfl ?_
    refine sm_getR (55, 0) 231 (sk_td o_X9_grade 134 rfl) rfl kf_X9_50 rfl rfl sz_44 rfl ?_
    refine sg_iload 233 (sk_td o_X9_grade 135 rfl) rfl rfl ?_
    obtain ⟨hb3, hq⟩ := sk_ifn hq
    refine sm_iald 234 (sk_td o_X9_grade 136 rfl) rfl rfl sz_55 hb3 ?_
    obtain ⟨x4, hr_x4, hq⟩ := sk_bnd hq
    refine sm_callV3i 237 (s_X9_isFitting hr_x4) (sk_td o_X9_grade 137 rfl) rfl lv_X9_212 rfl rfl rfl sz_44 (sk_rok (Nat.le_of_ble_eq_true rfl) (Nat.le_of_ble_eq_true rfl) rfl rfl) (Nat.le_of_ble_eq_true rfl) ?_
    refine sg_if_ne 259 240 (sk_td o_X9_grade 138 rfl) (by decide) rfl (fun hc => ?_) (fun hc => ?_)
    · rw [if_neg hc] at hq
      refine sk_wk [true, true, true, true, true, true, false] (ls' := [some (.inr (.inr (some (44, 0)))), some (.inl v1), none, none, none, none, none]) rfl ?_
      exact t_X9_grade_259 hq
    · rw [if_pos hc] at hq
      refine sg_aload_n 241 (sk_td o_X9_grade 139 rfl) rfl rfl ?_
      refine sm_getR (49, 0) 244 (sk_td o_X9_grade 140 rfl) rfl kf_X9_32 rfl rfl sz_44 rfl ?_
      refine sg_iload_n 245 (sk_td o_X9_grade 141 rfl) rfl rfl ?_
      refine sg_bipush (v := (-9 : Int32)) 247 (sk_td o_X9_grade 142 rfl) rfl (by decide) ?_
      obtain ⟨hb5, hq⟩ := sk_ifn hq
      refine sm_iast 248 (sk_td o_X9_grade 143 rfl) rfl rfl sz_49 hb5 ?_
      refine sg_aload_n 249 (sk_td o_X9_grade 144 rfl) rfl rfl ?_
      refine sg_aload_n 250 (sk_td o_X9_grade 145 rfl) rfl rfl ?_
      refine sm_getR (48, 0) 253 (sk_td o_X9_grade 146 rfl) rfl kf_X9_29 rfl rfl sz_44 rfl ?_
      refine sg_iload_n 254 (sk_td o_X9_grade 147 rfl) rfl rfl ?_
      refine sk_wk [true, true, true, true, true, true, false] (ls' := [some (.inr (.inr (some (44, 0)))), some (.inl v1), none, none, none, none, none]) rfl ?_
      exact t_X9_grade_254 hq
def q_X9_grade_193 (d : sk_D) (v1 : Int32) : Option (Int32 × sk_D) :=
  if sk_bi v1 20 = true then (q_X9_grade_208 (sk_wi d 51 0 v1.toNatClampNeg (d.1 44 0 0)) v1 v1) else none
set_option maxRecDepth 100000 in
set_option maxHeartbeats 4000000 in
theorem t_X9_grade_193 {l : Launch} {d : sk_D} {v1 : Int32} {res : Int32 × sk_D} (hq : q_X9_grade_193 d v1 = some res) :
    sk_G l (sk_rm 4 0 0) m_X9_grade sk_Ex0 (sk_Zm m_X9_grade (some (.inl res.1)) (sk_mm res.2)) 0 0 193 [some (.inr (.inr (some (44, 0)))), some (.inl v1), none, none, none, none, none] [] (sk_mm d) := by
  unfold q_X9_grade_193 at hq
  refine sg_aload_n 194 (sk_td o_X9_grade 113 rfl) rfl rfl ?_
  refine sm_getR (51, 0) 197 (sk_td o_X9_grade 114 rfl) rfl kf_X9_38 rfl rfl sz_44 rfl ?_
  refine sg_iload_n 198 (sk_td o_X9_grade 115 rfl) rfl rfl ?_
  refine sg_aload_n 199 (sk_td o_X9_grade 116 rfl) rfl rfl ?_
  refine sm_getI 202 (sk_td o_X9_grade 117 rfl) rfl kf_X9_209 rfl rfl sz_44 ?_
  obtain ⟨hb1, hq⟩ := sk_ifn hq
  refine sm_iast 203 (sk_td o_X9_grade 118 rfl) rfl rfl sz_51 hb1 ?_
  refine sg_aload_n 204 (sk_td o_X9_grade 119 rfl) rfl rfl ?_
  refine sm_getR (49, 0) 207 (sk_td o_X9_grade 120 rfl) rfl kf_X9_32 rfl rfl sz_44 rfl ?_
  refine sg_iload_n 208 (sk_td o_X9_grade 121 rfl) rfl rfl ?_
  exact t_X9_grade_208 hq
def q_X9_grade_192 (d : sk_D) (v1 : Int32) (s1 : Int32) (s2 : Int32) : Option (Int32 × sk_D) :=
  if sk_bi s1 20 = true then (q_X9_grade_193 (sk_wi d 46 0 s1.toNatClampNeg s2) v1) else none
set_option maxRecDepth 100000 in
set_option maxHeartbeats 4000000 in
theorem t_X9_grade_192 {l : Launch} {d : sk_D} {v1 : Int32} {s1 : Int32} {s2 : Int32} {res : Int32 × sk_D} (hq : q_X9_grade_192 d v1 s1 s2 = some res) :
    sk_G l (sk_rm 4 0 0) m_X9_grade sk_Ex0 (sk_Zm m_X9_grade (some (.inl res.1)) (sk_mm res.2)) 0 0 192 [some (.inr (.inr (some (44, 0)))), some (.inl v1), none, none, none, none, none] [.inl s2, .inl s1, .inr (.inr (some (46, 0)))] (sk_mm d) := by
  unfold q_X9_grade_192 at hq
  obtain ⟨hb1, hq⟩ := sk_ifn hq
  refine sm_iast 193 (sk_td o_X9_grade 112 rfl) rfl rfl sz_46 hb1 ?_
  exact t_X9_grade_193 hq
def q_X9_grade_162 (d : sk_D) (v1 : Int32) (s1 : Int32) (s2 : Int32) : Option (Int32 × sk_D) :=
  if sk_bi s1 20 = true then (q_X9_grade_193 (sk_wi d 46 0 s1.toNatClampNeg s2) v1) else none
set_option maxRecDepth 100000 in
set_option maxHeartbeats 4000000 in
theorem t_X9_grade_162 {l : Launch} {d : sk_D} {v1 : Int32} {s1 : Int32} {s2 : Int32} {res : Int32 × sk_D} (hq : q_X9_grade_162 d v1 s1 s2 = some res) :
    sk_G l (sk_rm 4 0 0) m_X9_grade sk_Ex0 (sk_Zm m_X9_grade (some (.inl res.1)) (sk_mm res.2)) 0 0 162 [some (.inr (.inr (some (44, 0)))), some (.inl v1), none, none, none, none, none] [.inl s2, .inl s1, .inr (.inr (some (46, 0)))] (sk_mm d) := by
  unfold q_X9_grade_162 at hq
  obtain ⟨hb1, hq⟩ := sk_ifn hq
  refine sm_iast 163 (sk_td o_X9_grade 96 rfl) rfl rfl sz_46 hb1 ?_
  refine sg_goto 193 (sk_td o_X9_grade 97 rfl) (by decide) ?_
  exact t_X9_grade_193 hq
def q_X9_grade_126 (d : sk_D) (v1 : Int32) (v2 : Int32) (s0 : Int32) : Option (Int32 × sk_D) :=
  if sk_bi v1 20 = true then if s0 = 0 then if (d.1 44 0 3) ≤ v2 then (q_X9_grade_193 d v1) else if (d.1 46 0 v1.toNatClampNeg) ≤ 0 then (q_X9_grade_192 d v1 v1 (0 : Int32)) else (q_X9_grade_192 d v1 v1 ((d.1 46 0 v1.toNatClampNeg) - (1 : Int32))) else if (7 : Int32) ≤ (d.1 46 0 v1.toNatClampNeg) then (q_X9_grade_162 d v1 v1 (7 : Int32)) else (q_X9_grade_162 d v1 v1 ((d.1 46 0 v1.toNatClampNeg) + (1 : Int32))) else none
set_option maxRecDepth 100000 in
set_option maxHeartbeats 4000000 in
theorem t_X9_grade_126 {l : Launch} {d : sk_D} {v1 : Int32} {v2 : Int32} {s0 : Int32} {res : Int32 × sk_D} (hq : q_X9_grade_126 d v1 v2 s0 = some res) :
    sk_G l (sk_rm 4 0 0) m_X9_grade sk_Ex0 (sk_Zm m_X9_grade (some (.inl res.1)) (sk_mm res.2)) 0 0 126 [some (.inr (.inr (some (44, 0)))), some (.inl v1), some (.inl v2), none, none, none, none] [.inl s0] (sk_mm d) := by
  unfold q_X9_grade_126 at hq
  refine sg_istore 128 [some (.inr (.inr (some (44, 0)))), some (.inl v1), some (.inl v2), none, some (.inl s0), none, none] (sk_td o_X9_grade 77 rfl) rfl rfl (Nat.le_of_ble_eq_true rfl) rfl ?_
  refine sg_aload_n 129 (sk_td o_X9_grade 78 rfl) rfl rfl ?_
  refine sm_getR (46, 0) 132 (sk_td o_X9_grade 79 rfl) rfl kf_X9_23 rfl rfl sz_44 rfl ?_
  refine sg_iload_n 133 (sk_td o_X9_grade 80 rfl) rfl rfl ?_
  obtain ⟨hb1, hq⟩ := sk_ifn hq
  refine sm_iald 134 (sk_td o_X9_grade 81 rfl) rfl rfl sz_46 hb1 ?_
  refine sg_istore 136 [some (.inr (.inr (some (44, 0)))), some (.inl v1), some (.inl v2), none, some (.inl s0), some (.inl (d.1 46 0 v1.toNatClampNeg)), none] (sk_td o_X9_grade 82 rfl) rfl rfl (Nat.le_of_ble_eq_true rfl) rfl ?_
  refine sg_iload 138 (sk_td o_X9_grade 83 rfl) rfl rfl ?_
  refine sg_if_eq 166 141 (sk_td o_X9_grade 84 rfl) (by decide) rfl (fun hc => ?_) (fun hc => ?_)
  · rw [if_pos hc] at hq
    refine sg_iload_n 167 (sk_td o_X9_grade 98 rfl) rfl rfl ?_
    refine sg_aload_n 168 (sk_td o_X9_grade 99 rfl) rfl rfl ?_
    refine sm_getI 171 (sk_td o_X9_grade 100 rfl) rfl kf_X9_16 rfl rfl sz_44 ?_
    refine sg_ic_ge 193 174 (sk_td o_X9_grade 101 rfl) (by decide) rfl (fun hc => ?_) (fun hc => ?_)
    · rw [if_pos hc] at hq
      refine sk_wk [true, true, false, true, false, false, true] (ls' := [some (.inr (.inr (some (44, 0)))), some (.inl v1), none, none, none, none, none]) rfl ?_
      exact t_X9_grade_193 hq
    · rw [if_neg hc] at hq
      refine sg_aload_n 175 (sk_td o_X9_grade 102 rfl) rfl rfl ?_
      refine sm_getR (46, 0) 178 (sk_td o_X9_grade 103 rfl) rfl kf_X9_23 rfl rfl sz_44 rfl ?_
      refine sg_iload_n 179 (sk_td o_X9_grade 104 rfl) rfl rfl ?_
      refine sg_iload 181 (sk_td o_X9_grade 105 rfl) rfl rfl ?_
      refine sg_if_le 191 184 (sk_td o_X9_grade 106 rfl) (by decide) rfl (fun hc => ?_) (fun hc => ?_)
      · rw [if_pos hc] at hq
        refine sg_iconst (v := (0 : Int32)) 192 (sk_td o_X9_grade 111 rfl) rfl (by decide) ?_
        refine sk_wk [true, true, false, true, false, false, true] (ls' := [some (.inr (.inr (some (44, 0)))), some (.inl v1), none, none, none, none, none]) rfl ?_
        exact t_X9_grade_192 hq
      · rw [if_neg hc] at hq
        refine sg_iload 186 (sk_td o_X9_grade 107 rfl) rfl rfl ?_
        refine sg_iconst (v := (1 : Int32)) 187 (sk_td o_X9_grade 108 rfl) rfl (by decide) ?_
        refine sg_isub 188 (sk_td o_X9_grade 109 rfl) rfl ?_
        refine sg_goto 192 (sk_td o_X9_grade 110 rfl) (by decide) ?_
        refine sk_wk [true, true, false, true, false, false, true] (ls' := [some (.inr (.inr (some (44, 0)))), some (.inl v1), none, none, none, none, none]) rfl ?_
        exact t_X9_grade_192 hq
  · rw [if_neg hc] at hq
    refine sg_aload_n 142 (sk_td o_X9_grade 85 rfl) rfl rfl ?_
    refine sm_getR (46, 0) 145 (sk_td o_X9_grade 86 rfl) rfl kf_X9_23 rfl rfl sz_44 rfl ?_
    refine sg_iload_n 146 (sk_td o_X9_grade 87 rfl) rfl rfl ?_
    refine sg_iload 148 (sk_td o_X9_grade 88 rfl) rfl rfl ?_
    refine sg_bipush (v := (7 : Int32)) 150 (sk_td o_X9_grade 89 rfl) rfl (by decide) ?_
    refine sg_ic_ge 160 153 (sk_td o_X9_grade 90 rfl) (by decide) rfl (fun hc => ?_) (fun hc => ?_)
    · rw [if_pos hc] at hq
      refine sg_bipush (v := (7 : Int32)) 162 (sk_td o_X9_grade 95 rfl) rfl (by decide) ?_
      refine sk_wk [true, true, false, true, false, false, true] (ls' := [some (.inr (.inr (some (44, 0)))), some (.inl v1), none, none, none, none, none]) rfl ?_
      exact t_X9_grade_162 hq
    · rw [if_neg hc] at hq
      refine sg_iload 155 (sk_td o_X9_grade 91 rfl) rfl rfl ?_
      refine sg_iconst (v := (1 : Int32)) 156 (sk_td o_X9_grade 92 rfl) rfl (by decide) ?_
      refine sg_iadd 157 (sk_td o_X9_grade 93 rfl) rfl ?_
      refine sg_goto 162 (sk_td o_X9_grade 94 rfl) (by decide) ?_
      refine sk_wk [true, true, false, true, false, false, true] (ls' := [some (.inr (.inr (some (44, 0)))), some (.inl v1), none, none, none, none, none]) rfl ?_
      exact t_X9_grade_162 hq
def q_X9_grade_125 (d : sk_D) (v1 : Int32) (v2 : Int32) : Option (Int32 × sk_D) :=
  (q_X9_grade_126 d v1 v2 (0 : Int32))
set_option maxRecDepth 100000 in
set_option maxHeartbeats 4000000 in
theorem t_X9_grade_125 {l : Launch} {d : sk_D} {v1 : Int32} {v2 : Int32} {res : Int32 × sk_D} (hq : q_X9_grade_125 d v1 v2 = some res) :
    sk_G l (sk_rm 4 0 0) m_X9_grade sk_Ex0 (sk_Zm m_X9_grade (some (.inl res.1)) (sk_mm res.2)) 0 0 125 [some (.inr (.inr (some (44, 0)))), some (.inl v1), some (.inl v2), none, none, none, none] [] (sk_mm d) := by
  unfold q_X9_grade_125 at hq
  refine sg_iconst (v := (0 : Int32)) 126 (sk_td o_X9_grade 76 rfl) rfl (by decide) ?_
  exact t_X9_grade_126 hq
def q_X9_grade_89 (rec42 : (sk_D × Int32 × Int32 × Int32 × Int32) → Option (Int32 × sk_D)) (d : sk_D) (v1 : Int32) (v2 : Int32) (v4 : Int32) (s0 : Int32) : Option (Int32 × sk_D) :=
  if sk_bi (((4 : Int32) * v1) + v4) 80 = true then (rec42 ((sk_wi d 50 0 (((4 : Int32) * v1) + v4).toNatClampNeg (-9 : Int32)), v1, v2, s0, (v4 + (1 : Int32)))) else none
set_option maxRecDepth 100000 in
set_option maxHeartbeats 4000000 in
theorem t_X9_grade_89 {l : Launch} {rec42 : (sk_D × Int32 × Int32 × Int32 × Int32) → Option (Int32 × sk_D)} {d : sk_D} {v1 : Int32} {v2 : Int32} {v4 : Int32} {s0 : Int32} (hrec42 : ∀ (a : (sk_D × Int32 × Int32 × Int32 × Int32)) (res : Int32 × sk_D), rec42 a = some res → sk_G l (sk_rm 4 0 0) m_X9_grade sk_Ex0 (sk_Zm m_X9_grade (some (.inl res.1)) (sk_mm res.2)) 0 0 42 [some (.inr (.inr (some (44, 0)))), some (.inl a.2.1), some (.inl a.2.2.1), some (.inl a.2.2.2.1), some (.inl a.2.2.2.2), none, none] [] (sk_mm a.1)) {res : Int32 × sk_D} (hq : q_X9_grade_89 rec42 d v1 v2 v4 s0 = some res) :
    sk_G l (sk_rm 4 0 0) m_X9_grade sk_Ex0 (sk_Zm m_X9_grade (some (.inl res.1)) (sk_mm res.2)) 0 0 89 [some (.inr (.inr (some (44, 0)))), some (.inl v1), some (.inl v2), none, some (.inl v4), none, none] [.inl s0] (sk_mm d) := by
  unfold q_X9_grade_89 at hq
  refine sg_istore_n 90 [some (.inr (.inr (some (44, 0)))), some (.inl v1), some (.inl v2), some (.inl s0), some (.inl v4), none, none] (sk_td o_X9_grade 56 rfl) rfl rfl (Nat.le_of_ble_eq_true rfl) rfl ?_
  refine sg_aload_n 91 (sk_td o_X9_grade 57 rfl) rfl rfl ?_
  refine sm_getR (50, 0) 94 (sk_td o_X9_grade 58 rfl) rfl kf_X9_35 rfl rfl sz_44 rfl ?_
  refine sg_iconst (v := (4 : Int32)) 95 (sk_td o_X9_grade 59 rfl) rfl (by decide) ?_
  refine sg_iload_n 96 (sk_td o_X9_grade 60 rfl) rfl rfl ?_
  refine sg_imul 97 (sk_td o_X9_grade 61 rfl) rfl ?_
  refine sg_iload 99 (sk_td o_X9_grade 62 rfl) rfl rfl ?_
  refine sg_iadd 100 (sk_td o_X9_grade 63 rfl) rfl ?_
  refine sg_bipush (v := (-9 : Int32)) 102 (sk_td o_X9_grade 64 rfl) rfl (by decide) ?_
  obtain ⟨hb1, hq⟩ := sk_ifn hq
  refine sm_iast 103 (sk_td o_X9_grade 65 rfl) rfl rfl sz_50 hb1 ?_
  refine sg_iinc (v4 + (1 : Int32)) 106 [some (.inr (.inr (some (44, 0)))), some (.inl v1), some (.inl v2), some (.inl s0), some (.inl (v4 + (1 : Int32))), none, none] (sk_td o_X9_grade 66 rfl) rfl rfl rfl rfl (Nat.le_of_ble_eq_true rfl) rfl ?_
  refine sg_goto 42 (sk_td o_X9_grade 67 rfl) (by decide) ?_
  exact hrec42 ((sk_wi d 50 0 (((4 : Int32) * v1) + v4).toNatClampNeg (-9 : Int32)), v1, v2, s0, (v4 + (1 : Int32))) _ hq
def q_X9_grade_88 (rec42 : (sk_D × Int32 × Int32 × Int32 × Int32) → Option (Int32 × sk_D)) (d : sk_D) (v1 : Int32) (v2 : Int32) (v4 : Int32) : Option (Int32 × sk_D) :=
  (q_X9_grade_89 rec42 d v1 v2 v4 (0 : Int32))
set_option maxRecDepth 100000 in
set_option maxHeartbeats 4000000 in
theorem t_X9_grade_88 {l : Launch} {rec42 : (sk_D × Int32 × Int32 × Int32 × Int32) → Option (Int32 × sk_D)} {d : sk_D} {v1 : Int32} {v2 : Int32} {v4 : Int32} (hrec42 : ∀ (a : (sk_D × Int32 × Int32 × Int32 × Int32)) (res : Int32 × sk_D), rec42 a = some res → sk_G l (sk_rm 4 0 0) m_X9_grade sk_Ex0 (sk_Zm m_X9_grade (some (.inl res.1)) (sk_mm res.2)) 0 0 42 [some (.inr (.inr (some (44, 0)))), some (.inl a.2.1), some (.inl a.2.2.1), some (.inl a.2.2.2.1), some (.inl a.2.2.2.2), none, none] [] (sk_mm a.1)) {res : Int32 × sk_D} (hq : q_X9_grade_88 rec42 d v1 v2 v4 = some res) :
    sk_G l (sk_rm 4 0 0) m_X9_grade sk_Ex0 (sk_Zm m_X9_grade (some (.inl res.1)) (sk_mm res.2)) 0 0 88 [some (.inr (.inr (some (44, 0)))), some (.inl v1), some (.inl v2), none, some (.inl v4), none, none] [] (sk_mm d) := by
  unfold q_X9_grade_88 at hq
  refine sg_iconst (v := (0 : Int32)) 89 (sk_td o_X9_grade 55 rfl) rfl (by decide) ?_
  exact t_X9_grade_89 hrec42 hq
def q_X9_grade_42 (rec42 : (sk_D × Int32 × Int32 × Int32 × Int32) → Option (Int32 × sk_D)) (d : sk_D) (v1 : Int32) (v2 : Int32) (v3 : Int32) (v4 : Int32) : Option (Int32 × sk_D) :=
  if (4 : Int32) ≤ v4 then if v3 = 0 then (q_X9_grade_125 d v1 v2) else if v2 < (d.1 44 0 1) then (q_X9_grade_125 d v1 v2) else (q_X9_grade_126 d v1 v2 (1 : Int32)) else if sk_bi (((4 : Int32) * v1) + v4) 80 = true then if v3 = 0 then (q_X9_grade_88 rec42 d v1 (v2 + (d.1 50 0 (((4 : Int32) * v1) + v4).toNatClampNeg)) v4) else if sk_bi (((4 : Int32) * v1) + v4) 80 = true then if (d.1 50 0 (((4 : Int32) * v1) + v4).toNatClampNeg) < (d.1 44 0 2) then (q_X9_grade_88 rec42 d v1 (v2 + (d.1 50 0 (((4 : Int32) * v1) + v4).toNatClampNeg)) v4) else (q_X9_grade_89 rec42 d v1 (v2 + (d.1 50 0 (((4 : Int32) * v1) + v4).toNatClampNeg)) v4 (1 : Int32)) else none else none
set_option maxRecDepth 100000 in
set_option maxHeartbeats 4000000 in
theorem t_X9_grade_42 {l : Launch} {rec42 : (sk_D × Int32 × Int32 × Int32 × Int32) → Option (Int32 × sk_D)} {d : sk_D} {v1 : Int32} {v2 : Int32} {v3 : Int32} {v4 : Int32} (hrec42 : ∀ (a : (sk_D × Int32 × Int32 × Int32 × Int32)) (res : Int32 × sk_D), rec42 a = some res → sk_G l (sk_rm 4 0 0) m_X9_grade sk_Ex0 (sk_Zm m_X9_grade (some (.inl res.1)) (sk_mm res.2)) 0 0 42 [some (.inr (.inr (some (44, 0)))), some (.inl a.2.1), some (.inl a.2.2.1), some (.inl a.2.2.2.1), some (.inl a.2.2.2.2), none, none] [] (sk_mm a.1)) {res : Int32 × sk_D} (hq : q_X9_grade_42 rec42 d v1 v2 v3 v4 = some res) :
    sk_G l (sk_rm 4 0 0) m_X9_grade sk_Ex0 (sk_Zm m_X9_grade (some (.inl res.1)) (sk_mm res.2)) 0 0 42 [some (.inr (.inr (some (44, 0)))), some (.inl v1), some (.inl v2), some (.inl v3), some (.inl v4), none, none] [] (sk_mm d) := by
  unfold q_X9_grade_42 at hq
  refine sg_iload 44 (sk_td o_X9_grade 26 rfl) rfl rfl ?_
  refine sg_iconst (v := (4 : Int32)) 45 (sk_td o_X9_grade 27 rfl) rfl (by decide) ?_
  refine sg_ic_ge 109 48 (sk_td o_X9_grade 28 rfl) (by decide) rfl (fun hc => ?_) (fun hc => ?_)
  · rw [if_pos hc] at hq
    refine sg_iload_n 110 (sk_td o_X9_grade 68 rfl) rfl rfl ?_
    refine sg_if_eq 125 113 (sk_td o_X9_grade 69 rfl) (by decide) rfl (fun hc => ?_) (fun hc => ?_)
    · rw [if_pos hc] at hq
      refine sk_wk [true, true, true, false, false, true, true] (ls' := [some (.inr (.inr (some (44, 0)))), some (.inl v1), some (.inl v2), none, none, none, none]) rfl ?_
      exact t_X9_grade_125 hq
    · rw [if_neg hc] at hq
      refine sg_iload_n 114 (sk_td o_X9_grade 70 rfl) rfl rfl ?_
      refine sg_aload_n 115 (sk_td o_X9_grade 71 rfl) rfl rfl ?_
      refine sm_getI 118 (sk_td o_X9_grade 72 rfl) rfl kf_X9_7 rfl rfl sz_44 ?_
      refine sg_ic_lt 125 121 (sk_td o_X9_grade 73 rfl) (by decide) rfl (fun hc => ?_) (fun hc => ?_)
      · rw [if_pos hc] at hq
        refine sk_wk [true, true, true, false, false, true, true] (ls' := [some (.inr (.inr (some (44, 0)))), some (.inl v1), some (.inl v2), none, none, none, none]) rfl ?_
        exact t_X9_grade_125 hq
      · rw [if_neg hc] at hq
        refine sg_iconst (v := (1 : Int32)) 122 (sk_td o_X9_grade 74 rfl) rfl (by decide) ?_
        refine sg_goto 126 (sk_td o_X9_grade 75 rfl) (by decide) ?_
        refine sk_wk [true, true, true, false, false, true, true] (ls' := [some (.inr (.inr (some (44, 0)))), some (.inl v1), some (.inl v2), none, none, none, none]) rfl ?_
        exact t_X9_grade_126 hq
  · rw [if_neg hc] at hq
    refine sg_iload_n 49 (sk_td o_X9_grade 29 rfl) rfl rfl ?_
    refine sg_aload_n 50 (sk_td o_X9_grade 30 rfl) rfl rfl ?_
    refine sm_getR (50, 0) 53 (sk_td o_X9_grade 31 rfl) rfl kf_X9_35 rfl rfl sz_44 rfl ?_
    refine sg_iconst (v := (4 : Int32)) 54 (sk_td o_X9_grade 32 rfl) rfl (by decide) ?_
    refine sg_iload_n 55 (sk_td o_X9_grade 33 rfl) rfl rfl ?_
    refine sg_imul 56 (sk_td o_X9_grade 34 rfl) rfl ?_
    refine sg_iload 58 (sk_td o_X9_grade 35 rfl) rfl rfl ?_
    refine sg_iadd 59 (sk_td o_X9_grade 36 rfl) rfl ?_
    obtain ⟨hb1, hq⟩ := sk_ifn hq
    refine sm_iald 60 (sk_td o_X9_grade 37 rfl) rfl rfl sz_50 hb1 ?_
    refine sg_iadd 61 (sk_td o_X9_grade 38 rfl) rfl ?_
    refine sg_istore_n 62 [some (.inr (.inr (some (44, 0)))), some (.inl v1), some (.inl (v2 + (d.1 50 0 (((4 : Int32) * v1) + v4).toNatClampNeg))), some (.inl v3), some (.inl v4), none, none] (sk_td o_X9_grade 39 rfl) rfl rfl (Nat.le_of_ble_eq_true rfl) rfl ?_
    refine sg_iload_n 63 (sk_td o_X9_grade 40 rfl) rfl rfl ?_
    refine sg_if_eq 88 66 (sk_td o_X9_grade 41 rfl) (by decide) rfl (fun hc => ?_) (fun hc => ?_)
    · rw [if_pos hc] at hq
      refine sk_wk [true, true, true, false, true, true, true] (ls' := [some (.inr (.inr (some (44, 0)))), some (.inl v1), some (.inl (v2 + (d.1 50 0 (((4 : Int32) * v1) + v4).toNatClampNeg))), none, some (.inl v4), none, none]) rfl ?_
      exact t_X9_grade_88 hrec42 hq
    · rw [if_neg hc] at hq
      refine sg_aload_n 67 (sk_td o_X9_grade 42 rfl) rfl rfl ?_
      refine sm_getR (50, 0) 70 (sk_td o_X9_grade 43 rfl) rfl kf_X9_35 rfl rfl sz_44 rfl ?_
      refine sg_iconst (v := (4 : Int32)) 71 (sk_td o_X9_grade 44 rfl) rfl (by decide) ?_
      refine sg_iload_n 72 (sk_td o_X9_grade 45 rfl) rfl rfl ?_
      refine sg_imul 73 (sk_td o_X9_grade 46 rfl) rfl ?_
      refine sg_iload 75 (sk_td o_X9_grade 47 rfl) rfl rfl ?_
      refine sg_iadd 76 (sk_td o_X9_grade 48 rfl) rfl ?_
      obtain ⟨hb2, hq⟩ := sk_ifn hq
      refine sm_iald 77 (sk_td o_X9_grade 49 rfl) rfl rfl sz_50 hb2 ?_
      refine sg_aload_n 78 (sk_td o_X9_grade 50 rfl) rfl rfl ?_
      refine sm_getI 81 (sk_td o_X9_grade 51 rfl) rfl kf_X9_13 rfl rfl sz_44 ?_
      refine sg_ic_lt 88 84 (sk_td o_X9_grade 52 rfl) (by decide) rfl (fun hc => ?_) (fun hc => ?_)
      · rw [if_pos hc] at hq
        refine sk_wk [true, true, true, false, true, true, true] (ls' := [some (.inr (.inr (some (44, 0)))), some (.inl v1), some (.inl (v2 + (d.1 50 0 (((4 : Int32) * v1) + v4).toNatClampNeg))), none, some (.inl v4), none, none]) rfl ?_
        exact t_X9_grade_88 hrec42 hq
      · rw [if_neg hc] at hq
        refine sg_iconst (v := (1 : Int32)) 85 (sk_td o_X9_grade 53 rfl) rfl (by decide) ?_
        refine sg_goto 89 (sk_td o_X9_grade 54 rfl) (by decide) ?_
        refine sk_wk [true, true, true, false, true, true, true] (ls' := [some (.inr (.inr (some (44, 0)))), some (.inl v1), some (.inl (v2 + (d.1 50 0 (((4 : Int32) * v1) + v4).toNatClampNeg))), none, some (.inl v4), none, none]) rfl ?_
        exact t_X9_grade_89 hrec42 hq
def l_X9_grade_42 (fl : Nat) (a : (sk_D × Int32 × Int32 × Int32 × Int32)) : Option (Int32 × sk_D) := sk_it (fun rec42 a => q_X9_grade_42 rec42 a.1 a.2.1 a.2.2.1 a.2.2.2.1 a.2.2.2.2) fl a
theorem lt_X9_grade_42 {l : Launch} : ∀ (fl : Nat) (a : (sk_D × Int32 × Int32 × Int32 × Int32)) (res : Int32 × sk_D), l_X9_grade_42 fl a = some res → sk_G l (sk_rm 4 0 0) m_X9_grade sk_Ex0 (sk_Zm m_X9_grade (some (.inl res.1)) (sk_mm res.2)) 0 0 42 [some (.inr (.inr (some (44, 0)))), some (.inl a.2.1), some (.inl a.2.2.1), some (.inl a.2.2.2.1), some (.inl a.2.2.2.2), none, none] [] (sk_mm a.1) :=
  sk_it_ind (P := fun (a : (sk_D × Int32 × Int32 × Int32 × Int32)) (res : Int32 × sk_D) => sk_G l (sk_rm 4 0 0) m_X9_grade sk_Ex0 (sk_Zm m_X9_grade (some (.inl res.1)) (sk_mm res.2)) 0 0 42 [some (.inr (.inr (some (44, 0)))), some (.inl a.2.1), some (.inl a.2.2.1), some (.inl a.2.2.2.1), some (.inl a.2.2.2.2), none, none] [] (sk_mm a.1)) (fun rec42 hrec42 a res hq  => t_X9_grade_42 hrec42 hq )
def q_X9_grade_0 (d : sk_D) (v1 : Int32) : Option (Int32 × sk_D) :=
  (q_X9_hasPupil d v1).bind fun x1 => if x1 = 0 then some ((-1 : Int32), d) else (q_X9_scoreMany d v1).bind fun x2 => if x2 < (4 : Int32) then some ((-2 : Int32), d) else if sk_bi v1 20 = true then if (d.1 51 0 v1.toNatClampNeg) = (d.1 44 0 0) then some ((-2 : Int32), d) else (l_X9_grade_42 sk_fu (d, v1, (0 : Int32), (1 : Int32), (0 : Int32))) else none
set_option maxRecDepth 100000 in
set_option maxHeartbeats 4000000 in
theorem t_X9_grade_0 {l : Launch} {d : sk_D} {v1 : Int32} {res : Int32 × sk_D} (hq : q_X9_grade_0 d v1 = some res) :
    sk_G l (sk_rm 4 0 0) m_X9_grade sk_Ex0 (sk_Zm m_X9_grade (some (.inl res.1)) (sk_mm res.2)) 0 0 0 [some (.inr (.inr (some (44, 0)))), some (.inl v1), none, none, none, none, none] [] (sk_mm d) := by
  unfold q_X9_grade_0 at hq
  refine sg_aload_n 1 (sk_td o_X9_grade 0 rfl) rfl rfl ?_
  refine sg_iload_n 2 (sk_td o_X9_grade 1 rfl) rfl rfl ?_
  obtain ⟨x1, hr_x1, hq⟩ := sk_bnd hq
  refine sm_callV1i 5 (s_X9_hasPupil hr_x1) (sk_td o_X9_grade 2 rfl) rfl lv_X9_197 rfl rfl rfl sz_44 (sk_rok (Nat.le_of_ble_eq_true rfl) (Nat.le_of_ble_eq_true rfl) rfl rfl) (Nat.le_of_ble_eq_true rfl) ?_
  refine sg_if_ne 10 8 (sk_td o_X9_grade 3 rfl) (by decide) rfl (fun hc => ?_) (fun hc => ?_)
  · rw [if_neg hc] at hq
    refine sg_aload_n 11 (sk_td o_X9_grade 6 rfl) rfl rfl ?_
    refine sg_iload_n 12 (sk_td o_X9_grade 7 rfl) rfl rfl ?_
    obtain ⟨x2, hr_x2, hq⟩ := sk_bnd hq
    refine sm_callV1i 15 (s_X9_scoreMany hr_x2) (sk_td o_X9_grade 8 rfl) rfl lv_X9_206 rfl rfl rfl sz_44 (sk_rok (Nat.le_of_ble_eq_true rfl) (Nat.le_of_ble_eq_true rfl) rfl rfl) (Nat.le_of_ble_eq_true rfl) ?_
    refine sg_iconst (v := (4 : Int32)) 16 (sk_td o_X9_grade 9 rfl) rfl (by decide) ?_
    refine sg_ic_lt 32 19 (sk_td o_X9_grade 10 rfl) (by decide) rfl (fun hc => ?_) (fun hc => ?_)
    · rw [if_pos hc] at hq
      refine sg_bipush (v := (-2 : Int32)) 34 (sk_td o_X9_grade 18 rfl) rfl (by decide) ?_
      obtain rfl := Option.some.inj hq
      exact sg_iret (sk_td o_X9_grade 19 rfl) rfl rfl
    · rw [if_neg hc] at hq
      refine sg_aload_n 20 (sk_td o_X9_grade 11 rfl) rfl rfl ?_
      refine sm_getR (51, 0) 23 (sk_td o_X9_grade 12 rfl) rfl kf_X9_38 rfl rfl sz_44 rfl ?_
      refine sg_iload_n 24 (sk_td o_X9_grade 13 rfl) rfl rfl ?_
      obtain ⟨hb3, hq⟩ := sk_ifn hq
      refine sm_iald 25 (sk_td o_X9_grade 14 rfl) rfl rfl sz_51 hb3 ?_
      refine sg_aload_n 26 (sk_td o_X9_grade 15 rfl) rfl rfl ?_
      refine sm_getI 29 (sk_td o_X9_grade 16 rfl) rfl kf_X9_209 rfl rfl sz_44 ?_
      refine sg_ic_ne 35 32 (sk_td o_X9_grade 17 rfl) (by decide) rfl (fun hc => ?_) (fun hc => ?_)
      · rw [if_neg hc] at hq
        refine sg_iconst (v := (0 : Int32)) 36 (sk_td o_X9_grade 20 rfl) rfl (by decide) ?_
        refine sg_istore_n 37 [some (.inr (.inr (some (44, 0)))), some (.inl v1), some (.inl (0 : Int32)), none, none, none, none] (sk_td o_X9_grade 21 rfl) rfl rfl (Nat.le_of_ble_eq_true rfl) rfl ?_
        refine sg_iconst (v := (1 : Int32)) 38 (sk_td o_X9_grade 22 rfl) rfl (by decide) ?_
        refine sg_istore_n 39 [some (.inr (.inr (some (44, 0)))), some (.inl v1), some (.inl (0 : Int32)), some (.inl (1 : Int32)), none, none, none] (sk_td o_X9_grade 23 rfl) rfl rfl (Nat.le_of_ble_eq_true rfl) rfl ?_
        refine sg_iconst (v := (0 : Int32)) 40 (sk_td o_X9_grade 24 rfl) rfl (by decide) ?_
        refine sg_istore 42 [some (.inr (.inr (some (44, 0)))), some (.inl v1), some (.inl (0 : Int32)), some (.inl (1 : Int32)), some (.inl (0 : Int32)), none, none] (sk_td o_X9_grade 25 rfl) rfl rfl (Nat.le_of_ble_eq_true rfl) rfl ?_
        exact lt_X9_grade_42 sk_fu (d, v1, (0 : Int32), (1 : Int32), (0 : Int32)) _ hq
      · rw [if_pos hc] at hq
        refine sg_bipush (v := (-2 : Int32)) 34 (sk_td o_X9_grade 18 rfl) rfl (by decide) ?_
        obtain rfl := Option.some.inj hq
        exact sg_iret (sk_td o_X9_grade 19 rfl) rfl rfl
  · rw [if_pos hc] at hq
    refine sg_iconst (v := (-1 : Int32)) 9 (sk_td o_X9_grade 4 rfl) rfl (by decide) ?_
    obtain rfl := Option.some.inj hq
    exact sg_iret (sk_td o_X9_grade 5 rfl) rfl rfl
def q_X9_grade (d : sk_D) (v1 : Int32) : Option (Int32 × sk_D) := q_X9_grade_0 d v1 
theorem s_X9_grade {l : Launch} {d : sk_D} {v1 : Int32} {res : Int32 × sk_D} (hq : q_X9_grade d v1 = some res) : sk_M l 4 m_X9_grade [.inr (.inr (some (44, 0))), .inl v1] (sk_mm d) (some (.inl res.1)) (sk_mm res.2) :=
  sk_enter (by decide) (fun _ => Nat.le_of_ble_eq_true rfl) (Nat.le_of_ble_eq_true rfl) (t_X9_grade_0 hq )
def q_X9_nextDay_11 (d : sk_D) : Option (Int32 × sk_D) :=
  some ((d.1 44 0 0), d)
set_option maxRecDepth 100000 in
set_option maxHeartbeats 4000000 in
theorem t_X9_nextDay_11 {l : Launch} {d : sk_D} {res : Int32 × sk_D} (hq : q_X9_nextDay_11 d = some res) :
    sk_G l (sk_rm 1 0 0) m_X9_nextDay sk_Ex0 (sk_Zm m_X9_nextDay (some (.inl res.1)) (sk_mm res.2)) 0 0 11 [none] [.inr (.inr (some (44, 0)))] (sk_mm d) := by
  unfold q_X9_nextDay_11 at hq
  refine sm_getI 14 (sk_td o_X9_nextDay 7 rfl) rfl kf_X9_209 rfl rfl sz_44 ?_
  obtain rfl := Option.some.inj hq
  exact sg_iret (sk_td o_X9_nextDay 8 rfl) rfl rfl
def q_X9_nextDay_0 (d : sk_D) : Option (Int32 × sk_D) :=
  (q_X9_nextDay_11 (sk_wi d 44 0 0 ((d.1 44 0 0) + (1 : Int32))))
set_option maxRecDepth 100000 in
set_option maxHeartbeats 4000000 in
theorem t_X9_nextDay_0 {l : Launch} {d : sk_D} {res : Int32 × sk_D} (hq : q_X9_nextDay_0 d = some res) :
    sk_G l (sk_rm 1 0 0) m_X9_nextDay sk_Ex0 (sk_Zm m_X9_nextDay (some (.inl res.1)) (sk_mm res.2)) 0 0 0 [some (.inr (.inr (some (44, 0))))] [] (sk_mm d) := by
  unfold q_X9_nextDay_0 at hq
  refine sg_aload_n 1 (sk_td o_X9_nextDay 0 rfl) rfl rfl ?_
  refine sg_dupR 2 (sk_td o_X9_nextDay 1 rfl) rfl ?_
  refine sm_getI 5 (sk_td o_X9_nextDay 2 rfl) rfl kf_X9_209 rfl rfl sz_44 ?_
  refine sg_iconst (v := (1 : Int32)) 6 (sk_td o_X9_nextDay 3 rfl) rfl (by decide) ?_
  refine sg_iadd 7 (sk_td o_X9_nextDay 4 rfl) rfl ?_
  refine sm_putI 10 (sk_td o_X9_nextDay 5 rfl) rfl kp_X9_209 rfl rfl sz_44 ?_
  refine sg_aload_n 11 (sk_td o_X9_nextDay 6 rfl) rfl rfl ?_
  refine sk_wk [false] (ls' := [none]) rfl ?_
  exact t_X9_nextDay_11 hq
def q_X9_nextDay (d : sk_D) : Option (Int32 × sk_D) := q_X9_nextDay_0 d 
theorem s_X9_nextDay {l : Launch} {d : sk_D} {res : Int32 × sk_D} (hq : q_X9_nextDay d = some res) : sk_M l 1 m_X9_nextDay [.inr (.inr (some (44, 0)))] (sk_mm d) (some (.inl res.1)) (sk_mm res.2) :=
  sk_enter (by decide) (fun _ => Nat.le_of_ble_eq_true rfl) (Nat.le_of_ble_eq_true rfl) (t_X9_nextDay_0 hq )
def q_X9_hasGroup_0 (d : sk_D) (v1 : Int32) : Option (Int32) :=
  (q_X9_within d v1 (0 : Int32) (3 : Int32)).bind fun x1 => if x1 = 0 then some (0 : Int32) else if sk_bi v1 4 = true then if (d.1 53 0 v1.toNatClampNeg) = (1 : Int32) then some (1 : Int32) else some (0 : Int32) else none
set_option maxRecDepth 100000 in
set_option maxHeartbeats 4000000 in
theorem t_X9_hasGroup_0 {l : Launch} {d : sk_D} {v1 : Int32} {res : Int32} (hq : q_X9_hasGroup_0 d v1 = some res) :
    sk_G l (sk_rm 2 0 0) m_X9_hasGroup sk_Ex0 (sk_Zm m_X9_hasGroup (some (.inl res)) (sk_mm d)) 0 0 0 [some (.inr (.inr (some (44, 0)))), some (.inl v1)] [] (sk_mm d) := by
  unfold q_X9_hasGroup_0 at hq
  refine sg_iload_n 1 (sk_td o_X9_hasGroup 0 rfl) rfl rfl ?_
  refine sg_iconst (v := (0 : Int32)) 2 (sk_td o_X9_hasGroup 1 rfl) rfl (by decide) ?_
  refine sg_iconst (v := (3 : Int32)) 3 (sk_td o_X9_hasGroup 2 rfl) rfl (by decide) ?_
  obtain ⟨x1, hr_x1, hq⟩ := sk_bnd hq
  refine sm_callS3i 6 (s_X9_within hr_x1) (sk_td o_X9_hasGroup 3 rfl) rfl ls_X9_168 rfl (sk_rok (Nat.le_of_ble_eq_true rfl) (Nat.le_of_ble_eq_true rfl) rfl rfl) (Nat.le_of_ble_eq_true rfl) ?_
  refine sg_if_eq 23 9 (sk_td o_X9_hasGroup 4 rfl) (by decide) rfl (fun hc => ?_) (fun hc => ?_)
  · rw [if_pos hc] at hq
    refine sg_iconst (v := (0 : Int32)) 24 (sk_td o_X9_hasGroup 13 rfl) rfl (by decide) ?_
    obtain rfl := Option.some.inj hq
    exact sg_iret (sk_td o_X9_hasGroup 14 rfl) rfl (show narrow .boolean (.int (0 : Int32)) = .int (0 : Int32) by decide)
  · rw [if_neg hc] at hq
    refine sg_aload_n 10 (sk_td o_X9_hasGroup 5 rfl) rfl rfl ?_
    refine sm_getR (53, 0) 13 (sk_td o_X9_hasGroup 6 rfl) rfl kf_X9_44 rfl rfl sz_44 rfl ?_
    refine sg_iload_n 14 (sk_td o_X9_hasGroup 7 rfl) rfl rfl ?_
    obtain ⟨hb2, hq⟩ := sk_ifn hq
    refine sm_iald 15 (sk_td o_X9_hasGroup 8 rfl) rfl rfl sz_53 hb2 ?_
    refine sg_iconst (v := (1 : Int32)) 16 (sk_td o_X9_hasGroup 9 rfl) rfl (by decide) ?_
    refine sg_ic_ne 23 19 (sk_td o_X9_hasGroup 10 rfl) (by decide) rfl (fun hc => ?_) (fun hc => ?_)
    · rw [if_neg hc] at hq
      refine sg_iconst (v := (0 : Int32)) 24 (sk_td o_X9_hasGroup 13 rfl) rfl (by decide) ?_
      obtain rfl := Option.some.inj hq
      exact sg_iret (sk_td o_X9_hasGroup 14 rfl) rfl (show narrow .boolean (.int (0 : Int32)) = .int (0 : Int32) by decide)
    · rw [if_pos hc] at hq
      refine sg_iconst (v := (1 : Int32)) 20 (sk_td o_X9_hasGroup 11 rfl) rfl (by decide) ?_
      refine sg_goto 24 (sk_td o_X9_hasGroup 12 rfl) (by decide) ?_
      obtain rfl := Option.some.inj hq
      exact sg_iret (sk_td o_X9_hasGroup 14 rfl) rfl (show narrow .boolean (.int (1 : Int32)) = .int (1 : Int32) by decide)
def q_X9_hasGroup (d : sk_D) (v1 : Int32) : Option (Int32) := q_X9_hasGroup_0 d v1 
theorem s_X9_hasGroup {l : Launch} {d : sk_D} {v1 : Int32} {res : Int32} (hq : q_X9_hasGroup d v1 = some res) : sk_M l 2 m_X9_hasGroup [.inr (.inr (some (44, 0))), .inl v1] (sk_mm d) (some (.inl res)) (sk_mm d) :=
  sk_enter (by decide) (fun _ => Nat.le_of_ble_eq_true rfl) (Nat.le_of_ble_eq_true rfl) (t_X9_hasGroup_0 hq )
def q_X9_areOfGroup_0 (d : sk_D) (v0 : Int32) (v1 : Int32) (v2 : Int32) : Option (Int32) :=
  (q_X9_isLevel d v0).bind fun x1 => if x1 = 0 then some (0 : Int32) else (q_X9_within d v1 (0 : Int32) (5 : Int32)).bind fun x2 => if x2 = 0 then some (0 : Int32) else (q_X9_within d v2 (1 : Int32) (6 : Int32)).bind fun x3 => if x3 = 0 then some (0 : Int32) else some (1 : Int32)
set_option maxRecDepth 100000 in
set_option maxHeartbeats 4000000 in
theorem t_X9_areOfGroup_0 {l : Launch} {d : sk_D} {v0 : Int32} {v1 : Int32} {v2 : Int32} {res : Int32} (hq : q_X9_areOfGroup_0 d v0 v1 v2 = some res) :
    sk_G l (sk_rm 3 0 0) m_X9_areOfGroup sk_Ex0 (sk_Zm m_X9_areOfGroup (some (.inl res)) (sk_mm d)) 0 0 0 [some (.inl v0), some (.inl v1), some (.inl v2)] [] (sk_mm d) := by
  unfold q_X9_areOfGroup_0 at hq
  refine sg_iload_n 1 (sk_td o_X9_areOfGroup 0 rfl) rfl rfl ?_
  obtain ⟨x1, hr_x1, hq⟩ := sk_bnd hq
  refine sm_callS1i 4 (s_X9_isLevel hr_x1) (sk_td o_X9_areOfGroup 1 rfl) rfl ls_X9_180 rfl (sk_rok (Nat.le_of_ble_eq_true rfl) (Nat.le_of_ble_eq_true rfl) rfl rfl) (Nat.le_of_ble_eq_true rfl) ?_
  refine sg_if_eq 30 7 (sk_td o_X9_areOfGroup 2 rfl) (by decide) rfl (fun hc => ?_) (fun hc => ?_)
  · rw [if_pos hc] at hq
    refine sg_iconst (v := (0 : Int32)) 31 (sk_td o_X9_areOfGroup 15 rfl) rfl (by decide) ?_
    obtain rfl := Option.some.inj hq
    exact sg_iret (sk_td o_X9_areOfGroup 16 rfl) rfl (show narrow .boolean (.int (0 : Int32)) = .int (0 : Int32) by decide)
  · rw [if_neg hc] at hq
    refine sg_iload_n 8 (sk_td o_X9_areOfGroup 3 rfl) rfl rfl ?_
    refine sg_iconst (v := (0 : Int32)) 9 (sk_td o_X9_areOfGroup 4 rfl) rfl (by decide) ?_
    refine sg_iconst (v := (5 : Int32)) 10 (sk_td o_X9_areOfGroup 5 rfl) rfl (by decide) ?_
    obtain ⟨x2, hr_x2, hq⟩ := sk_bnd hq
    refine sm_callS3i 13 (s_X9_within hr_x2) (sk_td o_X9_areOfGroup 6 rfl) rfl ls_X9_168 rfl (sk_rok (Nat.le_of_ble_eq_true rfl) (Nat.le_of_ble_eq_true rfl) rfl rfl) (Nat.le_of_ble_eq_true rfl) ?_
    refine sg_if_eq 30 16 (sk_td o_X9_areOfGroup 7 rfl) (by decide) rfl (fun hc => ?_) (fun hc => ?_)
    · rw [if_pos hc] at hq
      refine sg_iconst (v := (0 : Int32)) 31 (sk_td o_X9_areOfGroup 15 rfl) rfl (by decide) ?_
      obtain rfl := Option.some.inj hq
      exact sg_iret (sk_td o_X9_areOfGroup 16 rfl) rfl (show narrow .boolean (.int (0 : Int32)) = .int (0 : Int32) by decide)
    · rw [if_neg hc] at hq
      refine sg_iload_n 17 (sk_td o_X9_areOfGroup 8 rfl) rfl rfl ?_
      refine sg_iconst (v := (1 : Int32)) 18 (sk_td o_X9_areOfGroup 9 rfl) rfl (by decide) ?_
      refine sg_bipush (v := (6 : Int32)) 20 (sk_td o_X9_areOfGroup 10 rfl) rfl (by decide) ?_
      obtain ⟨x3, hr_x3, hq⟩ := sk_bnd hq
      refine sm_callS3i 23 (s_X9_within hr_x3) (sk_td o_X9_areOfGroup 11 rfl) rfl ls_X9_168 rfl (sk_rok (Nat.le_of_ble_eq_true rfl) (Nat.le_of_ble_eq_true rfl) rfl rfl) (Nat.le_of_ble_eq_true rfl) ?_
      refine sg_if_eq 30 26 (sk_td o_X9_areOfGroup 12 rfl) (by decide) rfl (fun hc => ?_) (fun hc => ?_)
      · rw [if_pos hc] at hq
        refine sg_iconst (v := (0 : Int32)) 31 (sk_td o_X9_areOfGroup 15 rfl) rfl (by decide) ?_
        obtain rfl := Option.some.inj hq
        exact sg_iret (sk_td o_X9_areOfGroup 16 rfl) rfl (show narrow .boolean (.int (0 : Int32)) = .int (0 : Int32) by decide)
      · rw [if_neg hc] at hq
        refine sg_iconst (v := (1 : Int32)) 27 (sk_td o_X9_areOfGroup 13 rfl) rfl (by decide) ?_
        refine sg_goto 31 (sk_td o_X9_areOfGroup 14 rfl) (by decide) ?_
        obtain rfl := Option.some.inj hq
        exact sg_iret (sk_td o_X9_areOfGroup 16 rfl) rfl (show narrow .boolean (.int (1 : Int32)) = .int (1 : Int32) by decide)
def q_X9_areOfGroup (d : sk_D) (v0 : Int32) (v1 : Int32) (v2 : Int32) : Option (Int32) := q_X9_areOfGroup_0 d v0 v1 v2 
theorem s_X9_areOfGroup {l : Launch} {d : sk_D} {v0 : Int32} {v1 : Int32} {v2 : Int32} {res : Int32} (hq : q_X9_areOfGroup d v0 v1 v2 = some res) : sk_M l 3 m_X9_areOfGroup [.inl v0, .inl v1, .inl v2] (sk_mm d) (some (.inl res)) (sk_mm d) :=
  sk_enter (by decide) (fun _ => Nat.le_of_ble_eq_true rfl) (Nat.le_of_ble_eq_true rfl) (t_X9_areOfGroup_0 hq )
def q_X9_groupMany_0 (d : sk_D) : Option (Int32) :=
  if sk_bi (0 : Int32) 4 = true then if sk_bi (1 : Int32) 4 = true then if sk_bi (2 : Int32) 4 = true then if sk_bi (3 : Int32) 4 = true then some ((((d.1 53 0 (0 : Int32).toNatClampNeg) + (d.1 53 0 (1 : Int32).toNatClampNeg)) + (d.1 53 0 (2 : Int32).toNatClampNeg)) + (d.1 53 0 (3 : Int32).toNatClampNeg)) else none else none else none else none
set_option maxRecDepth 100000 in
set_option maxHeartbeats 4000000 in
theorem t_X9_groupMany_0 {l : Launch} {d : sk_D} {res : Int32} (hq : q_X9_groupMany_0 d = some res) :
    sk_G l (sk_rm 1 0 0) m_X9_groupMany sk_Ex0 (sk_Zm m_X9_groupMany (some (.inl res)) (sk_mm d)) 0 0 0 [some (.inr (.inr (some (44, 0))))] [] (sk_mm d) := by
  unfold q_X9_groupMany_0 at hq
  refine sg_aload_n 1 (sk_td o_X9_groupMany 0 rfl) rfl rfl ?_
  refine sm_getR (53, 0) 4 (sk_td o_X9_groupMany 1 rfl) rfl kf_X9_44 rfl rfl sz_44 rfl ?_
  refine sg_iconst (v := (0 : Int32)) 5 (sk_td o_X9_groupMany 2 rfl) rfl (by decide) ?_
  obtain ⟨hb1, hq⟩ := sk_ifn hq
  refine sm_iald 6 (sk_td o_X9_groupMany 3 rfl) rfl rfl sz_53 hb1 ?_
  refine sg_aload_n 7 (sk_td o_X9_groupMany 4 rfl) rfl rfl ?_
  refine sm_getR (53, 0) 10 (sk_td o_X9_groupMany 5 rfl) rfl kf_X9_44 rfl rfl sz_44 rfl ?_
  refine sg_iconst (v := (1 : Int32)) 11 (sk_td o_X9_groupMany 6 rfl) rfl (by decide) ?_
  obtain ⟨hb2, hq⟩ := sk_ifn hq
  refine sm_iald 12 (sk_td o_X9_groupMany 7 rfl) rfl rfl sz_53 hb2 ?_
  refine sg_iadd 13 (sk_td o_X9_groupMany 8 rfl) rfl ?_
  refine sg_aload_n 14 (sk_td o_X9_groupMany 9 rfl) rfl rfl ?_
  refine sm_getR (53, 0) 17 (sk_td o_X9_groupMany 10 rfl) rfl kf_X9_44 rfl rfl sz_44 rfl ?_
  refine sg_iconst (v := (2 : Int32)) 18 (sk_td o_X9_groupMany 11 rfl) rfl (by decide) ?_
  obtain ⟨hb3, hq⟩ := sk_ifn hq
  refine sm_iald 19 (sk_td o_X9_groupMany 12 rfl) rfl rfl sz_53 hb3 ?_
  refine sg_iadd 20 (sk_td o_X9_groupMany 13 rfl) rfl ?_
  refine sg_aload_n 21 (sk_td o_X9_groupMany 14 rfl) rfl rfl ?_
  refine sm_getR (53, 0) 24 (sk_td o_X9_groupMany 15 rfl) rfl kf_X9_44 rfl rfl sz_44 rfl ?_
  refine sg_iconst (v := (3 : Int32)) 25 (sk_td o_X9_groupMany 16 rfl) rfl (by decide) ?_
  obtain ⟨hb4, hq⟩ := sk_ifn hq
  refine sm_iald 26 (sk_td o_X9_groupMany 17 rfl) rfl rfl sz_53 hb4 ?_
  refine sg_iadd 27 (sk_td o_X9_groupMany 18 rfl) rfl ?_
  obtain rfl := Option.some.inj hq
  exact sg_iret (sk_td o_X9_groupMany 19 rfl) rfl rfl
def q_X9_groupMany (d : sk_D) : Option (Int32) := q_X9_groupMany_0 d 
theorem s_X9_groupMany {l : Launch} {d : sk_D} {res : Int32} (hq : q_X9_groupMany d = some res) : sk_M l 1 m_X9_groupMany [.inr (.inr (some (44, 0)))] (sk_mm d) (some (.inl res)) (sk_mm d) :=
  sk_enter (by decide) (fun _ => Nat.le_of_ble_eq_true rfl) (Nat.le_of_ble_eq_true rfl) (t_X9_groupMany_0 hq )
def q_X9_freeGroup_2 (rec2 : (Int32) → Option (Int32)) (d : sk_D) (v1 : Int32) : Option (Int32) :=
  if sk_bi v1 4 = true then if (d.1 53 0 v1.toNatClampNeg) = (1 : Int32) then (rec2 (v1 + (1 : Int32))) else some v1 else none
set_option maxRecDepth 100000 in
set_option maxHeartbeats 4000000 in
theorem t_X9_freeGroup_2 {l : Launch} {rec2 : (Int32) → Option (Int32)} {d : sk_D} {v1 : Int32} (hrec2 : ∀ (a : (Int32)) (res : Int32), rec2 a = some res → sk_G l (sk_rm 1 0 0) m_X9_freeGroup sk_Ex0 (sk_Zm m_X9_freeGroup (some (.inl res)) (sk_mm d)) 0 0 2 [some (.inr (.inr (some (44, 0)))), some (.inl a)] [] (sk_mm d)) {res : Int32} (hq : q_X9_freeGroup_2 rec2 d v1 = some res) :
    sk_G l (sk_rm 1 0 0) m_X9_freeGroup sk_Ex0 (sk_Zm m_X9_freeGroup (some (.inl res)) (sk_mm d)) 0 0 2 [some (.inr (.inr (some (44, 0)))), some (.inl v1)] [] (sk_mm d) := by
  unfold q_X9_freeGroup_2 at hq
  refine sg_aload_n 3 (sk_td o_X9_freeGroup 2 rfl) rfl rfl ?_
  refine sm_getR (53, 0) 6 (sk_td o_X9_freeGroup 3 rfl) rfl kf_X9_44 rfl rfl sz_44 rfl ?_
  refine sg_iload_n 7 (sk_td o_X9_freeGroup 4 rfl) rfl rfl ?_
  obtain ⟨hb1, hq⟩ := sk_ifn hq
  refine sm_iald 8 (sk_td o_X9_freeGroup 5 rfl) rfl rfl sz_53 hb1 ?_
  refine sg_iconst (v := (1 : Int32)) 9 (sk_td o_X9_freeGroup 6 rfl) rfl (by decide) ?_
  refine sg_ic_ne 18 12 (sk_td o_X9_freeGroup 7 rfl) (by decide) rfl (fun hc => ?_) (fun hc => ?_)
  · rw [if_neg hc] at hq
    refine sg_iload_n 19 (sk_td o_X9_freeGroup 10 rfl) rfl rfl ?_
    obtain rfl := Option.some.inj hq
    exact sg_iret (sk_td o_X9_freeGroup 11 rfl) rfl rfl
  · rw [if_pos hc] at hq
    refine sg_iinc (v1 + (1 : Int32)) 15 [some (.inr (.inr (some (44, 0)))), some (.inl (v1 + (1 : Int32)))] (sk_td o_X9_freeGroup 8 rfl) rfl rfl rfl rfl (Nat.le_of_ble_eq_true rfl) rfl ?_
    refine sg_goto 2 (sk_td o_X9_freeGroup 9 rfl) (by decide) ?_
    exact hrec2 (v1 + (1 : Int32)) _ hq
def l_X9_freeGroup_2 (d : sk_D) (fl : Nat) (a : (Int32)) : Option (Int32) := sk_it (fun rec2 a => q_X9_freeGroup_2 rec2 d a) fl a
theorem lt_X9_freeGroup_2 {l : Launch} {d : sk_D} : ∀ (fl : Nat) (a : (Int32)) (res : Int32), l_X9_freeGroup_2 d fl a = some res → sk_G l (sk_rm 1 0 0) m_X9_freeGroup sk_Ex0 (sk_Zm m_X9_freeGroup (some (.inl res)) (sk_mm d)) 0 0 2 [some (.inr (.inr (some (44, 0)))), some (.inl a)] [] (sk_mm d) :=
  sk_it_ind (P := fun (a : (Int32)) (res : Int32) => sk_G l (sk_rm 1 0 0) m_X9_freeGroup sk_Ex0 (sk_Zm m_X9_freeGroup (some (.inl res)) (sk_mm d)) 0 0 2 [some (.inr (.inr (some (44, 0)))), some (.inl a)] [] (sk_mm d)) (fun rec2 hrec2 a res hq  => t_X9_freeGroup_2 hrec2 hq )
def q_X9_freeGroup_0 (d : sk_D) : Option (Int32) :=
  (l_X9_freeGroup_2 d sk_fu (0 : Int32))
set_option maxRecDepth 100000 in
set_option maxHeartbeats 4000000 in
theorem t_X9_freeGroup_0 {l : Launch} {d : sk_D} {res : Int32} (hq : q_X9_freeGroup_0 d = some res) :
    sk_G l (sk_rm 1 0 0) m_X9_freeGroup sk_Ex0 (sk_Zm m_X9_freeGroup (some (.inl res)) (sk_mm d)) 0 0 0 [some (.inr (.inr (some (44, 0)))), none] [] (sk_mm d) := by
  unfold q_X9_freeGroup_0 at hq
  refine sg_iconst (v := (0 : Int32)) 1 (sk_td o_X9_freeGroup 0 rfl) rfl (by decide) ?_
  refine sg_istore_n 2 [some (.inr (.inr (some (44, 0)))), some (.inl (0 : Int32))] (sk_td o_X9_freeGroup 1 rfl) rfl rfl (Nat.le_of_ble_eq_true rfl) rfl ?_
  exact lt_X9_freeGroup_2 sk_fu (0 : Int32) _ hq
def q_X9_freeGroup (d : sk_D) : Option (Int32) := q_X9_freeGroup_0 d 
theorem s_X9_freeGroup {l : Launch} {d : sk_D} {res : Int32} (hq : q_X9_freeGroup d = some res) : sk_M l 1 m_X9_freeGroup [.inr (.inr (some (44, 0)))] (sk_mm d) (some (.inl res)) (sk_mm d) :=
  sk_enter (by decide) (fun _ => Nat.le_of_ble_eq_true rfl) (Nat.le_of_ble_eq_true rfl) (t_X9_freeGroup_0 hq )
def q_X9_openGroup_0 (d : sk_D) (v1 : Int32) (v2 : Int32) (v3 : Int32) : Option (Int32 × sk_D) :=
  (q_X9_areOfGroup d v1 v2 v3).bind fun x1 => if x1 = 0 then some ((-1 : Int32), d) else (q_X9_groupMany d).bind fun x2 => if x2 = (4 : Int32) then some ((-3 : Int32), d) else (q_X9_freeGroup d).bind fun x3 => if sk_bi x3 4 = true then if sk_bi x3 4 = true then if sk_bi x3 4 = true then if sk_bi x3 4 = true then if sk_bi x3 4 = true then if sk_bi x3 4 = true then if sk_bi x3 4 = true then some (x3, (sk_wi (sk_wi (sk_wi (sk_wi (sk_wi (sk_wi (sk_wi d 53 0 x3.toNatClampNeg (1 : Int32)) 54 0 x3.toNatClampNeg v1) 55 0 x3.toNatClampNeg v2) 56 0 x3.toNatClampNeg v3) 57 0 x3.toNatClampNeg (-9 : Int32)) 58 0 x3.toNatClampNeg (0 : Int32)) 59 0 x3.toNatClampNeg (0 : Int32))) else none else none else none else none else none else none else none
set_option maxRecDepth 100000 in
set_option maxHeartbeats 4000000 in
theorem t_X9_openGroup_0 {l : Launch} {d : sk_D} {v1 : Int32} {v2 : Int32} {v3 : Int32} {res : Int32 × sk_D} (hq : q_X9_openGroup_0 d v1 v2 v3 = some res) :
    sk_G l (sk_rm 4 0 0) m_X9_openGroup sk_Ex0 (sk_Zm m_X9_openGroup (some (.inl res.1)) (sk_mm res.2)) 0 0 0 [some (.inr (.inr (some (44, 0)))), some (.inl v1), some (.inl v2), some (.inl v3), none] [] (sk_mm d) := by
  unfold q_X9_openGroup_0 at hq
  refine sg_iload_n 1 (sk_td o_X9_openGroup 0 rfl) rfl rfl ?_
  refine sg_iload_n 2 (sk_td o_X9_openGroup 1 rfl) rfl rfl ?_
  refine sg_iload_n 3 (sk_td o_X9_openGroup 2 rfl) rfl rfl ?_
  obtain ⟨x1, hr_x1, hq⟩ := sk_bnd hq
  refine sm_callS3i 6 (s_X9_areOfGroup hr_x1) (sk_td o_X9_openGroup 3 rfl) rfl ls_X9_215 rfl (sk_rok (Nat.le_of_ble_eq_true rfl) (Nat.le_of_ble_eq_true rfl) rfl rfl) (Nat.le_of_ble_eq_true rfl) ?_
  refine sg_if_ne 11 9 (sk_td o_X9_openGroup 4 rfl) (by decide) rfl (fun hc => ?_) (fun hc => ?_)
  · rw [if_neg hc] at hq
    refine sg_aload_n 12 (sk_td o_X9_openGroup 7 rfl) rfl rfl ?_
    obtain ⟨x2, hr_x2, hq⟩ := sk_bnd hq
    refine sm_callV0i 15 (s_X9_groupMany hr_x2) (sk_td o_X9_openGroup 8 rfl) rfl lv_X9_218 rfl rfl rfl sz_44 (sk_rok (Nat.le_of_ble_eq_true rfl) (Nat.le_of_ble_eq_true rfl) rfl rfl) (Nat.le_of_ble_eq_true rfl) ?_
    refine sg_iconst (v := (4 : Int32)) 16 (sk_td o_X9_openGroup 9 rfl) rfl (by decide) ?_
    refine sg_ic_ne 22 19 (sk_td o_X9_openGroup 10 rfl) (by decide) rfl (fun hc => ?_) (fun hc => ?_)
    · rw [if_neg hc] at hq
      refine sg_aload_n 23 (sk_td o_X9_openGroup 13 rfl) rfl rfl ?_
      obtain ⟨x3, hr_x3, hq⟩ := sk_bnd hq
      refine sm_callV0i 26 (s_X9_freeGroup hr_x3) (sk_td o_X9_openGroup 14 rfl) rfl lv_X9_221 rfl rfl rfl sz_44 (sk_rok (Nat.le_of_ble_eq_true rfl) (Nat.le_of_ble_eq_true rfl) rfl rfl) (Nat.le_of_ble_eq_true rfl) ?_
      refine sg_istore 28 [some (.inr (.inr (some (44, 0)))), some (.inl v1), some (.inl v2), some (.inl v3), some (.inl x3)] (sk_td o_X9_openGroup 15 rfl) rfl rfl (Nat.le_of_ble_eq_true rfl) rfl ?_
      refine sg_aload_n 29 (sk_td o_X9_openGroup 16 rfl) rfl rfl ?_
      refine sm_getR (53, 0) 32 (sk_td o_X9_openGroup 17 rfl) rfl kf_X9_44 rfl rfl sz_44 rfl ?_
      refine sg_iload 34 (sk_td o_X9_openGroup 18 rfl) rfl rfl ?_
      refine sg_iconst (v := (1 : Int32)) 35 (sk_td o_X9_openGroup 19 rfl) rfl (by decide) ?_
      obtain ⟨hb4, hq⟩ := sk_ifn hq
      refine sm_iast 36 (sk_td o_X9_openGroup 20 rfl) rfl rfl sz_53 hb4 ?_
      refine sg_aload_n 37 (sk_td o_X9_openGroup 21 rfl) rfl rfl ?_
      refine sm_getR (54, 0) 40 (sk_td o_X9_openGroup 22 rfl) rfl kf_X9_47 rfl rfl sz_44 rfl ?_
      refine sg_iload 42 (sk_td o_X9_openGroup 23 rfl) rfl rfl ?_
      refine sg_iload_n 43 (sk_td o_X9_openGroup 24 rfl) rfl rfl ?_
      obtain ⟨hb5, hq⟩ := sk_ifn hq
      refine sm_iast 44 (sk_td o_X9_openGroup 25 rfl) rfl rfl sz_54 hb5 ?_
      refine sg_aload_n 45 (sk_td o_X9_openGroup 26 rfl) rfl rfl ?_
      refine sm_getR (55, 0) 48 (sk_td o_X9_openGroup 27 rfl) rfl kf_X9_50 rfl rfl sz_44 rfl ?_
      refine sg_iload 50 (sk_td o_X9_openGroup 28 rfl) rfl rfl ?_
      refine sg_iload_n 51 (sk_td o_X9_openGroup 29 rfl) rfl rfl ?_
      obtain ⟨hb6, hq⟩ := sk_ifn hq
      refine sm_iast 52 (sk_td o_X9_openGroup 30 rfl) rfl rfl sz_55 hb6 ?_
      refine sg_aload_n 53 (sk_td o_X9_openGroup 31 rfl) rfl rfl ?_
      refine sm_getR (56, 0) 56 (sk_td o_X9_openGroup 32 rfl) rfl kf_X9_53 rfl rfl sz_44 rfl ?_
      refine sg_iload 58 (sk_td o_X9_openGroup 33 rfl) rfl rfl ?_
      refine sg_iload_n 59 (sk_td o_X9_openGroup 34 rfl) rfl rfl ?_
      obtain ⟨hb7, hq⟩ := sk_ifn hq
      refine sm_iast 60 (sk_td o_X9_openGroup 35 rfl) rfl rfl sz_56 hb7 ?_
      refine sg_aload_n 61 (sk_td o_X9_openGroup 36 rfl) rfl rfl ?_
      refine sm_getR (57, 0) 64 (sk_td o_X9_openGroup 37 rfl) rfl kf_X9_56 rfl rfl sz_44 rfl ?_
      refine sg_iload 66 (sk_td o_X9_openGroup 38 rfl) rfl rfl ?_
      refine sg_bipush (v := (-9 : Int32)) 68 (sk_td o_X9_openGroup 39 rfl) rfl (by decide) ?_
      obtain ⟨hb8, hq⟩ := sk_ifn hq
      refine sm_iast 69 (sk_td o_X9_openGroup 40 rfl) rfl rfl sz_57 hb8 ?_
      refine sg_aload_n 70 (sk_td o_X9_openGroup 41 rfl) rfl rfl ?_
      refine sm_getR (58, 0) 73 (sk_td o_X9_openGroup 42 rfl) rfl kf_X9_59 rfl rfl sz_44 rfl ?_
      refine sg_iload 75 (sk_td o_X9_openGroup 43 rfl) rfl rfl ?_
      refine sg_iconst (v := (0 : Int32)) 76 (sk_td o_X9_openGroup 44 rfl) rfl (by decide) ?_
      obtain ⟨hb9, hq⟩ := sk_ifn hq
      refine sm_iast 77 (sk_td o_X9_openGroup 45 rfl) rfl rfl sz_58 hb9 ?_
      refine sg_aload_n 78 (sk_td o_X9_openGroup 46 rfl) rfl rfl ?_
      refine sm_getR (59, 0) 81 (sk_td o_X9_openGroup 47 rfl) rfl kf_X9_62 rfl rfl sz_44 rfl ?_
      refine sg_iload 83 (sk_td o_X9_openGroup 48 rfl) rfl rfl ?_
      refine sg_iconst (v := (0 : Int32)) 84 (sk_td o_X9_openGroup 49 rfl) rfl (by decide) ?_
      obtain ⟨hb10, hq⟩ := sk_ifn hq
      refine sm_iast 85 (sk_td o_X9_openGroup 50 rfl) rfl rfl sz_59 hb10 ?_
      refine sg_iload 87 (sk_td o_X9_openGroup 51 rfl) rfl rfl ?_
      obtain rfl := Option.some.inj hq
      exact sg_iret (sk_td o_X9_openGroup 52 rfl) rfl rfl
    · rw [if_pos hc] at hq
      refine sg_bipush (v := (-3 : Int32)) 21 (sk_td o_X9_openGroup 11 rfl) rfl (by decide) ?_
      obtain rfl := Option.some.inj hq
      exact sg_iret (sk_td o_X9_openGroup 12 rfl) rfl rfl
  · rw [if_pos hc] at hq
    refine sg_iconst (v := (-1 : Int32)) 10 (sk_td o_X9_openGroup 5 rfl) rfl (by decide) ?_
    obtain rfl := Option.some.inj hq
    exact sg_iret (sk_td o_X9_openGroup 6 rfl) rfl rfl
def q_X9_openGroup (d : sk_D) (v1 : Int32) (v2 : Int32) (v3 : Int32) : Option (Int32 × sk_D) := q_X9_openGroup_0 d v1 v2 v3 
theorem s_X9_openGroup {l : Launch} {d : sk_D} {v1 : Int32} {v2 : Int32} {v3 : Int32} {res : Int32 × sk_D} (hq : q_X9_openGroup d v1 v2 v3 = some res) : sk_M l 4 m_X9_openGroup [.inr (.inr (some (44, 0))), .inl v1, .inl v2, .inl v3] (sk_mm d) (some (.inl res.1)) (sk_mm res.2) :=
  sk_enter (by decide) (fun _ => Nat.le_of_ble_eq_true rfl) (Nat.le_of_ble_eq_true rfl) (t_X9_openGroup_0 hq )
def q_X9_sizeOf_36 (rec4 : (Int32 × Int32 × Int32) → Option (Int32)) (d : sk_D) (v1 : Int32) (v3 : Int32) (s0 : Int32) (s1 : Int32) : Option (Int32) :=
  (rec4 (v1, (s0 + s1), (v3 + (1 : Int32))))
set_option maxRecDepth 100000 in
set_option maxHeartbeats 4000000 in
theorem t_X9_sizeOf_36 {l : Launch} {rec4 : (Int32 × Int32 × Int32) → Option (Int32)} {d : sk_D} {v1 : Int32} {v3 : Int32} {s0 : Int32} {s1 : Int32} (hrec4 : ∀ (a : (Int32 × Int32 × Int32)) (res : Int32), rec4 a = some res → sk_G l (sk_rm 1 0 0) m_X9_sizeOf sk_Ex0 (sk_Zm m_X9_sizeOf (some (.inl res)) (sk_mm d)) 0 0 4 [some (.inr (.inr (some (44, 0)))), some (.inl a.1), some (.inl a.2.1), some (.inl a.2.2)] [] (sk_mm d)) {res : Int32} (hq : q_X9_sizeOf_36 rec4 d v1 v3 s0 s1 = some res) :
    sk_G l (sk_rm 1 0 0) m_X9_sizeOf sk_Ex0 (sk_Zm m_X9_sizeOf (some (.inl res)) (sk_mm d)) 0 0 36 [some (.inr (.inr (some (44, 0)))), some (.inl v1), none, some (.inl v3)] [.inl s1, .inl s0] (sk_mm d) := by
  unfold q_X9_sizeOf_36 at hq
  refine sg_iadd 37 (sk_td o_X9_sizeOf 23 rfl) rfl ?_
  refine sg_istore_n 38 [some (.inr (.inr (some (44, 0)))), some (.inl v1), some (.inl (s0 + s1)), some (.inl v3)] (sk_td o_X9_sizeOf 24 rfl) rfl rfl (Nat.le_of_ble_eq_true rfl) rfl ?_
  refine sg_iinc (v3 + (1 : Int32)) 41 [some (.inr (.inr (some (44, 0)))), some (.inl v1), some (.inl (s0 + s1)), some (.inl (v3 + (1 : Int32)))] (sk_td o_X9_sizeOf 25 rfl) rfl rfl rfl rfl (Nat.le_of_ble_eq_true rfl) rfl ?_
  refine sg_goto 4 (sk_td o_X9_sizeOf 26 rfl) (by decide) ?_
  exact hrec4 (v1, (s0 + s1), (v3 + (1 : Int32))) _ hq
def q_X9_sizeOf_35 (rec4 : (Int32 × Int32 × Int32) → Option (Int32)) (d : sk_D) (v1 : Int32) (v3 : Int32) (s0 : Int32) : Option (Int32) :=
  (q_X9_sizeOf_36 rec4 d v1 v3 s0 (0 : Int32))
set_option maxRecDepth 100000 in
set_option maxHeartbeats 4000000 in
theorem t_X9_sizeOf_35 {l : Launch} {rec4 : (Int32 × Int32 × Int32) → Option (Int32)} {d : sk_D} {v1 : Int32} {v3 : Int32} {s0 : Int32} (hrec4 : ∀ (a : (Int32 × Int32 × Int32)) (res : Int32), rec4 a = some res → sk_G l (sk_rm 1 0 0) m_X9_sizeOf sk_Ex0 (sk_Zm m_X9_sizeOf (some (.inl res)) (sk_mm d)) 0 0 4 [some (.inr (.inr (some (44, 0)))), some (.inl a.1), some (.inl a.2.1), some (.inl a.2.2)] [] (sk_mm d)) {res : Int32} (hq : q_X9_sizeOf_35 rec4 d v1 v3 s0 = some res) :
    sk_G l (sk_rm 1 0 0) m_X9_sizeOf sk_Ex0 (sk_Zm m_X9_sizeOf (some (.inl res)) (sk_mm d)) 0 0 35 [some (.inr (.inr (some (44, 0)))), some (.inl v1), none, some (.inl v3)] [.inl s0] (sk_mm d) := by
  unfold q_X9_sizeOf_35 at hq
  refine sg_iconst (v := (0 : Int32)) 36 (sk_td o_X9_sizeOf 22 rfl) rfl (by decide) ?_
  exact t_X9_sizeOf_36 hrec4 hq
def q_X9_sizeOf_4 (rec4 : (Int32 × Int32 × Int32) → Option (Int32)) (d : sk_D) (v1 : Int32) (v2 : Int32) (v3 : Int32) : Option (Int32) :=
  if (20 : Int32) ≤ v3 then some v2 else if sk_bi v3 20 = true then if (d.1 45 0 v3.toNatClampNeg) = (1 : Int32) then if sk_bi v3 20 = true then if (d.1 49 0 v3.toNatClampNeg) = v1 then (q_X9_sizeOf_36 rec4 d v1 v3 v2 (1 : Int32)) else (q_X9_sizeOf_35 rec4 d v1 v3 v2) else none else (q_X9_sizeOf_35 rec4 d v1 v3 v2) else none
set_option maxRecDepth 100000 in
set_option maxHeartbeats 4000000 in
theorem t_X9_sizeOf_4 {l : Launch} {rec4 : (Int32 × Int32 × Int32) → Option (Int32)} {d : sk_D} {v1 : Int32} {v2 : Int32} {v3 : Int32} (hrec4 : ∀ (a : (Int32 × Int32 × Int32)) (res : Int32), rec4 a = some res → sk_G l (sk_rm 1 0 0) m_X9_sizeOf sk_Ex0 (sk_Zm m_X9_sizeOf (some (.inl res)) (sk_mm d)) 0 0 4 [some (.inr (.inr (some (44, 0)))), some (.inl a.1), some (.inl a.2.1), some (.inl a.2.2)] [] (sk_mm d)) {res : Int32} (hq : q_X9_sizeOf_4 rec4 d v1 v2 v3 = some res) :
    sk_G l (sk_rm 1 0 0) m_X9_sizeOf sk_Ex0 (sk_Zm m_X9_sizeOf (some (.inl res)) (sk_mm d)) 0 0 4 [some (.inr (.inr (some (44, 0)))), some (.inl v1), some (.inl v2), some (.inl v3)] [] (sk_mm d) := by
  unfold q_X9_sizeOf_4 at hq
  refine sg_iload_n 5 (sk_td o_X9_sizeOf 4 rfl) rfl rfl ?_
  refine sg_bipush (v := (20 : Int32)) 7 (sk_td o_X9_sizeOf 5 rfl) rfl (by decide) ?_
  refine sg_ic_ge 44 10 (sk_td o_X9_sizeOf 6 rfl) (by decide) rfl (fun hc => ?_) (fun hc => ?_)
  · rw [if_pos hc] at hq
    refine sg_iload_n 45 (sk_td o_X9_sizeOf 27 rfl) rfl rfl ?_
    obtain rfl := Option.some.inj hq
    exact sg_iret (sk_td o_X9_sizeOf 28 rfl) rfl rfl
  · rw [if_neg hc] at hq
    refine sg_iload_n 11 (sk_td o_X9_sizeOf 7 rfl) rfl rfl ?_
    refine sg_aload_n 12 (sk_td o_X9_sizeOf 8 rfl) rfl rfl ?_
    refine sm_getR (45, 0) 15 (sk_td o_X9_sizeOf 9 rfl) rfl kf_X9_19 rfl rfl sz_44 rfl ?_
    refine sg_iload_n 16 (sk_td o_X9_sizeOf 10 rfl) rfl rfl ?_
    obtain ⟨hb1, hq⟩ := sk_ifn hq
    refine sm_iald 17 (sk_td o_X9_sizeOf 11 rfl) rfl rfl sz_45 hb1 ?_
    refine sg_iconst (v := (1 : Int32)) 18 (sk_td o_X9_sizeOf 12 rfl) rfl (by decide) ?_
    refine sg_ic_ne 35 21 (sk_td o_X9_sizeOf 13 rfl) (by decide) rfl (fun hc => ?_) (fun hc => ?_)
    · rw [if_neg hc] at hq
      refine sk_wk [true, true, false, true] (ls' := [some (.inr (.inr (some (44, 0)))), some (.inl v1), none, some (.inl v3)]) rfl ?_
      exact t_X9_sizeOf_35 hrec4 hq
    · rw [if_pos hc] at hq
      refine sg_aload_n 22 (sk_td o_X9_sizeOf 14 rfl) rfl rfl ?_
      refine sm_getR (49, 0) 25 (sk_td o_X9_sizeOf 15 rfl) rfl kf_X9_32 rfl rfl sz_44 rfl ?_
      refine sg_iload_n 26 (sk_td o_X9_sizeOf 16 rfl) rfl rfl ?_
      obtain ⟨hb2, hq⟩ := sk_ifn hq
      refine sm_iald 27 (sk_td o_X9_sizeOf 17 rfl) rfl rfl sz_49 hb2 ?_
      refine sg_iload_n 28 (sk_td o_X9_sizeOf 18 rfl) rfl rfl ?_
      refine sg_ic_ne 35 31 (sk_td o_X9_sizeOf 19 rfl) (by decide) rfl (fun hc => ?_) (fun hc => ?_)
      · rw [if_neg hc] at hq
        refine sk_wk [true, true, false, true] (ls' := [some (.inr (.inr (some (44, 0)))), some (.inl v1), none, some (.inl v3)]) rfl ?_
        exact t_X9_sizeOf_35 hrec4 hq
      · rw [if_pos hc] at hq
        refine sg_iconst (v := (1 : Int32)) 32 (sk_td o_X9_sizeOf 20 rfl) rfl (by decide) ?_
        refine sg_goto 36 (sk_td o_X9_sizeOf 21 rfl) (by decide) ?_
        refine sk_wk [true, true, false, true] (ls' := [some (.inr (.inr (some (44, 0)))), some (.inl v1), none, some (.inl v3)]) rfl ?_
        exact t_X9_sizeOf_36 hrec4 hq
def l_X9_sizeOf_4 (d : sk_D) (fl : Nat) (a : (Int32 × Int32 × Int32)) : Option (Int32) := sk_it (fun rec4 a => q_X9_sizeOf_4 rec4 d a.1 a.2.1 a.2.2) fl a
theorem lt_X9_sizeOf_4 {l : Launch} {d : sk_D} : ∀ (fl : Nat) (a : (Int32 × Int32 × Int32)) (res : Int32), l_X9_sizeOf_4 d fl a = some res → sk_G l (sk_rm 1 0 0) m_X9_sizeOf sk_Ex0 (sk_Zm m_X9_sizeOf (some (.inl res)) (sk_mm d)) 0 0 4 [some (.inr (.inr (some (44, 0)))), some (.inl a.1), some (.inl a.2.1), some (.inl a.2.2)] [] (sk_mm d) :=
  sk_it_ind (P := fun (a : (Int32 × Int32 × Int32)) (res : Int32) => sk_G l (sk_rm 1 0 0) m_X9_sizeOf sk_Ex0 (sk_Zm m_X9_sizeOf (some (.inl res)) (sk_mm d)) 0 0 4 [some (.inr (.inr (some (44, 0)))), some (.inl a.1), some (.inl a.2.1), some (.inl a.2.2)] [] (sk_mm d)) (fun rec4 hrec4 a res hq  => t_X9_sizeOf_4 hrec4 hq )
def q_X9_sizeOf_0 (d : sk_D) (v1 : Int32) : Option (Int32) :=
  (l_X9_sizeOf_4 d sk_fu (v1, (0 : Int32), (0 : Int32)))
set_option maxRecDepth 100000 in
set_option maxHeartbeats 4000000 in
theorem t_X9_sizeOf_0 {l : Launch} {d : sk_D} {v1 : Int32} {res : Int32} (hq : q_X9_sizeOf_0 d v1 = some res) :
    sk_G l (sk_rm 1 0 0) m_X9_sizeOf sk_Ex0 (sk_Zm m_X9_sizeOf (some (.inl res)) (sk_mm d)) 0 0 0 [some (.inr (.inr (some (44, 0)))), some (.inl v1), none, none] [] (sk_mm d) := by
  unfold q_X9_sizeOf_0 at hq
  refine sg_iconst (v := (0 : Int32)) 1 (sk_td o_X9_sizeOf 0 rfl) rfl (by decide) ?_
  refine sg_istore_n 2 [some (.inr (.inr (some (44, 0)))), some (.inl v1), some (.inl (0 : Int32)), none] (sk_td o_X9_sizeOf 1 rfl) rfl rfl (Nat.le_of_ble_eq_true rfl) rfl ?_
  refine sg_iconst (v := (0 : Int32)) 3 (sk_td o_X9_sizeOf 2 rfl) rfl (by decide) ?_
  refine sg_istore_n 4 [some (.inr (.inr (some (44, 0)))), some (.inl v1), some (.inl (0 : Int32)), some (.inl (0 : Int32))] (sk_td o_X9_sizeOf 3 rfl) rfl rfl (Nat.le_of_ble_eq_true rfl) rfl ?_
  exact lt_X9_sizeOf_4 sk_fu (v1, (0 : Int32), (0 : Int32)) _ hq
def q_X9_sizeOf (d : sk_D) (v1 : Int32) : Option (Int32) := q_X9_sizeOf_0 d v1 
theorem s_X9_sizeOf {l : Launch} {d : sk_D} {v1 : Int32} {res : Int32} (hq : q_X9_sizeOf d v1 = some res) : sk_M l 1 m_X9_sizeOf [.inr (.inr (some (44, 0))), .inl v1] (sk_mm d) (some (.inl res)) (sk_mm d) :=
  sk_enter (by decide) (fun _ => Nat.le_of_ble_eq_true rfl) (Nat.le_of_ble_eq_true rfl) (t_X9_sizeOf_0 hq )
def q_X9_isActive_0 (d : sk_D) (v1 : Int32) : Option (Int32) :=
  if sk_bi v1 4 = true then if (d.1 53 0 v1.toNatClampNeg) = (1 : Int32) then (q_X9_sizeOf d v1).bind fun x2 => if x2 ≤ 0 then some (0 : Int32) else some (1 : Int32) else some (0 : Int32) else none
set_option maxRecDepth 100000 in
set_option maxHeartbeats 4000000 in
theorem t_X9_isActive_0 {l : Launch} {d : sk_D} {v1 : Int32} {res : Int32} (hq : q_X9_isActive_0 d v1 = some res) :
    sk_G l (sk_rm 2 0 0) m_X9_isActive sk_Ex0 (sk_Zm m_X9_isActive (some (.inl res)) (sk_mm d)) 0 0 0 [some (.inr (.inr (some (44, 0)))), some (.inl v1)] [] (sk_mm d) := by
  unfold q_X9_isActive_0 at hq
  refine sg_aload_n 1 (sk_td o_X9_isActive 0 rfl) rfl rfl ?_
  refine sm_getR (53, 0) 4 (sk_td o_X9_isActive 1 rfl) rfl kf_X9_44 rfl rfl sz_44 rfl ?_
  refine sg_iload_n 5 (sk_td o_X9_isActive 2 rfl) rfl rfl ?_
  obtain ⟨hb1, hq⟩ := sk_ifn hq
  refine sm_iald 6 (sk_td o_X9_isActive 3 rfl) rfl rfl sz_53 hb1 ?_
  refine sg_iconst (v := (1 : Int32)) 7 (sk_td o_X9_isActive 4 rfl) rfl (by decide) ?_
  refine sg_ic_ne 22 10 (sk_td o_X9_isActive 5 rfl) (by decide) rfl (fun hc => ?_) (fun hc => ?_)
  · rw [if_neg hc] at hq
    refine sg_iconst (v := (0 : Int32)) 23 (sk_td o_X9_isActive 12 rfl) rfl (by decide) ?_
    obtain rfl := Option.some.inj hq
    exact sg_iret (sk_td o_X9_isActive 13 rfl) rfl (show narrow .boolean (.int (0 : Int32)) = .int (0 : Int32) by decide)
  · rw [if_pos hc] at hq
    refine sg_aload_n 11 (sk_td o_X9_isActive 6 rfl) rfl rfl ?_
    refine sg_iload_n 12 (sk_td o_X9_isActive 7 rfl) rfl rfl ?_
    obtain ⟨x2, hr_x2, hq⟩ := sk_bnd hq
    refine sm_callV1i 15 (s_X9_sizeOf hr_x2) (sk_td o_X9_isActive 8 rfl) rfl lv_X9_224 rfl rfl rfl sz_44 (sk_rok (Nat.le_of_ble_eq_true rfl) (Nat.le_of_ble_eq_true rfl) rfl rfl) (Nat.le_of_ble_eq_true rfl) ?_
    refine sg_if_le 22 18 (sk_td o_X9_isActive 9 rfl) (by decide) rfl (fun hc => ?_) (fun hc => ?_)
    · rw [if_pos hc] at hq
      refine sg_iconst (v := (0 : Int32)) 23 (sk_td o_X9_isActive 12 rfl) rfl (by decide) ?_
      obtain rfl := Option.some.inj hq
      exact sg_iret (sk_td o_X9_isActive 13 rfl) rfl (show narrow .boolean (.int (0 : Int32)) = .int (0 : Int32) by decide)
    · rw [if_neg hc] at hq
      refine sg_iconst (v := (1 : Int32)) 19 (sk_td o_X9_isActive 10 rfl) rfl (by decide) ?_
      refine sg_goto 23 (sk_td o_X9_isActive 11 rfl) (by decide) ?_
      obtain rfl := Option.some.inj hq
      exact sg_iret (sk_td o_X9_isActive 13 rfl) rfl (show narrow .boolean (.int (1 : Int32)) = .int (1 : Int32) by decide)
def q_X9_isActive (d : sk_D) (v1 : Int32) : Option (Int32) := q_X9_isActive_0 d v1 
theorem s_X9_isActive {l : Launch} {d : sk_D} {v1 : Int32} {res : Int32} (hq : q_X9_isActive d v1 = some res) : sk_M l 2 m_X9_isActive [.inr (.inr (some (44, 0))), .inl v1] (sk_mm d) (some (.inl res)) (sk_mm d) :=
  sk_enter (by decide) (fun _ => Nat.le_of_ble_eq_true rfl) (Nat.le_of_ble_eq_true rfl) (t_X9_isActive_0 hq )
def q_X9_closeGroup_50 (rec18 : (sk_D × Int32 × Int32 × Int32) → Option (Int32 × sk_D)) (d : sk_D) (v1 : Int32) (v2 : Int32) (v3 : Int32) (s1 : Int32) (s2 : Int32) : Option (Int32 × sk_D) :=
  if sk_bi s1 20 = true then (rec18 ((sk_wi d 49 0 s1.toNatClampNeg s2), v1, v2, (v3 + (1 : Int32)))) else none
set_option maxRecDepth 100000 in
set_option maxHeartbeats 4000000 in
theorem t_X9_closeGroup_50 {l : Launch} {rec18 : (sk_D × Int32 × Int32 × Int32) → Option (Int32 × sk_D)} {d : sk_D} {v1 : Int32} {v2 : Int32} {v3 : Int32} {s1 : Int32} {s2 : Int32} (hrec18 : ∀ (a : (sk_D × Int32 × Int32 × Int32)) (res : Int32 × sk_D), rec18 a = some res → sk_G l (sk_rm 3 0 0) m_X9_closeGroup sk_Ex0 (sk_Zm m_X9_closeGroup (some (.inl res.1)) (sk_mm res.2)) 0 0 18 [some (.inr (.inr (some (44, 0)))), some (.inl a.2.1), some (.inl a.2.2.1), some (.inl a.2.2.2)] [] (sk_mm a.1)) {res : Int32 × sk_D} (hq : q_X9_closeGroup_50 rec18 d v1 v2 v3 s1 s2 = some res) :
    sk_G l (sk_rm 3 0 0) m_X9_closeGroup sk_Ex0 (sk_Zm m_X9_closeGroup (some (.inl res.1)) (sk_mm res.2)) 0 0 50 [some (.inr (.inr (some (44, 0)))), some (.inl v1), some (.inl v2), some (.inl v3)] [.inl s2, .inl s1, .inr (.inr (some (49, 0)))] (sk_mm d) := by
  unfold q_X9_closeGroup_50 at hq
  obtain ⟨hb1, hq⟩ := sk_ifn hq
  refine sm_iast 51 (sk_td o_X9_closeGroup 30 rfl) rfl rfl sz_49 hb1 ?_
  refine sg_iinc (v3 + (1 : Int32)) 54 [some (.inr (.inr (some (44, 0)))), some (.inl v1), some (.inl v2), some (.inl (v3 + (1 : Int32)))] (sk_td o_X9_closeGroup 31 rfl) rfl rfl rfl rfl (Nat.le_of_ble_eq_true rfl) rfl ?_
  refine sg_goto 18 (sk_td o_X9_closeGroup 32 rfl) (by decide) ?_
  exact hrec18 ((sk_wi d 49 0 s1.toNatClampNeg s2), v1, v2, (v3 + (1 : Int32))) _ hq
def q_X9_closeGroup_18 (rec18 : (sk_D × Int32 × Int32 × Int32) → Option (Int32 × sk_D)) (d : sk_D) (v1 : Int32) (v2 : Int32) (v3 : Int32) : Option (Int32 × sk_D) :=
  if (20 : Int32) ≤ v3 then if sk_bi v1 4 = true then if sk_bi v1 4 = true then if sk_bi v1 4 = true then some (v2, (sk_wi (sk_wi (sk_wi d 53 0 v1.toNatClampNeg (0 : Int32)) 71 0 v1.toNatClampNeg (0 : Int32)) 72 0 v1.toNatClampNeg (0 : Int32))) else none else none else none else if sk_bi v3 20 = true then if (d.1 49 0 v3.toNatClampNeg) = v1 then (q_X9_closeGroup_50 rec18 d v1 v2 v3 v3 (-9 : Int32)) else if sk_bi v3 20 = true then (q_X9_closeGroup_50 rec18 d v1 v2 v3 v3 (d.1 49 0 v3.toNatClampNeg)) else none else none
set_option maxRecDepth 100000 in
set_option maxHeartbeats 4000000 in
theorem t_X9_closeGroup_18 {l : Launch} {rec18 : (sk_D × Int32 × Int32 × Int32) → Option (Int32 × sk_D)} {d : sk_D} {v1 : Int32} {v2 : Int32} {v3 : Int32} (hrec18 : ∀ (a : (sk_D × Int32 × Int32 × Int32)) (res : Int32 × sk_D), rec18 a = some res → sk_G l (sk_rm 3 0 0) m_X9_closeGroup sk_Ex0 (sk_Zm m_X9_closeGroup (some (.inl res.1)) (sk_mm res.2)) 0 0 18 [some (.inr (.inr (some (44, 0)))), some (.inl a.2.1), some (.inl a.2.2.1), some (.inl a.2.2.2)] [] (sk_mm a.1)) {res : Int32 × sk_D} (hq : q_X9_closeGroup_18 rec18 d v1 v2 v3 = some res) :
    sk_G l (sk_rm 3 0 0) m_X9_closeGroup sk_Ex0 (sk_Zm m_X9_closeGroup (some (.inl res.1)) (sk_mm res.2)) 0 0 18 [some (.inr (.inr (some (44, 0)))), some (.inl v1), some (.inl v2), some (.inl v3)] [] (sk_mm d) := by
  unfold q_X9_closeGroup_18 at hq
  refine sg_iload_n 19 (sk_td o_X9_closeGroup 12 rfl) rfl rfl ?_
  refine sg_bipush (v := (20 : Int32)) 21 (sk_td o_X9_closeGroup 13 rfl) rfl (by decide) ?_
  refine sg_ic_ge 57 24 (sk_td o_X9_closeGroup 14 rfl) (by decide) rfl (fun hc => ?_) (fun hc => ?_)
  · rw [if_pos hc] at hq
    refine sg_aload_n 58 (sk_td o_X9_closeGroup 33 rfl) rfl rfl ?_
    refine sm_getR (53, 0) 61 (sk_td o_X9_closeGroup 34 rfl) rfl kf_X9_44 rfl rfl sz_44 rfl ?_
    refine sg_iload_n 62 (sk_td o_X9_closeGroup 35 rfl) rfl rfl ?_
    refine sg_iconst (v := (0 : Int32)) 63 (sk_td o_X9_closeGroup 36 rfl) rfl (by decide) ?_
    obtain ⟨hb1, hq⟩ := sk_ifn hq
    refine sm_iast 64 (sk_td o_X9_closeGroup 37 rfl) rfl rfl sz_53 hb1 ?_
    refine sg_aload_n 65 (sk_td o_X9_closeGroup 38 rfl) rfl rfl ?_
    refine sm_getR (71, 0) 68 (sk_td o_X9_closeGroup 39 rfl) rfl kf_X9_98 rfl rfl sz_44 rfl ?_
    refine sg_iload_n 69 (sk_td o_X9_closeGroup 40 rfl) rfl rfl ?_
    refine sg_iconst (v := (0 : Int32)) 70 (sk_td o_X9_closeGroup 41 rfl) rfl (by decide) ?_
    obtain ⟨hb2, hq⟩ := sk_ifn hq
    refine sm_iast 71 (sk_td o_X9_closeGroup 42 rfl) rfl rfl sz_71 hb2 ?_
    refine sg_aload_n 72 (sk_td o_X9_closeGroup 43 rfl) rfl rfl ?_
    refine sm_getR (72, 0) 75 (sk_td o_X9_closeGroup 44 rfl) rfl kf_X9_101 rfl rfl sz_44 rfl ?_
    refine sg_iload_n 76 (sk_td o_X9_closeGroup 45 rfl) rfl rfl ?_
    refine sg_iconst (v := (0 : Int32)) 77 (sk_td o_X9_closeGroup 46 rfl) rfl (by decide) ?_
    obtain ⟨hb3, hq⟩ := sk_ifn hq
    refine sm_iast 78 (sk_td o_X9_closeGroup 47 rfl) rfl rfl sz_72 hb3 ?_
    refine sg_iload_n 79 (sk_td o_X9_closeGroup 48 rfl) rfl rfl ?_
    obtain rfl := Option.some.inj hq
    exact sg_iret (sk_td o_X9_closeGroup 49 rfl) rfl rfl
  · rw [if_neg hc] at hq
    refine sg_aload_n 25 (sk_td o_X9_closeGroup 15 rfl) rfl rfl ?_
    refine sm_getR (49, 0) 28 (sk_td o_X9_closeGroup 16 rfl) rfl kf_X9_32 rfl rfl sz_44 rfl ?_
    refine sg_iload_n 29 (sk_td o_X9_closeGroup 17 rfl) rfl rfl ?_
    refine sg_aload_n 30 (sk_td o_X9_closeGroup 18 rfl) rfl rfl ?_
    refine sm_getR (49, 0) 33 (sk_td o_X9_closeGroup 19 rfl) rfl kf_X9_32 rfl rfl sz_44 rfl ?_
    refine sg_iload_n 34 (sk_td o_X9_closeGroup 20 rfl) rfl rfl ?_
    obtain ⟨hb4, hq⟩ := sk_ifn hq
    refine sm_iald 35 (sk_td o_X9_closeGroup 21 rfl) rfl rfl sz_49 hb4 ?_
    refine sg_iload_n 36 (sk_td o_X9_closeGroup 22 rfl) rfl rfl ?_
    refine sg_ic_ne 44 39 (sk_td o_X9_closeGroup 23 rfl) (by decide) rfl (fun hc => ?_) (fun hc => ?_)
    · rw [if_neg hc] at hq
      refine sg_aload_n 45 (sk_td o_X9_closeGroup 26 rfl) rfl rfl ?_
      refine sm_getR (49, 0) 48 (sk_td o_X9_closeGroup 27 rfl) rfl kf_X9_32 rfl rfl sz_44 rfl ?_
      refine sg_iload_n 49 (sk_td o_X9_closeGroup 28 rfl) rfl rfl ?_
      obtain ⟨hb5, hq⟩ := sk_ifn hq
      refine sm_iald 50 (sk_td o_X9_closeGroup 29 rfl) rfl rfl sz_49 hb5 ?_
      exact t_X9_closeGroup_50 hrec18 hq
    · rw [if_pos hc] at hq
      refine sg_bipush (v := (-9 : Int32)) 41 (sk_td o_X9_closeGroup 24 rfl) rfl (by decide) ?_
      refine sg_goto 50 (sk_td o_X9_closeGroup 25 rfl) (by decide) ?_
      exact t_X9_closeGroup_50 hrec18 hq
def l_X9_closeGroup_18 (fl : Nat) (a : (sk_D × Int32 × Int32 × Int32)) : Option (Int32 × sk_D) := sk_it (fun rec18 a => q_X9_closeGroup_18 rec18 a.1 a.2.1 a.2.2.1 a.2.2.2) fl a
theorem lt_X9_closeGroup_18 {l : Launch} : ∀ (fl : Nat) (a : (sk_D × Int32 × Int32 × Int32)) (res : Int32 × sk_D), l_X9_closeGroup_18 fl a = some res → sk_G l (sk_rm 3 0 0) m_X9_closeGroup sk_Ex0 (sk_Zm m_X9_closeGroup (some (.inl res.1)) (sk_mm res.2)) 0 0 18 [some (.inr (.inr (some (44, 0)))), some (.inl a.2.1), some (.inl a.2.2.1), some (.inl a.2.2.2)] [] (sk_mm a.1) :=
  sk_it_ind (P := fun (a : (sk_D × Int32 × Int32 × Int32)) (res : Int32 × sk_D) => sk_G l (sk_rm 3 0 0) m_X9_closeGroup sk_Ex0 (sk_Zm m_X9_closeGroup (some (.inl res.1)) (sk_mm res.2)) 0 0 18 [some (.inr (.inr (some (44, 0)))), some (.inl a.2.1), some (.inl a.2.2.1), some (.inl a.2.2.2)] [] (sk_mm a.1)) (fun rec18 hrec18 a res hq  => t_X9_closeGroup_18 hrec18 hq )
def q_X9_closeGroup_0 (d : sk_D) (v1 : Int32) : Option (Int32 × sk_D) :=
  (q_X9_hasGroup d v1).bind fun x1 => if x1 = 0 then some ((-1 : Int32), d) else (q_X9_sizeOf d v1).bind fun x2 => (l_X9_closeGroup_18 sk_fu (d, v1, x2, (0 : Int32)))
set_option maxRecDepth 100000 in
set_option maxHeartbeats 4000000 in
theorem t_X9_closeGroup_0 {l : Launch} {d : sk_D} {v1 : Int32} {res : Int32 × sk_D} (hq : q_X9_closeGroup_0 d v1 = some res) :
    sk_G l (sk_rm 3 0 0) m_X9_closeGroup sk_Ex0 (sk_Zm m_X9_closeGroup (some (.inl res.1)) (sk_mm res.2)) 0 0 0 [some (.inr (.inr (some (44, 0)))), some (.inl v1), none, none] [] (sk_mm d) := by
  unfold q_X9_closeGroup_0 at hq
  refine sg_aload_n 1 (sk_td o_X9_closeGroup 0 rfl) rfl rfl ?_
  refine sg_iload_n 2 (sk_td o_X9_closeGroup 1 rfl) rfl rfl ?_
  obtain ⟨x1, hr_x1, hq⟩ := sk_bnd hq
  refine sm_callV1i 5 (s_X9_hasGroup hr_x1) (sk_td o_X9_closeGroup 2 rfl) rfl lv_X9_227 rfl rfl rfl sz_44 (sk_rok (Nat.le_of_ble_eq_true rfl) (Nat.le_of_ble_eq_true rfl) rfl rfl) (Nat.le_of_ble_eq_true rfl) ?_
  refine sg_if_ne 10 8 (sk_td o_X9_closeGroup 3 rfl) (by decide) rfl (fun hc => ?_) (fun hc => ?_)
  · rw [if_neg hc] at hq
    refine sg_aload_n 11 (sk_td o_X9_closeGroup 6 rfl) rfl rfl ?_
    refine sg_iload_n 12 (sk_td o_X9_closeGroup 7 rfl) rfl rfl ?_
    obtain ⟨x2, hr_x2, hq⟩ := sk_bnd hq
    refine sm_callV1i 15 (s_X9_sizeOf hr_x2) (sk_td o_X9_closeGroup 8 rfl) rfl lv_X9_224 rfl rfl rfl sz_44 (sk_rok (Nat.le_of_ble_eq_true rfl) (Nat.le_of_ble_eq_true rfl) rfl rfl) (Nat.le_of_ble_eq_true rfl) ?_
    refine sg_istore_n 16 [some (.inr (.inr (some (44, 0)))), some (.inl v1), some (.inl x2), none] (sk_td o_X9_closeGroup 9 rfl) rfl rfl (Nat.le_of_ble_eq_true rfl) rfl ?_
    refine sg_iconst (v := (0 : Int32)) 17 (sk_td o_X9_closeGroup 10 rfl) rfl (by decide) ?_
    refine sg_istore_n 18 [some (.inr (.inr (some (44, 0)))), some (.inl v1), some (.inl x2), some (.inl (0 : Int32))] (sk_td o_X9_closeGroup 11 rfl) rfl rfl (Nat.le_of_ble_eq_true rfl) rfl ?_
    exact lt_X9_closeGroup_18 sk_fu (d, v1, x2, (0 : Int32)) _ hq
  · rw [if_pos hc] at hq
    refine sg_iconst (v := (-1 : Int32)) 9 (sk_td o_X9_closeGroup 4 rfl) rfl (by decide) ?_
    obtain rfl := Option.some.inj hq
    exact sg_iret (sk_td o_X9_closeGroup 5 rfl) rfl rfl
def q_X9_closeGroup (d : sk_D) (v1 : Int32) : Option (Int32 × sk_D) := q_X9_closeGroup_0 d v1 
theorem s_X9_closeGroup {l : Launch} {d : sk_D} {v1 : Int32} {res : Int32 × sk_D} (hq : q_X9_closeGroup d v1 = some res) : sk_M l 3 m_X9_closeGroup [.inr (.inr (some (44, 0))), .inl v1] (sk_mm d) (some (.inl res.1)) (sk_mm res.2) :=
  sk_enter (by decide) (fun _ => Nat.le_of_ble_eq_true rfl) (Nat.le_of_ble_eq_true rfl) (t_X9_closeGroup_0 hq )
def q_X9_groups_0 (d : sk_D) : Option (Int32) :=
  (q_X9_groupMany d).bind fun x1 => some x1
set_option maxRecDepth 100000 in
set_option maxHeartbeats 4000000 in
theorem t_X9_groups_0 {l : Launch} {d : sk_D} {res : Int32} (hq : q_X9_groups_0 d = some res) :
    sk_G l (sk_rm 2 0 0) m_X9_groups sk_Ex0 (sk_Zm m_X9_groups (some (.inl res)) (sk_mm d)) 0 0 0 [some (.inr (.inr (some (44, 0))))] [] (sk_mm d) := by
  unfold q_X9_groups_0 at hq
  refine sg_aload_n 1 (sk_td o_X9_groups 0 rfl) rfl rfl ?_
  obtain ⟨x1, hr_x1, hq⟩ := sk_bnd hq
  refine sm_callV0i 4 (s_X9_groupMany hr_x1) (sk_td o_X9_groups 1 rfl) rfl lv_X9_218 rfl rfl rfl sz_44 (sk_rok (Nat.le_of_ble_eq_true rfl) (Nat.le_of_ble_eq_true rfl) rfl rfl) (Nat.le_of_ble_eq_true rfl) ?_
  obtain rfl := Option.some.inj hq
  exact sg_iret (sk_td o_X9_groups 2 rfl) rfl rfl
def q_X9_groups (d : sk_D) : Option (Int32) := q_X9_groups_0 d 
theorem s_X9_groups {l : Launch} {d : sk_D} {res : Int32} (hq : q_X9_groups d = some res) : sk_M l 2 m_X9_groups [.inr (.inr (some (44, 0)))] (sk_mm d) (some (.inl res)) (sk_mm d) :=
  sk_enter (by decide) (fun _ => Nat.le_of_ble_eq_true rfl) (Nat.le_of_ble_eq_true rfl) (t_X9_groups_0 hq )
def q_X9_groupLevel_0 (d : sk_D) (v1 : Int32) : Option (Int32) :=
  (q_X9_hasGroup d v1).bind fun x1 => if x1 = 0 then some (-1 : Int32) else if sk_bi v1 4 = true then some (d.1 54 0 v1.toNatClampNeg) else none
set_option maxRecDepth 100000 in
set_option maxHeartbeats 4000000 in
theorem t_X9_groupLevel_0 {l : Launch} {d : sk_D} {v1 : Int32} {res : Int32} (hq : q_X9_groupLevel_0 d v1 = some res) :
    sk_G l (sk_rm 3 0 0) m_X9_groupLevel sk_Ex0 (sk_Zm m_X9_groupLevel (some (.inl res)) (sk_mm d)) 0 0 0 [some (.inr (.inr (some (44, 0)))), some (.inl v1)] [] (sk_mm d) := by
  unfold q_X9_groupLevel_0 at hq
  refine sg_aload_n 1 (sk_td o_X9_groupLevel 0 rfl) rfl rfl ?_
  refine sg_iload_n 2 (sk_td o_X9_groupLevel 1 rfl) rfl rfl ?_
  obtain ⟨x1, hr_x1, hq⟩ := sk_bnd hq
  refine sm_callV1i 5 (s_X9_hasGroup hr_x1) (sk_td o_X9_groupLevel 2 rfl) rfl lv_X9_227 rfl rfl rfl sz_44 (sk_rok (Nat.le_of_ble_eq_true rfl) (Nat.le_of_ble_eq_true rfl) rfl rfl) (Nat.le_of_ble_eq_true rfl) ?_
  refine sg_if_eq 17 8 (sk_td o_X9_groupLevel 3 rfl) (by decide) rfl (fun hc => ?_) (fun hc => ?_)
  · rw [if_pos hc] at hq
    refine sg_iconst (v := (-1 : Int32)) 18 (sk_td o_X9_groupLevel 9 rfl) rfl (by decide) ?_
    obtain rfl := Option.some.inj hq
    exact sg_iret (sk_td o_X9_groupLevel 10 rfl) rfl rfl
  · rw [if_neg hc] at hq
    refine sg_aload_n 9 (sk_td o_X9_groupLevel 4 rfl) rfl rfl ?_
    refine sm_getR (54, 0) 12 (sk_td o_X9_groupLevel 5 rfl) rfl kf_X9_47 rfl rfl sz_44 rfl ?_
    refine sg_iload_n 13 (sk_td o_X9_groupLevel 6 rfl) rfl rfl ?_
    obtain ⟨hb2, hq⟩ := sk_ifn hq
    refine sm_iald 14 (sk_td o_X9_groupLevel 7 rfl) rfl rfl sz_54 hb2 ?_
    refine sg_goto 18 (sk_td o_X9_groupLevel 8 rfl) (by decide) ?_
    obtain rfl := Option.some.inj hq
    exact sg_iret (sk_td o_X9_groupLevel 10 rfl) rfl rfl
def q_X9_groupLevel (d : sk_D) (v1 : Int32) : Option (Int32) := q_X9_groupLevel_0 d v1 
theorem s_X9_groupLevel {l : Launch} {d : sk_D} {v1 : Int32} {res : Int32} (hq : q_X9_groupLevel d v1 = some res) : sk_M l 3 m_X9_groupLevel [.inr (.inr (some (44, 0))), .inl v1] (sk_mm d) (some (.inl res)) (sk_mm d) :=
  sk_enter (by decide) (fun _ => Nat.le_of_ble_eq_true rfl) (Nat.le_of_ble_eq_true rfl) (t_X9_groupLevel_0 hq )
