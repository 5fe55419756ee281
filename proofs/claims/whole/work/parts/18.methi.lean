/-! decompiled: X9_depart X9_goThrough X9_isTime X9_simulate X9_waited X9_rides X9_longestQueue X9_carried X9_bestStart X9_type X9_clearText X9_next X9_takes X9_readsDigit X9_readsSet X9_readsWage X9_readsPupil X9_readsGroup X9_readsInstructor -/
def q_X9_depart_98 (rec7 : (sk_D × Int32 × Int32 × Int32) → Option (sk_D)) (d : sk_D) (v1 : Int32) (v2 : Int32) (v3 : Int32) : Option (sk_D) :=
  (rec7 (d, v1, v2, v3))
set_option maxRecDepth 100000 in
set_option maxHeartbeats 4000000 in
theorem t_X9_depart_98 {l : Launch} {rec7 : (sk_D × Int32 × Int32 × Int32) → Option (sk_D)} {d : sk_D} {v1 : Int32} {v2 : Int32} {v3 : Int32} (hrec7 : ∀ (a : (sk_D × Int32 × Int32 × Int32)) (res : sk_D), rec7 a = some res → sk_G l (sk_rm 2 0 0) m_X9_depart sk_Ex0 (sk_Zm m_X9_depart none (sk_mm res)) 0 0 7 [some (.inr (.inr (some (44, 0)))), some (.inl a.2.1), some (.inl a.2.2.1), some (.inl a.2.2.2), none, none] [] (sk_mm a.1)) {res : sk_D} (hq : q_X9_depart_98 rec7 d v1 v2 v3 = some res) :
    sk_G l (sk_rm 2 0 0) m_X9_depart sk_Ex0 (sk_Zm m_X9_depart none (sk_mm res)) 0 0 98 [some (.inr (.inr (some (44, 0)))), some (.inl v1), some (.inl v2), some (.inl v3), none, none] [] (sk_mm d) := by
  unfold q_X9_depart_98 at hq
  refine sg_goto 7 (sk_td o_X9_depart 61 rfl) (by decide) ?_
  exact hrec7 (d, v1, v2, v3) _ hq
def q_X9_depart_88 (rec7 : (sk_D × Int32 × Int32 × Int32) → Option (sk_D)) (d : sk_D) (v1 : Int32) (v2 : Int32) (v3 : Int32) (s1 : Int32) : Option (sk_D) :=
  if sk_bi s1 4 = true then if (d.1 85 0 s1.toNatClampNeg) = 0 then (q_X9_leave d v1 v2).bind fun x2 => (q_X9_depart_98 rec7 x2 v1 v2 v3) else (q_X9_depart_98 rec7 d v1 v2 v3) else none
set_option maxRecDepth 100000 in
set_option maxHeartbeats 4000000 in
theorem t_X9_depart_88 {l : Launch} {rec7 : (sk_D × Int32 × Int32 × Int32) → Option (sk_D)} {d : sk_D} {v1 : Int32} {v2 : Int32} {v3 : Int32} {s1 : Int32} (hrec7 : ∀ (a : (sk_D × Int32 × Int32 × Int32)) (res : sk_D), rec7 a = some res → sk_G l (sk_rm 2 0 0) m_X9_depart sk_Ex0 (sk_Zm m_X9_depart none (sk_mm res)) 0 0 7 [some (.inr (.inr (some (44, 0)))), some (.inl a.2.1), some (.inl a.2.2.1), some (.inl a.2.2.2), none, none] [] (sk_mm a.1)) {res : sk_D} (hq : q_X9_depart_88 rec7 d v1 v2 v3 s1 = some res) :
    sk_G l (sk_rm 2 0 0) m_X9_depart sk_Ex0 (sk_Zm m_X9_depart none (sk_mm res)) 0 0 88 [some (.inr (.inr (some (44, 0)))), some (.inl v1), some (.inl v2), some (.inl v3), none, none] [.inl s1, .inr (.inr (some (85, 0)))] (sk_mm d) := by
  unfold q_X9_depart_88 at hq
  obtain ⟨hb1, hq⟩ := sk_ifn hq
  refine sm_iald 89 (sk_td o_X9_depart 55 rfl) rfl rfl sz_85 hb1 ?_
  refine sg_if_ne 98 92 (sk_td o_X9_depart 56 rfl) (by decide) rfl (fun hc => ?_) (fun hc => ?_)
  · rw [if_neg hc] at hq
    exact t_X9_depart_98 hrec7 hq
  · rw [if_pos hc] at hq
    refine sg_aload_n 93 (sk_td o_X9_depart 57 rfl) rfl rfl ?_
    refine sg_iload_n 94 (sk_td o_X9_depart 58 rfl) rfl rfl ?_
    refine sg_iload_n 95 (sk_td o_X9_depart 59 rfl) rfl rfl ?_
    obtain ⟨x2, hr_x2, hq⟩ := sk_bnd hq
    refine sm_callV2v 98 (s_X9_leave hr_x2) (sk_td o_X9_depart 60 rfl) rfl lv_X9_293 rfl rfl rfl sz_44 (sk_rok (Nat.le_of_ble_eq_true rfl) (Nat.le_of_ble_eq_true rfl) rfl rfl) (Nat.le_of_ble_eq_true rfl) ?_
    exact t_X9_depart_98 hrec7 hq
def q_X9_depart_77 (rec7 : (sk_D × Int32 × Int32 × Int32) → Option (sk_D)) (d : sk_D) (v1 : Int32) (v2 : Int32) (v3 : Int32) (v4 : Int32) (v5 : Int32) (s1 : Int32) (s3 : Int32) : Option (sk_D) :=
  if sk_bi s3 3 = true then if sk_bi s1 3 = true then (q_X9_depart_88 rec7 (sk_wi d 93 0 s1.toNatClampNeg ((d.1 93 0 s3.toNatClampNeg) + v5)) v1 v2 v3 v4) else none else none
set_option maxRecDepth 100000 in
set_option maxHeartbeats 4000000 in
theorem t_X9_depart_77 {l : Launch} {rec7 : (sk_D × Int32 × Int32 × Int32) → Option (sk_D)} {d : sk_D} {v1 : Int32} {v2 : Int32} {v3 : Int32} {v4 : Int32} {v5 : Int32} {s1 : Int32} {s3 : Int32} (hrec7 : ∀ (a : (sk_D × Int32 × Int32 × Int32)) (res : sk_D), rec7 a = some res → sk_G l (sk_rm 2 0 0) m_X9_depart sk_Ex0 (sk_Zm m_X9_depart none (sk_mm res)) 0 0 7 [some (.inr (.inr (some (44, 0)))), some (.inl a.2.1), some (.inl a.2.2.1), some (.inl a.2.2.2), none, none] [] (sk_mm a.1)) {res : sk_D} (hq : q_X9_depart_77 rec7 d v1 v2 v3 v4 v5 s1 s3 = some res) :
    sk_G l (sk_rm 2 0 0) m_X9_depart sk_Ex0 (sk_Zm m_X9_depart none (sk_mm res)) 0 0 77 [some (.inr (.inr (some (44, 0)))), some (.inl v1), some (.inl v2), some (.inl v3), some (.inl v4), some (.inl v5)] [.inl s3, .inr (.inr (some (93, 0))), .inl s1, .inr (.inr (some (93, 0)))] (sk_mm d) := by
  unfold q_X9_depart_77 at hq
  obtain ⟨hb1, hq⟩ := sk_ifn hq
  refine sm_iald 78 (sk_td o_X9_depart 48 rfl) rfl rfl sz_93 hb1 ?_
  refine sg_iload 80 (sk_td o_X9_depart 49 rfl) rfl rfl ?_
  refine sg_iadd 81 (sk_td o_X9_depart 50 rfl) rfl ?_
  obtain ⟨hb2, hq⟩ := sk_ifn hq
  refine sm_iast 82 (sk_td o_X9_depart 51 rfl) rfl rfl sz_93 hb2 ?_
  refine sg_aload_n 83 (sk_td o_X9_depart 52 rfl) rfl rfl ?_
  refine sm_getR (85, 0) 86 (sk_td o_X9_depart 53 rfl) rfl kf_X9_141 rfl rfl sz_44 rfl ?_
  refine sg_iload 88 (sk_td o_X9_depart 54 rfl) rfl rfl ?_
  refine sk_wk [true, true, true, true, false, false] (ls' := [some (.inr (.inr (some (44, 0)))), some (.inl v1), some (.inl v2), some (.inl v3), none, none]) rfl ?_
  exact t_X9_depart_88 hrec7 hq
def q_X9_depart_52 (rec7 : (sk_D × Int32 × Int32 × Int32) → Option (sk_D)) (d : sk_D) (v1 : Int32) (v2 : Int32) (v3 : Int32) (v4 : Int32) (s0 : Int32) : Option (sk_D) :=
  if sk_bi v4 4 = true then if sk_bi v4 4 = true then (q_X9_depart_77 rec7 (sk_wi d 85 0 v4.toNatClampNeg ((d.1 85 0 v4.toNatClampNeg) - s0)) v1 v2 (v3 - s0) v4 s0 v1 v1) else none else none
set_option maxRecDepth 100000 in
set_option maxHeartbeats 4000000 in
theorem t_X9_depart_52 {l : Launch} {rec7 : (sk_D × Int32 × Int32 × Int32) → Option (sk_D)} {d : sk_D} {v1 : Int32} {v2 : Int32} {v3 : Int32} {v4 : Int32} {s0 : Int32} (hrec7 : ∀ (a : (sk_D × Int32 × Int32 × Int32)) (res : sk_D), rec7 a = some res → sk_G l (sk_rm 2 0 0) m_X9_depart sk_Ex0 (sk_Zm m_X9_depart none (sk_mm res)) 0 0 7 [some (.inr (.inr (some (44, 0)))), some (.inl a.2.1), some (.inl a.2.2.1), some (.inl a.2.2.2), none, none] [] (sk_mm a.1)) {res : sk_D} (hq : q_X9_depart_52 rec7 d v1 v2 v3 v4 s0 = some res) :
    sk_G l (sk_rm 2 0 0) m_X9_depart sk_Ex0 (sk_Zm m_X9_depart none (sk_mm res)) 0 0 52 [some (.inr (.inr (some (44, 0)))), some (.inl v1), some (.inl v2), some (.inl v3), some (.inl v4), none] [.inl s0] (sk_mm d) := by
  unfold q_X9_depart_52 at hq
  refine sg_istore 54 [some (.inr (.inr (some (44, 0)))), some (.inl v1), some (.inl v2), some (.inl v3), some (.inl v4), some (.inl s0)] (sk_td o_X9_depart 31 rfl) rfl rfl (Nat.le_of_ble_eq_true rfl) rfl ?_
  refine sg_aload_n 55 (sk_td o_X9_depart 32 rfl) rfl rfl ?_
  refine sm_getR (85, 0) 58 (sk_td o_X9_depart 33 rfl) rfl kf_X9_141 rfl rfl sz_44 rfl ?_
  refine sg_iload 60 (sk_td o_X9_depart 34 rfl) rfl rfl ?_
  refine sg_dup2 61 (sk_td o_X9_depart 35 rfl) rfl ?_
  obtain ⟨hb1, hq⟩ := sk_ifn hq
  refine sm_iald 62 (sk_td o_X9_depart 36 rfl) rfl rfl sz_85 hb1 ?_
  refine sg_iload 64 (sk_td o_X9_depart 37 rfl) rfl rfl ?_
  refine sg_isub 65 (sk_td o_X9_depart 38 rfl) rfl ?_
  obtain ⟨hb2, hq⟩ := sk_ifn hq
  refine sm_iast 66 (sk_td o_X9_depart 39 rfl) rfl rfl sz_85 hb2 ?_
  refine sg_iload_n 67 (sk_td o_X9_depart 40 rfl) rfl rfl ?_
  refine sg_iload 69 (sk_td o_X9_depart 41 rfl) rfl rfl ?_
  refine sg_isub 70 (sk_td o_X9_depart 42 rfl) rfl ?_
  refine sg_istore_n 71 [some (.inr (.inr (some (44, 0)))), some (.inl v1), some (.inl v2), some (.inl (v3 - s0)), some (.inl v4), some (.inl s0)] (sk_td o_X9_depart 43 rfl) rfl rfl (Nat.le_of_ble_eq_true rfl) rfl ?_
  refine sg_aload_n 72 (sk_td o_X9_depart 44 rfl) rfl rfl ?_
  refine sm_getR (93, 0) 75 (sk_td o_X9_depart 45 rfl) rfl kf_X9_165 rfl rfl sz_44 rfl ?_
  refine sg_iload_n 76 (sk_td o_X9_depart 46 rfl) rfl rfl ?_
  refine sg_dup2 77 (sk_td o_X9_depart 47 rfl) rfl ?_
  exact t_X9_depart_77 hrec7 hq
def q_X9_depart_7 (rec7 : (sk_D × Int32 × Int32 × Int32) → Option (sk_D)) (d : sk_D) (v1 : Int32) (v2 : Int32) (v3 : Int32) : Option (sk_D) :=
  if v3 ≤ 0 then some d else if sk_bi v1 3 = true then if (d.1 89 0 v1.toNatClampNeg) ≤ 0 then some d else if sk_bi ((4 : Int32) * v1) 12 = true then if sk_bi (d.1 88 0 ((4 : Int32) * v1).toNatClampNeg) 4 = true then if v3 ≤ (d.1 85 0 (d.1 88 0 ((4 : Int32) * v1).toNatClampNeg).toNatClampNeg) then (q_X9_depart_52 rec7 d v1 v2 v3 (d.1 88 0 ((4 : Int32) * v1).toNatClampNeg) v3) else if sk_bi (d.1 88 0 ((4 : Int32) * v1).toNatClampNeg) 4 = true then (q_X9_depart_52 rec7 d v1 v2 v3 (d.1 88 0 ((4 : Int32) * v1).toNatClampNeg) (d.1 85 0 (d.1 88 0 ((4 : Int32) * v1).toNatClampNeg).toNatClampNeg)) else none else none else none else none
set_option maxRecDepth 100000 in
set_option maxHeartbeats 4000000 in
theorem t_X9_depart_7 {l : Launch} {rec7 : (sk_D × Int32 × Int32 × Int32) → Option (sk_D)} {d : sk_D} {v1 : Int32} {v2 : Int32} {v3 : Int32} (hrec7 : ∀ (a : (sk_D × Int32 × Int32 × Int32)) (res : sk_D), rec7 a = some res → sk_G l (sk_rm 2 0 0) m_X9_depart sk_Ex0 (sk_Zm m_X9_depart none (sk_mm res)) 0 0 7 [some (.inr (.inr (some (44, 0)))), some (.inl a.2.1), some (.inl a.2.2.1), some (.inl a.2.2.2), none, none] [] (sk_mm a.1)) {res : sk_D} (hq : q_X9_depart_7 rec7 d v1 v2 v3 = some res) :
    sk_G l (sk_rm 2 0 0) m_X9_depart sk_Ex0 (sk_Zm m_X9_depart none (sk_mm res)) 0 0 7 [some (.inr (.inr (some (44, 0)))), some (.inl v1), some (.inl v2), some (.inl v3), none, none] [] (sk_mm d) := by
  unfold q_X9_depart_7 at hq
  refine sg_iload_n 8 (sk_td o_X9_depart 5 rfl) rfl rfl ?_
  refine sg_if_le 101 11 (sk_td o_X9_depart 6 rfl) (by decide) rfl (fun hc => ?_) (fun hc => ?_)
  · rw [if_pos hc] at hq
    obtain rfl := Option.some.inj hq
    exact sg_vret (sk_td o_X9_depart 62 rfl) rfl
  · rw [if_neg hc] at hq
    refine sg_aload_n 12 (sk_td o_X9_depart 7 rfl) rfl rfl ?_
    refine sm_getR (89, 0) 15 (sk_td o_X9_depart 8 rfl) rfl kf_X9_153 rfl rfl sz_44 rfl ?_
    refine sg_iload_n 16 (sk_td o_X9_depart 9 rfl) rfl rfl ?_
    obtain ⟨hb1, hq⟩ := sk_ifn hq
    refine sm_iald 17 (sk_td o_X9_depart 10 rfl) rfl rfl sz_89 hb1 ?_
    refine sg_if_le 101 20 (sk_td o_X9_depart 11 rfl) (by decide) rfl (fun hc => ?_) (fun hc => ?_)
    · rw [if_pos hc] at hq
      obtain rfl := Option.some.inj hq
      exact sg_vret (sk_td o_X9_depart 62 rfl) rfl
    · rw [if_neg hc] at hq
      refine sg_aload_n 21 (sk_td o_X9_depart 12 rfl) rfl rfl ?_
      refine sm_getR (88, 0) 24 (sk_td o_X9_depart 13 rfl) rfl kf_X9_150 rfl rfl sz_44 rfl ?_
      refine sg_iconst (v := (4 : Int32)) 25 (sk_td o_X9_depart 14 rfl) rfl (by decide) ?_
      refine sg_iload_n 26 (sk_td o_X9_depart 15 rfl) rfl rfl ?_
      refine sg_imul 27 (sk_td o_X9_depart 16 rfl) rfl ?_
      obtain ⟨hb2, hq⟩ := sk_ifn hq
      refine sm_iald 28 (sk_td o_X9_depart 17 rfl) rfl rfl sz_88 hb2 ?_
      refine sg_istore 30 [some (.inr (.inr (some (44, 0)))), some (.inl v1), some (.inl v2), some (.inl v3), some (.inl (d.1 88 0 ((4 : Int32) * v1).toNatClampNeg)), none] (sk_td o_X9_depart 18 rfl) rfl rfl (Nat.le_of_ble_eq_true rfl) rfl ?_
      refine sg_aload_n 31 (sk_td o_X9_depart 19 rfl) rfl rfl ?_
      refine sm_getR (85, 0) 34 (sk_td o_X9_depart 20 rfl) rfl kf_X9_141 rfl rfl sz_44 rfl ?_
      refine sg_iload 36 (sk_td o_X9_depart 21 rfl) rfl rfl ?_
      obtain ⟨hb3, hq⟩ := sk_ifn hq
      refine sm_iald 37 (sk_td o_X9_depart 22 rfl) rfl rfl sz_85 hb3 ?_
      refine sg_iload_n 38 (sk_td o_X9_depart 23 rfl) rfl rfl ?_
      refine sg_ic_ge 51 41 (sk_td o_X9_depart 24 rfl) (by decide) rfl (fun hc => ?_) (fun hc => ?_)
      · rw [if_pos hc] at hq
        refine sg_iload_n 52 (sk_td o_X9_depart 30 rfl) rfl rfl ?_
        exact t_X9_depart_52 hrec7 hq
      · rw [if_neg hc] at hq
        refine sg_aload_n 42 (sk_td o_X9_depart 25 rfl) rfl rfl ?_
        refine sm_getR (85, 0) 45 (sk_td o_X9_depart 26 rfl) rfl kf_X9_141 rfl rfl sz_44 rfl ?_
        refine sg_iload 47 (sk_td o_X9_depart 27 rfl) rfl rfl ?_
        obtain ⟨hb4, hq⟩ := sk_ifn hq
        refine sm_iald 48 (sk_td o_X9_depart 28 rfl) rfl rfl sz_85 hb4 ?_
        refine sg_goto 52 (sk_td o_X9_depart 29 rfl) (by decide) ?_
        exact t_X9_depart_52 hrec7 hq
def l_X9_depart_7 (fl : Nat) (a : (sk_D × Int32 × Int32 × Int32)) : Option (sk_D) := sk_it (fun rec7 a => q_X9_depart_7 rec7 a.1 a.2.1 a.2.2.1 a.2.2.2) fl a
theorem lt_X9_depart_7 {l : Launch} : ∀ (fl : Nat) (a : (sk_D × Int32 × Int32 × Int32)) (res : sk_D), l_X9_depart_7 fl a = some res → sk_G l (sk_rm 2 0 0) m_X9_depart sk_Ex0 (sk_Zm m_X9_depart none (sk_mm res)) 0 0 7 [some (.inr (.inr (some (44, 0)))), some (.inl a.2.1), some (.inl a.2.2.1), some (.inl a.2.2.2), none, none] [] (sk_mm a.1) :=
  sk_it_ind (P := fun (a : (sk_D × Int32 × Int32 × Int32)) (res : sk_D) => sk_G l (sk_rm 2 0 0) m_X9_depart sk_Ex0 (sk_Zm m_X9_depart none (sk_mm res)) 0 0 7 [some (.inr (.inr (some (44, 0)))), some (.inl a.2.1), some (.inl a.2.2.1), some (.inl a.2.2.2), none, none] [] (sk_mm a.1)) (fun rec7 hrec7 a res hq  => t_X9_depart_7 hrec7 hq )
def q_X9_depart_0 (d : sk_D) (v1 : Int32) (v2 : Int32) : Option (sk_D) :=
  if sk_bi v1 3 = true then (l_X9_depart_7 sk_fu (d, v1, v2, (d.1 68 0 v1.toNatClampNeg))) else none
set_option maxRecDepth 100000 in
set_option maxHeartbeats 4000000 in
theorem t_X9_depart_0 {l : Launch} {d : sk_D} {v1 : Int32} {v2 : Int32} {res : sk_D} (hq : q_X9_depart_0 d v1 v2 = some res) :
    sk_G l (sk_rm 2 0 0) m_X9_depart sk_Ex0 (sk_Zm m_X9_depart none (sk_mm res)) 0 0 0 [some (.inr (.inr (some (44, 0)))), some (.inl v1), some (.inl v2), none, none, none] [] (sk_mm d) := by
  unfold q_X9_depart_0 at hq
  refine sg_aload_n 1 (sk_td o_X9_depart 0 rfl) rfl rfl ?_
  refine sm_getR (68, 0) 4 (sk_td o_X9_depart 1 rfl) rfl kf_X9_89 rfl rfl sz_44 rfl ?_
  refine sg_iload_n 5 (sk_td o_X9_depart 2 rfl) rfl rfl ?_
  obtain ⟨hb1, hq⟩ := sk_ifn hq
  refine sm_iald 6 (sk_td o_X9_depart 3 rfl) rfl rfl sz_68 hb1 ?_
  refine sg_istore_n 7 [some (.inr (.inr (some (44, 0)))), some (.inl v1), some (.inl v2), some (.inl (d.1 68 0 v1.toNatClampNeg)), none, none] (sk_td o_X9_depart 4 rfl) rfl rfl (Nat.le_of_ble_eq_true rfl) rfl ?_
  exact lt_X9_depart_7 sk_fu (d, v1, v2, (d.1 68 0 v1.toNatClampNeg)) _ hq
def q_X9_depart (d : sk_D) (v1 : Int32) (v2 : Int32) : Option (sk_D) := q_X9_depart_0 d v1 v2 
theorem s_X9_depart {l : Launch} {d : sk_D} {v1 : Int32} {v2 : Int32} {res : sk_D} (hq : q_X9_depart d v1 v2 = some res) : sk_M l 2 m_X9_depart [.inr (.inr (some (44, 0))), .inl v1, .inl v2] (sk_mm d) none (sk_mm res) :=
  sk_enter (by decide) (fun _ => Nat.le_of_ble_eq_true rfl) (Nat.le_of_ble_eq_true rfl) (t_X9_depart_0 hq )
def q_X9_goThrough_203 (rec6 : (sk_D × Int32 × Int32) → Option (sk_D)) (rec203 : (sk_D × Int32 × Int32 × Int32) → Option (sk_D)) (d : sk_D) (v1 : Int32) (v2 : Int32) (v3 : Int32) : Option (sk_D) :=
  if (4 : Int32) ≤ v3 then (rec6 (d, v1, (v2 + (1 : Int32)))) else if sk_bi v3 4 = true then if sk_bi v3 4 = true then if sk_bi v3 4 = true then (rec203 ((sk_wi d 90 0 v3.toNatClampNeg ((d.1 90 0 v3.toNatClampNeg) + (d.1 85 0 v3.toNatClampNeg))), v1, v2, (v3 + (1 : Int32)))) else none else none else none
set_option maxRecDepth 100000 in
set_option maxHeartbeats 4000000 in
theorem t_X9_goThrough_203 {l : Launch} {rec6 : (sk_D × Int32 × Int32) → Option (sk_D)} {rec203 : (sk_D × Int32 × Int32 × Int32) → Option (sk_D)} {d : sk_D} {v1 : Int32} {v2 : Int32} {v3 : Int32} (hrec6 : ∀ (a : (sk_D × Int32 × Int32)) (res : sk_D), rec6 a = some res → sk_G l (sk_rm 5 0 0) m_X9_goThrough sk_Ex0 (sk_Zm m_X9_goThrough none (sk_mm res)) 0 0 6 [some (.inr (.inr (some (44, 0)))), some (.inl a.2.1), some (.inl a.2.2), none, none, none] [] (sk_mm a.1)) (hrec203 : ∀ (a : (sk_D × Int32 × Int32 × Int32)) (res : sk_D), rec203 a = some res → sk_G l (sk_rm 5 0 0) m_X9_goThrough sk_Ex0 (sk_Zm m_X9_goThrough none (sk_mm res)) 0 0 203 [some (.inr (.inr (some (44, 0)))), some (.inl a.2.1), some (.inl a.2.2.1), some (.inl a.2.2.2), none, none] [] (sk_mm a.1)) {res : sk_D} (hq : q_X9_goThrough_203 rec6 rec203 d v1 v2 v3 = some res) :
    sk_G l (sk_rm 5 0 0) m_X9_goThrough sk_Ex0 (sk_Zm m_X9_goThrough none (sk_mm res)) 0 0 203 [some (.inr (.inr (some (44, 0)))), some (.inl v1), some (.inl v2), some (.inl v3), none, none] [] (sk_mm d) := by
  unfold q_X9_goThrough_203 at hq
  refine sg_iload_n 204 (sk_td o_X9_goThrough 124 rfl) rfl rfl ?_
  refine sg_iconst (v := (4 : Int32)) 205 (sk_td o_X9_goThrough 125 rfl) rfl (by decide) ?_
  refine sg_ic_ge 229 208 (sk_td o_X9_goThrough 126 rfl) (by decide) rfl (fun hc => ?_) (fun hc => ?_)
  · rw [if_pos hc] at hq
    refine sg_iinc (v2 + (1 : Int32)) 232 [some (.inr (.inr (some (44, 0)))), some (.inl v1), some (.inl (v2 + (1 : Int32))), some (.inl v3), none, none] (sk_td o_X9_goThrough 140 rfl) rfl rfl rfl rfl (Nat.le_of_ble_eq_true rfl) rfl ?_
    refine sg_goto 6 (sk_td o_X9_goThrough 141 rfl) (by decide) ?_
    refine sk_wk [true, true, true, false, true, true] (ls' := [some (.inr (.inr (some (44, 0)))), some (.inl v1), some (.inl (v2 + (1 : Int32))), none, none, none]) rfl ?_
    exact hrec6 (d, v1, (v2 + (1 : Int32))) _ hq
  · rw [if_neg hc] at hq
    refine sg_aload_n 209 (sk_td o_X9_goThrough 127 rfl) rfl rfl ?_
    refine sm_getR (90, 0) 212 (sk_td o_X9_goThrough 128 rfl) rfl kf_X9_156 rfl rfl sz_44 rfl ?_
    refine sg_iload_n 213 (sk_td o_X9_goThrough 129 rfl) rfl rfl ?_
    refine sg_dup2 214 (sk_td o_X9_goThrough 130 rfl) rfl ?_
    obtain ⟨hb1, hq⟩ := sk_ifn hq
    refine sm_iald 215 (sk_td o_X9_goThrough 131 rfl) rfl rfl sz_90 hb1 ?_
    refine sg_aload_n 216 (sk_td o_X9_goThrough 132 rfl) rfl rfl ?_
    refine sm_getR (85, 0) 219 (sk_td o_X9_goThrough 133 rfl) rfl kf_X9_141 rfl rfl sz_44 rfl ?_
    refine sg_iload_n 220 (sk_td o_X9_goThrough 134 rfl) rfl rfl ?_
    obtain ⟨hb2, hq⟩ := sk_ifn hq
    refine sm_iald 221 (sk_td o_X9_goThrough 135 rfl) rfl rfl sz_85 hb2 ?_
    refine sg_iadd 222 (sk_td o_X9_goThrough 136 rfl) rfl ?_
    obtain ⟨hb3, hq⟩ := sk_ifn hq
    refine sm_iast 223 (sk_td o_X9_goThrough 137 rfl) rfl rfl sz_90 hb3 ?_
    refine sg_iinc (v3 + (1 : Int32)) 226 [some (.inr (.inr (some (44, 0)))), some (.inl v1), some (.inl v2), some (.inl (v3 + (1 : Int32))), none, none] (sk_td o_X9_goThrough 138 rfl) rfl rfl rfl rfl (Nat.le_of_ble_eq_true rfl) rfl ?_
    refine sg_goto 203 (sk_td o_X9_goThrough 139 rfl) (by decide) ?_
    exact hrec203 ((sk_wi d 90 0 v3.toNatClampNeg ((d.1 90 0 v3.toNatClampNeg) + (d.1 85 0 v3.toNatClampNeg))), v1, v2, (v3 + (1 : Int32))) _ hq
def l_X9_goThrough_203 (rec6 : (sk_D × Int32 × Int32) → Option (sk_D)) (fl : Nat) (a : (sk_D × Int32 × Int32 × Int32)) : Option (sk_D) := sk_it (fun rec203 a => q_X9_goThrough_203 rec6 rec203 a.1 a.2.1 a.2.2.1 a.2.2.2) fl a
theorem lt_X9_goThrough_203 {l : Launch} {rec6 : (sk_D × Int32 × Int32) → Option (sk_D)} (hrec6 : ∀ (a : (sk_D × Int32 × Int32)) (res : sk_D), rec6 a = some res → sk_G l (sk_rm 5 0 0) m_X9_goThrough sk_Ex0 (sk_Zm m_X9_goThrough none (sk_mm res)) 0 0 6 [some (.inr (.inr (some (44, 0)))), some (.inl a.2.1), some (.inl a.2.2), none, none, none] [] (sk_mm a.1)) : ∀ (fl : Nat) (a : (sk_D × Int32 × Int32 × Int32)) (res : sk_D), l_X9_goThrough_203 rec6 fl a = some res → sk_G l (sk_rm 5 0 0) m_X9_goThrough sk_Ex0 (sk_Zm m_X9_goThrough none (sk_mm res)) 0 0 203 [some (.inr (.inr (some (44, 0)))), some (.inl a.2.1), some (.inl a.2.2.1), some (.inl a.2.2.2), none, none] [] (sk_mm a.1) :=
  sk_it_ind (P := fun (a : (sk_D × Int32 × Int32 × Int32)) (res : sk_D) => sk_G l (sk_rm 5 0 0) m_X9_goThrough sk_Ex0 (sk_Zm m_X9_goThrough none (sk_mm res)) 0 0 203 [some (.inr (.inr (some (44, 0)))), some (.inl a.2.1), some (.inl a.2.2.1), some (.inl a.2.2.2), none, none] [] (sk_mm a.1)) (fun rec203 hrec203 a res hq  => t_X9_goThrough_203 hrec6 hrec203 hq )
def q_X9_goThrough_194 (rec6 : (sk_D × Int32 × Int32) → Option (sk_D)) (rec98 : (sk_D × Int32 × Int32 × Int32) → Option (sk_D)) (d : sk_D) (v1 : Int32) (v2 : Int32) (v3 : Int32) (s1 : Int32) (s2 : Int32) : Option (sk_D) :=
  if sk_bi s1 3 = true then (rec98 ((sk_wi d 92 0 s1.toNatClampNeg s2), v1, v2, (v3 + (1 : Int32)))) else none
set_option maxRecDepth 100000 in
set_option maxHeartbeats 4000000 in
theorem t_X9_goThrough_194 {l : Launch} {rec6 : (sk_D × Int32 × Int32) → Option (sk_D)} {rec98 : (sk_D × Int32 × Int32 × Int32) → Option (sk_D)} {d : sk_D} {v1 : Int32} {v2 : Int32} {v3 : Int32} {s1 : Int32} {s2 : Int32} (hrec6 : ∀ (a : (sk_D × Int32 × Int32)) (res : sk_D), rec6 a = some res → sk_G l (sk_rm 5 0 0) m_X9_goThrough sk_Ex0 (sk_Zm m_X9_goThrough none (sk_mm res)) 0 0 6 [some (.inr (.inr (some (44, 0)))), some (.inl a.2.1), some (.inl a.2.2), none, none, none] [] (sk_mm a.1)) (hrec98 : ∀ (a : (sk_D × Int32 × Int32 × Int32)) (res : sk_D), rec98 a = some res → sk_G l (sk_rm 5 0 0) m_X9_goThrough sk_Ex0 (sk_Zm m_X9_goThrough none (sk_mm res)) 0 0 98 [some (.inr (.inr (some (44, 0)))), some (.inl a.2.1), some (.inl a.2.2.1), some (.inl a.2.2.2), none, none] [] (sk_mm a.1)) {res : sk_D} (hq : q_X9_goThrough_194 rec6 rec98 d v1 v2 v3 s1 s2 = some res) :
    sk_G l (sk_rm 5 0 0) m_X9_goThrough sk_Ex0 (sk_Zm m_X9_goThrough none (sk_mm res)) 0 0 194 [some (.inr (.inr (some (44, 0)))), some (.inl v1), some (.inl v2), some (.inl v3), none, none] [.inl s2, .inl s1, .inr (.inr (some (92, 0)))] (sk_mm d) := by
  unfold q_X9_goThrough_194 at hq
  obtain ⟨hb1, hq⟩ := sk_ifn hq
  refine sm_iast 195 (sk_td o_X9_goThrough 119 rfl) rfl rfl sz_92 hb1 ?_
  refine sg_iinc (v3 + (1 : Int32)) 198 [some (.inr (.inr (some (44, 0)))), some (.inl v1), some (.inl v2), some (.inl (v3 + (1 : Int32))), none, none] (sk_td o_X9_goThrough 120 rfl) rfl rfl rfl rfl (Nat.le_of_ble_eq_true rfl) rfl ?_
  refine sg_goto 98 (sk_td o_X9_goThrough 121 rfl) (by decide) ?_
  exact hrec98 ((sk_wi d 92 0 s1.toNatClampNeg s2), v1, v2, (v3 + (1 : Int32))) _ hq
def q_X9_goThrough_129 (rec6 : (sk_D × Int32 × Int32) → Option (sk_D)) (rec98 : (sk_D × Int32 × Int32 × Int32) → Option (sk_D)) (rec129 : (sk_D × Int32 × Int32 × Int32 × Int32 × Int32) → Option (sk_D)) (d : sk_D) (v1 : Int32) (v2 : Int32) (v3 : Int32) (v4 : Int32) (v5 : Int32) : Option (sk_D) :=
  if sk_bi v3 3 = true then if (d.1 89 0 v3.toNatClampNeg) ≤ v5 then if sk_bi v3 3 = true then if v4 ≤ (d.1 92 0 v3.toNatClampNeg) then if sk_bi v3 3 = true then (q_X9_goThrough_194 rec6 rec98 d v1 v2 v3 v3 (d.1 92 0 v3.toNatClampNeg)) else none else (q_X9_goThrough_194 rec6 rec98 d v1 v2 v3 v3 v4) else none else if sk_bi (((4 : Int32) * v3) + v5) 12 = true then if sk_bi (d.1 88 0 (((4 : Int32) * v3) + v5).toNatClampNeg) 4 = true then (rec129 (d, v1, v2, v3, (v4 + (d.1 85 0 (d.1 88 0 (((4 : Int32) * v3) + v5).toNatClampNeg).toNatClampNeg)), (v5 + (1 : Int32)))) else none else none else none
set_option maxRecDepth 100000 in
set_option maxHeartbeats 4000000 in
theorem t_X9_goThrough_129 {l : Launch} {rec6 : (sk_D × Int32 × Int32) → Option (sk_D)} {rec98 : (sk_D × Int32 × Int32 × Int32) → Option (sk_D)} {rec129 : (sk_D × Int32 × Int32 × Int32 × Int32 × Int32) → Option (sk_D)} {d : sk_D} {v1 : Int32} {v2 : Int32} {v3 : Int32} {v4 : Int32} {v5 : Int32} (hrec6 : ∀ (a : (sk_D × Int32 × Int32)) (res : sk_D), rec6 a = some res → sk_G l (sk_rm 5 0 0) m_X9_goThrough sk_Ex0 (sk_Zm m_X9_goThrough none (sk_mm res)) 0 0 6 [some (.inr (.inr (some (44, 0)))), some (.inl a.2.1), some (.inl a.2.2), none, none, none] [] (sk_mm a.1)) (hrec98 : ∀ (a : (sk_D × Int32 × Int32 × Int32)) (res : sk_D), rec98 a = some res → sk_G l (sk_rm 5 0 0) m_X9_goThrough sk_Ex0 (sk_Zm m_X9_goThrough none (sk_mm res)) 0 0 98 [some (.inr (.inr (some (44, 0)))), some (.inl a.2.1), some (.inl a.2.2.1), some (.inl a.2.2.2), none, none] [] (sk_mm a.1)) (hrec129 : ∀ (a : (sk_D × Int32 × Int32 × Int32 × Int32 × Int32)) (res : sk_D), rec129 a = some res → sk_G l (sk_rm 5 0 0) m_X9_goThrough sk_Ex0 (sk_Zm m_X9_goThrough none (sk_mm res)) 0 0 129 [some (.inr (.inr (some (44, 0)))), some (.inl a.2.1), some (.inl a.2.2.1), some (.inl a.2.2.2.1), some (.inl a.2.2.2.2.1), some (.inl a.2.2.2.2.2)] [] (sk_mm a.1)) {res : sk_D} (hq : q_X9_goThrough_129 rec6 rec98 rec129 d v1 v2 v3 v4 v5 = some res) :
    sk_G l (sk_rm 5 0 0) m_X9_goThrough sk_Ex0 (sk_Zm m_X9_goThrough none (sk_mm res)) 0 0 129 [some (.inr (.inr (some (44, 0)))), some (.inl v1), some (.inl v2), some (.inl v3), some (.inl v4), some (.inl v5)] [] (sk_mm d) := by
  unfold q_X9_goThrough_129 at hq
  refine sg_iload 131 (sk_td o_X9_goThrough 82 rfl) rfl rfl ?_
  refine sg_aload_n 132 (sk_td o_X9_goThrough 83 rfl) rfl rfl ?_
  refine sm_getR (89, 0) 135 (sk_td o_X9_goThrough 84 rfl) rfl kf_X9_153 rfl rfl sz_44 rfl ?_
  refine sg_iload_n 136 (sk_td o_X9_goThrough 85 rfl) rfl rfl ?_
  obtain ⟨hb1, hq⟩ := sk_ifn hq
  refine sm_iald 137 (sk_td o_X9_goThrough 86 rfl) rfl rfl sz_89 hb1 ?_
  refine sg_ic_ge 167 140 (sk_td o_X9_goThrough 87 rfl) (by decide) rfl (fun hc => ?_) (fun hc => ?_)
  · rw [if_pos hc] at hq
    refine sg_aload_n 168 (sk_td o_X9_goThrough 104 rfl) rfl rfl ?_
    refine sm_getR (92, 0) 171 (sk_td o_X9_goThrough 105 rfl) rfl kf_X9_162 rfl rfl sz_44 rfl ?_
    refine sg_iload_n 172 (sk_td o_X9_goThrough 106 rfl) rfl rfl ?_
    refine sg_iload 174 (sk_td o_X9_goThrough 107 rfl) rfl rfl ?_
    refine sg_aload_n 175 (sk_td o_X9_goThrough 108 rfl) rfl rfl ?_
    refine sm_getR (92, 0) 178 (sk_td o_X9_goThrough 109 rfl) rfl kf_X9_162 rfl rfl sz_44 rfl ?_
    refine sg_iload_n 179 (sk_td o_X9_goThrough 110 rfl) rfl rfl ?_
    obtain ⟨hb2, hq⟩ := sk_ifn hq
    refine sm_iald 180 (sk_td o_X9_goThrough 111 rfl) rfl rfl sz_92 hb2 ?_
    refine sg_ic_le 188 183 (sk_td o_X9_goThrough 112 rfl) (by decide) rfl (fun hc => ?_) (fun hc => ?_)
    · rw [if_pos hc] at hq
      refine sg_aload_n 189 (sk_td o_X9_goThrough 115 rfl) rfl rfl ?_
      refine sm_getR (92, 0) 192 (sk_td o_X9_goThrough 116 rfl) rfl kf_X9_162 rfl rfl sz_44 rfl ?_
      refine sg_iload_n 193 (sk_td o_X9_goThrough 117 rfl) rfl rfl ?_
      obtain ⟨hb3, hq⟩ := sk_ifn hq
      refine sm_iald 194 (sk_td o_X9_goThrough 118 rfl) rfl rfl sz_92 hb3 ?_
      refine sk_wk [true, true, true, true, false, false] (ls' := [some (.inr (.inr (some (44, 0)))), some (.inl v1), some (.inl v2), some (.inl v3), none, none]) rfl ?_
      exact t_X9_goThrough_194 hrec6 hrec98 hq
    · rw [if_neg hc] at hq
      refine sg_iload 185 (sk_td o_X9_goThrough 113 rfl) rfl rfl ?_
      refine sg_goto 194 (sk_td o_X9_goThrough 114 rfl) (by decide) ?_
      refine sk_wk [true, true, true, true, false, false] (ls' := [some (.inr (.inr (some (44, 0)))), some (.inl v1), some (.inl v2), some (.inl v3), none, none]) rfl ?_
      exact t_X9_goThrough_194 hrec6 hrec98 hq
  · rw [if_neg hc] at hq
    refine sg_iload 142 (sk_td o_X9_goThrough 88 rfl) rfl rfl ?_
    refine sg_aload_n 143 (sk_td o_X9_goThrough 89 rfl) rfl rfl ?_
    refine sm_getR (85, 0) 146 (sk_td o_X9_goThrough 90 rfl) rfl kf_X9_141 rfl rfl sz_44 rfl ?_
    refine sg_aload_n 147 (sk_td o_X9_goThrough 91 rfl) rfl rfl ?_
    refine sm_getR (88, 0) 150 (sk_td o_X9_goThrough 92 rfl) rfl kf_X9_150 rfl rfl sz_44 rfl ?_
    refine sg_iconst (v := (4 : Int32)) 151 (sk_td o_X9_goThrough 93 rfl) rfl (by decide) ?_
    refine sg_iload_n 152 (sk_td o_X9_goThrough 94 rfl) rfl rfl ?_
    refine sg_imul 153 (sk_td o_X9_goThrough 95 rfl) rfl ?_
    refine sg_iload 155 (sk_td o_X9_goThrough 96 rfl) rfl rfl ?_
    refine sg_iadd 156 (sk_td o_X9_goThrough 97 rfl) rfl ?_
    obtain ⟨hb4, hq⟩ := sk_ifn hq
    refine sm_iald 157 (sk_td o_X9_goThrough 98 rfl) rfl rfl sz_88 hb4 ?_
    obtain ⟨hb5, hq⟩ := sk_ifn hq
    refine sm_iald 158 (sk_td o_X9_goThrough 99 rfl) rfl rfl sz_85 hb5 ?_
    refine sg_iadd 159 (sk_td o_X9_goThrough 100 rfl) rfl ?_
    refine sg_istore 161 [some (.inr (.inr (some (44, 0)))), some (.inl v1), some (.inl v2), some (.inl v3), some (.inl (v4 + (d.1 85 0 (d.1 88 0 (((4 : Int32) * v3) + v5).toNatClampNeg).toNatClampNeg))), some (.inl v5)] (sk_td o_X9_goThrough 101 rfl) rfl rfl (Nat.le_of_ble_eq_true rfl) rfl ?_
    refine sg_iinc (v5 + (1 : Int32)) 164 [some (.inr (.inr (some (44, 0)))), some (.inl v1), some (.inl v2), some (.inl v3), some (.inl (v4 + (d.1 85 0 (d.1 88 0 (((4 : Int32) * v3) + v5).toNatClampNeg).toNatClampNeg))), some (.inl (v5 + (1 : Int32)))] (sk_td o_X9_goThrough 102 rfl) rfl rfl rfl rfl (Nat.le_of_ble_eq_true rfl) rfl ?_
    refine sg_goto 129 (sk_td o_X9_goThrough 103 rfl) (by decide) ?_
    exact hrec129 (d, v1, v2, v3, (v4 + (d.1 85 0 (d.1 88 0 (((4 : Int32) * v3) + v5).toNatClampNeg).toNatClampNeg)), (v5 + (1 : Int32))) _ hq
def l_X9_goThrough_129 (rec6 : (sk_D × Int32 × Int32) → Option (sk_D)) (rec98 : (sk_D × Int32 × Int32 × Int32) → Option (sk_D)) (fl : Nat) (a : (sk_D × Int32 × Int32 × Int32 × Int32 × Int32)) : Option (sk_D) := sk_it (fun rec129 a => q_X9_goThrough_129 rec6 rec98 rec129 a.1 a.2.1 a.2.2.1 a.2.2.2.1 a.2.2.2.2.1 a.2.2.2.2.2) fl a
theorem lt_X9_goThrough_129 {l : Launch} {rec6 : (sk_D × Int32 × Int32) → Option (sk_D)} {rec98 : (sk_D × Int32 × Int32 × Int32) → Option (sk_D)} (hrec6 : ∀ (a : (sk_D × Int32 × Int32)) (res : sk_D), rec6 a = some res → sk_G l (sk_rm 5 0 0) m_X9_goThrough sk_Ex0 (sk_Zm m_X9_goThrough none (sk_mm res)) 0 0 6 [some (.inr (.inr (some (44, 0)))), some (.inl a.2.1), some (.inl a.2.2), none, none, none] [] (sk_mm a.1)) (hrec98 : ∀ (a : (sk_D × Int32 × Int32 × Int32)) (res : sk_D), rec98 a = some res → sk_G l (sk_rm 5 0 0) m_X9_goThrough sk_Ex0 (sk_Zm m_X9_goThrough none (sk_mm res)) 0 0 98 [some (.inr (.inr (some (44, 0)))), some (.inl a.2.1), some (.inl a.2.2.1), some (.inl a.2.2.2), none, none] [] (sk_mm a.1)) : ∀ (fl : Nat) (a : (sk_D × Int32 × Int32 × Int32 × Int32 × Int32)) (res : sk_D), l_X9_goThrough_129 rec6 rec98 fl a = some res → sk_G l (sk_rm 5 0 0) m_X9_goThrough sk_Ex0 (sk_Zm m_X9_goThrough none (sk_mm res)) 0 0 129 [some (.inr (.inr (some (44, 0)))), some (.inl a.2.1), some (.inl a.2.2.1), some (.inl a.2.2.2.1), some (.inl a.2.2.2.2.1), some (.inl a.2.2.2.2.2)] [] (sk_mm a.1) :=
  sk_it_ind (P := fun (a : (sk_D × Int32 × Int32 × Int32 × Int32 × Int32)) (res : sk_D) => sk_G l (sk_rm 5 0 0) m_X9_goThrough sk_Ex0 (sk_Zm m_X9_goThrough none (sk_mm res)) 0 0 129 [some (.inr (.inr (some (44, 0)))), some (.inl a.2.1), some (.inl a.2.2.1), some (.inl a.2.2.2.1), some (.inl a.2.2.2.2.1), some (.inl a.2.2.2.2.2)] [] (sk_mm a.1)) (fun rec129 hrec129 a res hq  => t_X9_goThrough_129 hrec6 hrec98 hrec129 hq )
def q_X9_goThrough_123 (rec6 : (sk_D × Int32 × Int32) → Option (sk_D)) (rec98 : (sk_D × Int32 × Int32 × Int32) → Option (sk_D)) (d : sk_D) (v1 : Int32) (v2 : Int32) (v3 : Int32) : Option (sk_D) :=
  (l_X9_goThrough_129 rec6 rec98 sk_fu (d, v1, v2, v3, (0 : Int32), (0 : Int32)))
set_option maxRecDepth 100000 in
set_option maxHeartbeats 4000000 in
theorem t_X9_goThrough_123 {l : Launch} {rec6 : (sk_D × Int32 × Int32) → Option (sk_D)} {rec98 : (sk_D × Int32 × Int32 × Int32) → Option (sk_D)} {d : sk_D} {v1 : Int32} {v2 : Int32} {v3 : Int32} (hrec6 : ∀ (a : (sk_D × Int32 × Int32)) (res : sk_D), rec6 a = some res → sk_G l (sk_rm 5 0 0) m_X9_goThrough sk_Ex0 (sk_Zm m_X9_goThrough none (sk_mm res)) 0 0 6 [some (.inr (.inr (some (44, 0)))), some (.inl a.2.1), some (.inl a.2.2), none, none, none] [] (sk_mm a.1)) (hrec98 : ∀ (a : (sk_D × Int32 × Int32 × Int32)) (res : sk_D), rec98 a = some res → sk_G l (sk_rm 5 0 0) m_X9_goThrough sk_Ex0 (sk_Zm m_X9_goThrough none (sk_mm res)) 0 0 98 [some (.inr (.inr (some (44, 0)))), some (.inl a.2.1), some (.inl a.2.2.1), some (.inl a.2.2.2), none, none] [] (sk_mm a.1)) {res : sk_D} (hq : q_X9_goThrough_123 rec6 rec98 d v1 v2 v3 = some res) :
    sk_G l (sk_rm 5 0 0) m_X9_goThrough sk_Ex0 (sk_Zm m_X9_goThrough none (sk_mm res)) 0 0 123 [some (.inr (.inr (some (44, 0)))), some (.inl v1), some (.inl v2), some (.inl v3), none, none] [] (sk_mm d) := by
  unfold q_X9_goThrough_123 at hq
  refine sg_iconst (v := (0 : Int32)) 124 (sk_td o_X9_goThrough 78 rfl) rfl (by decide) ?_
  refine sg_istore 126 [some (.inr (.inr (some (44, 0)))), some (.inl v1), some (.inl v2), some (.inl v3), some (.inl (0 : Int32)), none] (sk_td o_X9_goThrough 79 rfl) rfl rfl (Nat.le_of_ble_eq_true rfl) rfl ?_
  refine sg_iconst (v := (0 : Int32)) 127 (sk_td o_X9_goThrough 80 rfl) rfl (by decide) ?_
  refine sg_istore 129 [some (.inr (.inr (some (44, 0)))), some (.inl v1), some (.inl v2), some (.inl v3), some (.inl (0 : Int32)), some (.inl (0 : Int32))] (sk_td o_X9_goThrough 81 rfl) rfl rfl (Nat.le_of_ble_eq_true rfl) rfl ?_
  exact lt_X9_goThrough_129 hrec6 hrec98 sk_fu (d, v1, v2, v3, (0 : Int32), (0 : Int32)) _ hq
def q_X9_goThrough_98 (rec6 : (sk_D × Int32 × Int32) → Option (sk_D)) (rec98 : (sk_D × Int32 × Int32 × Int32) → Option (sk_D)) (d : sk_D) (v1 : Int32) (v2 : Int32) (v3 : Int32) : Option (sk_D) :=
  if (d.1 44 0 27) ≤ v3 then (l_X9_goThrough_203 rec6 sk_fu (d, v1, v2, (0 : Int32))) else if sk_bi v3 3 = true then if ¬ ((d.1 69 0 v3.toNatClampNeg) = 0) then if (v2 - v2 / (d.1 69 0 v3.toNatClampNeg) * (d.1 69 0 v3.toNatClampNeg)) = 0 then (q_X9_depart d v3 v2).bind fun x3 => (q_X9_goThrough_123 rec6 rec98 x3 v1 v2 v3) else (q_X9_goThrough_123 rec6 rec98 d v1 v2 v3) else none else none
set_option maxRecDepth 100000 in
set_option maxHeartbeats 4000000 in
theorem t_X9_goThrough_98 {l : Launch} {rec6 : (sk_D × Int32 × Int32) → Option (sk_D)} {rec98 : (sk_D × Int32 × Int32 × Int32) → Option (sk_D)} {d : sk_D} {v1 : Int32} {v2 : Int32} {v3 : Int32} (hrec6 : ∀ (a : (sk_D × Int32 × Int32)) (res : sk_D), rec6 a = some res → sk_G l (sk_rm 5 0 0) m_X9_goThrough sk_Ex0 (sk_Zm m_X9_goThrough none (sk_mm res)) 0 0 6 [some (.inr (.inr (some (44, 0)))), some (.inl a.2.1), some (.inl a.2.2), none, none, none] [] (sk_mm a.1)) (hrec98 : ∀ (a : (sk_D × Int32 × Int32 × Int32)) (res : sk_D), rec98 a = some res → sk_G l (sk_rm 5 0 0) m_X9_goThrough sk_Ex0 (sk_Zm m_X9_goThrough none (sk_mm res)) 0 0 98 [some (.inr (.inr (some (44, 0)))), some (.inl a.2.1), some (.inl a.2.2.1), some (.inl a.2.2.2), none, none] [] (sk_mm a.1)) {res : sk_D} (hq : q_X9_goThrough_98 rec6 rec98 d v1 v2 v3 = some res) :
    sk_G l (sk_rm 5 0 0) m_X9_goThrough sk_Ex0 (sk_Zm m_X9_goThrough none (sk_mm res)) 0 0 98 [some (.inr (.inr (some (44, 0)))), some (.inl v1), some (.inl v2), some (.inl v3), none, none] [] (sk_mm d) := by
  unfold q_X9_goThrough_98 at hq
  refine sg_iload_n 99 (sk_td o_X9_goThrough 63 rfl) rfl rfl ?_
  refine sg_aload_n 100 (sk_td o_X9_goThrough 64 rfl) rfl rfl ?_
  refine sm_getI 103 (sk_td o_X9_goThrough 65 rfl) rfl kf_X9_284 rfl rfl sz_44 ?_
  refine sg_ic_ge 201 106 (sk_td o_X9_goThrough 66 rfl) (by decide) rfl (fun hc => ?_) (fun hc => ?_)
  · rw [if_pos hc] at hq
    refine sg_iconst (v := (0 : Int32)) 202 (sk_td o_X9_goThrough 122 rfl) rfl (by decide) ?_
    refine sg_istore_n 203 [some (.inr (.inr (some (44, 0)))), some (.inl v1), some (.inl v2), some (.inl (0 : Int32)), none, none] (sk_td o_X9_goThrough 123 rfl) rfl rfl (Nat.le_of_ble_eq_true rfl) rfl ?_
    exact lt_X9_goThrough_203 hrec6 sk_fu (d, v1, v2, (0 : Int32)) _ hq
  · rw [if_neg hc] at hq
    refine sg_iload_n 107 (sk_td o_X9_goThrough 67 rfl) rfl rfl ?_
    refine sg_aload_n 108 (sk_td o_X9_goThrough 68 rfl) rfl rfl ?_
    refine sm_getR (69, 0) 111 (sk_td o_X9_goThrough 69 rfl) rfl kf_X9_92 rfl rfl sz_44 rfl ?_
    refine sg_iload_n 112 (sk_td o_X9_goThrough 70 rfl) rfl rfl ?_
    obtain ⟨hb1, hq⟩ := sk_ifn hq
    refine sm_iald 113 (sk_td o_X9_goThrough 71 rfl) rfl rfl sz_69 hb1 ?_
    obtain ⟨hz2, hq⟩ := sk_ifn hq
    refine sg_irem 114 (sk_td o_X9_goThrough 72 rfl) rfl hz2 ?_
    refine sg_if_ne 123 117 (sk_td o_X9_goThrough 73 rfl) (by decide) rfl (fun hc => ?_) (fun hc => ?_)
    · rw [if_neg hc] at hq
      exact t_X9_goThrough_123 hrec6 hrec98 hq
    · rw [if_pos hc] at hq
      refine sg_aload_n 118 (sk_td o_X9_goThrough 74 rfl) rfl rfl ?_
      refine sg_iload_n 119 (sk_td o_X9_goThrough 75 rfl) rfl rfl ?_
      refine sg_iload_n 120 (sk_td o_X9_goThrough 76 rfl) rfl rfl ?_
      obtain ⟨x3, hr_x3, hq⟩ := sk_bnd hq
      refine sm_callV2v 123 (s_X9_depart hr_x3) (sk_td o_X9_goThrough 77 rfl) rfl lv_X9_300 rfl rfl rfl sz_44 (sk_rok (Nat.le_of_ble_eq_true rfl) (Nat.le_of_ble_eq_true rfl) rfl rfl) (Nat.le_of_ble_eq_true rfl) ?_
      exact t_X9_goThrough_123 hrec6 hrec98 hq
def l_X9_goThrough_98 (rec6 : (sk_D × Int32 × Int32) → Option (sk_D)) (fl : Nat) (a : (sk_D × Int32 × Int32 × Int32)) : Option (sk_D) := sk_it (fun rec98 a => q_X9_goThrough_98 rec6 rec98 a.1 a.2.1 a.2.2.1 a.2.2.2) fl a
theorem lt_X9_goThrough_98 {l : Launch} {rec6 : (sk_D × Int32 × Int32) → Option (sk_D)} (hrec6 : ∀ (a : (sk_D × Int32 × Int32)) (res : sk_D), rec6 a = some res → sk_G l (sk_rm 5 0 0) m_X9_goThrough sk_Ex0 (sk_Zm m_X9_goThrough none (sk_mm res)) 0 0 6 [some (.inr (.inr (some (44, 0)))), some (.inl a.2.1), some (.inl a.2.2), none, none, none] [] (sk_mm a.1)) : ∀ (fl : Nat) (a : (sk_D × Int32 × Int32 × Int32)) (res : sk_D), l_X9_goThrough_98 rec6 fl a = some res → sk_G l (sk_rm 5 0 0) m_X9_goThrough sk_Ex0 (sk_Zm m_X9_goThrough none (sk_mm res)) 0 0 98 [some (.inr (.inr (some (44, 0)))), some (.inl a.2.1), some (.inl a.2.2.1), some (.inl a.2.2.2), none, none] [] (sk_mm a.1) :=
  sk_it_ind (P := fun (a : (sk_D × Int32 × Int32 × Int32)) (res : sk_D) => sk_G l (sk_rm 5 0 0) m_X9_goThrough sk_Ex0 (sk_Zm m_X9_goThrough none (sk_mm res)) 0 0 98 [some (.inr (.inr (some (44, 0)))), some (.inl a.2.1), some (.inl a.2.2.1), some (.inl a.2.2.2), none, none] [] (sk_mm a.1)) (fun rec98 hrec98 a res hq  => t_X9_goThrough_98 hrec6 hrec98 hq )
def q_X9_goThrough_90 (rec6 : (sk_D × Int32 × Int32) → Option (sk_D)) (rec13 : (sk_D × Int32 × Int32 × Int32) → Option (sk_D)) (d : sk_D) (v1 : Int32) (v2 : Int32) (v3 : Int32) : Option (sk_D) :=
  (rec13 (d, v1, v2, (v3 + (1 : Int32))))
set_option maxRecDepth 100000 in
set_option maxHeartbeats 4000000 in
theorem t_X9_goThrough_90 {l : Launch} {rec6 : (sk_D × Int32 × Int32) → Option (sk_D)} {rec13 : (sk_D × Int32 × Int32 × Int32) → Option (sk_D)} {d : sk_D} {v1 : Int32} {v2 : Int32} {v3 : Int32} (hrec6 : ∀ (a : (sk_D × Int32 × Int32)) (res : sk_D), rec6 a = some res → sk_G l (sk_rm 5 0 0) m_X9_goThrough sk_Ex0 (sk_Zm m_X9_goThrough none (sk_mm res)) 0 0 6 [some (.inr (.inr (some (44, 0)))), some (.inl a.2.1), some (.inl a.2.2), none, none, none] [] (sk_mm a.1)) (hrec13 : ∀ (a : (sk_D × Int32 × Int32 × Int32)) (res : sk_D), rec13 a = some res → sk_G l (sk_rm 5 0 0) m_X9_goThrough sk_Ex0 (sk_Zm m_X9_goThrough none (sk_mm res)) 0 0 13 [some (.inr (.inr (some (44, 0)))), some (.inl a.2.1), some (.inl a.2.2.1), some (.inl a.2.2.2), none, none] [] (sk_mm a.1)) {res : sk_D} (hq : q_X9_goThrough_90 rec6 rec13 d v1 v2 v3 = some res) :
    sk_G l (sk_rm 5 0 0) m_X9_goThrough sk_Ex0 (sk_Zm m_X9_goThrough none (sk_mm res)) 0 0 90 [some (.inr (.inr (some (44, 0)))), some (.inl v1), some (.inl v2), some (.inl v3), none, none] [] (sk_mm d) := by
  unfold q_X9_goThrough_90 at hq
  refine sg_iinc (v3 + (1 : Int32)) 93 [some (.inr (.inr (some (44, 0)))), some (.inl v1), some (.inl v2), some (.inl (v3 + (1 : Int32))), none, none] (sk_td o_X9_goThrough 59 rfl) rfl rfl rfl rfl (Nat.le_of_ble_eq_true rfl) rfl ?_
  refine sg_goto 13 (sk_td o_X9_goThrough 60 rfl) (by decide) ?_
  exact hrec13 (d, v1, v2, (v3 + (1 : Int32))) _ hq
def q_X9_goThrough_80 (rec6 : (sk_D × Int32 × Int32) → Option (sk_D)) (rec13 : (sk_D × Int32 × Int32 × Int32) → Option (sk_D)) (d : sk_D) (v1 : Int32) (v2 : Int32) (v3 : Int32) (s1 : Int32) (s3 : Int32) : Option (sk_D) :=
  if sk_bi s3 4 = true then if sk_bi s1 4 = true then if sk_bi v3 4 = true then (q_X9_goThrough_90 rec6 rec13 (sk_wi (sk_wi d 85 0 s1.toNatClampNeg (d.1 84 0 s3.toNatClampNeg)) 86 0 v3.toNatClampNeg (-9 : Int32)) v1 v2 v3) else none else none else none
set_option maxRecDepth 100000 in
set_option maxHeartbeats 4000000 in
theorem t_X9_goThrough_80 {l : Launch} {rec6 : (sk_D × Int32 × Int32) → Option (sk_D)} {rec13 : (sk_D × Int32 × Int32 × Int32) → Option (sk_D)} {d : sk_D} {v1 : Int32} {v2 : Int32} {v3 : Int32} {s1 : Int32} {s3 : Int32} (hrec6 : ∀ (a : (sk_D × Int32 × Int32)) (res : sk_D), rec6 a = some res → sk_G l (sk_rm 5 0 0) m_X9_goThrough sk_Ex0 (sk_Zm m_X9_goThrough none (sk_mm res)) 0 0 6 [some (.inr (.inr (some (44, 0)))), some (.inl a.2.1), some (.inl a.2.2), none, none, none] [] (sk_mm a.1)) (hrec13 : ∀ (a : (sk_D × Int32 × Int32 × Int32)) (res : sk_D), rec13 a = some res → sk_G l (sk_rm 5 0 0) m_X9_goThrough sk_Ex0 (sk_Zm m_X9_goThrough none (sk_mm res)) 0 0 13 [some (.inr (.inr (some (44, 0)))), some (.inl a.2.1), some (.inl a.2.2.1), some (.inl a.2.2.2), none, none] [] (sk_mm a.1)) {res : sk_D} (hq : q_X9_goThrough_80 rec6 rec13 d v1 v2 v3 s1 s3 = some res) :
    sk_G l (sk_rm 5 0 0) m_X9_goThrough sk_Ex0 (sk_Zm m_X9_goThrough none (sk_mm res)) 0 0 80 [some (.inr (.inr (some (44, 0)))), some (.inl v1), some (.inl v2), some (.inl v3), none, none] [.inl s3, .inr (.inr (some (84, 0))), .inl s1, .inr (.inr (some (85, 0)))] (sk_mm d) := by
  unfold q_X9_goThrough_80 at hq
  obtain ⟨hb1, hq⟩ := sk_ifn hq
  refine sm_iald 81 (sk_td o_X9_goThrough 52 rfl) rfl rfl sz_84 hb1 ?_
  obtain ⟨hb2, hq⟩ := sk_ifn hq
  refine sm_iast 82 (sk_td o_X9_goThrough 53 rfl) rfl rfl sz_85 hb2 ?_
  refine sg_aload_n 83 (sk_td o_X9_goThrough 54 rfl) rfl rfl ?_
  refine sm_getR (86, 0) 86 (sk_td o_X9_goThrough 55 rfl) rfl kf_X9_144 rfl rfl sz_44 rfl ?_
  refine sg_iload_n 87 (sk_td o_X9_goThrough 56 rfl) rfl rfl ?_
  refine sg_bipush (v := (-9 : Int32)) 89 (sk_td o_X9_goThrough 57 rfl) rfl (by decide) ?_
  obtain ⟨hb3, hq⟩ := sk_ifn hq
  refine sm_iast 90 (sk_td o_X9_goThrough 58 rfl) rfl rfl sz_86 hb3 ?_
  exact t_X9_goThrough_90 hrec6 hrec13 hq
def q_X9_goThrough_66 (rec6 : (sk_D × Int32 × Int32) → Option (sk_D)) (rec13 : (sk_D × Int32 × Int32 × Int32) → Option (sk_D)) (d : sk_D) (v1 : Int32) (v2 : Int32) (v3 : Int32) (s1 : Int32) (s3 : Int32) : Option (sk_D) :=
  if sk_bi s3 3 = true then if sk_bi s1 3 = true then (q_X9_goThrough_80 rec6 rec13 (sk_wi d 89 0 s1.toNatClampNeg ((d.1 89 0 s3.toNatClampNeg) + (1 : Int32))) v1 v2 v3 v3 v3) else none else none
set_option maxRecDepth 100000 in
set_option maxHeartbeats 4000000 in
theorem t_X9_goThrough_66 {l : Launch} {rec6 : (sk_D × Int32 × Int32) → Option (sk_D)} {rec13 : (sk_D × Int32 × Int32 × Int32) → Option (sk_D)} {d : sk_D} {v1 : Int32} {v2 : Int32} {v3 : Int32} {s1 : Int32} {s3 : Int32} (hrec6 : ∀ (a : (sk_D × Int32 × Int32)) (res : sk_D), rec6 a = some res → sk_G l (sk_rm 5 0 0) m_X9_goThrough sk_Ex0 (sk_Zm m_X9_goThrough none (sk_mm res)) 0 0 6 [some (.inr (.inr (some (44, 0)))), some (.inl a.2.1), some (.inl a.2.2), none, none, none] [] (sk_mm a.1)) (hrec13 : ∀ (a : (sk_D × Int32 × Int32 × Int32)) (res : sk_D), rec13 a = some res → sk_G l (sk_rm 5 0 0) m_X9_goThrough sk_Ex0 (sk_Zm m_X9_goThrough none (sk_mm res)) 0 0 13 [some (.inr (.inr (some (44, 0)))), some (.inl a.2.1), some (.inl a.2.2.1), some (.inl a.2.2.2), none, none] [] (sk_mm a.1)) {res : sk_D} (hq : q_X9_goThrough_66 rec6 rec13 d v1 v2 v3 s1 s3 = some res) :
    sk_G l (sk_rm 5 0 0) m_X9_goThrough sk_Ex0 (sk_Zm m_X9_goThrough none (sk_mm res)) 0 0 66 [some (.inr (.inr (some (44, 0)))), some (.inl v1), some (.inl v2), some (.inl v3), none, none] [.inl s3, .inr (.inr (some (89, 0))), .inl s1, .inr (.inr (some (89, 0)))] (sk_mm d) := by
  unfold q_X9_goThrough_66 at hq
  obtain ⟨hb1, hq⟩ := sk_ifn hq
  refine sm_iald 67 (sk_td o_X9_goThrough 42 rfl) rfl rfl sz_89 hb1 ?_
  refine sg_iconst (v := (1 : Int32)) 68 (sk_td o_X9_goThrough 43 rfl) rfl (by decide) ?_
  refine sg_iadd 69 (sk_td o_X9_goThrough 44 rfl) rfl ?_
  obtain ⟨hb2, hq⟩ := sk_ifn hq
  refine sm_iast 70 (sk_td o_X9_goThrough 45 rfl) rfl rfl sz_89 hb2 ?_
  refine sg_aload_n 71 (sk_td o_X9_goThrough 46 rfl) rfl rfl ?_
  refine sm_getR (85, 0) 74 (sk_td o_X9_goThrough 47 rfl) rfl kf_X9_141 rfl rfl sz_44 rfl ?_
  refine sg_iload_n 75 (sk_td o_X9_goThrough 48 rfl) rfl rfl ?_
  refine sg_aload_n 76 (sk_td o_X9_goThrough 49 rfl) rfl rfl ?_
  refine sm_getR (84, 0) 79 (sk_td o_X9_goThrough 50 rfl) rfl kf_X9_138 rfl rfl sz_44 rfl ?_
  refine sg_iload_n 80 (sk_td o_X9_goThrough 51 rfl) rfl rfl ?_
  exact t_X9_goThrough_80 hrec6 hrec13 hq
def q_X9_goThrough_13 (rec6 : (sk_D × Int32 × Int32) → Option (sk_D)) (rec13 : (sk_D × Int32 × Int32 × Int32) → Option (sk_D)) (d : sk_D) (v1 : Int32) (v2 : Int32) (v3 : Int32) : Option (sk_D) :=
  if (4 : Int32) ≤ v3 then (l_X9_goThrough_98 rec6 sk_fu (d, v1, v2, (0 : Int32))) else if sk_bi v3 4 = true then if (d.1 86 0 v3.toNatClampNeg) = v2 then if sk_bi v3 4 = true then if sk_bi (d.1 87 0 v3.toNatClampNeg) 16 = true then if sk_bi (d.1 60 0 (d.1 87 0 v3.toNatClampNeg).toNatClampNeg) 3 = true then if sk_bi (((4 : Int32) * (d.1 60 0 (d.1 87 0 v3.toNatClampNeg).toNatClampNeg)) + (d.1 89 0 (d.1 60 0 (d.1 87 0 v3.toNatClampNeg).toNatClampNeg).toNatClampNeg)) 12 = true then (q_X9_goThrough_66 rec6 rec13 (sk_wi d 88 0 (((4 : Int32) * (d.1 60 0 (d.1 87 0 v3.toNatClampNeg).toNatClampNeg)) + (d.1 89 0 (d.1 60 0 (d.1 87 0 v3.toNatClampNeg).toNatClampNeg).toNatClampNeg)).toNatClampNeg v3) v1 v2 v3 (d.1 60 0 (d.1 87 0 v3.toNatClampNeg).toNatClampNeg) (d.1 60 0 (d.1 87 0 v3.toNatClampNeg).toNatClampNeg)) else none else none else none else none else (q_X9_goThrough_90 rec6 rec13 d v1 v2 v3) else none
set_option maxRecDepth 100000 in
set_option maxHeartbeats 4000000 in
theorem t_X9_goThrough_13 {l : Launch} {rec6 : (sk_D × Int32 × Int32) → Option (sk_D)} {rec13 : (sk_D × Int32 × Int32 × Int32) → Option (sk_D)} {d : sk_D} {v1 : Int32} {v2 : Int32} {v3 : Int32} (hrec6 : ∀ (a : (sk_D × Int32 × Int32)) (res : sk_D), rec6 a = some res → sk_G l (sk_rm 5 0 0) m_X9_goThrough sk_Ex0 (sk_Zm m_X9_goThrough none (sk_mm res)) 0 0 6 [some (.inr (.inr (some (44, 0)))), some (.inl a.2.1), some (.inl a.2.2), none, none, none] [] (sk_mm a.1)) (hrec13 : ∀ (a : (sk_D × Int32 × Int32 × Int32)) (res : sk_D), rec13 a = some res → sk_G l (sk_rm 5 0 0) m_X9_goThrough sk_Ex0 (sk_Zm m_X9_goThrough none (sk_mm res)) 0 0 13 [some (.inr (.inr (some (44, 0)))), some (.inl a.2.1), some (.inl a.2.2.1), some (.inl a.2.2.2), none, none] [] (sk_mm a.1)) {res : sk_D} (hq : q_X9_goThrough_13 rec6 rec13 d v1 v2 v3 = some res) :
    sk_G l (sk_rm 5 0 0) m_X9_goThrough sk_Ex0 (sk_Zm m_X9_goThrough none (sk_mm res)) 0 0 13 [some (.inr (.inr (some (44, 0)))), some (.inl v1), some (.inl v2), some (.inl v3), none, none] [] (sk_mm d) := by
  unfold q_X9_goThrough_13 at hq
  refine sg_iload_n 14 (sk_td o_X9_goThrough 9 rfl) rfl rfl ?_
  refine sg_iconst (v := (4 : Int32)) 15 (sk_td o_X9_goThrough 10 rfl) rfl (by decide) ?_
  refine sg_ic_ge 96 18 (sk_td o_X9_goThrough 11 rfl) (by decide) rfl (fun hc => ?_) (fun hc => ?_)
  · rw [if_pos hc] at hq
    refine sg_iconst (v := (0 : Int32)) 97 (sk_td o_X9_goThrough 61 rfl) rfl (by decide) ?_
    refine sg_istore_n 98 [some (.inr (.inr (some (44, 0)))), some (.inl v1), some (.inl v2), some (.inl (0 : Int32)), none, none] (sk_td o_X9_goThrough 62 rfl) rfl rfl (Nat.le_of_ble_eq_true rfl) rfl ?_
    exact lt_X9_goThrough_98 hrec6 sk_fu (d, v1, v2, (0 : Int32)) _ hq
  · rw [if_neg hc] at hq
    refine sg_aload_n 19 (sk_td o_X9_goThrough 12 rfl) rfl rfl ?_
    refine sm_getR (86, 0) 22 (sk_td o_X9_goThrough 13 rfl) rfl kf_X9_144 rfl rfl sz_44 rfl ?_
    refine sg_iload_n 23 (sk_td o_X9_goThrough 14 rfl) rfl rfl ?_
    obtain ⟨hb1, hq⟩ := sk_ifn hq
    refine sm_iald 24 (sk_td o_X9_goThrough 15 rfl) rfl rfl sz_86 hb1 ?_
    refine sg_iload_n 25 (sk_td o_X9_goThrough 16 rfl) rfl rfl ?_
    refine sg_ic_ne 90 28 (sk_td o_X9_goThrough 17 rfl) (by decide) rfl (fun hc => ?_) (fun hc => ?_)
    · rw [if_neg hc] at hq
      exact t_X9_goThrough_90 hrec6 hrec13 hq
    · rw [if_pos hc] at hq
      refine sg_aload_n 29 (sk_td o_X9_goThrough 18 rfl) rfl rfl ?_
      refine sm_getR (60, 0) 32 (sk_td o_X9_goThrough 19 rfl) rfl kf_X9_65 rfl rfl sz_44 rfl ?_
      refine sg_aload_n 33 (sk_td o_X9_goThrough 20 rfl) rfl rfl ?_
      refine sm_getR (87, 0) 36 (sk_td o_X9_goThrough 21 rfl) rfl kf_X9_147 rfl rfl sz_44 rfl ?_
      refine sg_iload_n 37 (sk_td o_X9_goThrough 22 rfl) rfl rfl ?_
      obtain ⟨hb2, hq⟩ := sk_ifn hq
      refine sm_iald 38 (sk_td o_X9_goThrough 23 rfl) rfl rfl sz_87 hb2 ?_
      obtain ⟨hb3, hq⟩ := sk_ifn hq
      refine sm_iald 39 (sk_td o_X9_goThrough 24 rfl) rfl rfl sz_60 hb3 ?_
      refine sg_istore 41 [some (.inr (.inr (some (44, 0)))), some (.inl v1), some (.inl v2), some (.inl v3), some (.inl (d.1 60 0 (d.1 87 0 v3.toNatClampNeg).toNatClampNeg)), none] (sk_td o_X9_goThrough 25 rfl) rfl rfl (Nat.le_of_ble_eq_true rfl) rfl ?_
      refine sg_aload_n 42 (sk_td o_X9_goThrough 26 rfl) rfl rfl ?_
      refine sm_getR (88, 0) 45 (sk_td o_X9_goThrough 27 rfl) rfl kf_X9_150 rfl rfl sz_44 rfl ?_
      refine sg_iconst (v := (4 : Int32)) 46 (sk_td o_X9_goThrough 28 rfl) rfl (by decide) ?_
      refine sg_iload 48 (sk_td o_X9_goThrough 29 rfl) rfl rfl ?_
      refine sg_imul 49 (sk_td o_X9_goThrough 30 rfl) rfl ?_
      refine sg_aload_n 50 (sk_td o_X9_goThrough 31 rfl) rfl rfl ?_
      refine sm_getR (89, 0) 53 (sk_td o_X9_goThrough 32 rfl) rfl kf_X9_153 rfl rfl sz_44 rfl ?_
      refine sg_iload 55 (sk_td o_X9_goThrough 33 rfl) rfl rfl ?_
      obtain ⟨hb4, hq⟩ := sk_ifn hq
      refine sm_iald 56 (sk_td o_X9_goThrough 34 rfl) rfl rfl sz_89 hb4 ?_
      refine sg_iadd 57 (sk_td o_X9_goThrough 35 rfl) rfl ?_
      refine sg_iload_n 58 (sk_td o_X9_goThrough 36 rfl) rfl rfl ?_
      obtain ⟨hb5, hq⟩ := sk_ifn hq
      refine sm_iast 59 (sk_td o_X9_goThrough 37 rfl) rfl rfl sz_88 hb5 ?_
      refine sg_aload_n 60 (sk_td o_X9_goThrough 38 rfl) rfl rfl ?_
      refine sm_getR (89, 0) 63 (sk_td o_X9_goThrough 39 rfl) rfl kf_X9_153 rfl rfl sz_44 rfl ?_
      refine sg_iload 65 (sk_td o_X9_goThrough 40 rfl) rfl rfl ?_
      refine sg_dup2 66 (sk_td o_X9_goThrough 41 rfl) rfl ?_
      refine sk_wk [true, true, true, true, false, true] (ls' := [some (.inr (.inr (some (44, 0)))), some (.inl v1), some (.inl v2), some (.inl v3), none, none]) rfl ?_
      exact t_X9_goThrough_66 hrec6 hrec13 hq
def l_X9_goThrough_13 (rec6 : (sk_D × Int32 × Int32) → Option (sk_D)) (fl : Nat) (a : (sk_D × Int32 × Int32 × Int32)) : Option (sk_D) := sk_it (fun rec13 a => q_X9_goThrough_13 rec6 rec13 a.1 a.2.1 a.2.2.1 a.2.2.2) fl a
theorem lt_X9_goThrough_13 {l : Launch} {rec6 : (sk_D × Int32 × Int32) → Option (sk_D)} (hrec6 : ∀ (a : (sk_D × Int32 × Int32)) (res : sk_D), rec6 a = some res → sk_G l (sk_rm 5 0 0) m_X9_goThrough sk_Ex0 (sk_Zm m_X9_goThrough none (sk_mm res)) 0 0 6 [some (.inr (.inr (some (44, 0)))), some (.inl a.2.1), some (.inl a.2.2), none, none, none] [] (sk_mm a.1)) : ∀ (fl : Nat) (a : (sk_D × Int32 × Int32 × Int32)) (res : sk_D), l_X9_goThrough_13 rec6 fl a = some res → sk_G l (sk_rm 5 0 0) m_X9_goThrough sk_Ex0 (sk_Zm m_X9_goThrough none (sk_mm res)) 0 0 13 [some (.inr (.inr (some (44, 0)))), some (.inl a.2.1), some (.inl a.2.2.1), some (.inl a.2.2.2), none, none] [] (sk_mm a.1) :=
  sk_it_ind (P := fun (a : (sk_D × Int32 × Int32 × Int32)) (res : sk_D) => sk_G l (sk_rm 5 0 0) m_X9_goThrough sk_Ex0 (sk_Zm m_X9_goThrough none (sk_mm res)) 0 0 13 [some (.inr (.inr (some (44, 0)))), some (.inl a.2.1), some (.inl a.2.2.1), some (.inl a.2.2.2), none, none] [] (sk_mm a.1)) (fun rec13 hrec13 a res hq  => t_X9_goThrough_13 hrec6 hrec13 hq )
def q_X9_goThrough_6 (rec6 : (sk_D × Int32 × Int32) → Option (sk_D)) (d : sk_D) (v1 : Int32) (v2 : Int32) : Option (sk_D) :=
  if v1 ≤ v2 then some d else (l_X9_goThrough_13 rec6 sk_fu (d, v1, v2, (0 : Int32)))
set_option maxRecDepth 100000 in
set_option maxHeartbeats 4000000 in
theorem t_X9_goThrough_6 {l : Launch} {rec6 : (sk_D × Int32 × Int32) → Option (sk_D)} {d : sk_D} {v1 : Int32} {v2 : Int32} (hrec6 : ∀ (a : (sk_D × Int32 × Int32)) (res : sk_D), rec6 a = some res → sk_G l (sk_rm 5 0 0) m_X9_goThrough sk_Ex0 (sk_Zm m_X9_goThrough none (sk_mm res)) 0 0 6 [some (.inr (.inr (some (44, 0)))), some (.inl a.2.1), some (.inl a.2.2), none, none, none] [] (sk_mm a.1)) {res : sk_D} (hq : q_X9_goThrough_6 rec6 d v1 v2 = some res) :
    sk_G l (sk_rm 5 0 0) m_X9_goThrough sk_Ex0 (sk_Zm m_X9_goThrough none (sk_mm res)) 0 0 6 [some (.inr (.inr (some (44, 0)))), some (.inl v1), some (.inl v2), none, none, none] [] (sk_mm d) := by
  unfold q_X9_goThrough_6 at hq
  refine sg_iload_n 7 (sk_td o_X9_goThrough 4 rfl) rfl rfl ?_
  refine sg_iload_n 8 (sk_td o_X9_goThrough 5 rfl) rfl rfl ?_
  refine sg_ic_ge 235 11 (sk_td o_X9_goThrough 6 rfl) (by decide) rfl (fun hc => ?_) (fun hc => ?_)
  · rw [if_pos hc] at hq
    obtain rfl := Option.some.inj hq
    exact sg_vret (sk_td o_X9_goThrough 142 rfl) rfl
  · rw [if_neg hc] at hq
    refine sg_iconst (v := (0 : Int32)) 12 (sk_td o_X9_goThrough 7 rfl) rfl (by decide) ?_
    refine sg_istore_n 13 [some (.inr (.inr (some (44, 0)))), some (.inl v1), some (.inl v2), some (.inl (0 : Int32)), none, none] (sk_td o_X9_goThrough 8 rfl) rfl rfl (Nat.le_of_ble_eq_true rfl) rfl ?_
    exact lt_X9_goThrough_13 hrec6 sk_fu (d, v1, v2, (0 : Int32)) _ hq
def l_X9_goThrough_6 (fl : Nat) (a : (sk_D × Int32 × Int32)) : Option (sk_D) := sk_it (fun rec6 a => q_X9_goThrough_6 rec6 a.1 a.2.1 a.2.2) fl a
theorem lt_X9_goThrough_6 {l : Launch} : ∀ (fl : Nat) (a : (sk_D × Int32 × Int32)) (res : sk_D), l_X9_goThrough_6 fl a = some res → sk_G l (sk_rm 5 0 0) m_X9_goThrough sk_Ex0 (sk_Zm m_X9_goThrough none (sk_mm res)) 0 0 6 [some (.inr (.inr (some (44, 0)))), some (.inl a.2.1), some (.inl a.2.2), none, none, none] [] (sk_mm a.1) :=
  sk_it_ind (P := fun (a : (sk_D × Int32 × Int32)) (res : sk_D) => sk_G l (sk_rm 5 0 0) m_X9_goThrough sk_Ex0 (sk_Zm m_X9_goThrough none (sk_mm res)) 0 0 6 [some (.inr (.inr (some (44, 0)))), some (.inl a.2.1), some (.inl a.2.2), none, none, none] [] (sk_mm a.1)) (fun rec6 hrec6 a res hq  => t_X9_goThrough_6 hrec6 hq )
def q_X9_goThrough_0 (d : sk_D) (v1 : Int32) : Option (sk_D) :=
  (q_X9_begin d).bind fun x1 => (l_X9_goThrough_6 sk_fu (x1, v1, (0 : Int32)))
set_option maxRecDepth 100000 in
set_option maxHeartbeats 4000000 in
theorem t_X9_goThrough_0 {l : Launch} {d : sk_D} {v1 : Int32} {res : sk_D} (hq : q_X9_goThrough_0 d v1 = some res) :
    sk_G l (sk_rm 5 0 0) m_X9_goThrough sk_Ex0 (sk_Zm m_X9_goThrough none (sk_mm res)) 0 0 0 [some (.inr (.inr (some (44, 0)))), some (.inl v1), none, none, none, none] [] (sk_mm d) := by
  unfold q_X9_goThrough_0 at hq
  refine sg_aload_n 1 (sk_td o_X9_goThrough 0 rfl) rfl rfl ?_
  obtain ⟨x1, hr_x1, hq⟩ := sk_bnd hq
  refine sm_callV0v 4 (s_X9_begin hr_x1) (sk_td o_X9_goThrough 1 rfl) rfl lv_X9_297 rfl rfl rfl sz_44 (sk_rok (Nat.le_of_ble_eq_true rfl) (Nat.le_of_ble_eq_true rfl) rfl rfl) (Nat.le_of_ble_eq_true rfl) ?_
  refine sg_iconst (v := (0 : Int32)) 5 (sk_td o_X9_goThrough 2 rfl) rfl (by decide) ?_
  refine sg_istore_n 6 [some (.inr (.inr (some (44, 0)))), some (.inl v1), some (.inl (0 : Int32)), none, none, none] (sk_td o_X9_goThrough 3 rfl) rfl rfl (Nat.le_of_ble_eq_true rfl) rfl ?_
  exact lt_X9_goThrough_6 sk_fu (x1, v1, (0 : Int32)) _ hq
def q_X9_goThrough (d : sk_D) (v1 : Int32) : Option (sk_D) := q_X9_goThrough_0 d v1 
theorem s_X9_goThrough {l : Launch} {d : sk_D} {v1 : Int32} {res : sk_D} (hq : q_X9_goThrough d v1 = some res) : sk_M l 5 m_X9_goThrough [.inr (.inr (some (44, 0))), .inl v1] (sk_mm d) none (sk_mm res) :=
  sk_enter (by decide) (fun _ => Nat.le_of_ble_eq_true rfl) (Nat.le_of_ble_eq_true rfl) (t_X9_goThrough_0 hq )
def q_X9_isTime_0 (d : sk_D) (v0 : Int32) : Option (Int32) :=
  (q_X9_within d v0 (1 : Int32) (180 : Int32)).bind fun x1 => if sk_nb x1 = true then some x1 else none
set_option maxRecDepth 100000 in
set_option maxHeartbeats 4000000 in
theorem t_X9_isTime_0 {l : Launch} {d : sk_D} {v0 : Int32} {res : Int32} (hq : q_X9_isTime_0 d v0 = some res) :
    sk_G l (sk_rm 2 0 0) m_X9_isTime sk_Ex0 (sk_Zm m_X9_isTime (some (.inl res)) (sk_mm d)) 0 0 0 [some (.inl v0)] [] (sk_mm d) := by
  unfold q_X9_isTime_0 at hq
  refine sg_iload_n 1 (sk_td o_X9_isTime 0 rfl) rfl rfl ?_
  refine sg_iconst (v := (1 : Int32)) 2 (sk_td o_X9_isTime 1 rfl) rfl (by decide) ?_
  refine sg_sipush (v := (180 : Int32)) 5 (sk_td o_X9_isTime 2 rfl) rfl (by decide) ?_
  obtain ⟨x1, hr_x1, hq⟩ := sk_bnd hq
  refine sm_callS3i 8 (s_X9_within hr_x1) (sk_td o_X9_isTime 3 rfl) rfl ls_X9_168 rfl (sk_rok (Nat.le_of_ble_eq_true rfl) (Nat.le_of_ble_eq_true rfl) rfl rfl) (Nat.le_of_ble_eq_true rfl) ?_
  obtain ⟨hn2, hq⟩ := sk_ifn hq
  obtain rfl := Option.some.inj hq
  exact sg_iret (sk_td o_X9_isTime 4 rfl) rfl (sk_nb.z hn2)
def q_X9_isTime (d : sk_D) (v0 : Int32) : Option (Int32) := q_X9_isTime_0 d v0 
theorem s_X9_isTime {l : Launch} {d : sk_D} {v0 : Int32} {res : Int32} (hq : q_X9_isTime d v0 = some res) : sk_M l 2 m_X9_isTime [.inl v0] (sk_mm d) (some (.inl res)) (sk_mm d) :=
  sk_enter (by decide) (fun _ => Nat.le_of_ble_eq_true rfl) (Nat.le_of_ble_eq_true rfl) (t_X9_isTime_0 hq )
def q_X9_simulate_91 (rec64 : (sk_D × Int32 × Int32) → Option (Int32 × sk_D)) (d : sk_D) (v2 : Int32) (v3 : Int32) (s1 : Int32) (s3 : Int32) : Option (Int32 × sk_D) :=
  if sk_bi s3 3 = true then if sk_bi s1 3 = true then (rec64 ((sk_wi d 74 0 s1.toNatClampNeg (d.1 93 0 s3.toNatClampNeg)), v2, (v3 + (1 : Int32)))) else none else none
set_option maxRecDepth 100000 in
set_option maxHeartbeats 4000000 in
theorem t_X9_simulate_91 {l : Launch} {rec64 : (sk_D × Int32 × Int32) → Option (Int32 × sk_D)} {d : sk_D} {v2 : Int32} {v3 : Int32} {s1 : Int32} {s3 : Int32} (hrec64 : ∀ (a : (sk_D × Int32 × Int32)) (res : Int32 × sk_D), rec64 a = some res → sk_G l (sk_rm 6 0 0) m_X9_simulate sk_Ex0 (sk_Zm m_X9_simulate (some (.inl res.1)) (sk_mm res.2)) 0 0 64 [some (.inr (.inr (some (44, 0)))), none, some (.inl a.2.1), some (.inl a.2.2)] [] (sk_mm a.1)) {res : Int32 × sk_D} (hq : q_X9_simulate_91 rec64 d v2 v3 s1 s3 = some res) :
    sk_G l (sk_rm 6 0 0) m_X9_simulate sk_Ex0 (sk_Zm m_X9_simulate (some (.inl res.1)) (sk_mm res.2)) 0 0 91 [some (.inr (.inr (some (44, 0)))), none, some (.inl v2), some (.inl v3)] [.inl s3, .inr (.inr (some (93, 0))), .inl s1, .inr (.inr (some (74, 0)))] (sk_mm d) := by
  unfold q_X9_simulate_91 at hq
  obtain ⟨hb1, hq⟩ := sk_ifn hq
  refine sm_iald 92 (sk_td o_X9_simulate 59 rfl) rfl rfl sz_93 hb1 ?_
  obtain ⟨hb2, hq⟩ := sk_ifn hq
  refine sm_iast 93 (sk_td o_X9_simulate 60 rfl) rfl rfl sz_74 hb2 ?_
  refine sg_iinc (v3 + (1 : Int32)) 96 [some (.inr (.inr (some (44, 0)))), none, some (.inl v2), some (.inl (v3 + (1 : Int32)))] (sk_td o_X9_simulate 61 rfl) rfl rfl rfl rfl (Nat.le_of_ble_eq_true rfl) rfl ?_
  refine sg_goto 64 (sk_td o_X9_simulate 62 rfl) (by decide) ?_
  exact hrec64 ((sk_wi d 74 0 s1.toNatClampNeg (d.1 93 0 s3.toNatClampNeg)), v2, (v3 + (1 : Int32))) _ hq
def q_X9_simulate_64 (rec64 : (sk_D × Int32 × Int32) → Option (Int32 × sk_D)) (d : sk_D) (v2 : Int32) (v3 : Int32) : Option (Int32 × sk_D) :=
  if (3 : Int32) ≤ v3 then some (v2, d) else if sk_bi v3 3 = true then if sk_bi v3 3 = true then (q_X9_simulate_91 rec64 (sk_wi d 73 0 v3.toNatClampNeg (d.1 92 0 v3.toNatClampNeg)) v2 v3 v3 v3) else none else none
set_option maxRecDepth 100000 in
set_option maxHeartbeats 4000000 in
theorem t_X9_simulate_64 {l : Launch} {rec64 : (sk_D × Int32 × Int32) → Option (Int32 × sk_D)} {d : sk_D} {v2 : Int32} {v3 : Int32} (hrec64 : ∀ (a : (sk_D × Int32 × Int32)) (res : Int32 × sk_D), rec64 a = some res → sk_G l (sk_rm 6 0 0) m_X9_simulate sk_Ex0 (sk_Zm m_X9_simulate (some (.inl res.1)) (sk_mm res.2)) 0 0 64 [some (.inr (.inr (some (44, 0)))), none, some (.inl a.2.1), some (.inl a.2.2)] [] (sk_mm a.1)) {res : Int32 × sk_D} (hq : q_X9_simulate_64 rec64 d v2 v3 = some res) :
    sk_G l (sk_rm 6 0 0) m_X9_simulate sk_Ex0 (sk_Zm m_X9_simulate (some (.inl res.1)) (sk_mm res.2)) 0 0 64 [some (.inr (.inr (some (44, 0)))), none, some (.inl v2), some (.inl v3)] [] (sk_mm d) := by
  unfold q_X9_simulate_64 at hq
  refine sg_iload_n 65 (sk_td o_X9_simulate 42 rfl) rfl rfl ?_
  refine sg_iconst (v := (3 : Int32)) 66 (sk_td o_X9_simulate 43 rfl) rfl (by decide) ?_
  refine sg_ic_ge 99 69 (sk_td o_X9_simulate 44 rfl) (by decide) rfl (fun hc => ?_) (fun hc => ?_)
  · rw [if_pos hc] at hq
    refine sg_iload_n 100 (sk_td o_X9_simulate 63 rfl) rfl rfl ?_
    obtain rfl := Option.some.inj hq
    exact sg_iret (sk_td o_X9_simulate 64 rfl) rfl rfl
  · rw [if_neg hc] at hq
    refine sg_aload_n 70 (sk_td o_X9_simulate 45 rfl) rfl rfl ?_
    refine sm_getR (73, 0) 73 (sk_td o_X9_simulate 46 rfl) rfl kf_X9_104 rfl rfl sz_44 rfl ?_
    refine sg_iload_n 74 (sk_td o_X9_simulate 47 rfl) rfl rfl ?_
    refine sg_aload_n 75 (sk_td o_X9_simulate 48 rfl) rfl rfl ?_
    refine sm_getR (92, 0) 78 (sk_td o_X9_simulate 49 rfl) rfl kf_X9_162 rfl rfl sz_44 rfl ?_
    refine sg_iload_n 79 (sk_td o_X9_simulate 50 rfl) rfl rfl ?_
    obtain ⟨hb1, hq⟩ := sk_ifn hq
    refine sm_iald 80 (sk_td o_X9_simulate 51 rfl) rfl rfl sz_92 hb1 ?_
    obtain ⟨hb2, hq⟩ := sk_ifn hq
    refine sm_iast 81 (sk_td o_X9_simulate 52 rfl) rfl rfl sz_73 hb2 ?_
    refine sg_aload_n 82 (sk_td o_X9_simulate 53 rfl) rfl rfl ?_
    refine sm_getR (74, 0) 85 (sk_td o_X9_simulate 54 rfl) rfl kf_X9_107 rfl rfl sz_44 rfl ?_
    refine sg_iload_n 86 (sk_td o_X9_simulate 55 rfl) rfl rfl ?_
    refine sg_aload_n 87 (sk_td o_X9_simulate 56 rfl) rfl rfl ?_
    refine sm_getR (93, 0) 90 (sk_td o_X9_simulate 57 rfl) rfl kf_X9_165 rfl rfl sz_44 rfl ?_
    refine sg_iload_n 91 (sk_td o_X9_simulate 58 rfl) rfl rfl ?_
    exact t_X9_simulate_91 hrec64 hq
def l_X9_simulate_64 (fl : Nat) (a : (sk_D × Int32 × Int32)) : Option (Int32 × sk_D) := sk_it (fun rec64 a => q_X9_simulate_64 rec64 a.1 a.2.1 a.2.2) fl a
theorem lt_X9_simulate_64 {l : Launch} : ∀ (fl : Nat) (a : (sk_D × Int32 × Int32)) (res : Int32 × sk_D), l_X9_simulate_64 fl a = some res → sk_G l (sk_rm 6 0 0) m_X9_simulate sk_Ex0 (sk_Zm m_X9_simulate (some (.inl res.1)) (sk_mm res.2)) 0 0 64 [some (.inr (.inr (some (44, 0)))), none, some (.inl a.2.1), some (.inl a.2.2)] [] (sk_mm a.1) :=
  sk_it_ind (P := fun (a : (sk_D × Int32 × Int32)) (res : Int32 × sk_D) => sk_G l (sk_rm 6 0 0) m_X9_simulate sk_Ex0 (sk_Zm m_X9_simulate (some (.inl res.1)) (sk_mm res.2)) 0 0 64 [some (.inr (.inr (some (44, 0)))), none, some (.inl a.2.1), some (.inl a.2.2)] [] (sk_mm a.1)) (fun rec64 hrec64 a res hq  => t_X9_simulate_64 hrec64 hq )
def q_X9_simulate_53 (rec18 : (sk_D × Int32 × Int32) → Option (Int32 × sk_D)) (d : sk_D) (v3 : Int32) (s0 : Int32) (s2 : Int32) : Option (Int32 × sk_D) :=
  if sk_bi s2 4 = true then (rec18 (d, (s0 + (d.1 90 0 s2.toNatClampNeg)), (v3 + (1 : Int32)))) else none
set_option maxRecDepth 100000 in
set_option maxHeartbeats 4000000 in
theorem t_X9_simulate_53 {l : Launch} {rec18 : (sk_D × Int32 × Int32) → Option (Int32 × sk_D)} {d : sk_D} {v3 : Int32} {s0 : Int32} {s2 : Int32} (hrec18 : ∀ (a : (sk_D × Int32 × Int32)) (res : Int32 × sk_D), rec18 a = some res → sk_G l (sk_rm 6 0 0) m_X9_simulate sk_Ex0 (sk_Zm m_X9_simulate (some (.inl res.1)) (sk_mm res.2)) 0 0 18 [some (.inr (.inr (some (44, 0)))), none, some (.inl a.2.1), some (.inl a.2.2)] [] (sk_mm a.1)) {res : Int32 × sk_D} (hq : q_X9_simulate_53 rec18 d v3 s0 s2 = some res) :
    sk_G l (sk_rm 6 0 0) m_X9_simulate sk_Ex0 (sk_Zm m_X9_simulate (some (.inl res.1)) (sk_mm res.2)) 0 0 53 [some (.inr (.inr (some (44, 0)))), none, none, some (.inl v3)] [.inl s2, .inr (.inr (some (90, 0))), .inl s0] (sk_mm d) := by
  unfold q_X9_simulate_53 at hq
  obtain ⟨hb1, hq⟩ := sk_ifn hq
  refine sm_iald 54 (sk_td o_X9_simulate 35 rfl) rfl rfl sz_90 hb1 ?_
  refine sg_iadd 55 (sk_td o_X9_simulate 36 rfl) rfl ?_
  refine sg_istore_n 56 [some (.inr (.inr (some (44, 0)))), none, some (.inl (s0 + (d.1 90 0 s2.toNatClampNeg))), some (.inl v3)] (sk_td o_X9_simulate 37 rfl) rfl rfl (Nat.le_of_ble_eq_true rfl) rfl ?_
  refine sg_iinc (v3 + (1 : Int32)) 59 [some (.inr (.inr (some (44, 0)))), none, some (.inl (s0 + (d.1 90 0 s2.toNatClampNeg))), some (.inl (v3 + (1 : Int32)))] (sk_td o_X9_simulate 38 rfl) rfl rfl rfl rfl (Nat.le_of_ble_eq_true rfl) rfl ?_
  refine sg_goto 18 (sk_td o_X9_simulate 39 rfl) (by decide) ?_
  exact hrec18 (d, (s0 + (d.1 90 0 s2.toNatClampNeg)), (v3 + (1 : Int32))) _ hq
def q_X9_simulate_45 (rec18 : (sk_D × Int32 × Int32) → Option (Int32 × sk_D)) (d : sk_D) (v2 : Int32) (v3 : Int32) (s1 : Int32) (s3 : Int32) : Option (Int32 × sk_D) :=
  if sk_bi s3 4 = true then if sk_bi s1 4 = true then (q_X9_simulate_53 rec18 (sk_wi d 72 0 s1.toNatClampNeg (d.1 91 0 s3.toNatClampNeg)) v3 v2 v3) else none else none
set_option maxRecDepth 100000 in
set_option maxHeartbeats 4000000 in
theorem t_X9_simulate_45 {l : Launch} {rec18 : (sk_D × Int32 × Int32) → Option (Int32 × sk_D)} {d : sk_D} {v2 : Int32} {v3 : Int32} {s1 : Int32} {s3 : Int32} (hrec18 : ∀ (a : (sk_D × Int32 × Int32)) (res : Int32 × sk_D), rec18 a = some res → sk_G l (sk_rm 6 0 0) m_X9_simulate sk_Ex0 (sk_Zm m_X9_simulate (some (.inl res.1)) (sk_mm res.2)) 0 0 18 [some (.inr (.inr (some (44, 0)))), none, some (.inl a.2.1), some (.inl a.2.2)] [] (sk_mm a.1)) {res : Int32 × sk_D} (hq : q_X9_simulate_45 rec18 d v2 v3 s1 s3 = some res) :
    sk_G l (sk_rm 6 0 0) m_X9_simulate sk_Ex0 (sk_Zm m_X9_simulate (some (.inl res.1)) (sk_mm res.2)) 0 0 45 [some (.inr (.inr (some (44, 0)))), none, some (.inl v2), some (.inl v3)] [.inl s3, .inr (.inr (some (91, 0))), .inl s1, .inr (.inr (some (72, 0)))] (sk_mm d) := by
  unfold q_X9_simulate_45 at hq
  obtain ⟨hb1, hq⟩ := sk_ifn hq
  refine sm_iald 46 (sk_td o_X9_simulate 29 rfl) rfl rfl sz_91 hb1 ?_
  obtain ⟨hb2, hq⟩ := sk_ifn hq
  refine sm_iast 47 (sk_td o_X9_simulate 30 rfl) rfl rfl sz_72 hb2 ?_
  refine sg_iload_n 48 (sk_td o_X9_simulate 31 rfl) rfl rfl ?_
  refine sg_aload_n 49 (sk_td o_X9_simulate 32 rfl) rfl rfl ?_
  refine sm_getR (90, 0) 52 (sk_td o_X9_simulate 33 rfl) rfl kf_X9_156 rfl rfl sz_44 rfl ?_
  refine sg_iload_n 53 (sk_td o_X9_simulate 34 rfl) rfl rfl ?_
  refine sk_wk [true, true, false, true] (ls' := [some (.inr (.inr (some (44, 0)))), none, none, some (.inl v3)]) rfl ?_
  exact t_X9_simulate_53 hrec18 hq
def q_X9_simulate_18 (rec18 : (sk_D × Int32 × Int32) → Option (Int32 × sk_D)) (d : sk_D) (v2 : Int32) (v3 : Int32) : Option (Int32 × sk_D) :=
  if (4 : Int32) ≤ v3 then (l_X9_simulate_64 sk_fu (d, v2, (0 : Int32))) else if sk_bi v3 4 = true then if sk_bi v3 4 = true then (q_X9_simulate_45 rec18 (sk_wi d 71 0 v3.toNatClampNeg (d.1 90 0 v3.toNatClampNeg)) v2 v3 v3 v3) else none else none
set_option maxRecDepth 100000 in
set_option maxHeartbeats 4000000 in
theorem t_X9_simulate_18 {l : Launch} {rec18 : (sk_D × Int32 × Int32) → Option (Int32 × sk_D)} {d : sk_D} {v2 : Int32} {v3 : Int32} (hrec18 : ∀ (a : (sk_D × Int32 × Int32)) (res : Int32 × sk_D), rec18 a = some res → sk_G l (sk_rm 6 0 0) m_X9_simulate sk_Ex0 (sk_Zm m_X9_simulate (some (.inl res.1)) (sk_mm res.2)) 0 0 18 [some (.inr (.inr (some (44, 0)))), none, some (.inl a.2.1), some (.inl a.2.2)] [] (sk_mm a.1)) {res : Int32 × sk_D} (hq : q_X9_simulate_18 rec18 d v2 v3 = some res) :
    sk_G l (sk_rm 6 0 0) m_X9_simulate sk_Ex0 (sk_Zm m_X9_simulate (some (.inl res.1)) (sk_mm res.2)) 0 0 18 [some (.inr (.inr (some (44, 0)))), none, some (.inl v2), some (.inl v3)] [] (sk_mm d) := by
  unfold q_X9_simulate_18 at hq
  refine sg_iload_n 19 (sk_td o_X9_simulate 12 rfl) rfl rfl ?_
  refine sg_iconst (v := (4 : Int32)) 20 (sk_td o_X9_simulate 13 rfl) rfl (by decide) ?_
  refine sg_ic_ge 62 23 (sk_td o_X9_simulate 14 rfl) (by decide) rfl (fun hc => ?_) (fun hc => ?_)
  · rw [if_pos hc] at hq
    refine sg_iconst (v := (0 : Int32)) 63 (sk_td o_X9_simulate 40 rfl) rfl (by decide) ?_
    refine sg_istore_n 64 [some (.inr (.inr (some (44, 0)))), none, some (.inl v2), some (.inl (0 : Int32))] (sk_td o_X9_simulate 41 rfl) rfl rfl (Nat.le_of_ble_eq_true rfl) rfl ?_
    exact lt_X9_simulate_64 sk_fu (d, v2, (0 : Int32)) _ hq
  · rw [if_neg hc] at hq
    refine sg_aload_n 24 (sk_td o_X9_simulate 15 rfl) rfl rfl ?_
    refine sm_getR (71, 0) 27 (sk_td o_X9_simulate 16 rfl) rfl kf_X9_98 rfl rfl sz_44 rfl ?_
    refine sg_iload_n 28 (sk_td o_X9_simulate 17 rfl) rfl rfl ?_
    refine sg_aload_n 29 (sk_td o_X9_simulate 18 rfl) rfl rfl ?_
    refine sm_getR (90, 0) 32 (sk_td o_X9_simulate 19 rfl) rfl kf_X9_156 rfl rfl sz_44 rfl ?_
    refine sg_iload_n 33 (sk_td o_X9_simulate 20 rfl) rfl rfl ?_
    obtain ⟨hb1, hq⟩ := sk_ifn hq
    refine sm_iald 34 (sk_td o_X9_simulate 21 rfl) rfl rfl sz_90 hb1 ?_
    obtain ⟨hb2, hq⟩ := sk_ifn hq
    refine sm_iast 35 (sk_td o_X9_simulate 22 rfl) rfl rfl sz_71 hb2 ?_
    refine sg_aload_n 36 (sk_td o_X9_simulate 23 rfl) rfl rfl ?_
    refine sm_getR (72, 0) 39 (sk_td o_X9_simulate 24 rfl) rfl kf_X9_101 rfl rfl sz_44 rfl ?_
    refine sg_iload_n 40 (sk_td o_X9_simulate 25 rfl) rfl rfl ?_
    refine sg_aload_n 41 (sk_td o_X9_simulate 26 rfl) rfl rfl ?_
    refine sm_getR (91, 0) 44 (sk_td o_X9_simulate 27 rfl) rfl kf_X9_159 rfl rfl sz_44 rfl ?_
    refine sg_iload_n 45 (sk_td o_X9_simulate 28 rfl) rfl rfl ?_
    exact t_X9_simulate_45 hrec18 hq
def l_X9_simulate_18 (fl : Nat) (a : (sk_D × Int32 × Int32)) : Option (Int32 × sk_D) := sk_it (fun rec18 a => q_X9_simulate_18 rec18 a.1 a.2.1 a.2.2) fl a
theorem lt_X9_simulate_18 {l : Launch} : ∀ (fl : Nat) (a : (sk_D × Int32 × Int32)) (res : Int32 × sk_D), l_X9_simulate_18 fl a = some res → sk_G l (sk_rm 6 0 0) m_X9_simulate sk_Ex0 (sk_Zm m_X9_simulate (some (.inl res.1)) (sk_mm res.2)) 0 0 18 [some (.inr (.inr (some (44, 0)))), none, some (.inl a.2.1), some (.inl a.2.2)] [] (sk_mm a.1) :=
  sk_it_ind (P := fun (a : (sk_D × Int32 × Int32)) (res : Int32 × sk_D) => sk_G l (sk_rm 6 0 0) m_X9_simulate sk_Ex0 (sk_Zm m_X9_simulate (some (.inl res.1)) (sk_mm res.2)) 0 0 18 [some (.inr (.inr (some (44, 0)))), none, some (.inl a.2.1), some (.inl a.2.2)] [] (sk_mm a.1)) (fun rec18 hrec18 a res hq  => t_X9_simulate_18 hrec18 hq )
def q_X9_simulate_0 (d : sk_D) (v1 : Int32) : Option (Int32 × sk_D) :=
  (q_X9_isTime d v1).bind fun x1 => if x1 = 0 then some ((-1 : Int32), d) else (q_X9_goThrough d v1).bind fun x2 => (l_X9_simulate_18 sk_fu (x2, (0 : Int32), (0 : Int32)))
set_option maxRecDepth 100000 in
set_option maxHeartbeats 4000000 in
theorem t_X9_simulate_0 {l : Launch} {d : sk_D} {v1 : Int32} {res : Int32 × sk_D} (hq : q_X9_simulate_0 d v1 = some res) :
    sk_G l (sk_rm 6 0 0) m_X9_simulate sk_Ex0 (sk_Zm m_X9_simulate (some (.inl res.1)) (sk_mm res.2)) 0 0 0 [some (.inr (.inr (some (44, 0)))), some (.inl v1), none, none] [] (sk_mm d) := by
  unfold q_X9_simulate_0 at hq
  refine sg_iload_n 1 (sk_td o_X9_simulate 0 rfl) rfl rfl ?_
  obtain ⟨x1, hr_x1, hq⟩ := sk_bnd hq
  refine sm_callS1i 4 (s_X9_isTime hr_x1) (sk_td o_X9_simulate 1 rfl) rfl ls_X9_303 rfl (sk_rok (Nat.le_of_ble_eq_true rfl) (Nat.le_of_ble_eq_true rfl) rfl rfl) (Nat.le_of_ble_eq_true rfl) ?_
  refine sg_if_ne 9 7 (sk_td o_X9_simulate 2 rfl) (by decide) rfl (fun hc => ?_) (fun hc => ?_)
  · rw [if_neg hc] at hq
    refine sg_aload_n 10 (sk_td o_X9_simulate 5 rfl) rfl rfl ?_
    refine sg_iload_n 11 (sk_td o_X9_simulate 6 rfl) rfl rfl ?_
    obtain ⟨x2, hr_x2, hq⟩ := sk_bnd hq
    refine sm_callV1v 14 (s_X9_goThrough hr_x2) (sk_td o_X9_simulate 7 rfl) rfl lv_X9_306 rfl rfl rfl sz_44 (sk_rok (Nat.le_of_ble_eq_true rfl) (Nat.le_of_ble_eq_true rfl) rfl rfl) (Nat.le_of_ble_eq_true rfl) ?_
    refine sg_iconst (v := (0 : Int32)) 15 (sk_td o_X9_simulate 8 rfl) rfl (by decide) ?_
    refine sg_istore_n 16 [some (.inr (.inr (some (44, 0)))), some (.inl v1), some (.inl (0 : Int32)), none] (sk_td o_X9_simulate 9 rfl) rfl rfl (Nat.le_of_ble_eq_true rfl) rfl ?_
    refine sg_iconst (v := (0 : Int32)) 17 (sk_td o_X9_simulate 10 rfl) rfl (by decide) ?_
    refine sg_istore_n 18 [some (.inr (.inr (some (44, 0)))), some (.inl v1), some (.inl (0 : Int32)), some (.inl (0 : Int32))] (sk_td o_X9_simulate 11 rfl) rfl rfl (Nat.le_of_ble_eq_true rfl) rfl ?_
    refine sk_wk [true, false, true, true] (ls' := [some (.inr (.inr (some (44, 0)))), none, some (.inl (0 : Int32)), some (.inl (0 : Int32))]) rfl ?_
    exact lt_X9_simulate_18 sk_fu (x2, (0 : Int32), (0 : Int32)) _ hq
  · rw [if_pos hc] at hq
    refine sg_iconst (v := (-1 : Int32)) 8 (sk_td o_X9_simulate 3 rfl) rfl (by decide) ?_
    obtain rfl := Option.some.inj hq
    exact sg_iret (sk_td o_X9_simulate 4 rfl) rfl rfl
def q_X9_simulate (d : sk_D) (v1 : Int32) : Option (Int32 × sk_D) := q_X9_simulate_0 d v1 
theorem s_X9_simulate {l : Launch} {d : sk_D} {v1 : Int32} {res : Int32 × sk_D} (hq : q_X9_simulate d v1 = some res) : sk_M l 6 m_X9_simulate [.inr (.inr (some (44, 0))), .inl v1] (sk_mm d) (some (.inl res.1)) (sk_mm res.2) :=
  sk_enter (by decide) (fun _ => Nat.le_of_ble_eq_true rfl) (Nat.le_of_ble_eq_true rfl) (t_X9_simulate_0 hq )
def q_X9_waited_0 (d : sk_D) (v1 : Int32) : Option (Int32) :=
  (q_X9_hasGroup d v1).bind fun x1 => if x1 = 0 then some (-1 : Int32) else if sk_bi v1 4 = true then some (d.1 71 0 v1.toNatClampNeg) else none
set_option maxRecDepth 100000 in
set_option maxHeartbeats 4000000 in
theorem t_X9_waited_0 {l : Launch} {d : sk_D} {v1 : Int32} {res : Int32} (hq : q_X9_waited_0 d v1 = some res) :
    sk_G l (sk_rm 3 0 0) m_X9_waited sk_Ex0 (sk_Zm m_X9_waited (some (.inl res)) (sk_mm d)) 0 0 0 [some (.inr (.inr (some (44, 0)))), some (.inl v1)] [] (sk_mm d) := by
  unfold q_X9_waited_0 at hq
  refine sg_aload_n 1 (sk_td o_X9_waited 0 rfl) rfl rfl ?_
  refine sg_iload_n 2 (sk_td o_X9_waited 1 rfl) rfl rfl ?_
  obtain ⟨x1, hr_x1, hq⟩ := sk_bnd hq
  refine sm_callV1i 5 (s_X9_hasGroup hr_x1) (sk_td o_X9_waited 2 rfl) rfl lv_X9_227 rfl rfl rfl sz_44 (sk_rok (Nat.le_of_ble_eq_true rfl) (Nat.le_of_ble_eq_true rfl) rfl rfl) (Nat.le_of_ble_eq_true rfl) ?_
  refine sg_if_eq 17 8 (sk_td o_X9_waited 3 rfl) (by decide) rfl (fun hc => ?_) (fun hc => ?_)
  · rw [if_pos hc] at hq
    refine sg_iconst (v := (-1 : Int32)) 18 (sk_td o_X9_waited 9 rfl) rfl (by decide) ?_
    obtain rfl := Option.some.inj hq
    exact sg_iret (sk_td o_X9_waited 10 rfl) rfl rfl
  · rw [if_neg hc] at hq
    refine sg_aload_n 9 (sk_td o_X9_waited 4 rfl) rfl rfl ?_
    refine sm_getR (71, 0) 12 (sk_td o_X9_waited 5 rfl) rfl kf_X9_98 rfl rfl sz_44 rfl ?_
    refine sg_iload_n 13 (sk_td o_X9_waited 6 rfl) rfl rfl ?_
    obtain ⟨hb2, hq⟩ := sk_ifn hq
    refine sm_iald 14 (sk_td o_X9_waited 7 rfl) rfl rfl sz_71 hb2 ?_
    refine sg_goto 18 (sk_td o_X9_waited 8 rfl) (by decide) ?_
    obtain rfl := Option.some.inj hq
    exact sg_iret (sk_td o_X9_waited 10 rfl) rfl rfl
def q_X9_waited (d : sk_D) (v1 : Int32) : Option (Int32) := q_X9_waited_0 d v1 
theorem s_X9_waited {l : Launch} {d : sk_D} {v1 : Int32} {res : Int32} (hq : q_X9_waited d v1 = some res) : sk_M l 3 m_X9_waited [.inr (.inr (some (44, 0))), .inl v1] (sk_mm d) (some (.inl res)) (sk_mm d) :=
  sk_enter (by decide) (fun _ => Nat.le_of_ble_eq_true rfl) (Nat.le_of_ble_eq_true rfl) (t_X9_waited_0 hq )
def q_X9_rides_0 (d : sk_D) (v1 : Int32) : Option (Int32) :=
  (q_X9_hasGroup d v1).bind fun x1 => if x1 = 0 then some (-1 : Int32) else if sk_bi v1 4 = true then some (d.1 72 0 v1.toNatClampNeg) else none
set_option maxRecDepth 100000 in
set_option maxHeartbeats 4000000 in
theorem t_X9_rides_0 {l : Launch} {d : sk_D} {v1 : Int32} {res : Int32} (hq : q_X9_rides_0 d v1 = some res) :
    sk_G l (sk_rm 3 0 0) m_X9_rides sk_Ex0 (sk_Zm m_X9_rides (some (.inl res)) (sk_mm d)) 0 0 0 [some (.inr (.inr (some (44, 0)))), some (.inl v1)] [] (sk_mm d) := by
  unfold q_X9_rides_0 at hq
  refine sg_aload_n 1 (sk_td o_X9_rides 0 rfl) rfl rfl ?_
  refine sg_iload_n 2 (sk_td o_X9_rides 1 rfl) rfl rfl ?_
  obtain ⟨x1, hr_x1, hq⟩ := sk_bnd hq
  refine sm_callV1i 5 (s_X9_hasGroup hr_x1) (sk_td o_X9_rides 2 rfl) rfl lv_X9_227 rfl rfl rfl sz_44 (sk_rok (Nat.le_of_ble_eq_true rfl) (Nat.le_of_ble_eq_true rfl) rfl rfl) (Nat.le_of_ble_eq_true rfl) ?_
  refine sg_if_eq 17 8 (sk_td o_X9_rides 3 rfl) (by decide) rfl (fun hc => ?_) (fun hc => ?_)
  · rw [if_pos hc] at hq
    refine sg_iconst (v := (-1 : Int32)) 18 (sk_td o_X9_rides 9 rfl) rfl (by decide) ?_
    obtain rfl := Option.some.inj hq
    exact sg_iret (sk_td o_X9_rides 10 rfl) rfl rfl
  · rw [if_neg hc] at hq
    refine sg_aload_n 9 (sk_td o_X9_rides 4 rfl) rfl rfl ?_
    refine sm_getR (72, 0) 12 (sk_td o_X9_rides 5 rfl) rfl kf_X9_101 rfl rfl sz_44 rfl ?_
    refine sg_iload_n 13 (sk_td o_X9_rides 6 rfl) rfl rfl ?_
    obtain ⟨hb2, hq⟩ := sk_ifn hq
    refine sm_iald 14 (sk_td o_X9_rides 7 rfl) rfl rfl sz_72 hb2 ?_
    refine sg_goto 18 (sk_td o_X9_rides 8 rfl) (by decide) ?_
    obtain rfl := Option.some.inj hq
    exact sg_iret (sk_td o_X9_rides 10 rfl) rfl rfl
def q_X9_rides (d : sk_D) (v1 : Int32) : Option (Int32) := q_X9_rides_0 d v1 
theorem s_X9_rides {l : Launch} {d : sk_D} {v1 : Int32} {res : Int32} (hq : q_X9_rides d v1 = some res) : sk_M l 3 m_X9_rides [.inr (.inr (some (44, 0))), .inl v1] (sk_mm d) (some (.inl res)) (sk_mm d) :=
  sk_enter (by decide) (fun _ => Nat.le_of_ble_eq_true rfl) (Nat.le_of_ble_eq_true rfl) (t_X9_rides_0 hq )
def q_X9_longestQueue_0 (d : sk_D) (v1 : Int32) : Option (Int32) :=
  (q_X9_hasLift d v1).bind fun x1 => if x1 = 0 then some (-1 : Int32) else if sk_bi v1 3 = true then some (d.1 73 0 v1.toNatClampNeg) else none
set_option maxRecDepth 100000 in
set_option maxHeartbeats 4000000 in
theorem t_X9_longestQueue_0 {l : Launch} {d : sk_D} {v1 : Int32} {res : Int32} (hq : q_X9_longestQueue_0 d v1 = some res) :
    sk_G l (sk_rm 3 0 0) m_X9_longestQueue sk_Ex0 (sk_Zm m_X9_longestQueue (some (.inl res)) (sk_mm d)) 0 0 0 [some (.inr (.inr (some (44, 0)))), some (.inl v1)] [] (sk_mm d) := by
  unfold q_X9_longestQueue_0 at hq
  refine sg_aload_n 1 (sk_td o_X9_longestQueue 0 rfl) rfl rfl ?_
  refine sg_iload_n 2 (sk_td o_X9_longestQueue 1 rfl) rfl rfl ?_
  obtain ⟨x1, hr_x1, hq⟩ := sk_bnd hq
  refine sm_callV1i 5 (s_X9_hasLift hr_x1) (sk_td o_X9_longestQueue 2 rfl) rfl lv_X9_287 rfl rfl rfl sz_44 (sk_rok (Nat.le_of_ble_eq_true rfl) (Nat.le_of_ble_eq_true rfl) rfl rfl) (Nat.le_of_ble_eq_true rfl) ?_
  refine sg_if_eq 17 8 (sk_td o_X9_longestQueue 3 rfl) (by decide) rfl (fun hc => ?_) (fun hc => ?_)
  · rw [if_pos hc] at hq
    refine sg_iconst (v := (-1 : Int32)) 18 (sk_td o_X9_longestQueue 9 rfl) rfl (by decide) ?_
    obtain rfl := Option.some.inj hq
    exact sg_iret (sk_td o_X9_longestQueue 10 rfl) rfl rfl
  · rw [if_neg hc] at hq
    refine sg_aload_n 9 (sk_td o_X9_longestQueue 4 rfl) rfl rfl ?_
    refine sm_getR (73, 0) 12 (sk_td o_X9_longestQueue 5 rfl) rfl kf_X9_104 rfl rfl sz_44 rfl ?_
    refine sg_iload_n 13 (sk_td o_X9_longestQueue 6 rfl) rfl rfl ?_
    obtain ⟨hb2, hq⟩ := sk_ifn hq
    refine sm_iald 14 (sk_td o_X9_longestQueue 7 rfl) rfl rfl sz_73 hb2 ?_
    refine sg_goto 18 (sk_td o_X9_longestQueue 8 rfl) (by decide) ?_
    obtain rfl := Option.some.inj hq
    exact sg_iret (sk_td o_X9_longestQueue 10 rfl) rfl rfl
def q_X9_longestQueue (d : sk_D) (v1 : Int32) : Option (Int32) := q_X9_longestQueue_0 d v1 
theorem s_X9_longestQueue {l : Launch} {d : sk_D} {v1 : Int32} {res : Int32} (hq : q_X9_longestQueue d v1 = some res) : sk_M l 3 m_X9_longestQueue [.inr (.inr (some (44, 0))), .inl v1] (sk_mm d) (some (.inl res)) (sk_mm d) :=
  sk_enter (by decide) (fun _ => Nat.le_of_ble_eq_true rfl) (Nat.le_of_ble_eq_true rfl) (t_X9_longestQueue_0 hq )
def q_X9_carried_0 (d : sk_D) (v1 : Int32) : Option (Int32) :=
  (q_X9_hasLift d v1).bind fun x1 => if x1 = 0 then some (-1 : Int32) else if sk_bi v1 3 = true then some (d.1 74 0 v1.toNatClampNeg) else none
set_option maxRecDepth 100000 in
set_option maxHeartbeats 4000000 in
theorem t_X9_carried_0 {l : Launch} {d : sk_D} {v1 : Int32} {res : Int32} (hq : q_X9_carried_0 d v1 = some res) :
    sk_G l (sk_rm 3 0 0) m_X9_carried sk_Ex0 (sk_Zm m_X9_carried (some (.inl res)) (sk_mm d)) 0 0 0 [some (.inr (.inr (some (44, 0)))), some (.inl v1)] [] (sk_mm d) := by
  unfold q_X9_carried_0 at hq
  refine sg_aload_n 1 (sk_td o_X9_carried 0 rfl) rfl rfl ?_
  refine sg_iload_n 2 (sk_td o_X9_carried 1 rfl) rfl rfl ?_
  obtain ⟨x1, hr_x1, hq⟩ := sk_bnd hq
  refine sm_callV1i 5 (s_X9_hasLift hr_x1) (sk_td o_X9_carried 2 rfl) rfl lv_X9_287 rfl rfl rfl sz_44 (sk_rok (Nat.le_of_ble_eq_true rfl) (Nat.le_of_ble_eq_true rfl) rfl rfl) (Nat.le_of_ble_eq_true rfl) ?_
  refine sg_if_eq 17 8 (sk_td o_X9_carried 3 rfl) (by decide) rfl (fun hc => ?_) (fun hc => ?_)
  · rw [if_pos hc] at hq
    refine sg_iconst (v := (-1 : Int32)) 18 (sk_td o_X9_carried 9 rfl) rfl (by decide) ?_
    obtain rfl := Option.some.inj hq
    exact sg_iret (sk_td o_X9_carried 10 rfl) rfl rfl
  · rw [if_neg hc] at hq
    refine sg_aload_n 9 (sk_td o_X9_carried 4 rfl) rfl rfl ?_
    refine sm_getR (74, 0) 12 (sk_td o_X9_carried 5 rfl) rfl kf_X9_107 rfl rfl sz_44 rfl ?_
    refine sg_iload_n 13 (sk_td o_X9_carried 6 rfl) rfl rfl ?_
    obtain ⟨hb2, hq⟩ := sk_ifn hq
    refine sm_iald 14 (sk_td o_X9_carried 7 rfl) rfl rfl sz_74 hb2 ?_
    refine sg_goto 18 (sk_td o_X9_carried 8 rfl) (by decide) ?_
    obtain rfl := Option.some.inj hq
    exact sg_iret (sk_td o_X9_carried 10 rfl) rfl rfl
def q_X9_carried (d : sk_D) (v1 : Int32) : Option (Int32) := q_X9_carried_0 d v1 
theorem s_X9_carried {l : Launch} {d : sk_D} {v1 : Int32} {res : Int32} (hq : q_X9_carried d v1 = some res) : sk_M l 3 m_X9_carried [.inr (.inr (some (44, 0))), .inl v1] (sk_mm d) (some (.inl res)) (sk_mm d) :=
  sk_enter (by decide) (fun _ => Nat.le_of_ble_eq_true rfl) (Nat.le_of_ble_eq_true rfl) (t_X9_carried_0 hq )
def q_X9_bestStart_117 (rec44 : (sk_D × Int32 × Int32 × Int32 × Int32 × Int32 × Int32) → Option (Int32 × sk_D)) (d : sk_D) (v1 : Int32) (v2 : Int32) (v3 : Int32) (v4 : Int32) (v6 : Int32) (s0 : Int32) : Option (Int32 × sk_D) :=
  (rec44 (d, v1, v2, v3, v4, s0, (v6 + (1 : Int32))))
set_option maxRecDepth 100000 in
set_option maxHeartbeats 4000000 in
theorem t_X9_bestStart_117 {l : Launch} {rec44 : (sk_D × Int32 × Int32 × Int32 × Int32 × Int32 × Int32) → Option (Int32 × sk_D)} {d : sk_D} {v1 : Int32} {v2 : Int32} {v3 : Int32} {v4 : Int32} {v6 : Int32} {s0 : Int32} (hrec44 : ∀ (a : (sk_D × Int32 × Int32 × Int32 × Int32 × Int32 × Int32)) (res : Int32 × sk_D), rec44 a = some res → sk_G l (sk_rm 6 0 0) m_X9_bestStart sk_Ex0 (sk_Zm m_X9_bestStart (some (.inl res.1)) (sk_mm res.2)) 0 0 44 [some (.inr (.inr (some (44, 0)))), some (.inl a.2.1), some (.inl a.2.2.1), some (.inl a.2.2.2.1), some (.inl a.2.2.2.2.1), some (.inl a.2.2.2.2.2.1), some (.inl a.2.2.2.2.2.2), none] [] (sk_mm a.1)) {res : Int32 × sk_D} (hq : q_X9_bestStart_117 rec44 d v1 v2 v3 v4 v6 s0 = some res) :
    sk_G l (sk_rm 6 0 0) m_X9_bestStart sk_Ex0 (sk_Zm m_X9_bestStart (some (.inl res.1)) (sk_mm res.2)) 0 0 117 [some (.inr (.inr (some (44, 0)))), some (.inl v1), some (.inl v2), some (.inl v3), some (.inl v4), none, some (.inl v6), none] [.inl s0] (sk_mm d) := by
  unfold q_X9_bestStart_117 at hq
  refine sg_istore 119 [some (.inr (.inr (some (44, 0)))), some (.inl v1), some (.inl v2), some (.inl v3), some (.inl v4), some (.inl s0), some (.inl v6), none] (sk_td o_X9_bestStart 63 rfl) rfl rfl (Nat.le_of_ble_eq_true rfl) rfl ?_
  refine sg_iinc (v6 + (1 : Int32)) 122 [some (.inr (.inr (some (44, 0)))), some (.inl v1), some (.inl v2), some (.inl v3), some (.inl v4), some (.inl s0), some (.inl (v6 + (1 : Int32))), none] (sk_td o_X9_bestStart 64 rfl) rfl rfl rfl rfl (Nat.le_of_ble_eq_true rfl) rfl ?_
  refine sg_goto 44 (sk_td o_X9_bestStart 65 rfl) (by decide) ?_
  exact hrec44 (d, v1, v2, v3, v4, s0, (v6 + (1 : Int32))) _ hq
def q_X9_bestStart_99 (rec44 : (sk_D × Int32 × Int32 × Int32 × Int32 × Int32 × Int32) → Option (Int32 × sk_D)) (d : sk_D) (v1 : Int32) (v2 : Int32) (v3 : Int32) (v5 : Int32) (v6 : Int32) (v7 : Int32) (s0 : Int32) : Option (Int32 × sk_D) :=
  if v7 = 0 then (q_X9_bestStart_117 rec44 d v1 v2 v3 s0 v6 v5) else if sk_bi v1 4 = true then (q_X9_bestStart_117 rec44 d v1 v2 v3 s0 v6 (d.1 90 0 v1.toNatClampNeg)) else none
set_option maxRecDepth 100000 in
set_option maxHeartbeats 4000000 in
theorem t_X9_bestStart_99 {l : Launch} {rec44 : (sk_D × Int32 × Int32 × Int32 × Int32 × Int32 × Int32) → Option (Int32 × sk_D)} {d : sk_D} {v1 : Int32} {v2 : Int32} {v3 : Int32} {v5 : Int32} {v6 : Int32} {v7 : Int32} {s0 : Int32} (hrec44 : ∀ (a : (sk_D × Int32 × Int32 × Int32 × Int32 × Int32 × Int32)) (res : Int32 × sk_D), rec44 a = some res → sk_G l (sk_rm 6 0 0) m_X9_bestStart sk_Ex0 (sk_Zm m_X9_bestStart (some (.inl res.1)) (sk_mm res.2)) 0 0 44 [some (.inr (.inr (some (44, 0)))), some (.inl a.2.1), some (.inl a.2.2.1), some (.inl a.2.2.2.1), some (.inl a.2.2.2.2.1), some (.inl a.2.2.2.2.2.1), some (.inl a.2.2.2.2.2.2), none] [] (sk_mm a.1)) {res : Int32 × sk_D} (hq : q_X9_bestStart_99 rec44 d v1 v2 v3 v5 v6 v7 s0 = some res) :
    sk_G l (sk_rm 6 0 0) m_X9_bestStart sk_Ex0 (sk_Zm m_X9_bestStart (some (.inl res.1)) (sk_mm res.2)) 0 0 99 [some (.inr (.inr (some (44, 0)))), some (.inl v1), some (.inl v2), some (.inl v3), none, some (.inl v5), some (.inl v6), some (.inl v7)] [.inl s0] (sk_mm d) := by
  unfold q_X9_bestStart_99 at hq
  refine sg_istore 101 [some (.inr (.inr (some (44, 0)))), some (.inl v1), some (.inl v2), some (.inl v3), some (.inl s0), some (.inl v5), some (.inl v6), some (.inl v7)] (sk_td o_X9_bestStart 54 rfl) rfl rfl (Nat.le_of_ble_eq_true rfl) rfl ?_
  refine sg_iload 103 (sk_td o_X9_bestStart 55 rfl) rfl rfl ?_
  refine sg_if_eq 115 106 (sk_td o_X9_bestStart 56 rfl) (by decide) rfl (fun hc => ?_) (fun hc => ?_)
  · rw [if_pos hc] at hq
    refine sg_iload 117 (sk_td o_X9_bestStart 62 rfl) rfl rfl ?_
    refine sk_wk [true, true, true, true, true, false, true, false] (ls' := [some (.inr (.inr (some (44, 0)))), some (.inl v1), some (.inl v2), some (.inl v3), some (.inl s0), none, some (.inl v6), none]) rfl ?_
    exact t_X9_bestStart_117 hrec44 hq
  · rw [if_neg hc] at hq
    refine sg_aload_n 107 (sk_td o_X9_bestStart 57 rfl) rfl rfl ?_
    refine sm_getR (90, 0) 110 (sk_td o_X9_bestStart 58 rfl) rfl kf_X9_156 rfl rfl sz_44 rfl ?_
    refine sg_iload_n 111 (sk_td o_X9_bestStart 59 rfl) rfl rfl ?_
    obtain ⟨hb1, hq⟩ := sk_ifn hq
    refine sm_iald 112 (sk_td o_X9_bestStart 60 rfl) rfl rfl sz_90 hb1 ?_
    refine sg_goto 117 (sk_td o_X9_bestStart 61 rfl) (by decide) ?_
    refine sk_wk [true, true, true, true, true, false, true, false] (ls' := [some (.inr (.inr (some (44, 0)))), some (.inl v1), some (.inl v2), some (.inl v3), some (.inl s0), none, some (.inl v6), none]) rfl ?_
    exact t_X9_bestStart_117 hrec44 hq
def q_X9_bestStart_85 (rec44 : (sk_D × Int32 × Int32 × Int32 × Int32 × Int32 × Int32) → Option (Int32 × sk_D)) (d : sk_D) (v1 : Int32) (v2 : Int32) (v3 : Int32) (v4 : Int32) (v5 : Int32) (v6 : Int32) (s0 : Int32) : Option (Int32 × sk_D) :=
  if s0 = 0 then (q_X9_bestStart_99 rec44 d v1 v2 v3 v5 v6 s0 v4) else (q_X9_bestStart_99 rec44 d v1 v2 v3 v5 v6 s0 v6)
set_option maxRecDepth 100000 in
set_option maxHeartbeats 4000000 in
theorem t_X9_bestStart_85 {l : Launch} {rec44 : (sk_D × Int32 × Int32 × Int32 × Int32 × Int32 × Int32) → Option (Int32 × sk_D)} {d : sk_D} {v1 : Int32} {v2 : Int32} {v3 : Int32} {v4 : Int32} {v5 : Int32} {v6 : Int32} {s0 : Int32} (hrec44 : ∀ (a : (sk_D × Int32 × Int32 × Int32 × Int32 × Int32 × Int32)) (res : Int32 × sk_D), rec44 a = some res → sk_G l (sk_rm 6 0 0) m_X9_bestStart sk_Ex0 (sk_Zm m_X9_bestStart (some (.inl res.1)) (sk_mm res.2)) 0 0 44 [some (.inr (.inr (some (44, 0)))), some (.inl a.2.1), some (.inl a.2.2.1), some (.inl a.2.2.2.1), some (.inl a.2.2.2.2.1), some (.inl a.2.2.2.2.2.1), some (.inl a.2.2.2.2.2.2), none] [] (sk_mm a.1)) {res : Int32 × sk_D} (hq : q_X9_bestStart_85 rec44 d v1 v2 v3 v4 v5 v6 s0 = some res) :
    sk_G l (sk_rm 6 0 0) m_X9_bestStart sk_Ex0 (sk_Zm m_X9_bestStart (some (.inl res.1)) (sk_mm res.2)) 0 0 85 [some (.inr (.inr (some (44, 0)))), some (.inl v1), some (.inl v2), some (.inl v3), some (.inl v4), some (.inl v5), some (.inl v6), none] [.inl s0] (sk_mm d) := by
  unfold q_X9_bestStart_85 at hq
  refine sg_istore 87 [some (.inr (.inr (some (44, 0)))), some (.inl v1), some (.inl v2), some (.inl v3), some (.inl v4), some (.inl v5), some (.inl v6), some (.inl s0)] (sk_td o_X9_bestStart 48 rfl) rfl rfl (Nat.le_of_ble_eq_true rfl) rfl ?_
  refine sg_iload 89 (sk_td o_X9_bestStart 49 rfl) rfl rfl ?_
  refine sg_if_eq 97 92 (sk_td o_X9_bestStart 50 rfl) (by decide) rfl (fun hc => ?_) (fun hc => ?_)
  · rw [if_pos hc] at hq
    refine sg_iload 99 (sk_td o_X9_bestStart 53 rfl) rfl rfl ?_
    refine sk_wk [true, true, true, true, false, true, true, true] (ls' := [some (.inr (.inr (some (44, 0)))), some (.inl v1), some (.inl v2), some (.inl v3), none, some (.inl v5), some (.inl v6), some (.inl s0)]) rfl ?_
    exact t_X9_bestStart_99 hrec44 hq
  · rw [if_neg hc] at hq
    refine sg_iload 94 (sk_td o_X9_bestStart 51 rfl) rfl rfl ?_
    refine sg_goto 99 (sk_td o_X9_bestStart 52 rfl) (by decide) ?_
    refine sk_wk [true, true, true, true, false, true, true, true] (ls' := [some (.inr (.inr (some (44, 0)))), some (.inl v1), some (.inl v2), some (.inl v3), none, some (.inl v5), some (.inl v6), some (.inl s0)]) rfl ?_
    exact t_X9_bestStart_99 hrec44 hq
def q_X9_bestStart_80 (rec44 : (sk_D × Int32 × Int32 × Int32 × Int32 × Int32 × Int32) → Option (Int32 × sk_D)) (d : sk_D) (v1 : Int32) (v2 : Int32) (v3 : Int32) (v4 : Int32) (v5 : Int32) (v6 : Int32) : Option (Int32 × sk_D) :=
  (q_X9_bestStart_85 rec44 d v1 v2 v3 v4 v5 v6 (1 : Int32))
set_option maxRecDepth 100000 in
set_option maxHeartbeats 4000000 in
theorem t_X9_bestStart_80 {l : Launch} {rec44 : (sk_D × Int32 × Int32 × Int32 × Int32 × Int32 × Int32) → Option (Int32 × sk_D)} {d : sk_D} {v1 : Int32} {v2 : Int32} {v3 : Int32} {v4 : Int32} {v5 : Int32} {v6 : Int32} (hrec44 : ∀ (a : (sk_D × Int32 × Int32 × Int32 × Int32 × Int32 × Int32)) (res : Int32 × sk_D), rec44 a = some res → sk_G l (sk_rm 6 0 0) m_X9_bestStart sk_Ex0 (sk_Zm m_X9_bestStart (some (.inl res.1)) (sk_mm res.2)) 0 0 44 [some (.inr (.inr (some (44, 0)))), some (.inl a.2.1), some (.inl a.2.2.1), some (.inl a.2.2.2.1), some (.inl a.2.2.2.2.1), some (.inl a.2.2.2.2.2.1), some (.inl a.2.2.2.2.2.2), none] [] (sk_mm a.1)) {res : Int32 × sk_D} (hq : q_X9_bestStart_80 rec44 d v1 v2 v3 v4 v5 v6 = some res) :
    sk_G l (sk_rm 6 0 0) m_X9_bestStart sk_Ex0 (sk_Zm m_X9_bestStart (some (.inl res.1)) (sk_mm res.2)) 0 0 80 [some (.inr (.inr (some (44, 0)))), some (.inl v1), some (.inl v2), some (.inl v3), some (.inl v4), some (.inl v5), some (.inl v6), none] [] (sk_mm d) := by
  unfold q_X9_bestStart_80 at hq
  refine sg_iconst (v := (1 : Int32)) 81 (sk_td o_X9_bestStart 45 rfl) rfl (by decide) ?_
  refine sg_goto 85 (sk_td o_X9_bestStart 46 rfl) (by decide) ?_
  exact t_X9_bestStart_85 hrec44 hq
def q_X9_bestStart_61 (rec44 : (sk_D × Int32 × Int32 × Int32 × Int32 × Int32 × Int32) → Option (Int32 × sk_D)) (d : sk_D) (v1 : Int32) (v2 : Int32) (v3 : Int32) (v4 : Int32) (v5 : Int32) (v6 : Int32) (s1 : Int32) : Option (Int32 × sk_D) :=
  (q_X9_goThrough d s1).bind fun x1 => if v5 < 0 then (q_X9_bestStart_80 rec44 x1 v1 v2 v3 v4 v5 v6) else if sk_bi v1 4 = true then if v5 ≤ (x1.1 90 0 v1.toNatClampNeg) then (q_X9_bestStart_85 rec44 x1 v1 v2 v3 v4 v5 v6 (0 : Int32)) else (q_X9_bestStart_80 rec44 x1 v1 v2 v3 v4 v5 v6) else none
set_option maxRecDepth 100000 in
set_option maxHeartbeats 4000000 in
theorem t_X9_bestStart_61 {l : Launch} {rec44 : (sk_D × Int32 × Int32 × Int32 × Int32 × Int32 × Int32) → Option (Int32 × sk_D)} {d : sk_D} {v1 : Int32} {v2 : Int32} {v3 : Int32} {v4 : Int32} {v5 : Int32} {v6 : Int32} {s1 : Int32} (hrec44 : ∀ (a : (sk_D × Int32 × Int32 × Int32 × Int32 × Int32 × Int32)) (res : Int32 × sk_D), rec44 a = some res → sk_G l (sk_rm 6 0 0) m_X9_bestStart sk_Ex0 (sk_Zm m_X9_bestStart (some (.inl res.1)) (sk_mm res.2)) 0 0 44 [some (.inr (.inr (some (44, 0)))), some (.inl a.2.1), some (.inl a.2.2.1), some (.inl a.2.2.2.1), some (.inl a.2.2.2.2.1), some (.inl a.2.2.2.2.2.1), some (.inl a.2.2.2.2.2.2), none] [] (sk_mm a.1)) {res : Int32 × sk_D} (hq : q_X9_bestStart_61 rec44 d v1 v2 v3 v4 v5 v6 s1 = some res) :
    sk_G l (sk_rm 6 0 0) m_X9_bestStart sk_Ex0 (sk_Zm m_X9_bestStart (some (.inl res.1)) (sk_mm res.2)) 0 0 61 [some (.inr (.inr (some (44, 0)))), some (.inl v1), some (.inl v2), some (.inl v3), some (.inl v4), some (.inl v5), some (.inl v6), none] [.inl s1, .inr (.inr (some (44, 0)))] (sk_mm d) := by
  unfold q_X9_bestStart_61 at hq
  obtain ⟨x1, hr_x1, hq⟩ := sk_bnd hq
  refine sm_callV1v 64 (s_X9_goThrough hr_x1) (sk_td o_X9_bestStart 36 rfl) rfl lv_X9_306 rfl rfl rfl sz_44 (sk_rok (Nat.le_of_ble_eq_true rfl) (Nat.le_of_ble_eq_true rfl) rfl rfl) (Nat.le_of_ble_eq_true rfl) ?_
  refine sg_iload 66 (sk_td o_X9_bestStart 37 rfl) rfl rfl ?_
  refine sg_if_lt 80 69 (sk_td o_X9_bestStart 38 rfl) (by decide) rfl (fun hc => ?_) (fun hc => ?_)
  · rw [if_pos hc] at hq
    exact t_X9_bestStart_80 hrec44 hq
  · rw [if_neg hc] at hq
    refine sg_aload_n 70 (sk_td o_X9_bestStart 39 rfl) rfl rfl ?_
    refine sm_getR (90, 0) 73 (sk_td o_X9_bestStart 40 rfl) rfl kf_X9_156 rfl rfl sz_44 rfl ?_
    refine sg_iload_n 74 (sk_td o_X9_bestStart 41 rfl) rfl rfl ?_
    obtain ⟨hb2, hq⟩ := sk_ifn hq
    refine sm_iald 75 (sk_td o_X9_bestStart 42 rfl) rfl rfl sz_90 hb2 ?_
    refine sg_iload 77 (sk_td o_X9_bestStart 43 rfl) rfl rfl ?_
    refine sg_ic_ge 84 80 (sk_td o_X9_bestStart 44 rfl) (by decide) rfl (fun hc => ?_) (fun hc => ?_)
    · rw [if_pos hc] at hq
      refine sg_iconst (v := (0 : Int32)) 85 (sk_td o_X9_bestStart 47 rfl) rfl (by decide) ?_
      exact t_X9_bestStart_85 hrec44 hq
    · rw [if_neg hc] at hq
      exact t_X9_bestStart_80 hrec44 hq
def q_X9_bestStart_44 (rec44 : (sk_D × Int32 × Int32 × Int32 × Int32 × Int32 × Int32) → Option (Int32 × sk_D)) (d : sk_D) (v1 : Int32) (v2 : Int32) (v3 : Int32) (v4 : Int32) (v5 : Int32) (v6 : Int32) : Option (Int32 × sk_D) :=
  if (30 : Int32) < v6 then if sk_bi v1 4 = true then some (v4, (sk_wi d 58 0 v1.toNatClampNeg v3)) else none else if sk_bi v1 4 = true then (q_X9_bestStart_61 rec44 (sk_wi d 58 0 v1.toNatClampNeg v6) v1 v2 v3 v4 v5 v6 v2) else none
set_option maxRecDepth 100000 in
set_option maxHeartbeats 4000000 in
theorem t_X9_bestStart_44 {l : Launch} {rec44 : (sk_D × Int32 × Int32 × Int32 × Int32 × Int32 × Int32) → Option (Int32 × sk_D)} {d : sk_D} {v1 : Int32} {v2 : Int32} {v3 : Int32} {v4 : Int32} {v5 : Int32} {v6 : Int32} (hrec44 : ∀ (a : (sk_D × Int32 × Int32 × Int32 × Int32 × Int32 × Int32)) (res : Int32 × sk_D), rec44 a = some res → sk_G l (sk_rm 6 0 0) m_X9_bestStart sk_Ex0 (sk_Zm m_X9_bestStart (some (.inl res.1)) (sk_mm res.2)) 0 0 44 [some (.inr (.inr (some (44, 0)))), some (.inl a.2.1), some (.inl a.2.2.1), some (.inl a.2.2.2.1), some (.inl a.2.2.2.2.1), some (.inl a.2.2.2.2.2.1), some (.inl a.2.2.2.2.2.2), none] [] (sk_mm a.1)) {res : Int32 × sk_D} (hq : q_X9_bestStart_44 rec44 d v1 v2 v3 v4 v5 v6 = some res) :
    sk_G l (sk_rm 6 0 0) m_X9_bestStart sk_Ex0 (sk_Zm m_X9_bestStart (some (.inl res.1)) (sk_mm res.2)) 0 0 44 [some (.inr (.inr (some (44, 0)))), some (.inl v1), some (.inl v2), some (.inl v3), some (.inl v4), some (.inl v5), some (.inl v6), none] [] (sk_mm d) := by
  unfold q_X9_bestStart_44 at hq
  refine sg_iload 46 (sk_td o_X9_bestStart 26 rfl) rfl rfl ?_
  refine sg_bipush (v := (30 : Int32)) 48 (sk_td o_X9_bestStart 27 rfl) rfl (by decide) ?_
  refine sg_ic_gt 125 51 (sk_td o_X9_bestStart 28 rfl) (by decide) rfl (fun hc => ?_) (fun hc => ?_)
  · rw [if_pos hc] at hq
    refine sg_aload_n 126 (sk_td o_X9_bestStart 66 rfl) rfl rfl ?_
    refine sm_getR (58, 0) 129 (sk_td o_X9_bestStart 67 rfl) rfl kf_X9_59 rfl rfl sz_44 rfl ?_
    refine sg_iload_n 130 (sk_td o_X9_bestStart 68 rfl) rfl rfl ?_
    refine sg_iload_n 131 (sk_td o_X9_bestStart 69 rfl) rfl rfl ?_
    obtain ⟨hb1, hq⟩ := sk_ifn hq
    refine sm_iast 132 (sk_td o_X9_bestStart 70 rfl) rfl rfl sz_58 hb1 ?_
    refine sg_iload 134 (sk_td o_X9_bestStart 71 rfl) rfl rfl ?_
    obtain rfl := Option.some.inj hq
    exact sg_iret (sk_td o_X9_bestStart 72 rfl) rfl rfl
  · rw [if_neg hc] at hq
    refine sg_aload_n 52 (sk_td o_X9_bestStart 29 rfl) rfl rfl ?_
    refine sm_getR (58, 0) 55 (sk_td o_X9_bestStart 30 rfl) rfl kf_X9_59 rfl rfl sz_44 rfl ?_
    refine sg_iload_n 56 (sk_td o_X9_bestStart 31 rfl) rfl rfl ?_
    refine sg_iload 58 (sk_td o_X9_bestStart 32 rfl) rfl rfl ?_
    obtain ⟨hb2, hq⟩ := sk_ifn hq
    refine sm_iast 59 (sk_td o_X9_bestStart 33 rfl) rfl rfl sz_58 hb2 ?_
    refine sg_aload_n 60 (sk_td o_X9_bestStart 34 rfl) rfl rfl ?_
    refine sg_iload_n 61 (sk_td o_X9_bestStart 35 rfl) rfl rfl ?_
    exact t_X9_bestStart_61 hrec44 hq
def l_X9_bestStart_44 (fl : Nat) (a : (sk_D × Int32 × Int32 × Int32 × Int32 × Int32 × Int32)) : Option (Int32 × sk_D) := sk_it (fun rec44 a => q_X9_bestStart_44 rec44 a.1 a.2.1 a.2.2.1 a.2.2.2.1 a.2.2.2.2.1 a.2.2.2.2.2.1 a.2.2.2.2.2.2) fl a
theorem lt_X9_bestStart_44 {l : Launch} : ∀ (fl : Nat) (a : (sk_D × Int32 × Int32 × Int32 × Int32 × Int32 × Int32)) (res : Int32 × sk_D), l_X9_bestStart_44 fl a = some res → sk_G l (sk_rm 6 0 0) m_X9_bestStart sk_Ex0 (sk_Zm m_X9_bestStart (some (.inl res.1)) (sk_mm res.2)) 0 0 44 [some (.inr (.inr (some (44, 0)))), some (.inl a.2.1), some (.inl a.2.2.1), some (.inl a.2.2.2.1), some (.inl a.2.2.2.2.1), some (.inl a.2.2.2.2.2.1), some (.inl a.2.2.2.2.2.2), none] [] (sk_mm a.1) :=
  sk_it_ind (P := fun (a : (sk_D × Int32 × Int32 × Int32 × Int32 × Int32 × Int32)) (res : Int32 × sk_D) => sk_G l (sk_rm 6 0 0) m_X9_bestStart sk_Ex0 (sk_Zm m_X9_bestStart (some (.inl res.1)) (sk_mm res.2)) 0 0 44 [some (.inr (.inr (some (44, 0)))), some (.inl a.2.1), some (.inl a.2.2.1), some (.inl a.2.2.2.1), some (.inl a.2.2.2.2.1), some (.inl a.2.2.2.2.2.1), some (.inl a.2.2.2.2.2.2), none] [] (sk_mm a.1)) (fun rec44 hrec44 a res hq  => t_X9_bestStart_44 hrec44 hq )
def q_X9_bestStart_0 (d : sk_D) (v1 : Int32) (v2 : Int32) : Option (Int32 × sk_D) :=
  (q_X9_hasGroup d v1).bind fun x1 => if x1 = 0 then some ((-1 : Int32), d) else (q_X9_isTime d v2).bind fun x2 => if x2 = 0 then some ((-1 : Int32), d) else (q_X9_takesPart d v1).bind fun x3 => if x3 = 0 then some ((-2 : Int32), d) else if sk_bi v1 4 = true then (l_X9_bestStart_44 sk_fu (d, v1, v2, (d.1 58 0 v1.toNatClampNeg), (0 : Int32), (-1 : Int32), (0 : Int32))) else none
set_option maxRecDepth 100000 in
set_option maxHeartbeats 4000000 in
theorem t_X9_bestStart_0 {l : Launch} {d : sk_D} {v1 : Int32} {v2 : Int32} {res : Int32 × sk_D} (hq : q_X9_bestStart_0 d v1 v2 = some res) :
    sk_G l (sk_rm 6 0 0) m_X9_bestStart sk_Ex0 (sk_Zm m_X9_bestStart (some (.inl res.1)) (sk_mm res.2)) 0 0 0 [some (.inr (.inr (some (44, 0)))), some (.inl v1), some (.inl v2), none, none, none, none, none] [] (sk_mm d) := by
  unfold q_X9_bestStart_0 at hq
  refine sg_aload_n 1 (sk_td o_X9_bestStart 0 rfl) rfl rfl ?_
  refine sg_iload_n 2 (sk_td o_X9_bestStart 1 rfl) rfl rfl ?_
  obtain ⟨x1, hr_x1, hq⟩ := sk_bnd hq
  refine sm_callV1i 5 (s_X9_hasGroup hr_x1) (sk_td o_X9_bestStart 2 rfl) rfl lv_X9_227 rfl rfl rfl sz_44 (sk_rok (Nat.le_of_ble_eq_true rfl) (Nat.le_of_ble_eq_true rfl) rfl rfl) (Nat.le_of_ble_eq_true rfl) ?_
  refine sg_if_eq 15 8 (sk_td o_X9_bestStart 3 rfl) (by decide) rfl (fun hc => ?_) (fun hc => ?_)
  · rw [if_pos hc] at hq
    refine sg_iconst (v := (-1 : Int32)) 16 (sk_td o_X9_bestStart 7 rfl) rfl (by decide) ?_
    obtain rfl := Option.some.inj hq
    exact sg_iret (sk_td o_X9_bestStart 8 rfl) rfl rfl
  · rw [if_neg hc] at hq
    refine sg_iload_n 9 (sk_td o_X9_bestStart 4 rfl) rfl rfl ?_
    obtain ⟨x2, hr_x2, hq⟩ := sk_bnd hq
    refine sm_callS1i 12 (s_X9_isTime hr_x2) (sk_td o_X9_bestStart 5 rfl) rfl ls_X9_303 rfl (sk_rok (Nat.le_of_ble_eq_true rfl) (Nat.le_of_ble_eq_true rfl) rfl rfl) (Nat.le_of_ble_eq_true rfl) ?_
    refine sg_if_ne 17 15 (sk_td o_X9_bestStart 6 rfl) (by decide) rfl (fun hc => ?_) (fun hc => ?_)
    · rw [if_neg hc] at hq
      refine sg_aload_n 18 (sk_td o_X9_bestStart 9 rfl) rfl rfl ?_
      refine sg_iload_n 19 (sk_td o_X9_bestStart 10 rfl) rfl rfl ?_
      obtain ⟨x3, hr_x3, hq⟩ := sk_bnd hq
      refine sm_callV1i 22 (s_X9_takesPart hr_x3) (sk_td o_X9_bestStart 11 rfl) rfl lv_X9_290 rfl rfl rfl sz_44 (sk_rok (Nat.le_of_ble_eq_true rfl) (Nat.le_of_ble_eq_true rfl) rfl rfl) (Nat.le_of_ble_eq_true rfl) ?_
      refine sg_if_ne 28 25 (sk_td o_X9_bestStart 12 rfl) (by decide) rfl (fun hc => ?_) (fun hc => ?_)
      · rw [if_neg hc] at hq
        refine sg_aload_n 29 (sk_td o_X9_bestStart 15 rfl) rfl rfl ?_
        refine sm_getR (58, 0) 32 (sk_td o_X9_bestStart 16 rfl) rfl kf_X9_59 rfl rfl sz_44 rfl ?_
        refine sg_iload_n 33 (sk_td o_X9_bestStart 17 rfl) rfl rfl ?_
        obtain ⟨hb4, hq⟩ := sk_ifn hq
        refine sm_iald 34 (sk_td o_X9_bestStart 18 rfl) rfl rfl sz_58 hb4 ?_
        refine sg_istore_n 35 [some (.inr (.inr (some (44, 0)))), some (.inl v1), some (.inl v2), some (.inl (d.1 58 0 v1.toNatClampNeg)), none, none, none, none] (sk_td o_X9_bestStart 19 rfl) rfl rfl (Nat.le_of_ble_eq_true rfl) rfl ?_
        refine sg_iconst (v := (0 : Int32)) 36 (sk_td o_X9_bestStart 20 rfl) rfl (by decide) ?_
        refine sg_istore 38 [some (.inr (.inr (some (44, 0)))), some (.inl v1), some (.inl v2), some (.inl (d.1 58 0 v1.toNatClampNeg)), some (.inl (0 : Int32)), none, none, none] (sk_td o_X9_bestStart 21 rfl) rfl rfl (Nat.le_of_ble_eq_true rfl) rfl ?_
        refine sg_iconst (v := (-1 : Int32)) 39 (sk_td o_X9_bestStart 22 rfl) rfl (by decide) ?_
        refine sg_istore 41 [some (.inr (.inr (some (44, 0)))), some (.inl v1), some (.inl v2), some (.inl (d.1 58 0 v1.toNatClampNeg)), some (.inl (0 : Int32)), some (.inl (-1 : Int32)), none, none] (sk_td o_X9_bestStart 23 rfl) rfl rfl (Nat.le_of_ble_eq_true rfl) rfl ?_
        refine sg_iconst (v := (0 : Int32)) 42 (sk_td o_X9_bestStart 24 rfl) rfl (by decide) ?_
        refine sg_istore 44 [some (.inr (.inr (some (44, 0)))), some (.inl v1), some (.inl v2), some (.inl (d.1 58 0 v1.toNatClampNeg)), some (.inl (0 : Int32)), some (.inl (-1 : Int32)), some (.inl (0 : Int32)), none] (sk_td o_X9_bestStart 25 rfl) rfl rfl (Nat.le_of_ble_eq_true rfl) rfl ?_
        exact lt_X9_bestStart_44 sk_fu (d, v1, v2, (d.1 58 0 v1.toNatClampNeg), (0 : Int32), (-1 : Int32), (0 : Int32)) _ hq
      · rw [if_pos hc] at hq
        refine sg_bipush (v := (-2 : Int32)) 27 (sk_td o_X9_bestStart 13 rfl) rfl (by decide) ?_
        obtain rfl := Option.some.inj hq
        exact sg_iret (sk_td o_X9_bestStart 14 rfl) rfl rfl
    · rw [if_pos hc] at hq
      refine sg_iconst (v := (-1 : Int32)) 16 (sk_td o_X9_bestStart 7 rfl) rfl (by decide) ?_
      obtain rfl := Option.some.inj hq
      exact sg_iret (sk_td o_X9_bestStart 8 rfl) rfl rfl
def q_X9_bestStart (d : sk_D) (v1 : Int32) (v2 : Int32) : Option (Int32 × sk_D) := q_X9_bestStart_0 d v1 v2 
theorem s_X9_bestStart {l : Launch} {d : sk_D} {v1 : Int32} {v2 : Int32} {res : Int32 × sk_D} (hq : q_X9_bestStart d v1 v2 = some res) : sk_M l 6 m_X9_bestStart [.inr (.inr (some (44, 0))), .inl v1, .inl v2] (sk_mm d) (some (.inl res.1)) (sk_mm res.2) :=
  sk_enter (by decide) (fun _ => Nat.le_of_ble_eq_true rfl) (Nat.le_of_ble_eq_true rfl) (t_X9_bestStart_0 hq )
def q_X9_type_46 (d : sk_D) : Option (Int32 × sk_D) :=
  some ((d.1 44 0 36), d)
set_option maxRecDepth 100000 in
set_option maxHeartbeats 4000000 in
theorem t_X9_type_46 {l : Launch} {d : sk_D} {res : Int32 × sk_D} (hq : q_X9_type_46 d = some res) :
    sk_G l (sk_rm 2 0 0) m_X9_type sk_Ex0 (sk_Zm m_X9_type (some (.inl res.1)) (sk_mm res.2)) 0 0 46 [none, none] [.inr (.inr (some (44, 0)))] (sk_mm d) := by
  unfold q_X9_type_46 at hq
  refine sm_getI 49 (sk_td o_X9_type 26 rfl) rfl kf_X9_309 rfl rfl sz_44 ?_
  obtain rfl := Option.some.inj hq
  exact sg_iret (sk_td o_X9_type 27 rfl) rfl rfl
def q_X9_type_37 (d : sk_D) : Option (Int32 × sk_D) :=
  (q_X9_type_46 (sk_wi d 44 0 36 ((d.1 44 0 36) + (1 : Int32))))
set_option maxRecDepth 100000 in
set_option maxHeartbeats 4000000 in
theorem t_X9_type_37 {l : Launch} {d : sk_D} {res : Int32 × sk_D} (hq : q_X9_type_37 d = some res) :
    sk_G l (sk_rm 2 0 0) m_X9_type sk_Ex0 (sk_Zm m_X9_type (some (.inl res.1)) (sk_mm res.2)) 0 0 37 [some (.inr (.inr (some (44, 0)))), none] [.inr (.inr (some (44, 0))), .inr (.inr (some (44, 0)))] (sk_mm d) := by
  unfold q_X9_type_37 at hq
  refine sm_getI 40 (sk_td o_X9_type 21 rfl) rfl kf_X9_309 rfl rfl sz_44 ?_
  refine sg_iconst (v := (1 : Int32)) 41 (sk_td o_X9_type 22 rfl) rfl (by decide) ?_
  refine sg_iadd 42 (sk_td o_X9_type 23 rfl) rfl ?_
  refine sm_putI 45 (sk_td o_X9_type 24 rfl) rfl kp_X9_309 rfl rfl sz_44 ?_
  refine sg_aload_n 46 (sk_td o_X9_type 25 rfl) rfl rfl ?_
  refine sk_wk [false, true] (ls' := [none, none]) rfl ?_
  exact t_X9_type_46 hq
def q_X9_type_0 (d : sk_D) (v1 : Int32) : Option (Int32 × sk_D) :=
  (q_X9_within d v1 (32 : Int32) (126 : Int32)).bind fun x1 => if x1 = 0 then some ((-1 : Int32), d) else if (d.1 44 0 36) = (100 : Int32) then some ((-3 : Int32), d) else if sk_bi (d.1 44 0 36) 100 = true then (q_X9_type_37 (sk_wi d 75 0 (d.1 44 0 36).toNatClampNeg v1)) else none
set_option maxRecDepth 100000 in
set_option maxHeartbeats 4000000 in
theorem t_X9_type_0 {l : Launch} {d : sk_D} {v1 : Int32} {res : Int32 × sk_D} (hq : q_X9_type_0 d v1 = some res) :
    sk_G l (sk_rm 2 0 0) m_X9_type sk_Ex0 (sk_Zm m_X9_type (some (.inl res.1)) (sk_mm res.2)) 0 0 0 [some (.inr (.inr (some (44, 0)))), some (.inl v1)] [] (sk_mm d) := by
  unfold q_X9_type_0 at hq
  refine sg_iload_n 1 (sk_td o_X9_type 0 rfl) rfl rfl ?_
  refine sg_bipush (v := (32 : Int32)) 3 (sk_td o_X9_type 1 rfl) rfl (by decide) ?_
  refine sg_bipush (v := (126 : Int32)) 5 (sk_td o_X9_type 2 rfl) rfl (by decide) ?_
  obtain ⟨x1, hr_x1, hq⟩ := sk_bnd hq
  refine sm_callS3i 8 (s_X9_within hr_x1) (sk_td o_X9_type 3 rfl) rfl ls_X9_168 rfl (sk_rok (Nat.le_of_ble_eq_true rfl) (Nat.le_of_ble_eq_true rfl) rfl rfl) (Nat.le_of_ble_eq_true rfl) ?_
  refine sg_if_ne 13 11 (sk_td o_X9_type 4 rfl) (by decide) rfl (fun hc => ?_) (fun hc => ?_)
  · rw [if_neg hc] at hq
    refine sg_aload_n 14 (sk_td o_X9_type 7 rfl) rfl rfl ?_
    refine sm_getI 17 (sk_td o_X9_type 8 rfl) rfl kf_X9_309 rfl rfl sz_44 ?_
    refine sg_bipush (v := (100 : Int32)) 19 (sk_td o_X9_type 9 rfl) rfl (by decide) ?_
    refine sg_ic_ne 25 22 (sk_td o_X9_type 10 rfl) (by decide) rfl (fun hc => ?_) (fun hc => ?_)
    · rw [if_neg hc] at hq
      refine sg_aload_n 26 (sk_td o_X9_type 13 rfl) rfl rfl ?_
      refine sm_getR (75, 0) 29 (sk_td o_X9_type 14 rfl) rfl kf_X9_110 rfl rfl sz_44 rfl ?_
      refine sg_aload_n 30 (sk_td o_X9_type 15 rfl) rfl rfl ?_
      refine sm_getI 33 (sk_td o_X9_type 16 rfl) rfl kf_X9_309 rfl rfl sz_44 ?_
      refine sg_iload_n 34 (sk_td o_X9_type 17 rfl) rfl rfl ?_
      obtain ⟨hb2, hq⟩ := sk_ifn hq
      refine sm_iast 35 (sk_td o_X9_type 18 rfl) rfl rfl sz_75 hb2 ?_
      refine sg_aload_n 36 (sk_td o_X9_type 19 rfl) rfl rfl ?_
      refine sg_dupR 37 (sk_td o_X9_type 20 rfl) rfl ?_
      refine sk_wk [true, false] (ls' := [some (.inr (.inr (some (44, 0)))), none]) rfl ?_
      exact t_X9_type_37 hq
    · rw [if_pos hc] at hq
      refine sg_bipush (v := (-3 : Int32)) 24 (sk_td o_X9_type 11 rfl) rfl (by decide) ?_
      obtain rfl := Option.some.inj hq
      exact sg_iret (sk_td o_X9_type 12 rfl) rfl rfl
  · rw [if_pos hc] at hq
    refine sg_iconst (v := (-1 : Int32)) 12 (sk_td o_X9_type 5 rfl) rfl (by decide) ?_
    obtain rfl := Option.some.inj hq
    exact sg_iret (sk_td o_X9_type 6 rfl) rfl rfl
def q_X9_type (d : sk_D) (v1 : Int32) : Option (Int32 × sk_D) := q_X9_type_0 d v1 
theorem s_X9_type {l : Launch} {d : sk_D} {v1 : Int32} {res : Int32 × sk_D} (hq : q_X9_type d v1 = some res) : sk_M l 2 m_X9_type [.inr (.inr (some (44, 0))), .inl v1] (sk_mm d) (some (.inl res.1)) (sk_mm res.2) :=
  sk_enter (by decide) (fun _ => Nat.le_of_ble_eq_true rfl) (Nat.le_of_ble_eq_true rfl) (t_X9_type_0 hq )
def q_X9_clearText_0 (d : sk_D) : Option (Int32 × sk_D) :=
  some ((d.1 44 0 36), (sk_wi d 44 0 36 (0 : Int32)))
set_option maxRecDepth 100000 in
set_option maxHeartbeats 4000000 in
theorem t_X9_clearText_0 {l : Launch} {d : sk_D} {res : Int32 × sk_D} (hq : q_X9_clearText_0 d = some res) :
    sk_G l (sk_rm 1 0 0) m_X9_clearText sk_Ex0 (sk_Zm m_X9_clearText (some (.inl res.1)) (sk_mm res.2)) 0 0 0 [some (.inr (.inr (some (44, 0)))), none] [] (sk_mm d) := by
  unfold q_X9_clearText_0 at hq
  refine sg_aload_n 1 (sk_td o_X9_clearText 0 rfl) rfl rfl ?_
  refine sm_getI 4 (sk_td o_X9_clearText 1 rfl) rfl kf_X9_309 rfl rfl sz_44 ?_
  refine sg_istore_n 5 [some (.inr (.inr (some (44, 0)))), some (.inl (d.1 44 0 36))] (sk_td o_X9_clearText 2 rfl) rfl rfl (Nat.le_of_ble_eq_true rfl) rfl ?_
  refine sg_aload_n 6 (sk_td o_X9_clearText 3 rfl) rfl rfl ?_
  refine sg_iconst (v := (0 : Int32)) 7 (sk_td o_X9_clearText 4 rfl) rfl (by decide) ?_
  refine sm_putI 10 (sk_td o_X9_clearText 5 rfl) rfl kp_X9_309 rfl rfl sz_44 ?_
  refine sg_iload_n 11 (sk_td o_X9_clearText 6 rfl) rfl rfl ?_
  obtain rfl := Option.some.inj hq
  exact sg_iret (sk_td o_X9_clearText 7 rfl) rfl rfl
def q_X9_clearText (d : sk_D) : Option (Int32 × sk_D) := q_X9_clearText_0 d 
theorem s_X9_clearText {l : Launch} {d : sk_D} {res : Int32 × sk_D} (hq : q_X9_clearText d = some res) : sk_M l 1 m_X9_clearText [.inr (.inr (some (44, 0)))] (sk_mm d) (some (.inl res.1)) (sk_mm res.2) :=
  sk_enter (by decide) (fun _ => Nat.le_of_ble_eq_true rfl) (Nat.le_of_ble_eq_true rfl) (t_X9_clearText_0 hq )
def q_X9_next_0 (d : sk_D) : Option (Int32) :=
  if (d.1 44 0 36) ≤ (d.1 44 0 56) then some (-1 : Int32) else if sk_bi (d.1 44 0 56) 100 = true then some (d.1 75 0 (d.1 44 0 56).toNatClampNeg) else none
set_option maxRecDepth 100000 in
set_option maxHeartbeats 4000000 in
theorem t_X9_next_0 {l : Launch} {d : sk_D} {res : Int32} (hq : q_X9_next_0 d = some res) :
    sk_G l (sk_rm 1 0 0) m_X9_next sk_Ex0 (sk_Zm m_X9_next (some (.inl res)) (sk_mm d)) 0 0 0 [some (.inr (.inr (some (44, 0))))] [] (sk_mm d) := by
  unfold q_X9_next_0 at hq
  refine sg_aload_n 1 (sk_td o_X9_next 0 rfl) rfl rfl ?_
  refine sm_getI 4 (sk_td o_X9_next 1 rfl) rfl kf_X9_312 rfl rfl sz_44 ?_
  refine sg_aload_n 5 (sk_td o_X9_next 2 rfl) rfl rfl ?_
  refine sm_getI 8 (sk_td o_X9_next 3 rfl) rfl kf_X9_309 rfl rfl sz_44 ?_
  refine sg_ic_ge 23 11 (sk_td o_X9_next 4 rfl) (by decide) rfl (fun hc => ?_) (fun hc => ?_)
  · rw [if_pos hc] at hq
    refine sg_iconst (v := (-1 : Int32)) 24 (sk_td o_X9_next 11 rfl) rfl (by decide) ?_
    obtain rfl := Option.some.inj hq
    exact sg_iret (sk_td o_X9_next 12 rfl) rfl rfl
  · rw [if_neg hc] at hq
    refine sg_aload_n 12 (sk_td o_X9_next 5 rfl) rfl rfl ?_
    refine sm_getR (75, 0) 15 (sk_td o_X9_next 6 rfl) rfl kf_X9_110 rfl rfl sz_44 rfl ?_
    refine sg_aload_n 16 (sk_td o_X9_next 7 rfl) rfl rfl ?_
    refine sm_getI 19 (sk_td o_X9_next 8 rfl) rfl kf_X9_312 rfl rfl sz_44 ?_
    obtain ⟨hb1, hq⟩ := sk_ifn hq
    refine sm_iald 20 (sk_td o_X9_next 9 rfl) rfl rfl sz_75 hb1 ?_
    refine sg_goto 24 (sk_td o_X9_next 10 rfl) (by decide) ?_
    obtain rfl := Option.some.inj hq
    exact sg_iret (sk_td o_X9_next 12 rfl) rfl rfl
def q_X9_next (d : sk_D) : Option (Int32) := q_X9_next_0 d 
theorem s_X9_next {l : Launch} {d : sk_D} {res : Int32} (hq : q_X9_next d = some res) : sk_M l 1 m_X9_next [.inr (.inr (some (44, 0)))] (sk_mm d) (some (.inl res)) (sk_mm d) :=
  sk_enter (by decide) (fun _ => Nat.le_of_ble_eq_true rfl) (Nat.le_of_ble_eq_true rfl) (t_X9_next_0 hq )
def q_X9_takes_28 (d : sk_D) (v2 : Int32) (s1 : Int32) (s2 : Int32) : Option (Int32 × sk_D) :=
  if sk_nb v2 = true then some (v2, (sk_wi d 44 0 56 (s1 + s2))) else none
set_option maxRecDepth 100000 in
set_option maxHeartbeats 4000000 in
theorem t_X9_takes_28 {l : Launch} {d : sk_D} {v2 : Int32} {s1 : Int32} {s2 : Int32} {res : Int32 × sk_D} (hq : q_X9_takes_28 d v2 s1 s2 = some res) :
    sk_G l (sk_rm 2 0 0) m_X9_takes sk_Ex0 (sk_Zm m_X9_takes (some (.inl res.1)) (sk_mm res.2)) 0 0 28 [none, none, some (.inl v2)] [.inl s2, .inl s1, .inr (.inr (some (44, 0)))] (sk_mm d) := by
  unfold q_X9_takes_28 at hq
  refine sg_iadd 29 (sk_td o_X9_takes 16 rfl) rfl ?_
  refine sm_putI 32 (sk_td o_X9_takes 17 rfl) rfl kp_X9_312 rfl rfl sz_44 ?_
  refine sg_iload_n 33 (sk_td o_X9_takes 18 rfl) rfl rfl ?_
  obtain ⟨hn1, hq⟩ := sk_ifn hq
  obtain rfl := Option.some.inj hq
  exact sg_iret (sk_td o_X9_takes 19 rfl) rfl (sk_nb.z hn1)
def q_X9_takes_13 (d : sk_D) (s0 : Int32) : Option (Int32 × sk_D) :=
  if s0 = 0 then (q_X9_takes_28 d s0 (d.1 44 0 56) (0 : Int32)) else (q_X9_takes_28 d s0 (d.1 44 0 56) (1 : Int32))
set_option maxRecDepth 100000 in
set_option maxHeartbeats 4000000 in
theorem t_X9_takes_13 {l : Launch} {d : sk_D} {s0 : Int32} {res : Int32 × sk_D} (hq : q_X9_takes_13 d s0 = some res) :
    sk_G l (sk_rm 2 0 0) m_X9_takes sk_Ex0 (sk_Zm m_X9_takes (some (.inl res.1)) (sk_mm res.2)) 0 0 13 [some (.inr (.inr (some (44, 0)))), none, none] [.inl s0] (sk_mm d) := by
  unfold q_X9_takes_13 at hq
  refine sg_istore_n 14 [some (.inr (.inr (some (44, 0)))), none, some (.inl s0)] (sk_td o_X9_takes 7 rfl) rfl rfl (Nat.le_of_ble_eq_true rfl) rfl ?_
  refine sg_aload_n 15 (sk_td o_X9_takes 8 rfl) rfl rfl ?_
  refine sg_dupR 16 (sk_td o_X9_takes 9 rfl) rfl ?_
  refine sm_getI 19 (sk_td o_X9_takes 10 rfl) rfl kf_X9_312 rfl rfl sz_44 ?_
  refine sg_iload_n 20 (sk_td o_X9_takes 11 rfl) rfl rfl ?_
  refine sg_if_eq 27 23 (sk_td o_X9_takes 12 rfl) (by decide) rfl (fun hc => ?_) (fun hc => ?_)
  · rw [if_pos hc] at hq
    refine sg_iconst (v := (0 : Int32)) 28 (sk_td o_X9_takes 15 rfl) rfl (by decide) ?_
    refine sk_wk [false, true, true] (ls' := [none, none, some (.inl s0)]) rfl ?_
    exact t_X9_takes_28 hq
  · rw [if_neg hc] at hq
    refine sg_iconst (v := (1 : Int32)) 24 (sk_td o_X9_takes 13 rfl) rfl (by decide) ?_
    refine sg_goto 28 (sk_td o_X9_takes 14 rfl) (by decide) ?_
    refine sk_wk [false, true, true] (ls' := [none, none, some (.inl s0)]) rfl ?_
    exact t_X9_takes_28 hq
def q_X9_takes_0 (d : sk_D) (v1 : Int32) : Option (Int32 × sk_D) :=
  (q_X9_next d).bind fun x1 => if x1 = v1 then (q_X9_takes_13 d (1 : Int32)) else (q_X9_takes_13 d (0 : Int32))
set_option maxRecDepth 100000 in
set_option maxHeartbeats 4000000 in
theorem t_X9_takes_0 {l : Launch} {d : sk_D} {v1 : Int32} {res : Int32 × sk_D} (hq : q_X9_takes_0 d v1 = some res) :
    sk_G l (sk_rm 2 0 0) m_X9_takes sk_Ex0 (sk_Zm m_X9_takes (some (.inl res.1)) (sk_mm res.2)) 0 0 0 [some (.inr (.inr (some (44, 0)))), some (.inl v1), none] [] (sk_mm d) := by
  unfold q_X9_takes_0 at hq
  refine sg_aload_n 1 (sk_td o_X9_takes 0 rfl) rfl rfl ?_
  obtain ⟨x1, hr_x1, hq⟩ := sk_bnd hq
  refine sm_callV0i 4 (s_X9_next hr_x1) (sk_td o_X9_takes 1 rfl) rfl lv_X9_315 rfl rfl rfl sz_44 (sk_rok (Nat.le_of_ble_eq_true rfl) (Nat.le_of_ble_eq_true rfl) rfl rfl) (Nat.le_of_ble_eq_true rfl) ?_
  refine sg_iload_n 5 (sk_td o_X9_takes 2 rfl) rfl rfl ?_
  refine sg_ic_ne 12 8 (sk_td o_X9_takes 3 rfl) (by decide) rfl (fun hc => ?_) (fun hc => ?_)
  · rw [if_neg hc] at hq
    refine sg_iconst (v := (0 : Int32)) 13 (sk_td o_X9_takes 6 rfl) rfl (by decide) ?_
    refine sk_wk [true, false, true] (ls' := [some (.inr (.inr (some (44, 0)))), none, none]) rfl ?_
    exact t_X9_takes_13 hq
  · rw [if_pos hc] at hq
    refine sg_iconst (v := (1 : Int32)) 9 (sk_td o_X9_takes 4 rfl) rfl (by decide) ?_
    refine sg_goto 13 (sk_td o_X9_takes 5 rfl) (by decide) ?_
    refine sk_wk [true, false, true] (ls' := [some (.inr (.inr (some (44, 0)))), none, none]) rfl ?_
    exact t_X9_takes_13 hq
def q_X9_takes (d : sk_D) (v1 : Int32) : Option (Int32 × sk_D) := q_X9_takes_0 d v1 
theorem s_X9_takes {l : Launch} {d : sk_D} {v1 : Int32} {res : Int32 × sk_D} (hq : q_X9_takes d v1 = some res) : sk_M l 2 m_X9_takes [.inr (.inr (some (44, 0))), .inl v1] (sk_mm d) (some (.inl res.1)) (sk_mm res.2) :=
  sk_enter (by decide) (fun _ => Nat.le_of_ble_eq_true rfl) (Nat.le_of_ble_eq_true rfl) (t_X9_takes_0 hq )
def q_X9_readsDigit_50 (d : sk_D) (v3 : Int32) (s1 : Int32) (s2 : Int32) : Option (Int32 × sk_D) :=
  if sk_nb v3 = true then some (v3, (sk_wi d 44 0 56 (s1 + s2))) else none
set_option maxRecDepth 100000 in
set_option maxHeartbeats 4000000 in
theorem t_X9_readsDigit_50 {l : Launch} {d : sk_D} {v3 : Int32} {s1 : Int32} {s2 : Int32} {res : Int32 × sk_D} (hq : q_X9_readsDigit_50 d v3 s1 s2 = some res) :
    sk_G l (sk_rm 2 0 0) m_X9_readsDigit sk_Ex0 (sk_Zm m_X9_readsDigit (some (.inl res.1)) (sk_mm res.2)) 0 0 50 [none, none, none, some (.inl v3)] [.inl s2, .inl s1, .inr (.inr (some (44, 0)))] (sk_mm d) := by
  unfold q_X9_readsDigit_50 at hq
  refine sg_iadd 51 (sk_td o_X9_readsDigit 27 rfl) rfl ?_
  refine sm_putI 54 (sk_td o_X9_readsDigit 28 rfl) rfl kp_X9_312 rfl rfl sz_44 ?_
  refine sg_iload_n 55 (sk_td o_X9_readsDigit 29 rfl) rfl rfl ?_
  obtain ⟨hn1, hq⟩ := sk_ifn hq
  obtain rfl := Option.some.inj hq
  exact sg_iret (sk_td o_X9_readsDigit 30 rfl) rfl (sk_nb.z hn1)
def q_X9_readsDigit_35 (d : sk_D) (s0 : Int32) : Option (Int32 × sk_D) :=
  if s0 = 0 then (q_X9_readsDigit_50 d s0 (d.1 44 0 56) (0 : Int32)) else (q_X9_readsDigit_50 d s0 (d.1 44 0 56) (1 : Int32))
set_option maxRecDepth 100000 in
set_option maxHeartbeats 4000000 in
theorem t_X9_readsDigit_35 {l : Launch} {d : sk_D} {s0 : Int32} {res : Int32 × sk_D} (hq : q_X9_readsDigit_35 d s0 = some res) :
    sk_G l (sk_rm 2 0 0) m_X9_readsDigit sk_Ex0 (sk_Zm m_X9_readsDigit (some (.inl res.1)) (sk_mm res.2)) 0 0 35 [some (.inr (.inr (some (44, 0)))), none, none, none] [.inl s0] (sk_mm d) := by
  unfold q_X9_readsDigit_35 at hq
  refine sg_istore_n 36 [some (.inr (.inr (some (44, 0)))), none, none, some (.inl s0)] (sk_td o_X9_readsDigit 18 rfl) rfl rfl (Nat.le_of_ble_eq_true rfl) rfl ?_
  refine sg_aload_n 37 (sk_td o_X9_readsDigit 19 rfl) rfl rfl ?_
  refine sg_dupR 38 (sk_td o_X9_readsDigit 20 rfl) rfl ?_
  refine sm_getI 41 (sk_td o_X9_readsDigit 21 rfl) rfl kf_X9_312 rfl rfl sz_44 ?_
  refine sg_iload_n 42 (sk_td o_X9_readsDigit 22 rfl) rfl rfl ?_
  refine sg_if_eq 49 45 (sk_td o_X9_readsDigit 23 rfl) (by decide) rfl (fun hc => ?_) (fun hc => ?_)
  · rw [if_pos hc] at hq
    refine sg_iconst (v := (0 : Int32)) 50 (sk_td o_X9_readsDigit 26 rfl) rfl (by decide) ?_
    refine sk_wk [false, true, true, true] (ls' := [none, none, none, some (.inl s0)]) rfl ?_
    exact t_X9_readsDigit_50 hq
  · rw [if_neg hc] at hq
    refine sg_iconst (v := (1 : Int32)) 46 (sk_td o_X9_readsDigit 24 rfl) rfl (by decide) ?_
    refine sg_goto 50 (sk_td o_X9_readsDigit 25 rfl) (by decide) ?_
    refine sk_wk [false, true, true, true] (ls' := [none, none, none, some (.inl s0)]) rfl ?_
    exact t_X9_readsDigit_50 hq
def q_X9_readsDigit_34 (d : sk_D) : Option (Int32 × sk_D) :=
  (q_X9_readsDigit_35 d (0 : Int32))
set_option maxRecDepth 100000 in
set_option maxHeartbeats 4000000 in
theorem t_X9_readsDigit_34 {l : Launch} {d : sk_D} {res : Int32 × sk_D} (hq : q_X9_readsDigit_34 d = some res) :
    sk_G l (sk_rm 2 0 0) m_X9_readsDigit sk_Ex0 (sk_Zm m_X9_readsDigit (some (.inl res.1)) (sk_mm res.2)) 0 0 34 [some (.inr (.inr (some (44, 0)))), none, none, none] [] (sk_mm d) := by
  unfold q_X9_readsDigit_34 at hq
  refine sg_iconst (v := (0 : Int32)) 35 (sk_td o_X9_readsDigit 17 rfl) rfl (by decide) ?_
  exact t_X9_readsDigit_35 hq
def q_X9_readsDigit_12 (d : sk_D) (v1 : Int32) (v2 : Int32) : Option (Int32 × sk_D) :=
  (q_X9_next d).bind fun x1 => if x1 < 0 then (q_X9_readsDigit_34 d) else (q_X9_within d (d.1 44 0 60) v1 v2).bind fun x2 => if x2 = 0 then (q_X9_readsDigit_34 d) else (q_X9_readsDigit_35 d (1 : Int32))
set_option maxRecDepth 100000 in
set_option maxHeartbeats 4000000 in
theorem t_X9_readsDigit_12 {l : Launch} {d : sk_D} {v1 : Int32} {v2 : Int32} {res : Int32 × sk_D} (hq : q_X9_readsDigit_12 d v1 v2 = some res) :
    sk_G l (sk_rm 2 0 0) m_X9_readsDigit sk_Ex0 (sk_Zm m_X9_readsDigit (some (.inl res.1)) (sk_mm res.2)) 0 0 12 [some (.inr (.inr (some (44, 0)))), some (.inl v1), some (.inl v2), none] [.inr (.inr (some (44, 0)))] (sk_mm d) := by
  unfold q_X9_readsDigit_12 at hq
  obtain ⟨x1, hr_x1, hq⟩ := sk_bnd hq
  refine sm_callV0i 15 (s_X9_next hr_x1) (sk_td o_X9_readsDigit 7 rfl) rfl lv_X9_315 rfl rfl rfl sz_44 (sk_rok (Nat.le_of_ble_eq_true rfl) (Nat.le_of_ble_eq_true rfl) rfl rfl) (Nat.le_of_ble_eq_true rfl) ?_
  refine sg_if_lt 34 18 (sk_td o_X9_readsDigit 8 rfl) (by decide) rfl (fun hc => ?_) (fun hc => ?_)
  · rw [if_pos hc] at hq
    refine sk_wk [true, false, false, true] (ls' := [some (.inr (.inr (some (44, 0)))), none, none, none]) rfl ?_
    exact t_X9_readsDigit_34 hq
  · rw [if_neg hc] at hq
    refine sg_aload_n 19 (sk_td o_X9_readsDigit 9 rfl) rfl rfl ?_
    refine sm_getI 22 (sk_td o_X9_readsDigit 10 rfl) rfl kf_X9_318 rfl rfl sz_44 ?_
    refine sg_iload_n 23 (sk_td o_X9_readsDigit 11 rfl) rfl rfl ?_
    refine sg_iload_n 24 (sk_td o_X9_readsDigit 12 rfl) rfl rfl ?_
    obtain ⟨x2, hr_x2, hq⟩ := sk_bnd hq
    refine sm_callS3i 27 (s_X9_within hr_x2) (sk_td o_X9_readsDigit 13 rfl) rfl ls_X9_168 rfl (sk_rok (Nat.le_of_ble_eq_true rfl) (Nat.le_of_ble_eq_true rfl) rfl rfl) (Nat.le_of_ble_eq_true rfl) ?_
    refine sg_if_eq 34 30 (sk_td o_X9_readsDigit 14 rfl) (by decide) rfl (fun hc => ?_) (fun hc => ?_)
    · rw [if_pos hc] at hq
      refine sk_wk [true, false, false, true] (ls' := [some (.inr (.inr (some (44, 0)))), none, none, none]) rfl ?_
      exact t_X9_readsDigit_34 hq
    · rw [if_neg hc] at hq
      refine sg_iconst (v := (1 : Int32)) 31 (sk_td o_X9_readsDigit 15 rfl) rfl (by decide) ?_
      refine sg_goto 35 (sk_td o_X9_readsDigit 16 rfl) (by decide) ?_
      refine sk_wk [true, false, false, true] (ls' := [some (.inr (.inr (some (44, 0)))), none, none, none]) rfl ?_
      exact t_X9_readsDigit_35 hq
def q_X9_readsDigit_0 (d : sk_D) (v1 : Int32) (v2 : Int32) : Option (Int32 × sk_D) :=
  (q_X9_next d).bind fun x1 => (q_X9_readsDigit_12 (sk_wi d 44 0 60 (x1 - (48 : Int32))) v1 v2)
set_option maxRecDepth 100000 in
set_option maxHeartbeats 4000000 in
theorem t_X9_readsDigit_0 {l : Launch} {d : sk_D} {v1 : Int32} {v2 : Int32} {res : Int32 × sk_D} (hq : q_X9_readsDigit_0 d v1 v2 = some res) :
    sk_G l (sk_rm 2 0 0) m_X9_readsDigit sk_Ex0 (sk_Zm m_X9_readsDigit (some (.inl res.1)) (sk_mm res.2)) 0 0 0 [some (.inr (.inr (some (44, 0)))), some (.inl v1), some (.inl v2), none] [] (sk_mm d) := by
  unfold q_X9_readsDigit_0 at hq
  refine sg_aload_n 1 (sk_td o_X9_readsDigit 0 rfl) rfl rfl ?_
  refine sg_aload_n 2 (sk_td o_X9_readsDigit 1 rfl) rfl rfl ?_
  obtain ⟨x1, hr_x1, hq⟩ := sk_bnd hq
  refine sm_callV0i 5 (s_X9_next hr_x1) (sk_td o_X9_readsDigit 2 rfl) rfl lv_X9_315 rfl rfl rfl sz_44 (sk_rok (Nat.le_of_ble_eq_true rfl) (Nat.le_of_ble_eq_true rfl) rfl rfl) (Nat.le_of_ble_eq_true rfl) ?_
  refine sg_bipush (v := (48 : Int32)) 7 (sk_td o_X9_readsDigit 3 rfl) rfl (by decide) ?_
  refine sg_isub 8 (sk_td o_X9_readsDigit 4 rfl) rfl ?_
  refine sm_putI 11 (sk_td o_X9_readsDigit 5 rfl) rfl kp_X9_318 rfl rfl sz_44 ?_
  refine sg_aload_n 12 (sk_td o_X9_readsDigit 6 rfl) rfl rfl ?_
  exact t_X9_readsDigit_12 hq
def q_X9_readsDigit (d : sk_D) (v1 : Int32) (v2 : Int32) : Option (Int32 × sk_D) := q_X9_readsDigit_0 d v1 v2 
theorem s_X9_readsDigit {l : Launch} {d : sk_D} {v1 : Int32} {v2 : Int32} {res : Int32 × sk_D} (hq : q_X9_readsDigit d v1 v2 = some res) : sk_M l 2 m_X9_readsDigit [.inr (.inr (some (44, 0))), .inl v1, .inl v2] (sk_mm d) (some (.inl res.1)) (sk_mm res.2) :=
  sk_enter (by decide) (fun _ => Nat.le_of_ble_eq_true rfl) (Nat.le_of_ble_eq_true rfl) (t_X9_readsDigit_0 hq )
def q_X9_readsSet_70 (d : sk_D) : Option (Int32 × sk_D) :=
  if (d.1 44 0 57) ≤ 0 then some ((0 : Int32), d) else some ((1 : Int32), d)
set_option maxRecDepth 100000 in
set_option maxHeartbeats 4000000 in
theorem t_X9_readsSet_70 {l : Launch} {d : sk_D} {res : Int32 × sk_D} (hq : q_X9_readsSet_70 d = some res) :
    sk_G l (sk_rm 2 0 0) m_X9_readsSet sk_Ex0 (sk_Zm m_X9_readsSet (some (.inl res.1)) (sk_mm res.2)) 0 0 70 [some (.inr (.inr (some (44, 0)))), none, none] [] (sk_mm d) := by
  unfold q_X9_readsSet_70 at hq
  refine sg_aload_n 71 (sk_td o_X9_readsSet 40 rfl) rfl rfl ?_
  refine sm_getI 74 (sk_td o_X9_readsSet 41 rfl) rfl kf_X9_321 rfl rfl sz_44 ?_
  refine sg_if_le 81 77 (sk_td o_X9_readsSet 42 rfl) (by decide) rfl (fun hc => ?_) (fun hc => ?_)
  · rw [if_pos hc] at hq
    refine sg_iconst (v := (0 : Int32)) 82 (sk_td o_X9_readsSet 45 rfl) rfl (by decide) ?_
    obtain rfl := Option.some.inj hq
    exact sg_iret (sk_td o_X9_readsSet 46 rfl) rfl (show narrow .boolean (.int (0 : Int32)) = .int (0 : Int32) by decide)
  · rw [if_neg hc] at hq
    refine sg_iconst (v := (1 : Int32)) 78 (sk_td o_X9_readsSet 43 rfl) rfl (by decide) ?_
    refine sg_goto 82 (sk_td o_X9_readsSet 44 rfl) (by decide) ?_
    obtain rfl := Option.some.inj hq
    exact sg_iret (sk_td o_X9_readsSet 46 rfl) rfl (show narrow .boolean (.int (1 : Int32)) = .int (1 : Int32) by decide)
def q_X9_readsSet_48 (rec10 : (sk_D × Int32 × Int32) → Option (Int32 × sk_D)) (d : sk_D) (v2 : Int32) : Option (Int32 × sk_D) :=
  (q_X9_next d).bind fun x1 => (rec10 ((sk_wi d 44 0 56 ((d.1 44 0 56) + (1 : Int32))), (x1 + (1 : Int32)), (v2 + (1 : Int32))))
set_option maxRecDepth 100000 in
set_option maxHeartbeats 4000000 in
theorem t_X9_readsSet_48 {l : Launch} {rec10 : (sk_D × Int32 × Int32) → Option (Int32 × sk_D)} {d : sk_D} {v2 : Int32} (hrec10 : ∀ (a : (sk_D × Int32 × Int32)) (res : Int32 × sk_D), rec10 a = some res → sk_G l (sk_rm 2 0 0) m_X9_readsSet sk_Ex0 (sk_Zm m_X9_readsSet (some (.inl res.1)) (sk_mm res.2)) 0 0 10 [some (.inr (.inr (some (44, 0)))), some (.inl a.2.1), some (.inl a.2.2)] [] (sk_mm a.1)) {res : Int32 × sk_D} (hq : q_X9_readsSet_48 rec10 d v2 = some res) :
    sk_G l (sk_rm 2 0 0) m_X9_readsSet sk_Ex0 (sk_Zm m_X9_readsSet (some (.inl res.1)) (sk_mm res.2)) 0 0 48 [some (.inr (.inr (some (44, 0)))), none, some (.inl v2)] [.inr (.inr (some (44, 0)))] (sk_mm d) := by
  unfold q_X9_readsSet_48 at hq
  obtain ⟨x1, hr_x1, hq⟩ := sk_bnd hq
  refine sm_callV0i 51 (s_X9_next hr_x1) (sk_td o_X9_readsSet 28 rfl) rfl lv_X9_315 rfl rfl rfl sz_44 (sk_rok (Nat.le_of_ble_eq_true rfl) (Nat.le_of_ble_eq_true rfl) rfl rfl) (Nat.le_of_ble_eq_true rfl) ?_
  refine sg_iconst (v := (1 : Int32)) 52 (sk_td o_X9_readsSet 29 rfl) rfl (by decide) ?_
  refine sg_iadd 53 (sk_td o_X9_readsSet 30 rfl) rfl ?_
  refine sg_istore_n 54 [some (.inr (.inr (some (44, 0)))), some (.inl (x1 + (1 : Int32))), some (.inl v2)] (sk_td o_X9_readsSet 31 rfl) rfl rfl (Nat.le_of_ble_eq_true rfl) rfl ?_
  refine sg_aload_n 55 (sk_td o_X9_readsSet 32 rfl) rfl rfl ?_
  refine sg_dupR 56 (sk_td o_X9_readsSet 33 rfl) rfl ?_
  refine sm_getI 59 (sk_td o_X9_readsSet 34 rfl) rfl kf_X9_312 rfl rfl sz_44 ?_
  refine sg_iconst (v := (1 : Int32)) 60 (sk_td o_X9_readsSet 35 rfl) rfl (by decide) ?_
  refine sg_iadd 61 (sk_td o_X9_readsSet 36 rfl) rfl ?_
  refine sm_putI 64 (sk_td o_X9_readsSet 37 rfl) rfl kp_X9_312 rfl rfl sz_44 ?_
  refine sg_iinc (v2 + (1 : Int32)) 67 [some (.inr (.inr (some (44, 0)))), some (.inl (x1 + (1 : Int32))), some (.inl (v2 + (1 : Int32)))] (sk_td o_X9_readsSet 38 rfl) rfl rfl rfl rfl (Nat.le_of_ble_eq_true rfl) rfl ?_
  refine sg_goto 10 (sk_td o_X9_readsSet 39 rfl) (by decide) ?_
  exact hrec10 ((sk_wi d 44 0 56 ((d.1 44 0 56) + (1 : Int32))), (x1 + (1 : Int32)), (v2 + (1 : Int32))) _ hq
def q_X9_readsSet_10 (rec10 : (sk_D × Int32 × Int32) → Option (Int32 × sk_D)) (d : sk_D) (v1 : Int32) (v2 : Int32) : Option (Int32 × sk_D) :=
  if (6 : Int32) ≤ v2 then (q_X9_readsSet_70 d) else (q_X9_next d).bind fun x1 => (q_X9_within d x1 v1 (102 : Int32)).bind fun x2 => if x2 = 0 then (q_X9_readsSet_70 d) else (q_X9_next d).bind fun x3 => (q_X9_readsSet_48 rec10 (sk_wi d 44 0 57 ((d.1 44 0 57) ||| ((1 : Int32) <<< ((x3 - (97 : Int32)) &&& 31)))) v2)
set_option maxRecDepth 100000 in
set_option maxHeartbeats 4000000 in
theorem t_X9_readsSet_10 {l : Launch} {rec10 : (sk_D × Int32 × Int32) → Option (Int32 × sk_D)} {d : sk_D} {v1 : Int32} {v2 : Int32} (hrec10 : ∀ (a : (sk_D × Int32 × Int32)) (res : Int32 × sk_D), rec10 a = some res → sk_G l (sk_rm 2 0 0) m_X9_readsSet sk_Ex0 (sk_Zm m_X9_readsSet (some (.inl res.1)) (sk_mm res.2)) 0 0 10 [some (.inr (.inr (some (44, 0)))), some (.inl a.2.1), some (.inl a.2.2)] [] (sk_mm a.1)) {res : Int32 × sk_D} (hq : q_X9_readsSet_10 rec10 d v1 v2 = some res) :
    sk_G l (sk_rm 2 0 0) m_X9_readsSet sk_Ex0 (sk_Zm m_X9_readsSet (some (.inl res.1)) (sk_mm res.2)) 0 0 10 [some (.inr (.inr (some (44, 0)))), some (.inl v1), some (.inl v2)] [] (sk_mm d) := by
  unfold q_X9_readsSet_10 at hq
  refine sg_iload_n 11 (sk_td o_X9_readsSet 7 rfl) rfl rfl ?_
  refine sg_bipush (v := (6 : Int32)) 13 (sk_td o_X9_readsSet 8 rfl) rfl (by decide) ?_
  refine sg_ic_ge 70 16 (sk_td o_X9_readsSet 9 rfl) (by decide) rfl (fun hc => ?_) (fun hc => ?_)
  · rw [if_pos hc] at hq
    refine sk_wk [true, false, false] (ls' := [some (.inr (.inr (some (44, 0)))), none, none]) rfl ?_
    exact t_X9_readsSet_70 hq
  · rw [if_neg hc] at hq
    refine sg_aload_n 17 (sk_td o_X9_readsSet 10 rfl) rfl rfl ?_
    obtain ⟨x1, hr_x1, hq⟩ := sk_bnd hq
    refine sm_callV0i 20 (s_X9_next hr_x1) (sk_td o_X9_readsSet 11 rfl) rfl lv_X9_315 rfl rfl rfl sz_44 (sk_rok (Nat.le_of_ble_eq_true rfl) (Nat.le_of_ble_eq_true rfl) rfl rfl) (Nat.le_of_ble_eq_true rfl) ?_
    refine sg_iload_n 21 (sk_td o_X9_readsSet 12 rfl) rfl rfl ?_
    refine sg_bipush (v := (102 : Int32)) 23 (sk_td o_X9_readsSet 13 rfl) rfl (by decide) ?_
    obtain ⟨x2, hr_x2, hq⟩ := sk_bnd hq
    refine sm_callS3i 26 (s_X9_within hr_x2) (sk_td o_X9_readsSet 14 rfl) rfl ls_X9_168 rfl (sk_rok (Nat.le_of_ble_eq_true rfl) (Nat.le_of_ble_eq_true rfl) rfl rfl) (Nat.le_of_ble_eq_true rfl) ?_
    refine sg_if_eq 70 29 (sk_td o_X9_readsSet 15 rfl) (by decide) rfl (fun hc => ?_) (fun hc => ?_)
    · rw [if_pos hc] at hq
      refine sk_wk [true, false, false] (ls' := [some (.inr (.inr (some (44, 0)))), none, none]) rfl ?_
      exact t_X9_readsSet_70 hq
    · rw [if_neg hc] at hq
      refine sg_aload_n 30 (sk_td o_X9_readsSet 16 rfl) rfl rfl ?_
      refine sg_dupR 31 (sk_td o_X9_readsSet 17 rfl) rfl ?_
      refine sm_getI 34 (sk_td o_X9_readsSet 18 rfl) rfl kf_X9_321 rfl rfl sz_44 ?_
      refine sg_iconst (v := (1 : Int32)) 35 (sk_td o_X9_readsSet 19 rfl) rfl (by decide) ?_
      refine sg_aload_n 36 (sk_td o_X9_readsSet 20 rfl) rfl rfl ?_
      obtain ⟨x3, hr_x3, hq⟩ := sk_bnd hq
      refine sm_callV0i 39 (s_X9_next hr_x3) (sk_td o_X9_readsSet 21 rfl) rfl lv_X9_315 rfl rfl rfl sz_44 (sk_rok (Nat.le_of_ble_eq_true rfl) (Nat.le_of_ble_eq_true rfl) rfl rfl) (Nat.le_of_ble_eq_true rfl) ?_
      refine sg_bipush (v := (97 : Int32)) 41 (sk_td o_X9_readsSet 22 rfl) rfl (by decide) ?_
      refine sg_isub 42 (sk_td o_X9_readsSet 23 rfl) rfl ?_
      refine sg_ishl 43 (sk_td o_X9_readsSet 24 rfl) rfl ?_
      refine sg_ior 44 (sk_td o_X9_readsSet 25 rfl) rfl ?_
      refine sm_putI 47 (sk_td o_X9_readsSet 26 rfl) rfl kp_X9_321 rfl rfl sz_44 ?_
      refine sg_aload_n 48 (sk_td o_X9_readsSet 27 rfl) rfl rfl ?_
      refine sk_wk [true, false, true] (ls' := [some (.inr (.inr (some (44, 0)))), none, some (.inl v2)]) rfl ?_
      exact t_X9_readsSet_48 hrec10 hq
def l_X9_readsSet_10 (fl : Nat) (a : (sk_D × Int32 × Int32)) : Option (Int32 × sk_D) := sk_it (fun rec10 a => q_X9_readsSet_10 rec10 a.1 a.2.1 a.2.2) fl a
theorem lt_X9_readsSet_10 {l : Launch} : ∀ (fl : Nat) (a : (sk_D × Int32 × Int32)) (res : Int32 × sk_D), l_X9_readsSet_10 fl a = some res → sk_G l (sk_rm 2 0 0) m_X9_readsSet sk_Ex0 (sk_Zm m_X9_readsSet (some (.inl res.1)) (sk_mm res.2)) 0 0 10 [some (.inr (.inr (some (44, 0)))), some (.inl a.2.1), some (.inl a.2.2)] [] (sk_mm a.1) :=
  sk_it_ind (P := fun (a : (sk_D × Int32 × Int32)) (res : Int32 × sk_D) => sk_G l (sk_rm 2 0 0) m_X9_readsSet sk_Ex0 (sk_Zm m_X9_readsSet (some (.inl res.1)) (sk_mm res.2)) 0 0 10 [some (.inr (.inr (some (44, 0)))), some (.inl a.2.1), some (.inl a.2.2)] [] (sk_mm a.1)) (fun rec10 hrec10 a res hq  => t_X9_readsSet_10 hrec10 hq )
def q_X9_readsSet_0 (d : sk_D) : Option (Int32 × sk_D) :=
  (l_X9_readsSet_10 sk_fu ((sk_wi d 44 0 57 (0 : Int32)), (97 : Int32), (0 : Int32)))
set_option maxRecDepth 100000 in
set_option maxHeartbeats 4000000 in
theorem t_X9_readsSet_0 {l : Launch} {d : sk_D} {res : Int32 × sk_D} (hq : q_X9_readsSet_0 d = some res) :
    sk_G l (sk_rm 2 0 0) m_X9_readsSet sk_Ex0 (sk_Zm m_X9_readsSet (some (.inl res.1)) (sk_mm res.2)) 0 0 0 [some (.inr (.inr (some (44, 0)))), none, none] [] (sk_mm d) := by
  unfold q_X9_readsSet_0 at hq
  refine sg_aload_n 1 (sk_td o_X9_readsSet 0 rfl) rfl rfl ?_
  refine sg_iconst (v := (0 : Int32)) 2 (sk_td o_X9_readsSet 1 rfl) rfl (by decide) ?_
  refine sm_putI 5 (sk_td o_X9_readsSet 2 rfl) rfl kp_X9_321 rfl rfl sz_44 ?_
  refine sg_bipush (v := (97 : Int32)) 7 (sk_td o_X9_readsSet 3 rfl) rfl (by decide) ?_
  refine sg_istore_n 8 [some (.inr (.inr (some (44, 0)))), some (.inl (97 : Int32)), none] (sk_td o_X9_readsSet 4 rfl) rfl rfl (Nat.le_of_ble_eq_true rfl) rfl ?_
  refine sg_iconst (v := (0 : Int32)) 9 (sk_td o_X9_readsSet 5 rfl) rfl (by decide) ?_
  refine sg_istore_n 10 [some (.inr (.inr (some (44, 0)))), some (.inl (97 : Int32)), some (.inl (0 : Int32))] (sk_td o_X9_readsSet 6 rfl) rfl rfl (Nat.le_of_ble_eq_true rfl) rfl ?_
  exact lt_X9_readsSet_10 sk_fu ((sk_wi d 44 0 57 (0 : Int32)), (97 : Int32), (0 : Int32)) _ hq
def q_X9_readsSet (d : sk_D) : Option (Int32 × sk_D) := q_X9_readsSet_0 d 
theorem s_X9_readsSet {l : Launch} {d : sk_D} {res : Int32 × sk_D} (hq : q_X9_readsSet d = some res) : sk_M l 2 m_X9_readsSet [.inr (.inr (some (44, 0)))] (sk_mm d) (some (.inl res.1)) (sk_mm res.2) :=
  sk_enter (by decide) (fun _ => Nat.le_of_ble_eq_true rfl) (Nat.le_of_ble_eq_true rfl) (t_X9_readsSet_0 hq )
def q_X9_readsWage_67 (d : sk_D) (v1 : Int32) : Option (Int32 × sk_D) :=
  some ((1 : Int32), (sk_wi d 44 0 60 v1))
set_option maxRecDepth 100000 in
set_option maxHeartbeats 4000000 in
theorem t_X9_readsWage_67 {l : Launch} {d : sk_D} {v1 : Int32} {res : Int32 × sk_D} (hq : q_X9_readsWage_67 d v1 = some res) :
    sk_G l (sk_rm 3 0 0) m_X9_readsWage sk_Ex0 (sk_Zm m_X9_readsWage (some (.inl res.1)) (sk_mm res.2)) 0 0 67 [some (.inr (.inr (some (44, 0)))), some (.inl v1), none] [] (sk_mm d) := by
  unfold q_X9_readsWage_67 at hq
  refine sg_aload_n 68 (sk_td o_X9_readsWage 38 rfl) rfl rfl ?_
  refine sg_iload_n 69 (sk_td o_X9_readsWage 39 rfl) rfl rfl ?_
  refine sm_putI 72 (sk_td o_X9_readsWage 40 rfl) rfl kp_X9_318 rfl rfl sz_44 ?_
  refine sg_iconst (v := (1 : Int32)) 73 (sk_td o_X9_readsWage 41 rfl) rfl (by decide) ?_
  obtain rfl := Option.some.inj hq
  exact sg_iret (sk_td o_X9_readsWage 42 rfl) rfl (show narrow .boolean (.int (1 : Int32)) = .int (1 : Int32) by decide)
def q_X9_readsWage_19 (rec19 : (sk_D × Int32 × Int32) → Option (Int32 × sk_D)) (d : sk_D) (v1 : Int32) (v2 : Int32) : Option (Int32 × sk_D) :=
  if (5 : Int32) ≤ v2 then (q_X9_readsWage_67 d v1) else (q_X9_next d).bind fun x1 => (q_X9_within d x1 (48 : Int32) (57 : Int32)).bind fun x2 => if x2 = 0 then (q_X9_readsWage_67 d v1) else (q_X9_next d).bind fun x3 => (rec19 ((sk_wi d 44 0 56 ((d.1 44 0 56) + (1 : Int32))), ((((10 : Int32) * v1) + x3) - (48 : Int32)), (v2 + (1 : Int32))))
set_option maxRecDepth 100000 in
set_option maxHeartbeats 4000000 in
theorem t_X9_readsWage_19 {l : Launch} {rec19 : (sk_D × Int32 × Int32) → Option (Int32 × sk_D)} {d : sk_D} {v1 : Int32} {v2 : Int32} (hrec19 : ∀ (a : (sk_D × Int32 × Int32)) (res : Int32 × sk_D), rec19 a = some res → sk_G l (sk_rm 3 0 0) m_X9_readsWage sk_Ex0 (sk_Zm m_X9_readsWage (some (.inl res.1)) (sk_mm res.2)) 0 0 19 [some (.inr (.inr (some (44, 0)))), some (.inl a.2.1), some (.inl a.2.2)] [] (sk_mm a.1)) {res : Int32 × sk_D} (hq : q_X9_readsWage_19 rec19 d v1 v2 = some res) :
    sk_G l (sk_rm 3 0 0) m_X9_readsWage sk_Ex0 (sk_Zm m_X9_readsWage (some (.inl res.1)) (sk_mm res.2)) 0 0 19 [some (.inr (.inr (some (44, 0)))), some (.inl v1), some (.inl v2)] [] (sk_mm d) := by
  unfold q_X9_readsWage_19 at hq
  refine sg_iload_n 20 (sk_td o_X9_readsWage 12 rfl) rfl rfl ?_
  refine sg_iconst (v := (5 : Int32)) 21 (sk_td o_X9_readsWage 13 rfl) rfl (by decide) ?_
  refine sg_ic_ge 67 24 (sk_td o_X9_readsWage 14 rfl) (by decide) rfl (fun hc => ?_) (fun hc => ?_)
  · rw [if_pos hc] at hq
    refine sk_wk [true, true, false] (ls' := [some (.inr (.inr (some (44, 0)))), some (.inl v1), none]) rfl ?_
    exact t_X9_readsWage_67 hq
  · rw [if_neg hc] at hq
    refine sg_aload_n 25 (sk_td o_X9_readsWage 15 rfl) rfl rfl ?_
    obtain ⟨x1, hr_x1, hq⟩ := sk_bnd hq
    refine sm_callV0i 28 (s_X9_next hr_x1) (sk_td o_X9_readsWage 16 rfl) rfl lv_X9_315 rfl rfl rfl sz_44 (sk_rok (Nat.le_of_ble_eq_true rfl) (Nat.le_of_ble_eq_true rfl) rfl rfl) (Nat.le_of_ble_eq_true rfl) ?_
    refine sg_bipush (v := (48 : Int32)) 30 (sk_td o_X9_readsWage 17 rfl) rfl (by decide) ?_
    refine sg_bipush (v := (57 : Int32)) 32 (sk_td o_X9_readsWage 18 rfl) rfl (by decide) ?_
    obtain ⟨x2, hr_x2, hq⟩ := sk_bnd hq
    refine sm_callS3i 35 (s_X9_within hr_x2) (sk_td o_X9_readsWage 19 rfl) rfl ls_X9_168 rfl (sk_rok (Nat.le_of_ble_eq_true rfl) (Nat.le_of_ble_eq_true rfl) rfl rfl) (Nat.le_of_ble_eq_true rfl) ?_
    refine sg_if_eq 67 38 (sk_td o_X9_readsWage 20 rfl) (by decide) rfl (fun hc => ?_) (fun hc => ?_)
    · rw [if_pos hc] at hq
      refine sk_wk [true, true, false] (ls' := [some (.inr (.inr (some (44, 0)))), some (.inl v1), none]) rfl ?_
      exact t_X9_readsWage_67 hq
    · rw [if_neg hc] at hq
      refine sg_bipush (v := (10 : Int32)) 40 (sk_td o_X9_readsWage 21 rfl) rfl (by decide) ?_
      refine sg_iload_n 41 (sk_td o_X9_readsWage 22 rfl) rfl rfl ?_
      refine sg_imul 42 (sk_td o_X9_readsWage 23 rfl) rfl ?_
      refine sg_aload_n 43 (sk_td o_X9_readsWage 24 rfl) rfl rfl ?_
      obtain ⟨x3, hr_x3, hq⟩ := sk_bnd hq
      refine sm_callV0i 46 (s_X9_next hr_x3) (sk_td o_X9_readsWage 25 rfl) rfl lv_X9_315 rfl rfl rfl sz_44 (sk_rok (Nat.le_of_ble_eq_true rfl) (Nat.le_of_ble_eq_true rfl) rfl rfl) (Nat.le_of_ble_eq_true rfl) ?_
      refine sg_iadd 47 (sk_td o_X9_readsWage 26 rfl) rfl ?_
      refine sg_bipush (v := (48 : Int32)) 49 (sk_td o_X9_readsWage 27 rfl) rfl (by decide) ?_
      refine sg_isub 50 (sk_td o_X9_readsWage 28 rfl) rfl ?_
      refine sg_istore_n 51 [some (.inr (.inr (some (44, 0)))), some (.inl ((((10 : Int32) * v1) + x3) - (48 : Int32))), some (.inl v2)] (sk_td o_X9_readsWage 29 rfl) rfl rfl (Nat.le_of_ble_eq_true rfl) rfl ?_
      refine sg_aload_n 52 (sk_td o_X9_readsWage 30 rfl) rfl rfl ?_
      refine sg_dupR 53 (sk_td o_X9_readsWage 31 rfl) rfl ?_
      refine sm_getI 56 (sk_td o_X9_readsWage 32 rfl) rfl kf_X9_312 rfl rfl sz_44 ?_
      refine sg_iconst (v := (1 : Int32)) 57 (sk_td o_X9_readsWage 33 rfl) rfl (by decide) ?_
      refine sg_iadd 58 (sk_td o_X9_readsWage 34 rfl) rfl ?_
      refine sm_putI 61 (sk_td o_X9_readsWage 35 rfl) rfl kp_X9_312 rfl rfl sz_44 ?_
      refine sg_iinc (v2 + (1 : Int32)) 64 [some (.inr (.inr (some (44, 0)))), some (.inl ((((10 : Int32) * v1) + x3) - (48 : Int32))), some (.inl (v2 + (1 : Int32)))] (sk_td o_X9_readsWage 36 rfl) rfl rfl rfl rfl (Nat.le_of_ble_eq_true rfl) rfl ?_
      refine sg_goto 19 (sk_td o_X9_readsWage 37 rfl) (by decide) ?_
      exact hrec19 ((sk_wi d 44 0 56 ((d.1 44 0 56) + (1 : Int32))), ((((10 : Int32) * v1) + x3) - (48 : Int32)), (v2 + (1 : Int32))) _ hq
def l_X9_readsWage_19 (fl : Nat) (a : (sk_D × Int32 × Int32)) : Option (Int32 × sk_D) := sk_it (fun rec19 a => q_X9_readsWage_19 rec19 a.1 a.2.1 a.2.2) fl a
theorem lt_X9_readsWage_19 {l : Launch} : ∀ (fl : Nat) (a : (sk_D × Int32 × Int32)) (res : Int32 × sk_D), l_X9_readsWage_19 fl a = some res → sk_G l (sk_rm 3 0 0) m_X9_readsWage sk_Ex0 (sk_Zm m_X9_readsWage (some (.inl res.1)) (sk_mm res.2)) 0 0 19 [some (.inr (.inr (some (44, 0)))), some (.inl a.2.1), some (.inl a.2.2)] [] (sk_mm a.1) :=
  sk_it_ind (P := fun (a : (sk_D × Int32 × Int32)) (res : Int32 × sk_D) => sk_G l (sk_rm 3 0 0) m_X9_readsWage sk_Ex0 (sk_Zm m_X9_readsWage (some (.inl res.1)) (sk_mm res.2)) 0 0 19 [some (.inr (.inr (some (44, 0)))), some (.inl a.2.1), some (.inl a.2.2)] [] (sk_mm a.1)) (fun rec19 hrec19 a res hq  => t_X9_readsWage_19 hrec19 hq )
def q_X9_readsWage_0 (d : sk_D) : Option (Int32 × sk_D) :=
  (q_X9_readsDigit d (1 : Int32) (9 : Int32)).bind fun x1 => if x1.1 = 0 then some ((0 : Int32), x1.2) else (l_X9_readsWage_19 sk_fu (x1.2, (x1.2.1 44 0 60), (0 : Int32)))
set_option maxRecDepth 100000 in
set_option maxHeartbeats 4000000 in
theorem t_X9_readsWage_0 {l : Launch} {d : sk_D} {res : Int32 × sk_D} (hq : q_X9_readsWage_0 d = some res) :
    sk_G l (sk_rm 3 0 0) m_X9_readsWage sk_Ex0 (sk_Zm m_X9_readsWage (some (.inl res.1)) (sk_mm res.2)) 0 0 0 [some (.inr (.inr (some (44, 0)))), none, none] [] (sk_mm d) := by
  unfold q_X9_readsWage_0 at hq
  refine sg_aload_n 1 (sk_td o_X9_readsWage 0 rfl) rfl rfl ?_
  refine sg_iconst (v := (1 : Int32)) 2 (sk_td o_X9_readsWage 1 rfl) rfl (by decide) ?_
  refine sg_bipush (v := (9 : Int32)) 4 (sk_td o_X9_readsWage 2 rfl) rfl (by decide) ?_
  obtain ⟨x1, hr_x1, hq⟩ := sk_bnd hq
  refine sm_callV2i 7 (s_X9_readsDigit hr_x1) (sk_td o_X9_readsWage 3 rfl) rfl lv_X9_324 rfl rfl rfl sz_44 (sk_rok (Nat.le_of_ble_eq_true rfl) (Nat.le_of_ble_eq_true rfl) rfl rfl) (Nat.le_of_ble_eq_true rfl) ?_
  refine sg_if_ne 12 10 (sk_td o_X9_readsWage 4 rfl) (by decide) rfl (fun hc => ?_) (fun hc => ?_)
  · rw [if_neg hc] at hq
    refine sg_aload_n 13 (sk_td o_X9_readsWage 7 rfl) rfl rfl ?_
    refine sm_getI 16 (sk_td o_X9_readsWage 8 rfl) rfl kf_X9_318 rfl rfl sz_44 ?_
    refine sg_istore_n 17 [some (.inr (.inr (some (44, 0)))), some (.inl (x1.2.1 44 0 60)), none] (sk_td o_X9_readsWage 9 rfl) rfl rfl (Nat.le_of_ble_eq_true rfl) rfl ?_
    refine sg_iconst (v := (0 : Int32)) 18 (sk_td o_X9_readsWage 10 rfl) rfl (by decide) ?_
    refine sg_istore_n 19 [some (.inr (.inr (some (44, 0)))), some (.inl (x1.2.1 44 0 60)), some (.inl (0 : Int32))] (sk_td o_X9_readsWage 11 rfl) rfl rfl (Nat.le_of_ble_eq_true rfl) rfl ?_
    exact lt_X9_readsWage_19 sk_fu (x1.2, (x1.2.1 44 0 60), (0 : Int32)) _ hq
  · rw [if_pos hc] at hq
    refine sg_iconst (v := (0 : Int32)) 11 (sk_td o_X9_readsWage 5 rfl) rfl (by decide) ?_
    obtain rfl := Option.some.inj hq
    exact sg_iret (sk_td o_X9_readsWage 6 rfl) rfl (show narrow .boolean (.int (0 : Int32)) = .int (0 : Int32) by decide)
def q_X9_readsWage (d : sk_D) : Option (Int32 × sk_D) := q_X9_readsWage_0 d 
theorem s_X9_readsWage {l : Launch} {d : sk_D} {res : Int32 × sk_D} (hq : q_X9_readsWage d = some res) : sk_M l 3 m_X9_readsWage [.inr (.inr (some (44, 0)))] (sk_mm d) (some (.inl res.1)) (sk_mm res.2) :=
  sk_enter (by decide) (fun _ => Nat.le_of_ble_eq_true rfl) (Nat.le_of_ble_eq_true rfl) (t_X9_readsWage_0 hq )
def q_X9_readsPupil_64 (d : sk_D) : Option (Int32 × sk_D) :=
  (q_X9_takes d (59 : Int32)).bind fun x1 => if sk_nb x1.1 = true then some (x1.1, x1.2) else none
set_option maxRecDepth 100000 in
set_option maxHeartbeats 4000000 in
theorem t_X9_readsPupil_64 {l : Launch} {d : sk_D} {res : Int32 × sk_D} (hq : q_X9_readsPupil_64 d = some res) :
    sk_G l (sk_rm 3 0 0) m_X9_readsPupil sk_Ex0 (sk_Zm m_X9_readsPupil (some (.inl res.1)) (sk_mm res.2)) 0 0 64 [some (.inr (.inr (some (44, 0))))] [] (sk_mm d) := by
  unfold q_X9_readsPupil_64 at hq
  refine sg_aload_n 65 (sk_td o_X9_readsPupil 34 rfl) rfl rfl ?_
  refine sg_bipush (v := (59 : Int32)) 67 (sk_td o_X9_readsPupil 35 rfl) rfl (by decide) ?_
  obtain ⟨x1, hr_x1, hq⟩ := sk_bnd hq
  refine sm_callV1i 70 (s_X9_takes hr_x1) (sk_td o_X9_readsPupil 36 rfl) rfl lv_X9_337 rfl rfl rfl sz_44 (sk_rok (Nat.le_of_ble_eq_true rfl) (Nat.le_of_ble_eq_true rfl) rfl rfl) (Nat.le_of_ble_eq_true rfl) ?_
  obtain ⟨hn2, hq⟩ := sk_ifn hq
  obtain rfl := Option.some.inj hq
  exact sg_iret (sk_td o_X9_readsPupil 37 rfl) rfl (sk_nb.z hn2)
def q_X9_readsPupil_38 (d : sk_D) : Option (Int32 × sk_D) :=
  (q_X9_takes d (47 : Int32)).bind fun x1 => if x1.1 = 0 then (q_X9_readsPupil_64 x1.2) else (q_X9_readsDigit x1.2 (0 : Int32) (7 : Int32)).bind fun x2 => if x2.1 = 0 then some ((0 : Int32), x2.2) else (q_X9_readsPupil_64 (sk_wi x2.2 44 0 59 (x2.2.1 44 0 60)))
set_option maxRecDepth 100000 in
set_option maxHeartbeats 4000000 in
theorem t_X9_readsPupil_38 {l : Launch} {d : sk_D} {res : Int32 × sk_D} (hq : q_X9_readsPupil_38 d = some res) :
    sk_G l (sk_rm 3 0 0) m_X9_readsPupil sk_Ex0 (sk_Zm m_X9_readsPupil (some (.inl res.1)) (sk_mm res.2)) 0 0 38 [some (.inr (.inr (some (44, 0))))] [.inl (47 : Int32), .inr (.inr (some (44, 0)))] (sk_mm d) := by
  unfold q_X9_readsPupil_38 at hq
  obtain ⟨x1, hr_x1, hq⟩ := sk_bnd hq
  refine sm_callV1i 41 (s_X9_takes hr_x1) (sk_td o_X9_readsPupil 21 rfl) rfl lv_X9_337 rfl rfl rfl sz_44 (sk_rok (Nat.le_of_ble_eq_true rfl) (Nat.le_of_ble_eq_true rfl) rfl rfl) (Nat.le_of_ble_eq_true rfl) ?_
  refine sg_if_eq 64 44 (sk_td o_X9_readsPupil 22 rfl) (by decide) rfl (fun hc => ?_) (fun hc => ?_)
  · rw [if_pos hc] at hq
    exact t_X9_readsPupil_64 hq
  · rw [if_neg hc] at hq
    refine sg_aload_n 45 (sk_td o_X9_readsPupil 23 rfl) rfl rfl ?_
    refine sg_iconst (v := (0 : Int32)) 46 (sk_td o_X9_readsPupil 24 rfl) rfl (by decide) ?_
    refine sg_bipush (v := (7 : Int32)) 48 (sk_td o_X9_readsPupil 25 rfl) rfl (by decide) ?_
    obtain ⟨x2, hr_x2, hq⟩ := sk_bnd hq
    refine sm_callV2i 51 (s_X9_readsDigit hr_x2) (sk_td o_X9_readsPupil 26 rfl) rfl lv_X9_324 rfl rfl rfl sz_44 (sk_rok (Nat.le_of_ble_eq_true rfl) (Nat.le_of_ble_eq_true rfl) rfl rfl) (Nat.le_of_ble_eq_true rfl) ?_
    refine sg_if_ne 56 54 (sk_td o_X9_readsPupil 27 rfl) (by decide) rfl (fun hc => ?_) (fun hc => ?_)
    · rw [if_neg hc] at hq
      refine sg_aload_n 57 (sk_td o_X9_readsPupil 30 rfl) rfl rfl ?_
      refine sg_aload_n 58 (sk_td o_X9_readsPupil 31 rfl) rfl rfl ?_
      refine sm_getI 61 (sk_td o_X9_readsPupil 32 rfl) rfl kf_X9_318 rfl rfl sz_44 ?_
      refine sm_putI 64 (sk_td o_X9_readsPupil 33 rfl) rfl kp_X9_334 rfl rfl sz_44 ?_
      exact t_X9_readsPupil_64 hq
    · rw [if_pos hc] at hq
      refine sg_iconst (v := (0 : Int32)) 55 (sk_td o_X9_readsPupil 28 rfl) rfl (by decide) ?_
      obtain rfl := Option.some.inj hq
      exact sg_iret (sk_td o_X9_readsPupil 29 rfl) rfl (show narrow .boolean (.int (0 : Int32)) = .int (0 : Int32) by decide)
def q_X9_readsPupil_21 (d : sk_D) : Option (Int32 × sk_D) :=
  (q_X9_readsSet d).bind fun x1 => if x1.1 = 0 then some ((0 : Int32), x1.2) else (q_X9_readsPupil_38 (sk_wi x1.2 44 0 59 (-9 : Int32)))
set_option maxRecDepth 100000 in
set_option maxHeartbeats 4000000 in
theorem t_X9_readsPupil_21 {l : Launch} {d : sk_D} {res : Int32 × sk_D} (hq : q_X9_readsPupil_21 d = some res) :
    sk_G l (sk_rm 3 0 0) m_X9_readsPupil sk_Ex0 (sk_Zm m_X9_readsPupil (some (.inl res.1)) (sk_mm res.2)) 0 0 21 [some (.inr (.inr (some (44, 0))))] [.inr (.inr (some (44, 0)))] (sk_mm d) := by
  unfold q_X9_readsPupil_21 at hq
  obtain ⟨x1, hr_x1, hq⟩ := sk_bnd hq
  refine sm_callV0i 24 (s_X9_readsSet hr_x1) (sk_td o_X9_readsPupil 12 rfl) rfl lv_X9_330 rfl rfl rfl sz_44 (sk_rok (Nat.le_of_ble_eq_true rfl) (Nat.le_of_ble_eq_true rfl) rfl rfl) (Nat.le_of_ble_eq_true rfl) ?_
  refine sg_if_ne 29 27 (sk_td o_X9_readsPupil 13 rfl) (by decide) rfl (fun hc => ?_) (fun hc => ?_)
  · rw [if_neg hc] at hq
    refine sg_aload_n 30 (sk_td o_X9_readsPupil 16 rfl) rfl rfl ?_
    refine sg_bipush (v := (-9 : Int32)) 32 (sk_td o_X9_readsPupil 17 rfl) rfl (by decide) ?_
    refine sm_putI 35 (sk_td o_X9_readsPupil 18 rfl) rfl kp_X9_334 rfl rfl sz_44 ?_
    refine sg_aload_n 36 (sk_td o_X9_readsPupil 19 rfl) rfl rfl ?_
    refine sg_bipush (v := (47 : Int32)) 38 (sk_td o_X9_readsPupil 20 rfl) rfl (by decide) ?_
    exact t_X9_readsPupil_38 hq
  · rw [if_pos hc] at hq
    refine sg_iconst (v := (0 : Int32)) 28 (sk_td o_X9_readsPupil 14 rfl) rfl (by decide) ?_
    obtain rfl := Option.some.inj hq
    exact sg_iret (sk_td o_X9_readsPupil 15 rfl) rfl (show narrow .boolean (.int (0 : Int32)) = .int (0 : Int32) by decide)
def q_X9_readsPupil_0 (d : sk_D) : Option (Int32 × sk_D) :=
  (q_X9_readsDigit d (0 : Int32) (7 : Int32)).bind fun x1 => if x1.1 = 0 then some ((0 : Int32), x1.2) else (q_X9_readsPupil_21 (sk_wi x1.2 44 0 58 (x1.2.1 44 0 60)))
set_option maxRecDepth 100000 in
set_option maxHeartbeats 4000000 in
theorem t_X9_readsPupil_0 {l : Launch} {d : sk_D} {res : Int32 × sk_D} (hq : q_X9_readsPupil_0 d = some res) :
    sk_G l (sk_rm 3 0 0) m_X9_readsPupil sk_Ex0 (sk_Zm m_X9_readsPupil (some (.inl res.1)) (sk_mm res.2)) 0 0 0 [some (.inr (.inr (some (44, 0))))] [] (sk_mm d) := by
  unfold q_X9_readsPupil_0 at hq
  refine sg_aload_n 1 (sk_td o_X9_readsPupil 0 rfl) rfl rfl ?_
  refine sg_iconst (v := (0 : Int32)) 2 (sk_td o_X9_readsPupil 1 rfl) rfl (by decide) ?_
  refine sg_bipush (v := (7 : Int32)) 4 (sk_td o_X9_readsPupil 2 rfl) rfl (by decide) ?_
  obtain ⟨x1, hr_x1, hq⟩ := sk_bnd hq
  refine sm_callV2i 7 (s_X9_readsDigit hr_x1) (sk_td o_X9_readsPupil 3 rfl) rfl lv_X9_324 rfl rfl rfl sz_44 (sk_rok (Nat.le_of_ble_eq_true rfl) (Nat.le_of_ble_eq_true rfl) rfl rfl) (Nat.le_of_ble_eq_true rfl) ?_
  refine sg_if_ne 12 10 (sk_td o_X9_readsPupil 4 rfl) (by decide) rfl (fun hc => ?_) (fun hc => ?_)
  · rw [if_neg hc] at hq
    refine sg_aload_n 13 (sk_td o_X9_readsPupil 7 rfl) rfl rfl ?_
    refine sg_aload_n 14 (sk_td o_X9_readsPupil 8 rfl) rfl rfl ?_
    refine sm_getI 17 (sk_td o_X9_readsPupil 9 rfl) rfl kf_X9_318 rfl rfl sz_44 ?_
    refine sm_putI 20 (sk_td o_X9_readsPupil 10 rfl) rfl kp_X9_327 rfl rfl sz_44 ?_
    refine sg_aload_n 21 (sk_td o_X9_readsPupil 11 rfl) rfl rfl ?_
    exact t_X9_readsPupil_21 hq
  · rw [if_pos hc] at hq
    refine sg_iconst (v := (0 : Int32)) 11 (sk_td o_X9_readsPupil 5 rfl) rfl (by decide) ?_
    obtain rfl := Option.some.inj hq
    exact sg_iret (sk_td o_X9_readsPupil 6 rfl) rfl (show narrow .boolean (.int (0 : Int32)) = .int (0 : Int32) by decide)
def q_X9_readsPupil (d : sk_D) : Option (Int32 × sk_D) := q_X9_readsPupil_0 d 
theorem s_X9_readsPupil {l : Launch} {d : sk_D} {res : Int32 × sk_D} (hq : q_X9_readsPupil d = some res) : sk_M l 3 m_X9_readsPupil [.inr (.inr (some (44, 0)))] (sk_mm d) (some (.inl res.1)) (sk_mm res.2) :=
  sk_enter (by decide) (fun _ => Nat.le_of_ble_eq_true rfl) (Nat.le_of_ble_eq_true rfl) (t_X9_readsPupil_0 hq )
def q_X9_readsGroup_61 (d : sk_D) : Option (Int32 × sk_D) :=
  (q_X9_readsDigit d (1 : Int32) (6 : Int32)).bind fun x1 => if x1.1 = 0 then some ((0 : Int32), x1.2) else (q_X9_takes x1.2 (59 : Int32)).bind fun x2 => if x2.1 = 0 then some ((0 : Int32), x2.2) else some ((1 : Int32), x2.2)
set_option maxRecDepth 100000 in
set_option maxHeartbeats 4000000 in
theorem t_X9_readsGroup_61 {l : Launch} {d : sk_D} {res : Int32 × sk_D} (hq : q_X9_readsGroup_61 d = some res) :
    sk_G l (sk_rm 3 0 0) m_X9_readsGroup sk_Ex0 (sk_Zm m_X9_readsGroup (some (.inl res.1)) (sk_mm res.2)) 0 0 61 [some (.inr (.inr (some (44, 0))))] [.inl (6 : Int32), .inl (1 : Int32), .inr (.inr (some (44, 0)))] (sk_mm d) := by
  unfold q_X9_readsGroup_61 at hq
  obtain ⟨x1, hr_x1, hq⟩ := sk_bnd hq
  refine sm_callV2i 64 (s_X9_readsDigit hr_x1) (sk_td o_X9_readsGroup 34 rfl) rfl lv_X9_324 rfl rfl rfl sz_44 (sk_rok (Nat.le_of_ble_eq_true rfl) (Nat.le_of_ble_eq_true rfl) rfl rfl) (Nat.le_of_ble_eq_true rfl) ?_
  refine sg_if_eq 80 67 (sk_td o_X9_readsGroup 35 rfl) (by decide) rfl (fun hc => ?_) (fun hc => ?_)
  · rw [if_pos hc] at hq
    refine sg_iconst (v := (0 : Int32)) 81 (sk_td o_X9_readsGroup 42 rfl) rfl (by decide) ?_
    obtain rfl := Option.some.inj hq
    exact sg_iret (sk_td o_X9_readsGroup 43 rfl) rfl (show narrow .boolean (.int (0 : Int32)) = .int (0 : Int32) by decide)
  · rw [if_neg hc] at hq
    refine sg_aload_n 68 (sk_td o_X9_readsGroup 36 rfl) rfl rfl ?_
    refine sg_bipush (v := (59 : Int32)) 70 (sk_td o_X9_readsGroup 37 rfl) rfl (by decide) ?_
    obtain ⟨x2, hr_x2, hq⟩ := sk_bnd hq
    refine sm_callV1i 73 (s_X9_takes hr_x2) (sk_td o_X9_readsGroup 38 rfl) rfl lv_X9_337 rfl rfl rfl sz_44 (sk_rok (Nat.le_of_ble_eq_true rfl) (Nat.le_of_ble_eq_true rfl) rfl rfl) (Nat.le_of_ble_eq_true rfl) ?_
    refine sg_if_eq 80 76 (sk_td o_X9_readsGroup 39 rfl) (by decide) rfl (fun hc => ?_) (fun hc => ?_)
    · rw [if_pos hc] at hq
      refine sg_iconst (v := (0 : Int32)) 81 (sk_td o_X9_readsGroup 42 rfl) rfl (by decide) ?_
      obtain rfl := Option.some.inj hq
      exact sg_iret (sk_td o_X9_readsGroup 43 rfl) rfl (show narrow .boolean (.int (0 : Int32)) = .int (0 : Int32) by decide)
    · rw [if_neg hc] at hq
      refine sg_iconst (v := (1 : Int32)) 77 (sk_td o_X9_readsGroup 40 rfl) rfl (by decide) ?_
      refine sg_goto 81 (sk_td o_X9_readsGroup 41 rfl) (by decide) ?_
      obtain rfl := Option.some.inj hq
      exact sg_iret (sk_td o_X9_readsGroup 43 rfl) rfl (show narrow .boolean (.int (1 : Int32)) = .int (1 : Int32) by decide)
def q_X9_readsGroup_49 (d : sk_D) : Option (Int32 × sk_D) :=
  (q_X9_readsGroup_61 (sk_wi d 44 0 56 ((d.1 44 0 56) + (1 : Int32))))
set_option maxRecDepth 100000 in
set_option maxHeartbeats 4000000 in
theorem t_X9_readsGroup_49 {l : Launch} {d : sk_D} {res : Int32 × sk_D} (hq : q_X9_readsGroup_49 d = some res) :
    sk_G l (sk_rm 3 0 0) m_X9_readsGroup sk_Ex0 (sk_Zm m_X9_readsGroup (some (.inl res.1)) (sk_mm res.2)) 0 0 49 [some (.inr (.inr (some (44, 0))))] [.inr (.inr (some (44, 0))), .inr (.inr (some (44, 0)))] (sk_mm d) := by
  unfold q_X9_readsGroup_49 at hq
  refine sm_getI 52 (sk_td o_X9_readsGroup 27 rfl) rfl kf_X9_312 rfl rfl sz_44 ?_
  refine sg_iconst (v := (1 : Int32)) 53 (sk_td o_X9_readsGroup 28 rfl) rfl (by decide) ?_
  refine sg_iadd 54 (sk_td o_X9_readsGroup 29 rfl) rfl ?_
  refine sm_putI 57 (sk_td o_X9_readsGroup 30 rfl) rfl kp_X9_312 rfl rfl sz_44 ?_
  refine sg_aload_n 58 (sk_td o_X9_readsGroup 31 rfl) rfl rfl ?_
  refine sg_iconst (v := (1 : Int32)) 59 (sk_td o_X9_readsGroup 32 rfl) rfl (by decide) ?_
  refine sg_bipush (v := (6 : Int32)) 61 (sk_td o_X9_readsGroup 33 rfl) rfl (by decide) ?_
  exact t_X9_readsGroup_61 hq
def q_X9_readsGroup_21 (d : sk_D) : Option (Int32 × sk_D) :=
  (q_X9_next d).bind fun x1 => (q_X9_within d x1 (97 : Int32) (102 : Int32)).bind fun x2 => if x2 = 0 then some ((0 : Int32), d) else (q_X9_next d).bind fun x3 => (q_X9_readsGroup_49 (sk_wi d 44 0 59 (x3 - (97 : Int32))))
set_option maxRecDepth 100000 in
set_option maxHeartbeats 4000000 in
theorem t_X9_readsGroup_21 {l : Launch} {d : sk_D} {res : Int32 × sk_D} (hq : q_X9_readsGroup_21 d = some res) :
    sk_G l (sk_rm 3 0 0) m_X9_readsGroup sk_Ex0 (sk_Zm m_X9_readsGroup (some (.inl res.1)) (sk_mm res.2)) 0 0 21 [some (.inr (.inr (some (44, 0))))] [.inr (.inr (some (44, 0)))] (sk_mm d) := by
  unfold q_X9_readsGroup_21 at hq
  obtain ⟨x1, hr_x1, hq⟩ := sk_bnd hq
  refine sm_callV0i 24 (s_X9_next hr_x1) (sk_td o_X9_readsGroup 12 rfl) rfl lv_X9_315 rfl rfl rfl sz_44 (sk_rok (Nat.le_of_ble_eq_true rfl) (Nat.le_of_ble_eq_true rfl) rfl rfl) (Nat.le_of_ble_eq_true rfl) ?_
  refine sg_bipush (v := (97 : Int32)) 26 (sk_td o_X9_readsGroup 13 rfl) rfl (by decide) ?_
  refine sg_bipush (v := (102 : Int32)) 28 (sk_td o_X9_readsGroup 14 rfl) rfl (by decide) ?_
  obtain ⟨x2, hr_x2, hq⟩ := sk_bnd hq
  refine sm_callS3i 31 (s_X9_within hr_x2) (sk_td o_X9_readsGroup 15 rfl) rfl ls_X9_168 rfl (sk_rok (Nat.le_of_ble_eq_true rfl) (Nat.le_of_ble_eq_true rfl) rfl rfl) (Nat.le_of_ble_eq_true rfl) ?_
  refine sg_if_ne 36 34 (sk_td o_X9_readsGroup 16 rfl) (by decide) rfl (fun hc => ?_) (fun hc => ?_)
  · rw [if_neg hc] at hq
    refine sg_aload_n 37 (sk_td o_X9_readsGroup 19 rfl) rfl rfl ?_
    refine sg_aload_n 38 (sk_td o_X9_readsGroup 20 rfl) rfl rfl ?_
    obtain ⟨x3, hr_x3, hq⟩ := sk_bnd hq
    refine sm_callV0i 41 (s_X9_next hr_x3) (sk_td o_X9_readsGroup 21 rfl) rfl lv_X9_315 rfl rfl rfl sz_44 (sk_rok (Nat.le_of_ble_eq_true rfl) (Nat.le_of_ble_eq_true rfl) rfl rfl) (Nat.le_of_ble_eq_true rfl) ?_
    refine sg_bipush (v := (97 : Int32)) 43 (sk_td o_X9_readsGroup 22 rfl) rfl (by decide) ?_
    refine sg_isub 44 (sk_td o_X9_readsGroup 23 rfl) rfl ?_
    refine sm_putI 47 (sk_td o_X9_readsGroup 24 rfl) rfl kp_X9_334 rfl rfl sz_44 ?_
    refine sg_aload_n 48 (sk_td o_X9_readsGroup 25 rfl) rfl rfl ?_
    refine sg_dupR 49 (sk_td o_X9_readsGroup 26 rfl) rfl ?_
    exact t_X9_readsGroup_49 hq
  · rw [if_pos hc] at hq
    refine sg_iconst (v := (0 : Int32)) 35 (sk_td o_X9_readsGroup 17 rfl) rfl (by decide) ?_
    obtain rfl := Option.some.inj hq
    exact sg_iret (sk_td o_X9_readsGroup 18 rfl) rfl (show narrow .boolean (.int (0 : Int32)) = .int (0 : Int32) by decide)
def q_X9_readsGroup_0 (d : sk_D) : Option (Int32 × sk_D) :=
  (q_X9_readsDigit d (0 : Int32) (7 : Int32)).bind fun x1 => if x1.1 = 0 then some ((0 : Int32), x1.2) else (q_X9_readsGroup_21 (sk_wi x1.2 44 0 58 (x1.2.1 44 0 60)))
set_option maxRecDepth 100000 in
set_option maxHeartbeats 4000000 in
theorem t_X9_readsGroup_0 {l : Launch} {d : sk_D} {res : Int32 × sk_D} (hq : q_X9_readsGroup_0 d = some res) :
    sk_G l (sk_rm 3 0 0) m_X9_readsGroup sk_Ex0 (sk_Zm m_X9_readsGroup (some (.inl res.1)) (sk_mm res.2)) 0 0 0 [some (.inr (.inr (some (44, 0))))] [] (sk_mm d) := by
  unfold q_X9_readsGroup_0 at hq
  refine sg_aload_n 1 (sk_td o_X9_readsGroup 0 rfl) rfl rfl ?_
  refine sg_iconst (v := (0 : Int32)) 2 (sk_td o_X9_readsGroup 1 rfl) rfl (by decide) ?_
  refine sg_bipush (v := (7 : Int32)) 4 (sk_td o_X9_readsGroup 2 rfl) rfl (by decide) ?_
  obtain ⟨x1, hr_x1, hq⟩ := sk_bnd hq
  refine sm_callV2i 7 (s_X9_readsDigit hr_x1) (sk_td o_X9_readsGroup 3 rfl) rfl lv_X9_324 rfl rfl rfl sz_44 (sk_rok (Nat.le_of_ble_eq_true rfl) (Nat.le_of_ble_eq_true rfl) rfl rfl) (Nat.le_of_ble_eq_true rfl) ?_
  refine sg_if_ne 12 10 (sk_td o_X9_readsGroup 4 rfl) (by decide) rfl (fun hc => ?_) (fun hc => ?_)
  · rw [if_neg hc] at hq
    refine sg_aload_n 13 (sk_td o_X9_readsGroup 7 rfl) rfl rfl ?_
    refine sg_aload_n 14 (sk_td o_X9_readsGroup 8 rfl) rfl rfl ?_
    refine sm_getI 17 (sk_td o_X9_readsGroup 9 rfl) rfl kf_X9_318 rfl rfl sz_44 ?_
    refine sm_putI 20 (sk_td o_X9_readsGroup 10 rfl) rfl kp_X9_327 rfl rfl sz_44 ?_
    refine sg_aload_n 21 (sk_td o_X9_readsGroup 11 rfl) rfl rfl ?_
    exact t_X9_readsGroup_21 hq
  · rw [if_pos hc] at hq
    refine sg_iconst (v := (0 : Int32)) 11 (sk_td o_X9_readsGroup 5 rfl) rfl (by decide) ?_
    obtain rfl := Option.some.inj hq
    exact sg_iret (sk_td o_X9_readsGroup 6 rfl) rfl (show narrow .boolean (.int (0 : Int32)) = .int (0 : Int32) by decide)
def q_X9_readsGroup (d : sk_D) : Option (Int32 × sk_D) := q_X9_readsGroup_0 d 
theorem s_X9_readsGroup {l : Launch} {d : sk_D} {res : Int32 × sk_D} (hq : q_X9_readsGroup d = some res) : sk_M l 3 m_X9_readsGroup [.inr (.inr (some (44, 0)))] (sk_mm d) (some (.inl res.1)) (sk_mm res.2) :=
  sk_enter (by decide) (fun _ => Nat.le_of_ble_eq_true rfl) (Nat.le_of_ble_eq_true rfl) (t_X9_readsGroup_0 hq )
def q_X9_readsInstructor_53 (d : sk_D) : Option (Int32 × sk_D) :=
  (q_X9_takes d (58 : Int32)).bind fun x1 => if x1.1 = 0 then some ((0 : Int32), x1.2) else (q_X9_readsWage x1.2).bind fun x2 => if x2.1 = 0 then some ((0 : Int32), x2.2) else (q_X9_takes x2.2 (59 : Int32)).bind fun x3 => if x3.1 = 0 then some ((0 : Int32), x3.2) else some ((1 : Int32), x3.2)
set_option maxRecDepth 100000 in
set_option maxHeartbeats 4000000 in
theorem t_X9_readsInstructor_53 {l : Launch} {d : sk_D} {res : Int32 × sk_D} (hq : q_X9_readsInstructor_53 d = some res) :
    sk_G l (sk_rm 4 0 0) m_X9_readsInstructor sk_Ex0 (sk_Zm m_X9_readsInstructor (some (.inl res.1)) (sk_mm res.2)) 0 0 53 [some (.inr (.inr (some (44, 0))))] [.inl (58 : Int32), .inr (.inr (some (44, 0)))] (sk_mm d) := by
  unfold q_X9_readsInstructor_53 at hq
  obtain ⟨x1, hr_x1, hq⟩ := sk_bnd hq
  refine sm_callV1i 56 (s_X9_takes hr_x1) (sk_td o_X9_readsInstructor 28 rfl) rfl lv_X9_337 rfl rfl rfl sz_44 (sk_rok (Nat.le_of_ble_eq_true rfl) (Nat.le_of_ble_eq_true rfl) rfl rfl) (Nat.le_of_ble_eq_true rfl) ?_
  refine sg_if_eq 79 59 (sk_td o_X9_readsInstructor 29 rfl) (by decide) rfl (fun hc => ?_) (fun hc => ?_)
  · rw [if_pos hc] at hq
    refine sg_iconst (v := (0 : Int32)) 80 (sk_td o_X9_readsInstructor 39 rfl) rfl (by decide) ?_
    obtain rfl := Option.some.inj hq
    exact sg_iret (sk_td o_X9_readsInstructor 40 rfl) rfl (show narrow .boolean (.int (0 : Int32)) = .int (0 : Int32) by decide)
  · rw [if_neg hc] at hq
    refine sg_aload_n 60 (sk_td o_X9_readsInstructor 30 rfl) rfl rfl ?_
    obtain ⟨x2, hr_x2, hq⟩ := sk_bnd hq
    refine sm_callV0i 63 (s_X9_readsWage hr_x2) (sk_td o_X9_readsInstructor 31 rfl) rfl lv_X9_340 rfl rfl rfl sz_44 (sk_rok (Nat.le_of_ble_eq_true rfl) (Nat.le_of_ble_eq_true rfl) rfl rfl) (Nat.le_of_ble_eq_true rfl) ?_
    refine sg_if_eq 79 66 (sk_td o_X9_readsInstructor 32 rfl) (by decide) rfl (fun hc => ?_) (fun hc => ?_)
    · rw [if_pos hc] at hq
      refine sg_iconst (v := (0 : Int32)) 80 (sk_td o_X9_readsInstructor 39 rfl) rfl (by decide) ?_
      obtain rfl := Option.some.inj hq
      exact sg_iret (sk_td o_X9_readsInstructor 40 rfl) rfl (show narrow .boolean (.int (0 : Int32)) = .int (0 : Int32) by decide)
    · rw [if_neg hc] at hq
      refine sg_aload_n 67 (sk_td o_X9_readsInstructor 33 rfl) rfl rfl ?_
      refine sg_bipush (v := (59 : Int32)) 69 (sk_td o_X9_readsInstructor 34 rfl) rfl (by decide) ?_
      obtain ⟨x3, hr_x3, hq⟩ := sk_bnd hq
      refine sm_callV1i 72 (s_X9_takes hr_x3) (sk_td o_X9_readsInstructor 35 rfl) rfl lv_X9_337 rfl rfl rfl sz_44 (sk_rok (Nat.le_of_ble_eq_true rfl) (Nat.le_of_ble_eq_true rfl) rfl rfl) (Nat.le_of_ble_eq_true rfl) ?_
      refine sg_if_eq 79 75 (sk_td o_X9_readsInstructor 36 rfl) (by decide) rfl (fun hc => ?_) (fun hc => ?_)
      · rw [if_pos hc] at hq
        refine sg_iconst (v := (0 : Int32)) 80 (sk_td o_X9_readsInstructor 39 rfl) rfl (by decide) ?_
        obtain rfl := Option.some.inj hq
        exact sg_iret (sk_td o_X9_readsInstructor 40 rfl) rfl (show narrow .boolean (.int (0 : Int32)) = .int (0 : Int32) by decide)
      · rw [if_neg hc] at hq
        refine sg_iconst (v := (1 : Int32)) 76 (sk_td o_X9_readsInstructor 37 rfl) rfl (by decide) ?_
        refine sg_goto 80 (sk_td o_X9_readsInstructor 38 rfl) (by decide) ?_
        obtain rfl := Option.some.inj hq
        exact sg_iret (sk_td o_X9_readsInstructor 40 rfl) rfl (show narrow .boolean (.int (1 : Int32)) = .int (1 : Int32) by decide)
def q_X9_readsInstructor_29 (d : sk_D) : Option (Int32 × sk_D) :=
  (q_X9_readsDigit d (d.1 44 0 58) (7 : Int32)).bind fun x1 => if x1.1 = 0 then some ((0 : Int32), x1.2) else (q_X9_readsInstructor_53 (sk_wi x1.2 44 0 59 (x1.2.1 44 0 60)))
set_option maxRecDepth 100000 in
set_option maxHeartbeats 4000000 in
theorem t_X9_readsInstructor_29 {l : Launch} {d : sk_D} {res : Int32 × sk_D} (hq : q_X9_readsInstructor_29 d = some res) :
    sk_G l (sk_rm 4 0 0) m_X9_readsInstructor sk_Ex0 (sk_Zm m_X9_readsInstructor (some (.inl res.1)) (sk_mm res.2)) 0 0 29 [some (.inr (.inr (some (44, 0))))] [.inr (.inr (some (44, 0))), .inr (.inr (some (44, 0)))] (sk_mm d) := by
  unfold q_X9_readsInstructor_29 at hq
  refine sm_getI 32 (sk_td o_X9_readsInstructor 16 rfl) rfl kf_X9_327 rfl rfl sz_44 ?_
  refine sg_bipush (v := (7 : Int32)) 34 (sk_td o_X9_readsInstructor 17 rfl) rfl (by decide) ?_
  obtain ⟨x1, hr_x1, hq⟩ := sk_bnd hq
  refine sm_callV2i 37 (s_X9_readsDigit hr_x1) (sk_td o_X9_readsInstructor 18 rfl) rfl lv_X9_324 rfl rfl rfl sz_44 (sk_rok (Nat.le_of_ble_eq_true rfl) (Nat.le_of_ble_eq_true rfl) rfl rfl) (Nat.le_of_ble_eq_true rfl) ?_
  refine sg_if_ne 42 40 (sk_td o_X9_readsInstructor 19 rfl) (by decide) rfl (fun hc => ?_) (fun hc => ?_)
  · rw [if_neg hc] at hq
    refine sg_aload_n 43 (sk_td o_X9_readsInstructor 22 rfl) rfl rfl ?_
    refine sg_aload_n 44 (sk_td o_X9_readsInstructor 23 rfl) rfl rfl ?_
    refine sm_getI 47 (sk_td o_X9_readsInstructor 24 rfl) rfl kf_X9_318 rfl rfl sz_44 ?_
    refine sm_putI 50 (sk_td o_X9_readsInstructor 25 rfl) rfl kp_X9_334 rfl rfl sz_44 ?_
    refine sg_aload_n 51 (sk_td o_X9_readsInstructor 26 rfl) rfl rfl ?_
    refine sg_bipush (v := (58 : Int32)) 53 (sk_td o_X9_readsInstructor 27 rfl) rfl (by decide) ?_
    exact t_X9_readsInstructor_53 hq
  · rw [if_pos hc] at hq
    refine sg_iconst (v := (0 : Int32)) 41 (sk_td o_X9_readsInstructor 20 rfl) rfl (by decide) ?_
    obtain rfl := Option.some.inj hq
    exact sg_iret (sk_td o_X9_readsInstructor 21 rfl) rfl (show narrow .boolean (.int (0 : Int32)) = .int (0 : Int32) by decide)
def q_X9_readsInstructor_0 (d : sk_D) : Option (Int32 × sk_D) :=
  (q_X9_readsSet d).bind fun x1 => if x1.1 = 0 then some ((0 : Int32), x1.2) else (q_X9_readsDigit x1.2 (0 : Int32) (7 : Int32)).bind fun x2 => if x2.1 = 0 then some ((0 : Int32), x2.2) else (q_X9_readsInstructor_29 (sk_wi x2.2 44 0 58 (x2.2.1 44 0 60)))
set_option maxRecDepth 100000 in
set_option maxHeartbeats 4000000 in
theorem t_X9_readsInstructor_0 {l : Launch} {d : sk_D} {res : Int32 × sk_D} (hq : q_X9_readsInstructor_0 d = some res) :
    sk_G l (sk_rm 4 0 0) m_X9_readsInstructor sk_Ex0 (sk_Zm m_X9_readsInstructor (some (.inl res.1)) (sk_mm res.2)) 0 0 0 [some (.inr (.inr (some (44, 0))))] [] (sk_mm d) := by
  unfold q_X9_readsInstructor_0 at hq
  refine sg_aload_n 1 (sk_td o_X9_readsInstructor 0 rfl) rfl rfl ?_
  obtain ⟨x1, hr_x1, hq⟩ := sk_bnd hq
  refine sm_callV0i 4 (s_X9_readsSet hr_x1) (sk_td o_X9_readsInstructor 1 rfl) rfl lv_X9_330 rfl rfl rfl sz_44 (sk_rok (Nat.le_of_ble_eq_true rfl) (Nat.le_of_ble_eq_true rfl) rfl rfl) (Nat.le_of_ble_eq_true rfl) ?_
  refine sg_if_eq 17 7 (sk_td o_X9_readsInstructor 2 rfl) (by decide) rfl (fun hc => ?_) (fun hc => ?_)
  · rw [if_pos hc] at hq
    refine sg_iconst (v := (0 : Int32)) 18 (sk_td o_X9_readsInstructor 8 rfl) rfl (by decide) ?_
    obtain rfl := Option.some.inj hq
    exact sg_iret (sk_td o_X9_readsInstructor 9 rfl) rfl (show narrow .boolean (.int (0 : Int32)) = .int (0 : Int32) by decide)
  · rw [if_neg hc] at hq
    refine sg_aload_n 8 (sk_td o_X9_readsInstructor 3 rfl) rfl rfl ?_
    refine sg_iconst (v := (0 : Int32)) 9 (sk_td o_X9_readsInstructor 4 rfl) rfl (by decide) ?_
    refine sg_bipush (v := (7 : Int32)) 11 (sk_td o_X9_readsInstructor 5 rfl) rfl (by decide) ?_
    obtain ⟨x2, hr_x2, hq⟩ := sk_bnd hq
    refine sm_callV2i 14 (s_X9_readsDigit hr_x2) (sk_td o_X9_readsInstructor 6 rfl) rfl lv_X9_324 rfl rfl rfl sz_44 (sk_rok (Nat.le_of_ble_eq_true rfl) (Nat.le_of_ble_eq_true rfl) rfl rfl) (Nat.le_of_ble_eq_true rfl) ?_
    refine sg_if_ne 19 17 (sk_td o_X9_readsInstructor 7 rfl) (by decide) rfl (fun hc => ?_) (fun hc => ?_)
    · rw [if_neg hc] at hq
      refine sg_aload_n 20 (sk_td o_X9_readsInstructor 10 rfl) rfl rfl ?_
      refine sg_aload_n 21 (sk_td o_X9_readsInstructor 11 rfl) rfl rfl ?_
      refine sm_getI 24 (sk_td o_X9_readsInstructor 12 rfl) rfl kf_X9_318 rfl rfl sz_44 ?_
      refine sm_putI 27 (sk_td o_X9_readsInstructor 13 rfl) rfl kp_X9_327 rfl rfl sz_44 ?_
      refine sg_aload_n 28 (sk_td o_X9_readsInstructor 14 rfl) rfl rfl ?_
      refine sg_aload_n 29 (sk_td o_X9_readsInstructor 15 rfl) rfl rfl ?_
      exact t_X9_readsInstructor_29 hq
    · rw [if_pos hc] at hq
      refine sg_iconst (v := (0 : Int32)) 18 (sk_td o_X9_readsInstructor 8 rfl) rfl (by decide) ?_
      obtain rfl := Option.some.inj hq
      exact sg_iret (sk_td o_X9_readsInstructor 9 rfl) rfl (show narrow .boolean (.int (0 : Int32)) = .int (0 : Int32) by decide)
def q_X9_readsInstructor (d : sk_D) : Option (Int32 × sk_D) := q_X9_readsInstructor_0 d 
theorem s_X9_readsInstructor {l : Launch} {d : sk_D} {res : Int32 × sk_D} (hq : q_X9_readsInstructor d = some res) : sk_M l 4 m_X9_readsInstructor [.inr (.inr (some (44, 0)))] (sk_mm d) (some (.inl res.1)) (sk_mm res.2) :=
  sk_enter (by decide) (fun _ => Nat.le_of_ble_eq_true rfl) (Nat.le_of_ble_eq_true rfl) (t_X9_readsInstructor_0 hq )
