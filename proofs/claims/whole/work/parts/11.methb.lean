/-! decompiled: X4_sumScores X4_lowestScore X5_readSign X5_skip X5_readDigit X5_readLanguage X5_readLanguages X5_readPupil X5_readGroup X5_readWage X5_readInstructor X5_readEntry X5_findFault X6_begin X6_joinQueues X6_leaveQueue X6_completeRide X6_depart X6_waitAMinute X6_run -/
def q_X4_sumScores_4 (rec4 : (Nat × Int32 × Int32) → Option (Int32)) (d : sk_D) (k0 : Nat) (v1 : Int32) (v2 : Int32) : Option (Int32) :=
  if (4 : Int32) ≤ v2 then some v1 else if sk_bi v2 4 = true then (rec4 (k0, (v1 + (d.1 38 k0 v2.toNatClampNeg)), (v2 + (1 : Int32)))) else none
set_option maxRecDepth 100000 in
set_option maxHeartbeats 4000000 in
theorem t_X4_sumScores_4 {l : Launch} {rec4 : (Nat × Int32 × Int32) → Option (Int32)} {d : sk_D} {k0 : Nat} {v1 : Int32} {v2 : Int32} (hrec4 : ∀ (a : (Nat × Int32 × Int32)) (res : Int32), rec4 a = some res → a.1 < sk_cnt 37 → sk_G l (sk_rm 1 0 0) m_X4_sumScores sk_Ex0 (sk_Zm m_X4_sumScores (some (.inl res)) (sk_mm d)) 0 0 4 [some (.inr (.inr (some (37, a.1)))), some (.inl a.2.1), some (.inl a.2.2)] [] (sk_mm d)) {res : Int32} (hq : q_X4_sumScores_4 rec4 d k0 v1 v2 = some res) (hk_k0 : k0 < sk_cnt 37) :
    sk_G l (sk_rm 1 0 0) m_X4_sumScores sk_Ex0 (sk_Zm m_X4_sumScores (some (.inl res)) (sk_mm d)) 0 0 4 [some (.inr (.inr (some (37, k0)))), some (.inl v1), some (.inl v2)] [] (sk_mm d) := by
  unfold q_X4_sumScores_4 at hq
  refine sg_iload_n 5 (sk_td o_X4_sumScores 4 rfl) rfl rfl ?_
  refine sg_iconst (v := (4 : Int32)) 6 (sk_td o_X4_sumScores 5 rfl) rfl (by decide) ?_
  refine sg_ic_ge 24 9 (sk_td o_X4_sumScores 6 rfl) (by decide) rfl (fun hc => ?_) (fun hc => ?_)
  · rw [if_pos hc] at hq
    refine sg_iload_n 25 (sk_td o_X4_sumScores 16 rfl) rfl rfl ?_
    obtain rfl := Option.some.inj hq
    exact sg_iret (sk_td o_X4_sumScores 17 rfl) rfl rfl
  · rw [if_neg hc] at hq
    refine sg_iload_n 10 (sk_td o_X4_sumScores 7 rfl) rfl rfl ?_
    refine sg_aload_n 11 (sk_td o_X4_sumScores 8 rfl) rfl rfl ?_
    refine sm_getR (38, k0) 14 (sk_td o_X4_sumScores 9 rfl) rfl kf_X4_31 rfl rfl hk_k0 rfl ?_
    refine sg_iload_n 15 (sk_td o_X4_sumScores 10 rfl) rfl rfl ?_
    obtain ⟨hb1, hq⟩ := sk_ifn hq
    refine sm_iald 16 (sk_td o_X4_sumScores 11 rfl) rfl rfl hk_k0 hb1 ?_
    refine sg_iadd 17 (sk_td o_X4_sumScores 12 rfl) rfl ?_
    refine sg_istore_n 18 [some (.inr (.inr (some (37, k0)))), some (.inl (v1 + (d.1 38 k0 v2.toNatClampNeg))), some (.inl v2)] (sk_td o_X4_sumScores 13 rfl) rfl rfl (Nat.le_of_ble_eq_true rfl) rfl ?_
    refine sg_iinc (v2 + (1 : Int32)) 21 [some (.inr (.inr (some (37, k0)))), some (.inl (v1 + (d.1 38 k0 v2.toNatClampNeg))), some (.inl (v2 + (1 : Int32)))] (sk_td o_X4_sumScores 14 rfl) rfl rfl rfl rfl (Nat.le_of_ble_eq_true rfl) rfl ?_
    refine sg_goto 4 (sk_td o_X4_sumScores 15 rfl) (by decide) ?_
    exact hrec4 (k0, (v1 + (d.1 38 k0 v2.toNatClampNeg)), (v2 + (1 : Int32))) _ hq hk_k0
def l_X4_sumScores_4 (d : sk_D) (fl : Nat) (a : (Nat × Int32 × Int32)) : Option (Int32) := sk_it (fun rec4 a => q_X4_sumScores_4 rec4 d a.1 a.2.1 a.2.2) fl a
theorem lt_X4_sumScores_4 {l : Launch} {d : sk_D} : ∀ (fl : Nat) (a : (Nat × Int32 × Int32)) (res : Int32), l_X4_sumScores_4 d fl a = some res → a.1 < sk_cnt 37 → sk_G l (sk_rm 1 0 0) m_X4_sumScores sk_Ex0 (sk_Zm m_X4_sumScores (some (.inl res)) (sk_mm d)) 0 0 4 [some (.inr (.inr (some (37, a.1)))), some (.inl a.2.1), some (.inl a.2.2)] [] (sk_mm d) :=
  sk_it_ind (P := fun (a : (Nat × Int32 × Int32)) (res : Int32) => a.1 < sk_cnt 37 → sk_G l (sk_rm 1 0 0) m_X4_sumScores sk_Ex0 (sk_Zm m_X4_sumScores (some (.inl res)) (sk_mm d)) 0 0 4 [some (.inr (.inr (some (37, a.1)))), some (.inl a.2.1), some (.inl a.2.2)] [] (sk_mm d)) (fun rec4 hrec4 a res hq k0_ => t_X4_sumScores_4 hrec4 hq k0_)
def q_X4_sumScores_0 (d : sk_D) (k0 : Nat) : Option (Int32) :=
  (l_X4_sumScores_4 d sk_fu (k0, (0 : Int32), (0 : Int32)))
set_option maxRecDepth 100000 in
set_option maxHeartbeats 4000000 in
theorem t_X4_sumScores_0 {l : Launch} {d : sk_D} {k0 : Nat} {res : Int32} (hq : q_X4_sumScores_0 d k0 = some res) (hk_k0 : k0 < sk_cnt 37) :
    sk_G l (sk_rm 1 0 0) m_X4_sumScores sk_Ex0 (sk_Zm m_X4_sumScores (some (.inl res)) (sk_mm d)) 0 0 0 [some (.inr (.inr (some (37, k0)))), none, none] [] (sk_mm d) := by
  unfold q_X4_sumScores_0 at hq
  refine sg_iconst (v := (0 : Int32)) 1 (sk_td o_X4_sumScores 0 rfl) rfl (by decide) ?_
  refine sg_istore_n 2 [some (.inr (.inr (some (37, k0)))), some (.inl (0 : Int32)), none] (sk_td o_X4_sumScores 1 rfl) rfl rfl (Nat.le_of_ble_eq_true rfl) rfl ?_
  refine sg_iconst (v := (0 : Int32)) 3 (sk_td o_X4_sumScores 2 rfl) rfl (by decide) ?_
  refine sg_istore_n 4 [some (.inr (.inr (some (37, k0)))), some (.inl (0 : Int32)), some (.inl (0 : Int32))] (sk_td o_X4_sumScores 3 rfl) rfl rfl (Nat.le_of_ble_eq_true rfl) rfl ?_
  exact lt_X4_sumScores_4 sk_fu (k0, (0 : Int32), (0 : Int32)) _ hq hk_k0
def q_X4_sumScores (d : sk_D) (k0 : Nat) : Option (Int32) := q_X4_sumScores_0 d k0 
theorem s_X4_sumScores {l : Launch} {d : sk_D} {k0 : Nat} {res : Int32} (hq : q_X4_sumScores d k0 = some res) (hk_k0 : k0 < sk_cnt 37) : sk_M l 1 m_X4_sumScores [.inr (.inr (some (37, k0)))] (sk_mm d) (some (.inl res)) (sk_mm d) :=
  sk_enter (by decide) (fun _ => Nat.le_of_ble_eq_true rfl) (Nat.le_of_ble_eq_true rfl) (t_X4_sumScores_0 hq hk_k0 )
def q_X4_lowestScore_5 (rec5 : (Nat × Int32 × Int32) → Option (Int32)) (d : sk_D) (k0 : Nat) (v1 : Int32) (v2 : Int32) : Option (Int32) :=
  if (4 : Int32) ≤ v2 then some v1 else if sk_bi v2 4 = true then (rec5 (k0, (if (d.1 38 k0 v2.toNatClampNeg) < v1 then (d.1 38 k0 v2.toNatClampNeg) else v1), (v2 + (1 : Int32)))) else none
set_option maxRecDepth 100000 in
set_option maxHeartbeats 4000000 in
theorem t_X4_lowestScore_5 {l : Launch} {rec5 : (Nat × Int32 × Int32) → Option (Int32)} {d : sk_D} {k0 : Nat} {v1 : Int32} {v2 : Int32} (hrec5 : ∀ (a : (Nat × Int32 × Int32)) (res : Int32), rec5 a = some res → a.1 < sk_cnt 37 → sk_G l (sk_rm 1 0 0) m_X4_lowestScore sk_Ex0 (sk_Zm m_X4_lowestScore (some (.inl res)) (sk_mm d)) 0 0 5 [some (.inr (.inr (some (37, a.1)))), some (.inl a.2.1), some (.inl a.2.2)] [] (sk_mm d)) {res : Int32} (hq : q_X4_lowestScore_5 rec5 d k0 v1 v2 = some res) (hk_k0 : k0 < sk_cnt 37) :
    sk_G l (sk_rm 1 0 0) m_X4_lowestScore sk_Ex0 (sk_Zm m_X4_lowestScore (some (.inl res)) (sk_mm d)) 0 0 5 [some (.inr (.inr (some (37, k0)))), some (.inl v1), some (.inl v2)] [] (sk_mm d) := by
  unfold q_X4_lowestScore_5 at hq
  refine sg_iload_n 6 (sk_td o_X4_lowestScore 4 rfl) rfl rfl ?_
  refine sg_iconst (v := (4 : Int32)) 7 (sk_td o_X4_lowestScore 5 rfl) rfl (by decide) ?_
  refine sg_ic_ge 27 10 (sk_td o_X4_lowestScore 6 rfl) (by decide) rfl (fun hc => ?_) (fun hc => ?_)
  · rw [if_pos hc] at hq
    refine sg_iload_n 28 (sk_td o_X4_lowestScore 16 rfl) rfl rfl ?_
    obtain rfl := Option.some.inj hq
    exact sg_iret (sk_td o_X4_lowestScore 17 rfl) rfl rfl
  · rw [if_neg hc] at hq
    refine sg_iload_n 11 (sk_td o_X4_lowestScore 7 rfl) rfl rfl ?_
    refine sg_aload_n 12 (sk_td o_X4_lowestScore 8 rfl) rfl rfl ?_
    refine sm_getR (38, k0) 15 (sk_td o_X4_lowestScore 9 rfl) rfl kf_X4_31 rfl rfl hk_k0 rfl ?_
    refine sg_iload_n 16 (sk_td o_X4_lowestScore 10 rfl) rfl rfl ?_
    obtain ⟨hb1, hq⟩ := sk_ifn hq
    refine sm_iald 17 (sk_td o_X4_lowestScore 11 rfl) rfl rfl hk_k0 hb1 ?_
    refine sm_min 20 (sk_td o_X4_lowestScore 12 rfl) rfl kM_X4_44 (Nat.le_of_ble_eq_true rfl) (Nat.le_of_ble_eq_true rfl) (Nat.le_of_ble_eq_true rfl) ?_
    refine sg_istore_n 21 [some (.inr (.inr (some (37, k0)))), some (.inl (if (d.1 38 k0 v2.toNatClampNeg) < v1 then (d.1 38 k0 v2.toNatClampNeg) else v1)), some (.inl v2)] (sk_td o_X4_lowestScore 13 rfl) rfl rfl (Nat.le_of_ble_eq_true rfl) rfl ?_
    refine sg_iinc (v2 + (1 : Int32)) 24 [some (.inr (.inr (some (37, k0)))), some (.inl (if (d.1 38 k0 v2.toNatClampNeg) < v1 then (d.1 38 k0 v2.toNatClampNeg) else v1)), some (.inl (v2 + (1 : Int32)))] (sk_td o_X4_lowestScore 14 rfl) rfl rfl rfl rfl (Nat.le_of_ble_eq_true rfl) rfl ?_
    refine sg_goto 5 (sk_td o_X4_lowestScore 15 rfl) (by decide) ?_
    exact hrec5 (k0, (if (d.1 38 k0 v2.toNatClampNeg) < v1 then (d.1 38 k0 v2.toNatClampNeg) else v1), (v2 + (1 : Int32))) _ hq hk_k0
def l_X4_lowestScore_5 (d : sk_D) (fl : Nat) (a : (Nat × Int32 × Int32)) : Option (Int32) := sk_it (fun rec5 a => q_X4_lowestScore_5 rec5 d a.1 a.2.1 a.2.2) fl a
theorem lt_X4_lowestScore_5 {l : Launch} {d : sk_D} : ∀ (fl : Nat) (a : (Nat × Int32 × Int32)) (res : Int32), l_X4_lowestScore_5 d fl a = some res → a.1 < sk_cnt 37 → sk_G l (sk_rm 1 0 0) m_X4_lowestScore sk_Ex0 (sk_Zm m_X4_lowestScore (some (.inl res)) (sk_mm d)) 0 0 5 [some (.inr (.inr (some (37, a.1)))), some (.inl a.2.1), some (.inl a.2.2)] [] (sk_mm d) :=
  sk_it_ind (P := fun (a : (Nat × Int32 × Int32)) (res : Int32) => a.1 < sk_cnt 37 → sk_G l (sk_rm 1 0 0) m_X4_lowestScore sk_Ex0 (sk_Zm m_X4_lowestScore (some (.inl res)) (sk_mm d)) 0 0 5 [some (.inr (.inr (some (37, a.1)))), some (.inl a.2.1), some (.inl a.2.2)] [] (sk_mm d)) (fun rec5 hrec5 a res hq k0_ => t_X4_lowestScore_5 hrec5 hq k0_)
def q_X4_lowestScore_0 (d : sk_D) (k0 : Nat) : Option (Int32) :=
  (l_X4_lowestScore_5 d sk_fu (k0, (10 : Int32), (0 : Int32)))
set_option maxRecDepth 100000 in
set_option maxHeartbeats 4000000 in
theorem t_X4_lowestScore_0 {l : Launch} {d : sk_D} {k0 : Nat} {res : Int32} (hq : q_X4_lowestScore_0 d k0 = some res) (hk_k0 : k0 < sk_cnt 37) :
    sk_G l (sk_rm 1 0 0) m_X4_lowestScore sk_Ex0 (sk_Zm m_X4_lowestScore (some (.inl res)) (sk_mm d)) 0 0 0 [some (.inr (.inr (some (37, k0)))), none, none] [] (sk_mm d) := by
  unfold q_X4_lowestScore_0 at hq
  refine sg_bipush (v := (10 : Int32)) 2 (sk_td o_X4_lowestScore 0 rfl) rfl (by decide) ?_
  refine sg_istore_n 3 [some (.inr (.inr (some (37, k0)))), some (.inl (10 : Int32)), none] (sk_td o_X4_lowestScore 1 rfl) rfl rfl (Nat.le_of_ble_eq_true rfl) rfl ?_
  refine sg_iconst (v := (0 : Int32)) 4 (sk_td o_X4_lowestScore 2 rfl) rfl (by decide) ?_
  refine sg_istore_n 5 [some (.inr (.inr (some (37, k0)))), some (.inl (10 : Int32)), some (.inl (0 : Int32))] (sk_td o_X4_lowestScore 3 rfl) rfl rfl (Nat.le_of_ble_eq_true rfl) rfl ?_
  exact lt_X4_lowestScore_5 sk_fu (k0, (10 : Int32), (0 : Int32)) _ hq hk_k0
def q_X4_lowestScore (d : sk_D) (k0 : Nat) : Option (Int32) := q_X4_lowestScore_0 d k0 
theorem s_X4_lowestScore {l : Launch} {d : sk_D} {k0 : Nat} {res : Int32} (hq : q_X4_lowestScore d k0 = some res) (hk_k0 : k0 < sk_cnt 37) : sk_M l 1 m_X4_lowestScore [.inr (.inr (some (37, k0)))] (sk_mm d) (some (.inl res)) (sk_mm d) :=
  sk_enter (by decide) (fun _ => Nat.le_of_ble_eq_true rfl) (Nat.le_of_ble_eq_true rfl) (t_X4_lowestScore_0 hq hk_k0 )
def q_X5_readSign_0 (d : sk_D) (v1 : Int32) (v2 : Int32) : Option (Int32 × sk_D) :=
  if (d.1 35 0 2) < 0 then some ((0 : Int32), d) else if (d.1 35 0 1) ≤ (d.1 35 0 2) then some ((0 : Int32), d) else if (d.1 35 0 2) < (100 : Int32) then if sk_bi (d.1 35 0 2) 100 = true then if (d.1 36 0 (d.1 35 0 2).toNatClampNeg) < v1 then some ((0 : Int32), d) else if (d.1 36 0 (d.1 35 0 2).toNatClampNeg) ≤ v2 then some ((d.1 36 0 (d.1 35 0 2).toNatClampNeg), (sk_wi d 35 0 2 ((d.1 35 0 2) + (1 : Int32)))) else some ((0 : Int32), d) else none else some ((0 : Int32), d)
set_option maxRecDepth 100000 in
set_option maxHeartbeats 4000000 in
theorem t_X5_readSign_0 {l : Launch} {d : sk_D} {v1 : Int32} {v2 : Int32} {res : Int32 × sk_D} (hq : q_X5_readSign_0 d v1 v2 = some res) :
    sk_G l (sk_rm 1 0 0) m_X5_readSign sk_Ex0 (sk_Zm m_X5_readSign (some (.inl res.1)) (sk_mm res.2)) 0 0 0 [some (.inr (.inr (some (35, 0)))), some (.inl v1), some (.inl v2), none] [] (sk_mm d) := by
  unfold q_X5_readSign_0 at hq
  refine sg_aload_n 1 (sk_td o_X5_readSign 0 rfl) rfl rfl ?_
  refine sm_getI 4 (sk_td o_X5_readSign 1 rfl) rfl kf_X5_19 rfl rfl sz_35 ?_
  refine sg_if_lt 27 7 (sk_td o_X5_readSign 2 rfl) (by decide) rfl (fun hc => ?_) (fun hc => ?_)
  · rw [if_pos hc] at hq
    refine sg_iconst (v := (0 : Int32)) 28 (sk_td o_X5_readSign 12 rfl) rfl (by decide) ?_
    obtain rfl := Option.some.inj hq
    exact sg_iret (sk_td o_X5_readSign 13 rfl) rfl rfl
  · rw [if_neg hc] at hq
    refine sg_aload_n 8 (sk_td o_X5_readSign 3 rfl) rfl rfl ?_
    refine sm_getI 11 (sk_td o_X5_readSign 4 rfl) rfl kf_X5_19 rfl rfl sz_35 ?_
    refine sg_aload_n 12 (sk_td o_X5_readSign 5 rfl) rfl rfl ?_
    refine sm_getI 15 (sk_td o_X5_readSign 6 rfl) rfl kf_X5_15 rfl rfl sz_35 ?_
    refine sg_ic_ge 27 18 (sk_td o_X5_readSign 7 rfl) (by decide) rfl (fun hc => ?_) (fun hc => ?_)
    · rw [if_pos hc] at hq
      refine sg_iconst (v := (0 : Int32)) 28 (sk_td o_X5_readSign 12 rfl) rfl (by decide) ?_
      obtain rfl := Option.some.inj hq
      exact sg_iret (sk_td o_X5_readSign 13 rfl) rfl rfl
    · rw [if_neg hc] at hq
      refine sg_aload_n 19 (sk_td o_X5_readSign 8 rfl) rfl rfl ?_
      refine sm_getI 22 (sk_td o_X5_readSign 9 rfl) rfl kf_X5_19 rfl rfl sz_35 ?_
      refine sg_bipush (v := (100 : Int32)) 24 (sk_td o_X5_readSign 10 rfl) rfl (by decide) ?_
      refine sg_ic_lt 29 27 (sk_td o_X5_readSign 11 rfl) (by decide) rfl (fun hc => ?_) (fun hc => ?_)
      · rw [if_pos hc] at hq
        refine sg_aload_n 30 (sk_td o_X5_readSign 14 rfl) rfl rfl ?_
        refine sm_getR (36, 0) 33 (sk_td o_X5_readSign 15 rfl) rfl kf_X5_9 rfl rfl sz_35 rfl ?_
        refine sg_aload_n 34 (sk_td o_X5_readSign 16 rfl) rfl rfl ?_
        refine sm_getI 37 (sk_td o_X5_readSign 17 rfl) rfl kf_X5_19 rfl rfl sz_35 ?_
        obtain ⟨hb1, hq⟩ := sk_ifn hq
        refine sm_cald 38 (sk_td o_X5_readSign 18 rfl) rfl rfl sz_36 hb1 ?_
        refine sg_istore_n 39 [some (.inr (.inr (some (35, 0)))), some (.inl v1), some (.inl v2), some (.inl (d.1 36 0 (d.1 35 0 2).toNatClampNeg))] (sk_td o_X5_readSign 19 rfl) rfl rfl (Nat.le_of_ble_eq_true rfl) rfl ?_
        refine sg_iload_n 40 (sk_td o_X5_readSign 20 rfl) rfl rfl ?_
        refine sg_iload_n 41 (sk_td o_X5_readSign 21 rfl) rfl rfl ?_
        refine sg_ic_lt 49 44 (sk_td o_X5_readSign 22 rfl) (by decide) rfl (fun hc => ?_) (fun hc => ?_)
        · rw [if_pos hc] at hq
          refine sg_iconst (v := (0 : Int32)) 50 (sk_td o_X5_readSign 26 rfl) rfl (by decide) ?_
          obtain rfl := Option.some.inj hq
          exact sg_iret (sk_td o_X5_readSign 27 rfl) rfl rfl
        · rw [if_neg hc] at hq
          refine sg_iload_n 45 (sk_td o_X5_readSign 23 rfl) rfl rfl ?_
          refine sg_iload_n 46 (sk_td o_X5_readSign 24 rfl) rfl rfl ?_
          refine sg_ic_le 51 49 (sk_td o_X5_readSign 25 rfl) (by decide) rfl (fun hc => ?_) (fun hc => ?_)
          · rw [if_pos hc] at hq
            refine sg_aload_n 52 (sk_td o_X5_readSign 28 rfl) rfl rfl ?_
            refine sg_dupR 53 (sk_td o_X5_readSign 29 rfl) rfl ?_
            refine sm_getI 56 (sk_td o_X5_readSign 30 rfl) rfl kf_X5_19 rfl rfl sz_35 ?_
            refine sg_iconst (v := (1 : Int32)) 57 (sk_td o_X5_readSign 31 rfl) rfl (by decide) ?_
            refine sg_iadd 58 (sk_td o_X5_readSign 32 rfl) rfl ?_
            refine sm_putI 61 (sk_td o_X5_readSign 33 rfl) rfl kp_X5_19 rfl rfl sz_35 ?_
            refine sg_iload_n 62 (sk_td o_X5_readSign 34 rfl) rfl rfl ?_
            obtain rfl := Option.some.inj hq
            exact sg_iret (sk_td o_X5_readSign 35 rfl) rfl rfl
          · rw [if_neg hc] at hq
            refine sg_iconst (v := (0 : Int32)) 50 (sk_td o_X5_readSign 26 rfl) rfl (by decide) ?_
            obtain rfl := Option.some.inj hq
            exact sg_iret (sk_td o_X5_readSign 27 rfl) rfl rfl
      · rw [if_neg hc] at hq
        refine sg_iconst (v := (0 : Int32)) 28 (sk_td o_X5_readSign 12 rfl) rfl (by decide) ?_
        obtain rfl := Option.some.inj hq
        exact sg_iret (sk_td o_X5_readSign 13 rfl) rfl rfl
def q_X5_readSign (d : sk_D) (v1 : Int32) (v2 : Int32) : Option (Int32 × sk_D) := q_X5_readSign_0 d v1 v2 
theorem s_X5_readSign {l : Launch} {d : sk_D} {v1 : Int32} {v2 : Int32} {res : Int32 × sk_D} (hq : q_X5_readSign d v1 v2 = some res) : sk_M l 1 m_X5_readSign [.inr (.inr (some (35, 0))), .inl v1, .inl v2] (sk_mm d) (some (.inl res.1)) (sk_mm res.2) :=
  sk_enter (by decide) (fun _ => Nat.le_of_ble_eq_true rfl) (Nat.le_of_ble_eq_true rfl) (t_X5_readSign_0 hq )
def q_X5_skip_0 (d : sk_D) (v1 : Int32) : Option (Int32 × sk_D) :=
  (q_X5_readSign d v1 v1).bind fun x1 => if x1.1 = v1 then some ((1 : Int32), x1.2) else some ((0 : Int32), x1.2)
set_option maxRecDepth 100000 in
set_option maxHeartbeats 4000000 in
theorem t_X5_skip_0 {l : Launch} {d : sk_D} {v1 : Int32} {res : Int32 × sk_D} (hq : q_X5_skip_0 d v1 = some res) :
    sk_G l (sk_rm 2 0 0) m_X5_skip sk_Ex0 (sk_Zm m_X5_skip (some (.inl res.1)) (sk_mm res.2)) 0 0 0 [some (.inr (.inr (some (35, 0)))), some (.inl v1)] [] (sk_mm d) := by
  unfold q_X5_skip_0 at hq
  refine sg_aload_n 1 (sk_td o_X5_skip 0 rfl) rfl rfl ?_
  refine sg_iload_n 2 (sk_td o_X5_skip 1 rfl) rfl rfl ?_
  refine sg_iload_n 3 (sk_td o_X5_skip 2 rfl) rfl rfl ?_
  obtain ⟨x1, hr_x1, hq⟩ := sk_bnd hq
  refine sm_callV2i 6 (s_X5_readSign hr_x1) (sk_td o_X5_skip 3 rfl) rfl lv_X5_81 rfl rfl rfl sz_35 (sk_rok (Nat.le_of_ble_eq_true rfl) (Nat.le_of_ble_eq_true rfl) rfl rfl) (Nat.le_of_ble_eq_true rfl) ?_
  refine sg_iload_n 7 (sk_td o_X5_skip 4 rfl) rfl rfl ?_
  refine sg_ic_ne 14 10 (sk_td o_X5_skip 5 rfl) (by decide) rfl (fun hc => ?_) (fun hc => ?_)
  · rw [if_neg hc] at hq
    refine sg_iconst (v := (0 : Int32)) 15 (sk_td o_X5_skip 8 rfl) rfl (by decide) ?_
    obtain rfl := Option.some.inj hq
    exact sg_iret (sk_td o_X5_skip 9 rfl) rfl (show narrow .boolean (.int (0 : Int32)) = .int (0 : Int32) by decide)
  · rw [if_pos hc] at hq
    refine sg_iconst (v := (1 : Int32)) 11 (sk_td o_X5_skip 6 rfl) rfl (by decide) ?_
    refine sg_goto 15 (sk_td o_X5_skip 7 rfl) (by decide) ?_
    obtain rfl := Option.some.inj hq
    exact sg_iret (sk_td o_X5_skip 9 rfl) rfl (show narrow .boolean (.int (1 : Int32)) = .int (1 : Int32) by decide)
def q_X5_skip (d : sk_D) (v1 : Int32) : Option (Int32 × sk_D) := q_X5_skip_0 d v1 
theorem s_X5_skip {l : Launch} {d : sk_D} {v1 : Int32} {res : Int32 × sk_D} (hq : q_X5_skip d v1 = some res) : sk_M l 2 m_X5_skip [.inr (.inr (some (35, 0))), .inl v1] (sk_mm d) (some (.inl res.1)) (sk_mm res.2) :=
  sk_enter (by decide) (fun _ => Nat.le_of_ble_eq_true rfl) (Nat.le_of_ble_eq_true rfl) (t_X5_skip_0 hq )
def q_X5_readDigit_0 (d : sk_D) (v1 : Int32) (v2 : Int32) : Option (Int32 × sk_D) :=
  (q_X5_readSign d ((48 : Int32) + v1) ((48 : Int32) + v2)).bind fun x1 => some ((x1.1 - (48 : Int32)), x1.2)
set_option maxRecDepth 100000 in
set_option maxHeartbeats 4000000 in
theorem t_X5_readDigit_0 {l : Launch} {d : sk_D} {v1 : Int32} {v2 : Int32} {res : Int32 × sk_D} (hq : q_X5_readDigit_0 d v1 v2 = some res) :
    sk_G l (sk_rm 2 0 0) m_X5_readDigit sk_Ex0 (sk_Zm m_X5_readDigit (some (.inl res.1)) (sk_mm res.2)) 0 0 0 [some (.inr (.inr (some (35, 0)))), some (.inl v1), some (.inl v2)] [] (sk_mm d) := by
  unfold q_X5_readDigit_0 at hq
  refine sg_aload_n 1 (sk_td o_X5_readDigit 0 rfl) rfl rfl ?_
  refine sg_bipush (v := (48 : Int32)) 3 (sk_td o_X5_readDigit 1 rfl) rfl (by decide) ?_
  refine sg_iload_n 4 (sk_td o_X5_readDigit 2 rfl) rfl rfl ?_
  refine sg_iadd 5 (sk_td o_X5_readDigit 3 rfl) rfl ?_
  refine sg_bipush (v := (48 : Int32)) 7 (sk_td o_X5_readDigit 4 rfl) rfl (by decide) ?_
  refine sg_iload_n 8 (sk_td o_X5_readDigit 5 rfl) rfl rfl ?_
  refine sg_iadd 9 (sk_td o_X5_readDigit 6 rfl) rfl ?_
  obtain ⟨x1, hr_x1, hq⟩ := sk_bnd hq
  refine sm_callV2i 12 (s_X5_readSign hr_x1) (sk_td o_X5_readDigit 7 rfl) rfl lv_X5_81 rfl rfl rfl sz_35 (sk_rok (Nat.le_of_ble_eq_true rfl) (Nat.le_of_ble_eq_true rfl) rfl rfl) (Nat.le_of_ble_eq_true rfl) ?_
  refine sg_bipush (v := (48 : Int32)) 14 (sk_td o_X5_readDigit 8 rfl) rfl (by decide) ?_
  refine sg_isub 15 (sk_td o_X5_readDigit 9 rfl) rfl ?_
  obtain rfl := Option.some.inj hq
  exact sg_iret (sk_td o_X5_readDigit 10 rfl) rfl rfl
def q_X5_readDigit (d : sk_D) (v1 : Int32) (v2 : Int32) : Option (Int32 × sk_D) := q_X5_readDigit_0 d v1 v2 
theorem s_X5_readDigit {l : Launch} {d : sk_D} {v1 : Int32} {v2 : Int32} {res : Int32 × sk_D} (hq : q_X5_readDigit d v1 v2 = some res) : sk_M l 2 m_X5_readDigit [.inr (.inr (some (35, 0))), .inl v1, .inl v2] (sk_mm d) (some (.inl res.1)) (sk_mm res.2) :=
  sk_enter (by decide) (fun _ => Nat.le_of_ble_eq_true rfl) (Nat.le_of_ble_eq_true rfl) (t_X5_readDigit_0 hq )
def q_X5_readLanguage_0 (d : sk_D) (v1 : Int32) : Option (Int32 × sk_D) :=
  (q_X5_readSign d ((97 : Int32) + v1) (102 : Int32)).bind fun x1 => some ((x1.1 - (97 : Int32)), x1.2)
set_option maxRecDepth 100000 in
set_option maxHeartbeats 4000000 in
theorem t_X5_readLanguage_0 {l : Launch} {d : sk_D} {v1 : Int32} {res : Int32 × sk_D} (hq : q_X5_readLanguage_0 d v1 = some res) :
    sk_G l (sk_rm 2 0 0) m_X5_readLanguage sk_Ex0 (sk_Zm m_X5_readLanguage (some (.inl res.1)) (sk_mm res.2)) 0 0 0 [some (.inr (.inr (some (35, 0)))), some (.inl v1)] [] (sk_mm d) := by
  unfold q_X5_readLanguage_0 at hq
  refine sg_aload_n 1 (sk_td o_X5_readLanguage 0 rfl) rfl rfl ?_
  refine sg_bipush (v := (97 : Int32)) 3 (sk_td o_X5_readLanguage 1 rfl) rfl (by decide) ?_
  refine sg_iload_n 4 (sk_td o_X5_readLanguage 2 rfl) rfl rfl ?_
  refine sg_iadd 5 (sk_td o_X5_readLanguage 3 rfl) rfl ?_
  refine sg_bipush (v := (102 : Int32)) 7 (sk_td o_X5_readLanguage 4 rfl) rfl (by decide) ?_
  obtain ⟨x1, hr_x1, hq⟩ := sk_bnd hq
  refine sm_callV2i 10 (s_X5_readSign hr_x1) (sk_td o_X5_readLanguage 5 rfl) rfl lv_X5_81 rfl rfl rfl sz_35 (sk_rok (Nat.le_of_ble_eq_true rfl) (Nat.le_of_ble_eq_true rfl) rfl rfl) (Nat.le_of_ble_eq_true rfl) ?_
  refine sg_bipush (v := (97 : Int32)) 12 (sk_td o_X5_readLanguage 6 rfl) rfl (by decide) ?_
  refine sg_isub 13 (sk_td o_X5_readLanguage 7 rfl) rfl ?_
  obtain rfl := Option.some.inj hq
  exact sg_iret (sk_td o_X5_readLanguage 8 rfl) rfl rfl
def q_X5_readLanguage (d : sk_D) (v1 : Int32) : Option (Int32 × sk_D) := q_X5_readLanguage_0 d v1 
theorem s_X5_readLanguage {l : Launch} {d : sk_D} {v1 : Int32} {res : Int32 × sk_D} (hq : q_X5_readLanguage d v1 = some res) : sk_M l 2 m_X5_readLanguage [.inr (.inr (some (35, 0))), .inl v1] (sk_mm d) (some (.inl res.1)) (sk_mm res.2) :=
  sk_enter (by decide) (fun _ => Nat.le_of_ble_eq_true rfl) (Nat.le_of_ble_eq_true rfl) (t_X5_readLanguage_0 hq )
def q_X5_readLanguages_50 (d : sk_D) : Option (Int32 × sk_D) :=
  if (d.1 35 0 5) = 0 then some ((0 : Int32), d) else some ((1 : Int32), d)
set_option maxRecDepth 100000 in
set_option maxHeartbeats 4000000 in
theorem t_X5_readLanguages_50 {l : Launch} {d : sk_D} {res : Int32 × sk_D} (hq : q_X5_readLanguages_50 d = some res) :
    sk_G l (sk_rm 3 0 0) m_X5_readLanguages sk_Ex0 (sk_Zm m_X5_readLanguages (some (.inl res.1)) (sk_mm res.2)) 0 0 50 [some (.inr (.inr (some (35, 0)))), none, none, none] [] (sk_mm d) := by
  unfold q_X5_readLanguages_50 at hq
  refine sg_aload_n 51 (sk_td o_X5_readLanguages 31 rfl) rfl rfl ?_
  refine sm_getI 54 (sk_td o_X5_readLanguages 32 rfl) rfl kf_X5_29 rfl rfl sz_35 ?_
  refine sg_if_eq 61 57 (sk_td o_X5_readLanguages 33 rfl) (by decide) rfl (fun hc => ?_) (fun hc => ?_)
  · rw [if_pos hc] at hq
    refine sg_iconst (v := (0 : Int32)) 62 (sk_td o_X5_readLanguages 36 rfl) rfl (by decide) ?_
    obtain rfl := Option.some.inj hq
    exact sg_iret (sk_td o_X5_readLanguages 37 rfl) rfl (show narrow .boolean (.int (0 : Int32)) = .int (0 : Int32) by decide)
  · rw [if_neg hc] at hq
    refine sg_iconst (v := (1 : Int32)) 58 (sk_td o_X5_readLanguages 34 rfl) rfl (by decide) ?_
    refine sg_goto 62 (sk_td o_X5_readLanguages 35 rfl) (by decide) ?_
    obtain rfl := Option.some.inj hq
    exact sg_iret (sk_td o_X5_readLanguages 37 rfl) rfl (show narrow .boolean (.int (1 : Int32)) = .int (1 : Int32) by decide)
def q_X5_readLanguages_9 (rec9 : (sk_D × Int32 × Int32) → Option (Int32 × sk_D)) (d : sk_D) (v1 : Int32) (v2 : Int32) : Option (Int32 × sk_D) :=
  if (6 : Int32) ≤ v2 then (q_X5_readLanguages_50 d) else (q_X5_readLanguage d v1).bind fun x1 => if 0 ≤ x1.1 then (rec9 ((sk_wi x1.2 35 0 5 ((x1.2.1 35 0 5) ||| ((1 : Int32) <<< (x1.1 &&& 31)))), (x1.1 + (1 : Int32)), (v2 + (1 : Int32)))) else (q_X5_readLanguages_50 x1.2)
set_option maxRecDepth 100000 in
set_option maxHeartbeats 4000000 in
theorem t_X5_readLanguages_9 {l : Launch} {rec9 : (sk_D × Int32 × Int32) → Option (Int32 × sk_D)} {d : sk_D} {v1 : Int32} {v2 : Int32} (hrec9 : ∀ (a : (sk_D × Int32 × Int32)) (res : Int32 × sk_D), rec9 a = some res → sk_G l (sk_rm 3 0 0) m_X5_readLanguages sk_Ex0 (sk_Zm m_X5_readLanguages (some (.inl res.1)) (sk_mm res.2)) 0 0 9 [some (.inr (.inr (some (35, 0)))), some (.inl a.2.1), some (.inl a.2.2), none] [] (sk_mm a.1)) {res : Int32 × sk_D} (hq : q_X5_readLanguages_9 rec9 d v1 v2 = some res) :
    sk_G l (sk_rm 3 0 0) m_X5_readLanguages sk_Ex0 (sk_Zm m_X5_readLanguages (some (.inl res.1)) (sk_mm res.2)) 0 0 9 [some (.inr (.inr (some (35, 0)))), some (.inl v1), some (.inl v2), none] [] (sk_mm d) := by
  unfold q_X5_readLanguages_9 at hq
  refine sg_iload_n 10 (sk_td o_X5_readLanguages 7 rfl) rfl rfl ?_
  refine sg_bipush (v := (6 : Int32)) 12 (sk_td o_X5_readLanguages 8 rfl) rfl (by decide) ?_
  refine sg_ic_ge 50 15 (sk_td o_X5_readLanguages 9 rfl) (by decide) rfl (fun hc => ?_) (fun hc => ?_)
  · rw [if_pos hc] at hq
    refine sk_wk [true, false, false, true] (ls' := [some (.inr (.inr (some (35, 0)))), none, none, none]) rfl ?_
    exact t_X5_readLanguages_50 hq
  · rw [if_neg hc] at hq
    refine sg_aload_n 16 (sk_td o_X5_readLanguages 10 rfl) rfl rfl ?_
    refine sg_iload_n 17 (sk_td o_X5_readLanguages 11 rfl) rfl rfl ?_
    obtain ⟨x1, hr_x1, hq⟩ := sk_bnd hq
    refine sm_callV1i 20 (s_X5_readLanguage hr_x1) (sk_td o_X5_readLanguages 12 rfl) rfl lv_X5_74 rfl rfl rfl sz_35 (sk_rok (Nat.le_of_ble_eq_true rfl) (Nat.le_of_ble_eq_true rfl) rfl rfl) (Nat.le_of_ble_eq_true rfl) ?_
    refine sg_istore_n 21 [some (.inr (.inr (some (35, 0)))), some (.inl v1), some (.inl v2), some (.inl x1.1)] (sk_td o_X5_readLanguages 13 rfl) rfl rfl (Nat.le_of_ble_eq_true rfl) rfl ?_
    refine sg_iload_n 22 (sk_td o_X5_readLanguages 14 rfl) rfl rfl ?_
    refine sg_if_ge 28 25 (sk_td o_X5_readLanguages 15 rfl) (by decide) rfl (fun hc => ?_) (fun hc => ?_)
    · rw [if_pos hc] at hq
      refine sg_aload_n 29 (sk_td o_X5_readLanguages 17 rfl) rfl rfl ?_
      refine sg_dupR 30 (sk_td o_X5_readLanguages 18 rfl) rfl ?_
      refine sm_getI 33 (sk_td o_X5_readLanguages 19 rfl) rfl kf_X5_29 rfl rfl sz_35 ?_
      refine sg_iconst (v := (1 : Int32)) 34 (sk_td o_X5_readLanguages 20 rfl) rfl (by decide) ?_
      refine sg_iload_n 35 (sk_td o_X5_readLanguages 21 rfl) rfl rfl ?_
      refine sg_ishl 36 (sk_td o_X5_readLanguages 22 rfl) rfl ?_
      refine sg_ior 37 (sk_td o_X5_readLanguages 23 rfl) rfl ?_
      refine sm_putI 40 (sk_td o_X5_readLanguages 24 rfl) rfl kp_X5_29 rfl rfl sz_35 ?_
      refine sg_iload_n 41 (sk_td o_X5_readLanguages 25 rfl) rfl rfl ?_
      refine sg_iconst (v := (1 : Int32)) 42 (sk_td o_X5_readLanguages 26 rfl) rfl (by decide) ?_
      refine sg_iadd 43 (sk_td o_X5_readLanguages 27 rfl) rfl ?_
      refine sg_istore_n 44 [some (.inr (.inr (some (35, 0)))), some (.inl (x1.1 + (1 : Int32))), some (.inl v2), some (.inl x1.1)] (sk_td o_X5_readLanguages 28 rfl) rfl rfl (Nat.le_of_ble_eq_true rfl) rfl ?_
      refine sg_iinc (v2 + (1 : Int32)) 47 [some (.inr (.inr (some (35, 0)))), some (.inl (x1.1 + (1 : Int32))), some (.inl (v2 + (1 : Int32))), some (.inl x1.1)] (sk_td o_X5_readLanguages 29 rfl) rfl rfl rfl rfl (Nat.le_of_ble_eq_true rfl) rfl ?_
      refine sg_goto 9 (sk_td o_X5_readLanguages 30 rfl) (by decide) ?_
      refine sk_wk [true, true, true, false] (ls' := [some (.inr (.inr (some (35, 0)))), some (.inl (x1.1 + (1 : Int32))), some (.inl (v2 + (1 : Int32))), none]) rfl ?_
      exact hrec9 ((sk_wi x1.2 35 0 5 ((x1.2.1 35 0 5) ||| ((1 : Int32) <<< (x1.1 &&& 31)))), (x1.1 + (1 : Int32)), (v2 + (1 : Int32))) _ hq
    · rw [if_neg hc] at hq
      refine sg_goto 50 (sk_td o_X5_readLanguages 16 rfl) (by decide) ?_
      refine sk_wk [true, false, false, false] (ls' := [some (.inr (.inr (some (35, 0)))), none, none, none]) rfl ?_
      exact t_X5_readLanguages_50 hq
def l_X5_readLanguages_9 (fl : Nat) (a : (sk_D × Int32 × Int32)) : Option (Int32 × sk_D) := sk_it (fun rec9 a => q_X5_readLanguages_9 rec9 a.1 a.2.1 a.2.2) fl a
theorem lt_X5_readLanguages_9 {l : Launch} : ∀ (fl : Nat) (a : (sk_D × Int32 × Int32)) (res : Int32 × sk_D), l_X5_readLanguages_9 fl a = some res → sk_G l (sk_rm 3 0 0) m_X5_readLanguages sk_Ex0 (sk_Zm m_X5_readLanguages (some (.inl res.1)) (sk_mm res.2)) 0 0 9 [some (.inr (.inr (some (35, 0)))), some (.inl a.2.1), some (.inl a.2.2), none] [] (sk_mm a.1) :=
  sk_it_ind (P := fun (a : (sk_D × Int32 × Int32)) (res : Int32 × sk_D) => sk_G l (sk_rm 3 0 0) m_X5_readLanguages sk_Ex0 (sk_Zm m_X5_readLanguages (some (.inl res.1)) (sk_mm res.2)) 0 0 9 [some (.inr (.inr (some (35, 0)))), some (.inl a.2.1), some (.inl a.2.2), none] [] (sk_mm a.1)) (fun rec9 hrec9 a res hq  => t_X5_readLanguages_9 hrec9 hq )
def q_X5_readLanguages_0 (d : sk_D) : Option (Int32 × sk_D) :=
  (l_X5_readLanguages_9 sk_fu ((sk_wi d 35 0 5 (0 : Int32)), (0 : Int32), (0 : Int32)))
set_option maxRecDepth 100000 in
set_option maxHeartbeats 4000000 in
theorem t_X5_readLanguages_0 {l : Launch} {d : sk_D} {res : Int32 × sk_D} (hq : q_X5_readLanguages_0 d = some res) :
    sk_G l (sk_rm 3 0 0) m_X5_readLanguages sk_Ex0 (sk_Zm m_X5_readLanguages (some (.inl res.1)) (sk_mm res.2)) 0 0 0 [some (.inr (.inr (some (35, 0)))), none, none, none] [] (sk_mm d) := by
  unfold q_X5_readLanguages_0 at hq
  refine sg_aload_n 1 (sk_td o_X5_readLanguages 0 rfl) rfl rfl ?_
  refine sg_iconst (v := (0 : Int32)) 2 (sk_td o_X5_readLanguages 1 rfl) rfl (by decide) ?_
  refine sm_putI 5 (sk_td o_X5_readLanguages 2 rfl) rfl kp_X5_29 rfl rfl sz_35 ?_
  refine sg_iconst (v := (0 : Int32)) 6 (sk_td o_X5_readLanguages 3 rfl) rfl (by decide) ?_
  refine sg_istore_n 7 [some (.inr (.inr (some (35, 0)))), some (.inl (0 : Int32)), none, none] (sk_td o_X5_readLanguages 4 rfl) rfl rfl (Nat.le_of_ble_eq_true rfl) rfl ?_
  refine sg_iconst (v := (0 : Int32)) 8 (sk_td o_X5_readLanguages 5 rfl) rfl (by decide) ?_
  refine sg_istore_n 9 [some (.inr (.inr (some (35, 0)))), some (.inl (0 : Int32)), some (.inl (0 : Int32)), none] (sk_td o_X5_readLanguages 6 rfl) rfl rfl (Nat.le_of_ble_eq_true rfl) rfl ?_
  exact lt_X5_readLanguages_9 sk_fu ((sk_wi d 35 0 5 (0 : Int32)), (0 : Int32), (0 : Int32)) _ hq
def q_X5_readLanguages (d : sk_D) : Option (Int32 × sk_D) := q_X5_readLanguages_0 d 
theorem s_X5_readLanguages {l : Launch} {d : sk_D} {res : Int32 × sk_D} (hq : q_X5_readLanguages d = some res) : sk_M l 3 m_X5_readLanguages [.inr (.inr (some (35, 0)))] (sk_mm d) (some (.inl res.1)) (sk_mm res.2) :=
  sk_enter (by decide) (fun _ => Nat.le_of_ble_eq_true rfl) (Nat.le_of_ble_eq_true rfl) (t_X5_readLanguages_0 hq )
def q_X5_readPupil_62 (d : sk_D) : Option (Int32 × sk_D) :=
  (q_X5_skip d (59 : Int32)).bind fun x1 => if sk_nb x1.1 = true then some (x1.1, x1.2) else none
set_option maxRecDepth 100000 in
set_option maxHeartbeats 4000000 in
theorem t_X5_readPupil_62 {l : Launch} {d : sk_D} {res : Int32 × sk_D} (hq : q_X5_readPupil_62 d = some res) :
    sk_G l (sk_rm 4 0 0) m_X5_readPupil sk_Ex0 (sk_Zm m_X5_readPupil (some (.inl res.1)) (sk_mm res.2)) 0 0 62 [some (.inr (.inr (some (35, 0))))] [] (sk_mm d) := by
  unfold q_X5_readPupil_62 at hq
  refine sg_aload_n 63 (sk_td o_X5_readPupil 32 rfl) rfl rfl ?_
  refine sg_bipush (v := (59 : Int32)) 65 (sk_td o_X5_readPupil 33 rfl) rfl (by decide) ?_
  obtain ⟨x1, hr_x1, hq⟩ := sk_bnd hq
  refine sm_callV1i 68 (s_X5_skip hr_x1) (sk_td o_X5_readPupil 34 rfl) rfl lv_X5_54 rfl rfl rfl sz_35 (sk_rok (Nat.le_of_ble_eq_true rfl) (Nat.le_of_ble_eq_true rfl) rfl rfl) (Nat.le_of_ble_eq_true rfl) ?_
  obtain ⟨hn2, hq⟩ := sk_ifn hq
  obtain rfl := Option.some.inj hq
  exact sg_iret (sk_td o_X5_readPupil 35 rfl) rfl (sk_nb.z hn2)
def q_X5_readPupil_54 (d : sk_D) : Option (Int32 × sk_D) :=
  if 0 ≤ (d.1 35 0 6) then (q_X5_readPupil_62 d) else some ((0 : Int32), d)
set_option maxRecDepth 100000 in
set_option maxHeartbeats 4000000 in
theorem t_X5_readPupil_54 {l : Launch} {d : sk_D} {res : Int32 × sk_D} (hq : q_X5_readPupil_54 d = some res) :
    sk_G l (sk_rm 4 0 0) m_X5_readPupil sk_Ex0 (sk_Zm m_X5_readPupil (some (.inl res.1)) (sk_mm res.2)) 0 0 54 [some (.inr (.inr (some (35, 0))))] [.inr (.inr (some (35, 0)))] (sk_mm d) := by
  unfold q_X5_readPupil_54 at hq
  refine sm_getI 57 (sk_td o_X5_readPupil 28 rfl) rfl kf_X5_32 rfl rfl sz_35 ?_
  refine sg_if_ge 62 60 (sk_td o_X5_readPupil 29 rfl) (by decide) rfl (fun hc => ?_) (fun hc => ?_)
  · rw [if_pos hc] at hq
    exact t_X5_readPupil_62 hq
  · rw [if_neg hc] at hq
    refine sg_iconst (v := (0 : Int32)) 61 (sk_td o_X5_readPupil 30 rfl) rfl (by decide) ?_
    obtain rfl := Option.some.inj hq
    exact sg_iret (sk_td o_X5_readPupil 31 rfl) rfl (show narrow .boolean (.int (0 : Int32)) = .int (0 : Int32) by decide)
def q_X5_readPupil_36 (d : sk_D) : Option (Int32 × sk_D) :=
  (q_X5_skip d (47 : Int32)).bind fun x1 => if x1.1 = 0 then (q_X5_readPupil_62 x1.2) else (q_X5_readDigit x1.2 (0 : Int32) (7 : Int32)).bind fun x2 => (q_X5_readPupil_54 (sk_wi x2.2 35 0 6 x2.1))
set_option maxRecDepth 100000 in
set_option maxHeartbeats 4000000 in
theorem t_X5_readPupil_36 {l : Launch} {d : sk_D} {res : Int32 × sk_D} (hq : q_X5_readPupil_36 d = some res) :
    sk_G l (sk_rm 4 0 0) m_X5_readPupil sk_Ex0 (sk_Zm m_X5_readPupil (some (.inl res.1)) (sk_mm res.2)) 0 0 36 [some (.inr (.inr (some (35, 0))))] [.inl (47 : Int32), .inr (.inr (some (35, 0)))] (sk_mm d) := by
  unfold q_X5_readPupil_36 at hq
  obtain ⟨x1, hr_x1, hq⟩ := sk_bnd hq
  refine sm_callV1i 39 (s_X5_skip hr_x1) (sk_td o_X5_readPupil 19 rfl) rfl lv_X5_54 rfl rfl rfl sz_35 (sk_rok (Nat.le_of_ble_eq_true rfl) (Nat.le_of_ble_eq_true rfl) rfl rfl) (Nat.le_of_ble_eq_true rfl) ?_
  refine sg_if_eq 62 42 (sk_td o_X5_readPupil 20 rfl) (by decide) rfl (fun hc => ?_) (fun hc => ?_)
  · rw [if_pos hc] at hq
    exact t_X5_readPupil_62 hq
  · rw [if_neg hc] at hq
    refine sg_aload_n 43 (sk_td o_X5_readPupil 21 rfl) rfl rfl ?_
    refine sg_aload_n 44 (sk_td o_X5_readPupil 22 rfl) rfl rfl ?_
    refine sg_iconst (v := (0 : Int32)) 45 (sk_td o_X5_readPupil 23 rfl) rfl (by decide) ?_
    refine sg_bipush (v := (7 : Int32)) 47 (sk_td o_X5_readPupil 24 rfl) rfl (by decide) ?_
    obtain ⟨x2, hr_x2, hq⟩ := sk_bnd hq
    refine sm_callV2i 50 (s_X5_readDigit hr_x2) (sk_td o_X5_readPupil 25 rfl) rfl lv_X5_67 rfl rfl rfl sz_35 (sk_rok (Nat.le_of_ble_eq_true rfl) (Nat.le_of_ble_eq_true rfl) rfl rfl) (Nat.le_of_ble_eq_true rfl) ?_
    refine sm_putI 53 (sk_td o_X5_readPupil 26 rfl) rfl kp_X5_32 rfl rfl sz_35 ?_
    refine sg_aload_n 54 (sk_td o_X5_readPupil 27 rfl) rfl rfl ?_
    exact t_X5_readPupil_54 hq
def q_X5_readPupil_12 (d : sk_D) : Option (Int32 × sk_D) :=
  if (d.1 35 0 4) < 0 then some ((0 : Int32), d) else (q_X5_readLanguages d).bind fun x1 => if x1.1 = 0 then some ((0 : Int32), x1.2) else (q_X5_readPupil_36 (sk_wi x1.2 35 0 6 (-9 : Int32)))
set_option maxRecDepth 100000 in
set_option maxHeartbeats 4000000 in
theorem t_X5_readPupil_12 {l : Launch} {d : sk_D} {res : Int32 × sk_D} (hq : q_X5_readPupil_12 d = some res) :
    sk_G l (sk_rm 4 0 0) m_X5_readPupil sk_Ex0 (sk_Zm m_X5_readPupil (some (.inl res.1)) (sk_mm res.2)) 0 0 12 [some (.inr (.inr (some (35, 0))))] [.inr (.inr (some (35, 0)))] (sk_mm d) := by
  unfold q_X5_readPupil_12 at hq
  refine sm_getI 15 (sk_td o_X5_readPupil 7 rfl) rfl kf_X5_26 rfl rfl sz_35 ?_
  refine sg_if_lt 25 18 (sk_td o_X5_readPupil 8 rfl) (by decide) rfl (fun hc => ?_) (fun hc => ?_)
  · rw [if_pos hc] at hq
    refine sg_iconst (v := (0 : Int32)) 26 (sk_td o_X5_readPupil 12 rfl) rfl (by decide) ?_
    obtain rfl := Option.some.inj hq
    exact sg_iret (sk_td o_X5_readPupil 13 rfl) rfl (show narrow .boolean (.int (0 : Int32)) = .int (0 : Int32) by decide)
  · rw [if_neg hc] at hq
    refine sg_aload_n 19 (sk_td o_X5_readPupil 9 rfl) rfl rfl ?_
    obtain ⟨x1, hr_x1, hq⟩ := sk_bnd hq
    refine sm_callV0i 22 (s_X5_readLanguages hr_x1) (sk_td o_X5_readPupil 10 rfl) rfl lv_X5_71 rfl rfl rfl sz_35 (sk_rok (Nat.le_of_ble_eq_true rfl) (Nat.le_of_ble_eq_true rfl) rfl rfl) (Nat.le_of_ble_eq_true rfl) ?_
    refine sg_if_ne 27 25 (sk_td o_X5_readPupil 11 rfl) (by decide) rfl (fun hc => ?_) (fun hc => ?_)
    · rw [if_neg hc] at hq
      refine sg_aload_n 28 (sk_td o_X5_readPupil 14 rfl) rfl rfl ?_
      refine sg_bipush (v := (-9 : Int32)) 30 (sk_td o_X5_readPupil 15 rfl) rfl (by decide) ?_
      refine sm_putI 33 (sk_td o_X5_readPupil 16 rfl) rfl kp_X5_32 rfl rfl sz_35 ?_
      refine sg_aload_n 34 (sk_td o_X5_readPupil 17 rfl) rfl rfl ?_
      refine sg_bipush (v := (47 : Int32)) 36 (sk_td o_X5_readPupil 18 rfl) rfl (by decide) ?_
      exact t_X5_readPupil_36 hq
    · rw [if_pos hc] at hq
      refine sg_iconst (v := (0 : Int32)) 26 (sk_td o_X5_readPupil 12 rfl) rfl (by decide) ?_
      obtain rfl := Option.some.inj hq
      exact sg_iret (sk_td o_X5_readPupil 13 rfl) rfl (show narrow .boolean (.int (0 : Int32)) = .int (0 : Int32) by decide)
def q_X5_readPupil_0 (d : sk_D) : Option (Int32 × sk_D) :=
  (q_X5_readDigit d (0 : Int32) (7 : Int32)).bind fun x1 => (q_X5_readPupil_12 (sk_wi x1.2 35 0 4 x1.1))
set_option maxRecDepth 100000 in
set_option maxHeartbeats 4000000 in
theorem t_X5_readPupil_0 {l : Launch} {d : sk_D} {res : Int32 × sk_D} (hq : q_X5_readPupil_0 d = some res) :
    sk_G l (sk_rm 4 0 0) m_X5_readPupil sk_Ex0 (sk_Zm m_X5_readPupil (some (.inl res.1)) (sk_mm res.2)) 0 0 0 [some (.inr (.inr (some (35, 0))))] [] (sk_mm d) := by
  unfold q_X5_readPupil_0 at hq
  refine sg_aload_n 1 (sk_td o_X5_readPupil 0 rfl) rfl rfl ?_
  refine sg_aload_n 2 (sk_td o_X5_readPupil 1 rfl) rfl rfl ?_
  refine sg_iconst (v := (0 : Int32)) 3 (sk_td o_X5_readPupil 2 rfl) rfl (by decide) ?_
  refine sg_bipush (v := (7 : Int32)) 5 (sk_td o_X5_readPupil 3 rfl) rfl (by decide) ?_
  obtain ⟨x1, hr_x1, hq⟩ := sk_bnd hq
  refine sm_callV2i 8 (s_X5_readDigit hr_x1) (sk_td o_X5_readPupil 4 rfl) rfl lv_X5_67 rfl rfl rfl sz_35 (sk_rok (Nat.le_of_ble_eq_true rfl) (Nat.le_of_ble_eq_true rfl) rfl rfl) (Nat.le_of_ble_eq_true rfl) ?_
  refine sm_putI 11 (sk_td o_X5_readPupil 5 rfl) rfl kp_X5_26 rfl rfl sz_35 ?_
  refine sg_aload_n 12 (sk_td o_X5_readPupil 6 rfl) rfl rfl ?_
  exact t_X5_readPupil_12 hq
def q_X5_readPupil (d : sk_D) : Option (Int32 × sk_D) := q_X5_readPupil_0 d 
theorem s_X5_readPupil {l : Launch} {d : sk_D} {res : Int32 × sk_D} (hq : q_X5_readPupil d = some res) : sk_M l 4 m_X5_readPupil [.inr (.inr (some (35, 0)))] (sk_mm d) (some (.inl res.1)) (sk_mm res.2) :=
  sk_enter (by decide) (fun _ => Nat.le_of_ble_eq_true rfl) (Nat.le_of_ble_eq_true rfl) (t_X5_readPupil_0 hq )
def q_X5_readGroup_50 (d : sk_D) : Option (Int32 × sk_D) :=
  if (d.1 35 0 8) ≤ 0 then some ((0 : Int32), d) else (q_X5_skip d (59 : Int32)).bind fun x1 => if x1.1 = 0 then some ((0 : Int32), x1.2) else some ((1 : Int32), x1.2)
set_option maxRecDepth 100000 in
set_option maxHeartbeats 4000000 in
theorem t_X5_readGroup_50 {l : Launch} {d : sk_D} {res : Int32 × sk_D} (hq : q_X5_readGroup_50 d = some res) :
    sk_G l (sk_rm 3 0 0) m_X5_readGroup sk_Ex0 (sk_Zm m_X5_readGroup (some (.inl res.1)) (sk_mm res.2)) 0 0 50 [some (.inr (.inr (some (35, 0))))] [.inr (.inr (some (35, 0)))] (sk_mm d) := by
  unfold q_X5_readGroup_50 at hq
  refine sm_getI 53 (sk_td o_X5_readGroup 28 rfl) rfl kf_X5_38 rfl rfl sz_35 ?_
  refine sg_if_le 69 56 (sk_td o_X5_readGroup 29 rfl) (by decide) rfl (fun hc => ?_) (fun hc => ?_)
  · rw [if_pos hc] at hq
    refine sg_iconst (v := (0 : Int32)) 70 (sk_td o_X5_readGroup 36 rfl) rfl (by decide) ?_
    obtain rfl := Option.some.inj hq
    exact sg_iret (sk_td o_X5_readGroup 37 rfl) rfl (show narrow .boolean (.int (0 : Int32)) = .int (0 : Int32) by decide)
  · rw [if_neg hc] at hq
    refine sg_aload_n 57 (sk_td o_X5_readGroup 30 rfl) rfl rfl ?_
    refine sg_bipush (v := (59 : Int32)) 59 (sk_td o_X5_readGroup 31 rfl) rfl (by decide) ?_
    obtain ⟨x1, hr_x1, hq⟩ := sk_bnd hq
    refine sm_callV1i 62 (s_X5_skip hr_x1) (sk_td o_X5_readGroup 32 rfl) rfl lv_X5_54 rfl rfl rfl sz_35 (sk_rok (Nat.le_of_ble_eq_true rfl) (Nat.le_of_ble_eq_true rfl) rfl rfl) (Nat.le_of_ble_eq_true rfl) ?_
    refine sg_if_eq 69 65 (sk_td o_X5_readGroup 33 rfl) (by decide) rfl (fun hc => ?_) (fun hc => ?_)
    · rw [if_pos hc] at hq
      refine sg_iconst (v := (0 : Int32)) 70 (sk_td o_X5_readGroup 36 rfl) rfl (by decide) ?_
      obtain rfl := Option.some.inj hq
      exact sg_iret (sk_td o_X5_readGroup 37 rfl) rfl (show narrow .boolean (.int (0 : Int32)) = .int (0 : Int32) by decide)
    · rw [if_neg hc] at hq
      refine sg_iconst (v := (1 : Int32)) 66 (sk_td o_X5_readGroup 34 rfl) rfl (by decide) ?_
      refine sg_goto 70 (sk_td o_X5_readGroup 35 rfl) (by decide) ?_
      obtain rfl := Option.some.inj hq
      exact sg_iret (sk_td o_X5_readGroup 37 rfl) rfl (show narrow .boolean (.int (1 : Int32)) = .int (1 : Int32) by decide)
def q_X5_readGroup_30 (d : sk_D) : Option (Int32 × sk_D) :=
  if 0 ≤ (d.1 35 0 7) then (q_X5_readDigit d (1 : Int32) (6 : Int32)).bind fun x1 => (q_X5_readGroup_50 (sk_wi x1.2 35 0 8 x1.1)) else some ((0 : Int32), d)
set_option maxRecDepth 100000 in
set_option maxHeartbeats 4000000 in
theorem t_X5_readGroup_30 {l : Launch} {d : sk_D} {res : Int32 × sk_D} (hq : q_X5_readGroup_30 d = some res) :
    sk_G l (sk_rm 3 0 0) m_X5_readGroup sk_Ex0 (sk_Zm m_X5_readGroup (some (.inl res.1)) (sk_mm res.2)) 0 0 30 [some (.inr (.inr (some (35, 0))))] [.inr (.inr (some (35, 0)))] (sk_mm d) := by
  unfold q_X5_readGroup_30 at hq
  refine sm_getI 33 (sk_td o_X5_readGroup 17 rfl) rfl kf_X5_35 rfl rfl sz_35 ?_
  refine sg_if_ge 38 36 (sk_td o_X5_readGroup 18 rfl) (by decide) rfl (fun hc => ?_) (fun hc => ?_)
  · rw [if_pos hc] at hq
    refine sg_aload_n 39 (sk_td o_X5_readGroup 21 rfl) rfl rfl ?_
    refine sg_aload_n 40 (sk_td o_X5_readGroup 22 rfl) rfl rfl ?_
    refine sg_iconst (v := (1 : Int32)) 41 (sk_td o_X5_readGroup 23 rfl) rfl (by decide) ?_
    refine sg_bipush (v := (6 : Int32)) 43 (sk_td o_X5_readGroup 24 rfl) rfl (by decide) ?_
    obtain ⟨x1, hr_x1, hq⟩ := sk_bnd hq
    refine sm_callV2i 46 (s_X5_readDigit hr_x1) (sk_td o_X5_readGroup 25 rfl) rfl lv_X5_67 rfl rfl rfl sz_35 (sk_rok (Nat.le_of_ble_eq_true rfl) (Nat.le_of_ble_eq_true rfl) rfl rfl) (Nat.le_of_ble_eq_true rfl) ?_
    refine sm_putI 49 (sk_td o_X5_readGroup 26 rfl) rfl kp_X5_38 rfl rfl sz_35 ?_
    refine sg_aload_n 50 (sk_td o_X5_readGroup 27 rfl) rfl rfl ?_
    exact t_X5_readGroup_50 hq
  · rw [if_neg hc] at hq
    refine sg_iconst (v := (0 : Int32)) 37 (sk_td o_X5_readGroup 19 rfl) rfl (by decide) ?_
    obtain rfl := Option.some.inj hq
    exact sg_iret (sk_td o_X5_readGroup 20 rfl) rfl (show narrow .boolean (.int (0 : Int32)) = .int (0 : Int32) by decide)
def q_X5_readGroup_12 (d : sk_D) : Option (Int32 × sk_D) :=
  if 0 ≤ (d.1 35 0 4) then (q_X5_readLanguage d (0 : Int32)).bind fun x1 => (q_X5_readGroup_30 (sk_wi x1.2 35 0 7 x1.1)) else some ((0 : Int32), d)
set_option maxRecDepth 100000 in
set_option maxHeartbeats 4000000 in
theorem t_X5_readGroup_12 {l : Launch} {d : sk_D} {res : Int32 × sk_D} (hq : q_X5_readGroup_12 d = some res) :
    sk_G l (sk_rm 3 0 0) m_X5_readGroup sk_Ex0 (sk_Zm m_X5_readGroup (some (.inl res.1)) (sk_mm res.2)) 0 0 12 [some (.inr (.inr (some (35, 0))))] [.inr (.inr (some (35, 0)))] (sk_mm d) := by
  unfold q_X5_readGroup_12 at hq
  refine sm_getI 15 (sk_td o_X5_readGroup 7 rfl) rfl kf_X5_26 rfl rfl sz_35 ?_
  refine sg_if_ge 20 18 (sk_td o_X5_readGroup 8 rfl) (by decide) rfl (fun hc => ?_) (fun hc => ?_)
  · rw [if_pos hc] at hq
    refine sg_aload_n 21 (sk_td o_X5_readGroup 11 rfl) rfl rfl ?_
    refine sg_aload_n 22 (sk_td o_X5_readGroup 12 rfl) rfl rfl ?_
    refine sg_iconst (v := (0 : Int32)) 23 (sk_td o_X5_readGroup 13 rfl) rfl (by decide) ?_
    obtain ⟨x1, hr_x1, hq⟩ := sk_bnd hq
    refine sm_callV1i 26 (s_X5_readLanguage hr_x1) (sk_td o_X5_readGroup 14 rfl) rfl lv_X5_74 rfl rfl rfl sz_35 (sk_rok (Nat.le_of_ble_eq_true rfl) (Nat.le_of_ble_eq_true rfl) rfl rfl) (Nat.le_of_ble_eq_true rfl) ?_
    refine sm_putI 29 (sk_td o_X5_readGroup 15 rfl) rfl kp_X5_35 rfl rfl sz_35 ?_
    refine sg_aload_n 30 (sk_td o_X5_readGroup 16 rfl) rfl rfl ?_
    exact t_X5_readGroup_30 hq
  · rw [if_neg hc] at hq
    refine sg_iconst (v := (0 : Int32)) 19 (sk_td o_X5_readGroup 9 rfl) rfl (by decide) ?_
    obtain rfl := Option.some.inj hq
    exact sg_iret (sk_td o_X5_readGroup 10 rfl) rfl (show narrow .boolean (.int (0 : Int32)) = .int (0 : Int32) by decide)
def q_X5_readGroup_0 (d : sk_D) : Option (Int32 × sk_D) :=
  (q_X5_readDigit d (0 : Int32) (7 : Int32)).bind fun x1 => (q_X5_readGroup_12 (sk_wi x1.2 35 0 4 x1.1))
set_option maxRecDepth 100000 in
set_option maxHeartbeats 4000000 in
theorem t_X5_readGroup_0 {l : Launch} {d : sk_D} {res : Int32 × sk_D} (hq : q_X5_readGroup_0 d = some res) :
    sk_G l (sk_rm 3 0 0) m_X5_readGroup sk_Ex0 (sk_Zm m_X5_readGroup (some (.inl res.1)) (sk_mm res.2)) 0 0 0 [some (.inr (.inr (some (35, 0))))] [] (sk_mm d) := by
  unfold q_X5_readGroup_0 at hq
  refine sg_aload_n 1 (sk_td o_X5_readGroup 0 rfl) rfl rfl ?_
  refine sg_aload_n 2 (sk_td o_X5_readGroup 1 rfl) rfl rfl ?_
  refine sg_iconst (v := (0 : Int32)) 3 (sk_td o_X5_readGroup 2 rfl) rfl (by decide) ?_
  refine sg_bipush (v := (7 : Int32)) 5 (sk_td o_X5_readGroup 3 rfl) rfl (by decide) ?_
  obtain ⟨x1, hr_x1, hq⟩ := sk_bnd hq
  refine sm_callV2i 8 (s_X5_readDigit hr_x1) (sk_td o_X5_readGroup 4 rfl) rfl lv_X5_67 rfl rfl rfl sz_35 (sk_rok (Nat.le_of_ble_eq_true rfl) (Nat.le_of_ble_eq_true rfl) rfl rfl) (Nat.le_of_ble_eq_true rfl) ?_
  refine sm_putI 11 (sk_td o_X5_readGroup 5 rfl) rfl kp_X5_26 rfl rfl sz_35 ?_
  refine sg_aload_n 12 (sk_td o_X5_readGroup 6 rfl) rfl rfl ?_
  exact t_X5_readGroup_12 hq
def q_X5_readGroup (d : sk_D) : Option (Int32 × sk_D) := q_X5_readGroup_0 d 
theorem s_X5_readGroup {l : Launch} {d : sk_D} {res : Int32 × sk_D} (hq : q_X5_readGroup d = some res) : sk_M l 3 m_X5_readGroup [.inr (.inr (some (35, 0)))] (sk_mm d) (some (.inl res.1)) (sk_mm res.2) :=
  sk_enter (by decide) (fun _ => Nat.le_of_ble_eq_true rfl) (Nat.le_of_ble_eq_true rfl) (t_X5_readGroup_0 hq )
def q_X5_readWage_22 (rec22 : (sk_D × Int32) → Option (Int32 × sk_D)) (d : sk_D) (v1 : Int32) : Option (Int32 × sk_D) :=
  if (6 : Int32) ≤ v1 then some ((1 : Int32), d) else (q_X5_readDigit d (0 : Int32) (9 : Int32)).bind fun x1 => if 0 ≤ x1.1 then (rec22 ((sk_wi x1.2 35 0 11 (((10 : Int32) * (x1.2.1 35 0 11)) + x1.1)), (v1 + (1 : Int32)))) else some ((1 : Int32), x1.2)
set_option maxRecDepth 100000 in
set_option maxHeartbeats 4000000 in
theorem t_X5_readWage_22 {l : Launch} {rec22 : (sk_D × Int32) → Option (Int32 × sk_D)} {d : sk_D} {v1 : Int32} (hrec22 : ∀ (a : (sk_D × Int32)) (res : Int32 × sk_D), rec22 a = some res → sk_G l (sk_rm 3 0 0) m_X5_readWage sk_Ex0 (sk_Zm m_X5_readWage (some (.inl res.1)) (sk_mm res.2)) 0 0 22 [some (.inr (.inr (some (35, 0)))), some (.inl a.2), none] [] (sk_mm a.1)) {res : Int32 × sk_D} (hq : q_X5_readWage_22 rec22 d v1 = some res) :
    sk_G l (sk_rm 3 0 0) m_X5_readWage sk_Ex0 (sk_Zm m_X5_readWage (some (.inl res.1)) (sk_mm res.2)) 0 0 22 [some (.inr (.inr (some (35, 0)))), some (.inl v1), none] [] (sk_mm d) := by
  unfold q_X5_readWage_22 at hq
  refine sg_iload_n 23 (sk_td o_X5_readWage 13 rfl) rfl rfl ?_
  refine sg_bipush (v := (6 : Int32)) 25 (sk_td o_X5_readWage 14 rfl) rfl (by decide) ?_
  refine sg_ic_ge 62 28 (sk_td o_X5_readWage 15 rfl) (by decide) rfl (fun hc => ?_) (fun hc => ?_)
  · rw [if_pos hc] at hq
    refine sg_iconst (v := (1 : Int32)) 63 (sk_td o_X5_readWage 34 rfl) rfl (by decide) ?_
    obtain rfl := Option.some.inj hq
    exact sg_iret (sk_td o_X5_readWage 35 rfl) rfl (show narrow .boolean (.int (1 : Int32)) = .int (1 : Int32) by decide)
  · rw [if_neg hc] at hq
    refine sg_aload_n 29 (sk_td o_X5_readWage 16 rfl) rfl rfl ?_
    refine sg_iconst (v := (0 : Int32)) 30 (sk_td o_X5_readWage 17 rfl) rfl (by decide) ?_
    refine sg_bipush (v := (9 : Int32)) 32 (sk_td o_X5_readWage 18 rfl) rfl (by decide) ?_
    obtain ⟨x1, hr_x1, hq⟩ := sk_bnd hq
    refine sm_callV2i 35 (s_X5_readDigit hr_x1) (sk_td o_X5_readWage 19 rfl) rfl lv_X5_67 rfl rfl rfl sz_35 (sk_rok (Nat.le_of_ble_eq_true rfl) (Nat.le_of_ble_eq_true rfl) rfl rfl) (Nat.le_of_ble_eq_true rfl) ?_
    refine sg_istore_n 36 [some (.inr (.inr (some (35, 0)))), some (.inl v1), some (.inl x1.1)] (sk_td o_X5_readWage 20 rfl) rfl rfl (Nat.le_of_ble_eq_true rfl) rfl ?_
    refine sg_iload_n 37 (sk_td o_X5_readWage 21 rfl) rfl rfl ?_
    refine sg_if_ge 43 40 (sk_td o_X5_readWage 22 rfl) (by decide) rfl (fun hc => ?_) (fun hc => ?_)
    · rw [if_pos hc] at hq
      refine sg_aload_n 44 (sk_td o_X5_readWage 24 rfl) rfl rfl ?_
      refine sg_bipush (v := (10 : Int32)) 46 (sk_td o_X5_readWage 25 rfl) rfl (by decide) ?_
      refine sg_aload_n 47 (sk_td o_X5_readWage 26 rfl) rfl rfl ?_
      refine sm_getI 50 (sk_td o_X5_readWage 27 rfl) rfl kf_X5_47 rfl rfl sz_35 ?_
      refine sg_imul 51 (sk_td o_X5_readWage 28 rfl) rfl ?_
      refine sg_iload_n 52 (sk_td o_X5_readWage 29 rfl) rfl rfl ?_
      refine sg_iadd 53 (sk_td o_X5_readWage 30 rfl) rfl ?_
      refine sm_putI 56 (sk_td o_X5_readWage 31 rfl) rfl kp_X5_47 rfl rfl sz_35 ?_
      refine sg_iinc (v1 + (1 : Int32)) 59 [some (.inr (.inr (some (35, 0)))), some (.inl (v1 + (1 : Int32))), some (.inl x1.1)] (sk_td o_X5_readWage 32 rfl) rfl rfl rfl rfl (Nat.le_of_ble_eq_true rfl) rfl ?_
      refine sg_goto 22 (sk_td o_X5_readWage 33 rfl) (by decide) ?_
      refine sk_wk [true, true, false] (ls' := [some (.inr (.inr (some (35, 0)))), some (.inl (v1 + (1 : Int32))), none]) rfl ?_
      exact hrec22 ((sk_wi x1.2 35 0 11 (((10 : Int32) * (x1.2.1 35 0 11)) + x1.1)), (v1 + (1 : Int32))) _ hq
    · rw [if_neg hc] at hq
      refine sg_goto 62 (sk_td o_X5_readWage 23 rfl) (by decide) ?_
      refine sg_iconst (v := (1 : Int32)) 63 (sk_td o_X5_readWage 34 rfl) rfl (by decide) ?_
      obtain rfl := Option.some.inj hq
      exact sg_iret (sk_td o_X5_readWage 35 rfl) rfl (show narrow .boolean (.int (1 : Int32)) = .int (1 : Int32) by decide)
def l_X5_readWage_22 (fl : Nat) (a : (sk_D × Int32)) : Option (Int32 × sk_D) := sk_it (fun rec22 a => q_X5_readWage_22 rec22 a.1 a.2) fl a
theorem lt_X5_readWage_22 {l : Launch} : ∀ (fl : Nat) (a : (sk_D × Int32)) (res : Int32 × sk_D), l_X5_readWage_22 fl a = some res → sk_G l (sk_rm 3 0 0) m_X5_readWage sk_Ex0 (sk_Zm m_X5_readWage (some (.inl res.1)) (sk_mm res.2)) 0 0 22 [some (.inr (.inr (some (35, 0)))), some (.inl a.2), none] [] (sk_mm a.1) :=
  sk_it_ind (P := fun (a : (sk_D × Int32)) (res : Int32 × sk_D) => sk_G l (sk_rm 3 0 0) m_X5_readWage sk_Ex0 (sk_Zm m_X5_readWage (some (.inl res.1)) (sk_mm res.2)) 0 0 22 [some (.inr (.inr (some (35, 0)))), some (.inl a.2), none] [] (sk_mm a.1)) (fun rec22 hrec22 a res hq  => t_X5_readWage_22 hrec22 hq )
def q_X5_readWage_12 (d : sk_D) : Option (Int32 × sk_D) :=
  if 0 ≤ (d.1 35 0 11) then (l_X5_readWage_22 sk_fu (d, (1 : Int32))) else some ((0 : Int32), d)
set_option maxRecDepth 100000 in
set_option maxHeartbeats 4000000 in
theorem t_X5_readWage_12 {l : Launch} {d : sk_D} {res : Int32 × sk_D} (hq : q_X5_readWage_12 d = some res) :
    sk_G l (sk_rm 3 0 0) m_X5_readWage sk_Ex0 (sk_Zm m_X5_readWage (some (.inl res.1)) (sk_mm res.2)) 0 0 12 [some (.inr (.inr (some (35, 0)))), none, none] [.inr (.inr (some (35, 0)))] (sk_mm d) := by
  unfold q_X5_readWage_12 at hq
  refine sm_getI 15 (sk_td o_X5_readWage 7 rfl) rfl kf_X5_47 rfl rfl sz_35 ?_
  refine sg_if_ge 20 18 (sk_td o_X5_readWage 8 rfl) (by decide) rfl (fun hc => ?_) (fun hc => ?_)
  · rw [if_pos hc] at hq
    refine sg_iconst (v := (1 : Int32)) 21 (sk_td o_X5_readWage 11 rfl) rfl (by decide) ?_
    refine sg_istore_n 22 [some (.inr (.inr (some (35, 0)))), some (.inl (1 : Int32)), none] (sk_td o_X5_readWage 12 rfl) rfl rfl (Nat.le_of_ble_eq_true rfl) rfl ?_
    exact lt_X5_readWage_22 sk_fu (d, (1 : Int32)) _ hq
  · rw [if_neg hc] at hq
    refine sg_iconst (v := (0 : Int32)) 19 (sk_td o_X5_readWage 9 rfl) rfl (by decide) ?_
    obtain rfl := Option.some.inj hq
    exact sg_iret (sk_td o_X5_readWage 10 rfl) rfl (show narrow .boolean (.int (0 : Int32)) = .int (0 : Int32) by decide)
def q_X5_readWage_0 (d : sk_D) : Option (Int32 × sk_D) :=
  (q_X5_readDigit d (1 : Int32) (9 : Int32)).bind fun x1 => (q_X5_readWage_12 (sk_wi x1.2 35 0 11 x1.1))
set_option maxRecDepth 100000 in
set_option maxHeartbeats 4000000 in
theorem t_X5_readWage_0 {l : Launch} {d : sk_D} {res : Int32 × sk_D} (hq : q_X5_readWage_0 d = some res) :
    sk_G l (sk_rm 3 0 0) m_X5_readWage sk_Ex0 (sk_Zm m_X5_readWage (some (.inl res.1)) (sk_mm res.2)) 0 0 0 [some (.inr (.inr (some (35, 0)))), none, none] [] (sk_mm d) := by
  unfold q_X5_readWage_0 at hq
  refine sg_aload_n 1 (sk_td o_X5_readWage 0 rfl) rfl rfl ?_
  refine sg_aload_n 2 (sk_td o_X5_readWage 1 rfl) rfl rfl ?_
  refine sg_iconst (v := (1 : Int32)) 3 (sk_td o_X5_readWage 2 rfl) rfl (by decide) ?_
  refine sg_bipush (v := (9 : Int32)) 5 (sk_td o_X5_readWage 3 rfl) rfl (by decide) ?_
  obtain ⟨x1, hr_x1, hq⟩ := sk_bnd hq
  refine sm_callV2i 8 (s_X5_readDigit hr_x1) (sk_td o_X5_readWage 4 rfl) rfl lv_X5_67 rfl rfl rfl sz_35 (sk_rok (Nat.le_of_ble_eq_true rfl) (Nat.le_of_ble_eq_true rfl) rfl rfl) (Nat.le_of_ble_eq_true rfl) ?_
  refine sm_putI 11 (sk_td o_X5_readWage 5 rfl) rfl kp_X5_47 rfl rfl sz_35 ?_
  refine sg_aload_n 12 (sk_td o_X5_readWage 6 rfl) rfl rfl ?_
  exact t_X5_readWage_12 hq
def q_X5_readWage (d : sk_D) : Option (Int32 × sk_D) := q_X5_readWage_0 d 
theorem s_X5_readWage {l : Launch} {d : sk_D} {res : Int32 × sk_D} (hq : q_X5_readWage d = some res) : sk_M l 3 m_X5_readWage [.inr (.inr (some (35, 0)))] (sk_mm d) (some (.inl res.1)) (sk_mm res.2) :=
  sk_enter (by decide) (fun _ => Nat.le_of_ble_eq_true rfl) (Nat.le_of_ble_eq_true rfl) (t_X5_readWage_0 hq )
def q_X5_readInstructor_44 (d : sk_D) : Option (Int32 × sk_D) :=
  if (d.1 35 0 10) < 0 then some ((0 : Int32), d) else (q_X5_skip d (58 : Int32)).bind fun x1 => if x1.1 = 0 then some ((0 : Int32), x1.2) else (q_X5_readWage x1.2).bind fun x2 => if x2.1 = 0 then some ((0 : Int32), x2.2) else (q_X5_skip x2.2 (59 : Int32)).bind fun x3 => if x3.1 = 0 then some ((0 : Int32), x3.2) else some ((1 : Int32), x3.2)
set_option maxRecDepth 100000 in
set_option maxHeartbeats 4000000 in
theorem t_X5_readInstructor_44 {l : Launch} {d : sk_D} {res : Int32 × sk_D} (hq : q_X5_readInstructor_44 d = some res) :
    sk_G l (sk_rm 4 0 0) m_X5_readInstructor sk_Ex0 (sk_Zm m_X5_readInstructor (some (.inl res.1)) (sk_mm res.2)) 0 0 44 [some (.inr (.inr (some (35, 0))))] [.inr (.inr (some (35, 0)))] (sk_mm d) := by
  unfold q_X5_readInstructor_44 at hq
  refine sm_getI 47 (sk_td o_X5_readInstructor 24 rfl) rfl kf_X5_44 rfl rfl sz_35 ?_
  refine sg_if_lt 79 50 (sk_td o_X5_readInstructor 25 rfl) (by decide) rfl (fun hc => ?_) (fun hc => ?_)
  · rw [if_pos hc] at hq
    refine sg_iconst (v := (0 : Int32)) 80 (sk_td o_X5_readInstructor 39 rfl) rfl (by decide) ?_
    obtain rfl := Option.some.inj hq
    exact sg_iret (sk_td o_X5_readInstructor 40 rfl) rfl (show narrow .boolean (.int (0 : Int32)) = .int (0 : Int32) by decide)
  · rw [if_neg hc] at hq
    refine sg_aload_n 51 (sk_td o_X5_readInstructor 26 rfl) rfl rfl ?_
    refine sg_bipush (v := (58 : Int32)) 53 (sk_td o_X5_readInstructor 27 rfl) rfl (by decide) ?_
    obtain ⟨x1, hr_x1, hq⟩ := sk_bnd hq
    refine sm_callV1i 56 (s_X5_skip hr_x1) (sk_td o_X5_readInstructor 28 rfl) rfl lv_X5_54 rfl rfl rfl sz_35 (sk_rok (Nat.le_of_ble_eq_true rfl) (Nat.le_of_ble_eq_true rfl) rfl rfl) (Nat.le_of_ble_eq_true rfl) ?_
    refine sg_if_eq 79 59 (sk_td o_X5_readInstructor 29 rfl) (by decide) rfl (fun hc => ?_) (fun hc => ?_)
    · rw [if_pos hc] at hq
      refine sg_iconst (v := (0 : Int32)) 80 (sk_td o_X5_readInstructor 39 rfl) rfl (by decide) ?_
      obtain rfl := Option.some.inj hq
      exact sg_iret (sk_td o_X5_readInstructor 40 rfl) rfl (show narrow .boolean (.int (0 : Int32)) = .int (0 : Int32) by decide)
    · rw [if_neg hc] at hq
      refine sg_aload_n 60 (sk_td o_X5_readInstructor 30 rfl) rfl rfl ?_
      obtain ⟨x2, hr_x2, hq⟩ := sk_bnd hq
      refine sm_callV0i 63 (s_X5_readWage hr_x2) (sk_td o_X5_readInstructor 31 rfl) rfl lv_X5_78 rfl rfl rfl sz_35 (sk_rok (Nat.le_of_ble_eq_true rfl) (Nat.le_of_ble_eq_true rfl) rfl rfl) (Nat.le_of_ble_eq_true rfl) ?_
      refine sg_if_eq 79 66 (sk_td o_X5_readInstructor 32 rfl) (by decide) rfl (fun hc => ?_) (fun hc => ?_)
      · rw [if_pos hc] at hq
        refine sg_iconst (v := (0 : Int32)) 80 (sk_td o_X5_readInstructor 39 rfl) rfl (by decide) ?_
        obtain rfl := Option.some.inj hq
        exact sg_iret (sk_td o_X5_readInstructor 40 rfl) rfl (show narrow .boolean (.int (0 : Int32)) = .int (0 : Int32) by decide)
      · rw [if_neg hc] at hq
        refine sg_aload_n 67 (sk_td o_X5_readInstructor 33 rfl) rfl rfl ?_
        refine sg_bipush (v := (59 : Int32)) 69 (sk_td o_X5_readInstructor 34 rfl) rfl (by decide) ?_
        obtain ⟨x3, hr_x3, hq⟩ := sk_bnd hq
        refine sm_callV1i 72 (s_X5_skip hr_x3) (sk_td o_X5_readInstructor 35 rfl) rfl lv_X5_54 rfl rfl rfl sz_35 (sk_rok (Nat.le_of_ble_eq_true rfl) (Nat.le_of_ble_eq_true rfl) rfl rfl) (Nat.le_of_ble_eq_true rfl) ?_
        refine sg_if_eq 79 75 (sk_td o_X5_readInstructor 36 rfl) (by decide) rfl (fun hc => ?_) (fun hc => ?_)
        · rw [if_pos hc] at hq
          refine sg_iconst (v := (0 : Int32)) 80 (sk_td o_X5_readInstructor 39 rfl) rfl (by decide) ?_
          obtain rfl := Option.some.inj hq
          exact sg_iret (sk_td o_X5_readInstructor 40 rfl) rfl (show narrow .boolean (.int (0 : Int32)) = .int (0 : Int32) by decide)
        · rw [if_neg hc] at hq
          refine sg_iconst (v := (1 : Int32)) 76 (sk_td o_X5_readInstructor 37 rfl) rfl (by decide) ?_
          refine sg_goto 80 (sk_td o_X5_readInstructor 38 rfl) (by decide) ?_
          obtain rfl := Option.some.inj hq
          exact sg_iret (sk_td o_X5_readInstructor 40 rfl) rfl (show narrow .boolean (.int (1 : Int32)) = .int (1 : Int32) by decide)
def q_X5_readInstructor_21 (d : sk_D) : Option (Int32 × sk_D) :=
  if 0 ≤ (d.1 35 0 9) then (q_X5_readDigit d (d.1 35 0 9) (7 : Int32)).bind fun x1 => (q_X5_readInstructor_44 (sk_wi x1.2 35 0 10 x1.1)) else some ((0 : Int32), d)
set_option maxRecDepth 100000 in
set_option maxHeartbeats 4000000 in
theorem t_X5_readInstructor_21 {l : Launch} {d : sk_D} {res : Int32 × sk_D} (hq : q_X5_readInstructor_21 d = some res) :
    sk_G l (sk_rm 4 0 0) m_X5_readInstructor sk_Ex0 (sk_Zm m_X5_readInstructor (some (.inl res.1)) (sk_mm res.2)) 0 0 21 [some (.inr (.inr (some (35, 0))))] [.inr (.inr (some (35, 0)))] (sk_mm d) := by
  unfold q_X5_readInstructor_21 at hq
  refine sm_getI 24 (sk_td o_X5_readInstructor 12 rfl) rfl kf_X5_41 rfl rfl sz_35 ?_
  refine sg_if_ge 29 27 (sk_td o_X5_readInstructor 13 rfl) (by decide) rfl (fun hc => ?_) (fun hc => ?_)
  · rw [if_pos hc] at hq
    refine sg_aload_n 30 (sk_td o_X5_readInstructor 16 rfl) rfl rfl ?_
    refine sg_aload_n 31 (sk_td o_X5_readInstructor 17 rfl) rfl rfl ?_
    refine sg_aload_n 32 (sk_td o_X5_readInstructor 18 rfl) rfl rfl ?_
    refine sm_getI 35 (sk_td o_X5_readInstructor 19 rfl) rfl kf_X5_41 rfl rfl sz_35 ?_
    refine sg_bipush (v := (7 : Int32)) 37 (sk_td o_X5_readInstructor 20 rfl) rfl (by decide) ?_
    obtain ⟨x1, hr_x1, hq⟩ := sk_bnd hq
    refine sm_callV2i 40 (s_X5_readDigit hr_x1) (sk_td o_X5_readInstructor 21 rfl) rfl lv_X5_67 rfl rfl rfl sz_35 (sk_rok (Nat.le_of_ble_eq_true rfl) (Nat.le_of_ble_eq_true rfl) rfl rfl) (Nat.le_of_ble_eq_true rfl) ?_
    refine sm_putI 43 (sk_td o_X5_readInstructor 22 rfl) rfl kp_X5_44 rfl rfl sz_35 ?_
    refine sg_aload_n 44 (sk_td o_X5_readInstructor 23 rfl) rfl rfl ?_
    exact t_X5_readInstructor_44 hq
  · rw [if_neg hc] at hq
    refine sg_iconst (v := (0 : Int32)) 28 (sk_td o_X5_readInstructor 14 rfl) rfl (by decide) ?_
    obtain rfl := Option.some.inj hq
    exact sg_iret (sk_td o_X5_readInstructor 15 rfl) rfl (show narrow .boolean (.int (0 : Int32)) = .int (0 : Int32) by decide)
def q_X5_readInstructor_0 (d : sk_D) : Option (Int32 × sk_D) :=
  (q_X5_readLanguages d).bind fun x1 => if x1.1 = 0 then some ((0 : Int32), x1.2) else (q_X5_readDigit x1.2 (0 : Int32) (7 : Int32)).bind fun x2 => (q_X5_readInstructor_21 (sk_wi x2.2 35 0 9 x2.1))
set_option maxRecDepth 100000 in
set_option maxHeartbeats 4000000 in
theorem t_X5_readInstructor_0 {l : Launch} {d : sk_D} {res : Int32 × sk_D} (hq : q_X5_readInstructor_0 d = some res) :
    sk_G l (sk_rm 4 0 0) m_X5_readInstructor sk_Ex0 (sk_Zm m_X5_readInstructor (some (.inl res.1)) (sk_mm res.2)) 0 0 0 [some (.inr (.inr (some (35, 0))))] [] (sk_mm d) := by
  unfold q_X5_readInstructor_0 at hq
  refine sg_aload_n 1 (sk_td o_X5_readInstructor 0 rfl) rfl rfl ?_
  obtain ⟨x1, hr_x1, hq⟩ := sk_bnd hq
  refine sm_callV0i 4 (s_X5_readLanguages hr_x1) (sk_td o_X5_readInstructor 1 rfl) rfl lv_X5_71 rfl rfl rfl sz_35 (sk_rok (Nat.le_of_ble_eq_true rfl) (Nat.le_of_ble_eq_true rfl) rfl rfl) (Nat.le_of_ble_eq_true rfl) ?_
  refine sg_if_ne 9 7 (sk_td o_X5_readInstructor 2 rfl) (by decide) rfl (fun hc => ?_) (fun hc => ?_)
  · rw [if_neg hc] at hq
    refine sg_aload_n 10 (sk_td o_X5_readInstructor 5 rfl) rfl rfl ?_
    refine sg_aload_n 11 (sk_td o_X5_readInstructor 6 rfl) rfl rfl ?_
    refine sg_iconst (v := (0 : Int32)) 12 (sk_td o_X5_readInstructor 7 rfl) rfl (by decide) ?_
    refine sg_bipush (v := (7 : Int32)) 14 (sk_td o_X5_readInstructor 8 rfl) rfl (by decide) ?_
    obtain ⟨x2, hr_x2, hq⟩ := sk_bnd hq
    refine sm_callV2i 17 (s_X5_readDigit hr_x2) (sk_td o_X5_readInstructor 9 rfl) rfl lv_X5_67 rfl rfl rfl sz_35 (sk_rok (Nat.le_of_ble_eq_true rfl) (Nat.le_of_ble_eq_true rfl) rfl rfl) (Nat.le_of_ble_eq_true rfl) ?_
    refine sm_putI 20 (sk_td o_X5_readInstructor 10 rfl) rfl kp_X5_41 rfl rfl sz_35 ?_
    refine sg_aload_n 21 (sk_td o_X5_readInstructor 11 rfl) rfl rfl ?_
    exact t_X5_readInstructor_21 hq
  · rw [if_pos hc] at hq
    refine sg_iconst (v := (0 : Int32)) 8 (sk_td o_X5_readInstructor 3 rfl) rfl (by decide) ?_
    obtain rfl := Option.some.inj hq
    exact sg_iret (sk_td o_X5_readInstructor 4 rfl) rfl (show narrow .boolean (.int (0 : Int32)) = .int (0 : Int32) by decide)
def q_X5_readInstructor (d : sk_D) : Option (Int32 × sk_D) := q_X5_readInstructor_0 d 
theorem s_X5_readInstructor {l : Launch} {d : sk_D} {res : Int32 × sk_D} (hq : q_X5_readInstructor d = some res) : sk_M l 4 m_X5_readInstructor [.inr (.inr (some (35, 0)))] (sk_mm d) (some (.inl res.1)) (sk_mm res.2) :=
  sk_enter (by decide) (fun _ => Nat.le_of_ble_eq_true rfl) (Nat.le_of_ble_eq_true rfl) (t_X5_readInstructor_0 hq )
def q_X5_readEntry_49 (d : sk_D) : Option (Int32 × sk_D) :=
  (q_X5_skip d (105 : Int32)).bind fun x1 => if x1.1 = 0 then some ((0 : Int32), x1.2) else (q_X5_readInstructor x1.2).bind fun x2 => if x2.1 = 0 then some ((0 : Int32), x2.2) else some ((1 : Int32), x2.2)
set_option maxRecDepth 100000 in
set_option maxHeartbeats 4000000 in
theorem t_X5_readEntry_49 {l : Launch} {d : sk_D} {res : Int32 × sk_D} (hq : q_X5_readEntry_49 d = some res) :
    sk_G l (sk_rm 5 0 0) m_X5_readEntry sk_Ex0 (sk_Zm m_X5_readEntry (some (.inl res.1)) (sk_mm res.2)) 0 0 49 [some (.inr (.inr (some (35, 0))))] [.inl (105 : Int32), .inr (.inr (some (35, 0)))] (sk_mm d) := by
  unfold q_X5_readEntry_49 at hq
  obtain ⟨x1, hr_x1, hq⟩ := sk_bnd hq
  refine sm_callV1i 52 (s_X5_skip hr_x1) (sk_td o_X5_readEntry 25 rfl) rfl lv_X5_54 rfl rfl rfl sz_35 (sk_rok (Nat.le_of_ble_eq_true rfl) (Nat.le_of_ble_eq_true rfl) rfl rfl) (Nat.le_of_ble_eq_true rfl) ?_
  refine sg_if_eq 66 55 (sk_td o_X5_readEntry 26 rfl) (by decide) rfl (fun hc => ?_) (fun hc => ?_)
  · rw [if_pos hc] at hq
    refine sg_iconst (v := (0 : Int32)) 67 (sk_td o_X5_readEntry 32 rfl) rfl (by decide) ?_
    obtain rfl := Option.some.inj hq
    exact sg_iret (sk_td o_X5_readEntry 33 rfl) rfl (show narrow .boolean (.int (0 : Int32)) = .int (0 : Int32) by decide)
  · rw [if_neg hc] at hq
    refine sg_aload_n 56 (sk_td o_X5_readEntry 27 rfl) rfl rfl ?_
    obtain ⟨x2, hr_x2, hq⟩ := sk_bnd hq
    refine sm_callV0i 59 (s_X5_readInstructor hr_x2) (sk_td o_X5_readEntry 28 rfl) rfl lv_X5_64 rfl rfl rfl sz_35 (sk_rok (Nat.le_of_ble_eq_true rfl) (Nat.le_of_ble_eq_true rfl) rfl rfl) (Nat.le_of_ble_eq_true rfl) ?_
    refine sg_if_eq 66 62 (sk_td o_X5_readEntry 29 rfl) (by decide) rfl (fun hc => ?_) (fun hc => ?_)
    · rw [if_pos hc] at hq
      refine sg_iconst (v := (0 : Int32)) 67 (sk_td o_X5_readEntry 32 rfl) rfl (by decide) ?_
      obtain rfl := Option.some.inj hq
      exact sg_iret (sk_td o_X5_readEntry 33 rfl) rfl (show narrow .boolean (.int (0 : Int32)) = .int (0 : Int32) by decide)
    · rw [if_neg hc] at hq
      refine sg_iconst (v := (1 : Int32)) 63 (sk_td o_X5_readEntry 30 rfl) rfl (by decide) ?_
      refine sg_goto 67 (sk_td o_X5_readEntry 31 rfl) (by decide) ?_
      obtain rfl := Option.some.inj hq
      exact sg_iret (sk_td o_X5_readEntry 33 rfl) rfl (show narrow .boolean (.int (1 : Int32)) = .int (1 : Int32) by decide)
def q_X5_readEntry_36 (d : sk_D) : Option (Int32 × sk_D) :=
  (q_X5_readGroup d).bind fun x1 => if sk_nb x1.1 = true then some (x1.1, x1.2) else none
set_option maxRecDepth 100000 in
set_option maxHeartbeats 4000000 in
theorem t_X5_readEntry_36 {l : Launch} {d : sk_D} {res : Int32 × sk_D} (hq : q_X5_readEntry_36 d = some res) :
    sk_G l (sk_rm 5 0 0) m_X5_readEntry sk_Ex0 (sk_Zm m_X5_readEntry (some (.inl res.1)) (sk_mm res.2)) 0 0 36 [none] [.inr (.inr (some (35, 0)))] (sk_mm d) := by
  unfold q_X5_readEntry_36 at hq
  obtain ⟨x1, hr_x1, hq⟩ := sk_bnd hq
  refine sm_callV0i 39 (s_X5_readGroup hr_x1) (sk_td o_X5_readEntry 18 rfl) rfl lv_X5_61 rfl rfl rfl sz_35 (sk_rok (Nat.le_of_ble_eq_true rfl) (Nat.le_of_ble_eq_true rfl) rfl rfl) (Nat.le_of_ble_eq_true rfl) ?_
  obtain ⟨hn2, hq⟩ := sk_ifn hq
  obtain rfl := Option.some.inj hq
  exact sg_iret (sk_td o_X5_readEntry 19 rfl) rfl (sk_nb.z hn2)
def q_X5_readEntry_16 (d : sk_D) : Option (Int32 × sk_D) :=
  (q_X5_readPupil d).bind fun x1 => if sk_nb x1.1 = true then some (x1.1, x1.2) else none
set_option maxRecDepth 100000 in
set_option maxHeartbeats 4000000 in
theorem t_X5_readEntry_16 {l : Launch} {d : sk_D} {res : Int32 × sk_D} (hq : q_X5_readEntry_16 d = some res) :
    sk_G l (sk_rm 5 0 0) m_X5_readEntry sk_Ex0 (sk_Zm m_X5_readEntry (some (.inl res.1)) (sk_mm res.2)) 0 0 16 [none] [.inr (.inr (some (35, 0)))] (sk_mm d) := by
  unfold q_X5_readEntry_16 at hq
  obtain ⟨x1, hr_x1, hq⟩ := sk_bnd hq
  refine sm_callV0i 19 (s_X5_readPupil hr_x1) (sk_td o_X5_readEntry 8 rfl) rfl lv_X5_58 rfl rfl rfl sz_35 (sk_rok (Nat.le_of_ble_eq_true rfl) (Nat.le_of_ble_eq_true rfl) rfl rfl) (Nat.le_of_ble_eq_true rfl) ?_
  obtain ⟨hn2, hq⟩ := sk_ifn hq
  obtain rfl := Option.some.inj hq
  exact sg_iret (sk_td o_X5_readEntry 9 rfl) rfl (sk_nb.z hn2)
def q_X5_readEntry_0 (d : sk_D) : Option (Int32 × sk_D) :=
  (q_X5_skip d (112 : Int32)).bind fun x1 => if x1.1 = 0 then (q_X5_skip x1.2 (103 : Int32)).bind fun x2 => if x2.1 = 0 then (q_X5_readEntry_49 (sk_wi x2.2 35 0 3 (105 : Int32))) else (q_X5_readEntry_36 (sk_wi x2.2 35 0 3 (103 : Int32))) else (q_X5_readEntry_16 (sk_wi x1.2 35 0 3 (112 : Int32)))
set_option maxRecDepth 100000 in
set_option maxHeartbeats 4000000 in
theorem t_X5_readEntry_0 {l : Launch} {d : sk_D} {res : Int32 × sk_D} (hq : q_X5_readEntry_0 d = some res) :
    sk_G l (sk_rm 5 0 0) m_X5_readEntry sk_Ex0 (sk_Zm m_X5_readEntry (some (.inl res.1)) (sk_mm res.2)) 0 0 0 [some (.inr (.inr (some (35, 0))))] [] (sk_mm d) := by
  unfold q_X5_readEntry_0 at hq
  refine sg_aload_n 1 (sk_td o_X5_readEntry 0 rfl) rfl rfl ?_
  refine sg_bipush (v := (112 : Int32)) 3 (sk_td o_X5_readEntry 1 rfl) rfl (by decide) ?_
  obtain ⟨x1, hr_x1, hq⟩ := sk_bnd hq
  refine sm_callV1i 6 (s_X5_skip hr_x1) (sk_td o_X5_readEntry 2 rfl) rfl lv_X5_54 rfl rfl rfl sz_35 (sk_rok (Nat.le_of_ble_eq_true rfl) (Nat.le_of_ble_eq_true rfl) rfl rfl) (Nat.le_of_ble_eq_true rfl) ?_
  refine sg_if_eq 20 9 (sk_td o_X5_readEntry 3 rfl) (by decide) rfl (fun hc => ?_) (fun hc => ?_)
  · rw [if_pos hc] at hq
    refine sg_aload_n 21 (sk_td o_X5_readEntry 10 rfl) rfl rfl ?_
    refine sg_bipush (v := (103 : Int32)) 23 (sk_td o_X5_readEntry 11 rfl) rfl (by decide) ?_
    obtain ⟨x2, hr_x2, hq⟩ := sk_bnd hq
    refine sm_callV1i 26 (s_X5_skip hr_x2) (sk_td o_X5_readEntry 12 rfl) rfl lv_X5_54 rfl rfl rfl sz_35 (sk_rok (Nat.le_of_ble_eq_true rfl) (Nat.le_of_ble_eq_true rfl) rfl rfl) (Nat.le_of_ble_eq_true rfl) ?_
    refine sg_if_eq 40 29 (sk_td o_X5_readEntry 13 rfl) (by decide) rfl (fun hc => ?_) (fun hc => ?_)
    · rw [if_pos hc] at hq
      refine sg_aload_n 41 (sk_td o_X5_readEntry 20 rfl) rfl rfl ?_
      refine sg_bipush (v := (105 : Int32)) 43 (sk_td o_X5_readEntry 21 rfl) rfl (by decide) ?_
      refine sm_putZ 46 (sk_td o_X5_readEntry 22 rfl) rfl kp_X5_22 rfl rfl sz_35 (by decide) (by decide) ?_
      refine sg_aload_n 47 (sk_td o_X5_readEntry 23 rfl) rfl rfl ?_
      refine sg_bipush (v := (105 : Int32)) 49 (sk_td o_X5_readEntry 24 rfl) rfl (by decide) ?_
      exact t_X5_readEntry_49 hq
    · rw [if_neg hc] at hq
      refine sg_aload_n 30 (sk_td o_X5_readEntry 14 rfl) rfl rfl ?_
      refine sg_bipush (v := (103 : Int32)) 32 (sk_td o_X5_readEntry 15 rfl) rfl (by decide) ?_
      refine sm_putZ 35 (sk_td o_X5_readEntry 16 rfl) rfl kp_X5_22 rfl rfl sz_35 (by decide) (by decide) ?_
      refine sg_aload_n 36 (sk_td o_X5_readEntry 17 rfl) rfl rfl ?_
      refine sk_wk [false] (ls' := [none]) rfl ?_
      exact t_X5_readEntry_36 hq
  · rw [if_neg hc] at hq
    refine sg_aload_n 10 (sk_td o_X5_readEntry 4 rfl) rfl rfl ?_
    refine sg_bipush (v := (112 : Int32)) 12 (sk_td o_X5_readEntry 5 rfl) rfl (by decide) ?_
    refine sm_putZ 15 (sk_td o_X5_readEntry 6 rfl) rfl kp_X5_22 rfl rfl sz_35 (by decide) (by decide) ?_
    refine sg_aload_n 16 (sk_td o_X5_readEntry 7 rfl) rfl rfl ?_
    refine sk_wk [false] (ls' := [none]) rfl ?_
    exact t_X5_readEntry_16 hq
def q_X5_readEntry (d : sk_D) : Option (Int32 × sk_D) := q_X5_readEntry_0 d 
theorem s_X5_readEntry {l : Launch} {d : sk_D} {res : Int32 × sk_D} (hq : q_X5_readEntry d = some res) : sk_M l 5 m_X5_readEntry [.inr (.inr (some (35, 0)))] (sk_mm d) (some (.inl res.1)) (sk_mm res.2) :=
  sk_enter (by decide) (fun _ => Nat.le_of_ble_eq_true rfl) (Nat.le_of_ble_eq_true rfl) (t_X5_readEntry_0 hq )
def q_X5_findFault_7 (rec7 : (sk_D × Int32) → Option (Int32 × sk_D)) (d : sk_D) (v1 : Int32) : Option (Int32 × sk_D) :=
  if (100 : Int32) ≤ v1 then some ((-9 : Int32), d) else if (d.1 35 0 1) ≤ (d.1 35 0 2) then some ((-9 : Int32), d) else (q_X5_readEntry d).bind fun x1 => if x1.1 = 0 then some ((x1.2.1 35 0 2), x1.2) else (rec7 (x1.2, (v1 + (1 : Int32))))
set_option maxRecDepth 100000 in
set_option maxHeartbeats 4000000 in
theorem t_X5_findFault_7 {l : Launch} {rec7 : (sk_D × Int32) → Option (Int32 × sk_D)} {d : sk_D} {v1 : Int32} (hrec7 : ∀ (a : (sk_D × Int32)) (res : Int32 × sk_D), rec7 a = some res → sk_G l (sk_rm 6 0 0) m_X5_findFault sk_Ex0 (sk_Zm m_X5_findFault (some (.inl res.1)) (sk_mm res.2)) 0 0 7 [some (.inr (.inr (some (35, 0)))), some (.inl a.2)] [] (sk_mm a.1)) {res : Int32 × sk_D} (hq : q_X5_findFault_7 rec7 d v1 = some res) :
    sk_G l (sk_rm 6 0 0) m_X5_findFault sk_Ex0 (sk_Zm m_X5_findFault (some (.inl res.1)) (sk_mm res.2)) 0 0 7 [some (.inr (.inr (some (35, 0)))), some (.inl v1)] [] (sk_mm d) := by
  unfold q_X5_findFault_7 at hq
  refine sg_iload_n 8 (sk_td o_X5_findFault 5 rfl) rfl rfl ?_
  refine sg_bipush (v := (100 : Int32)) 10 (sk_td o_X5_findFault 6 rfl) rfl (by decide) ?_
  refine sg_ic_ge 42 13 (sk_td o_X5_findFault 7 rfl) (by decide) rfl (fun hc => ?_) (fun hc => ?_)
  · rw [if_pos hc] at hq
    refine sg_bipush (v := (-9 : Int32)) 44 (sk_td o_X5_findFault 21 rfl) rfl (by decide) ?_
    obtain rfl := Option.some.inj hq
    exact sg_iret (sk_td o_X5_findFault 22 rfl) rfl rfl
  · rw [if_neg hc] at hq
    refine sg_aload_n 14 (sk_td o_X5_findFault 8 rfl) rfl rfl ?_
    refine sm_getI 17 (sk_td o_X5_findFault 9 rfl) rfl kf_X5_19 rfl rfl sz_35 ?_
    refine sg_aload_n 18 (sk_td o_X5_findFault 10 rfl) rfl rfl ?_
    refine sm_getI 21 (sk_td o_X5_findFault 11 rfl) rfl kf_X5_15 rfl rfl sz_35 ?_
    refine sg_ic_ge 42 24 (sk_td o_X5_findFault 12 rfl) (by decide) rfl (fun hc => ?_) (fun hc => ?_)
    · rw [if_pos hc] at hq
      refine sg_bipush (v := (-9 : Int32)) 44 (sk_td o_X5_findFault 21 rfl) rfl (by decide) ?_
      obtain rfl := Option.some.inj hq
      exact sg_iret (sk_td o_X5_findFault 22 rfl) rfl rfl
    · rw [if_neg hc] at hq
      refine sg_aload_n 25 (sk_td o_X5_findFault 13 rfl) rfl rfl ?_
      obtain ⟨x1, hr_x1, hq⟩ := sk_bnd hq
      refine sm_callV0i 28 (s_X5_readEntry hr_x1) (sk_td o_X5_findFault 14 rfl) rfl lv_X5_50 rfl rfl rfl sz_35 (sk_rok (Nat.le_of_ble_eq_true rfl) (Nat.le_of_ble_eq_true rfl) rfl rfl) (Nat.le_of_ble_eq_true rfl) ?_
      refine sg_if_ne 36 31 (sk_td o_X5_findFault 15 rfl) (by decide) rfl (fun hc => ?_) (fun hc => ?_)
      · rw [if_neg hc] at hq
        refine sg_iinc (v1 + (1 : Int32)) 39 [some (.inr (.inr (some (35, 0)))), some (.inl (v1 + (1 : Int32)))] (sk_td o_X5_findFault 19 rfl) rfl rfl rfl rfl (Nat.le_of_ble_eq_true rfl) rfl ?_
        refine sg_goto 7 (sk_td o_X5_findFault 20 rfl) (by decide) ?_
        exact hrec7 (x1.2, (v1 + (1 : Int32))) _ hq
      · rw [if_pos hc] at hq
        refine sg_aload_n 32 (sk_td o_X5_findFault 16 rfl) rfl rfl ?_
        refine sm_getI 35 (sk_td o_X5_findFault 17 rfl) rfl kf_X5_19 rfl rfl sz_35 ?_
        obtain rfl := Option.some.inj hq
        exact sg_iret (sk_td o_X5_findFault 18 rfl) rfl rfl
def l_X5_findFault_7 (fl : Nat) (a : (sk_D × Int32)) : Option (Int32 × sk_D) := sk_it (fun rec7 a => q_X5_findFault_7 rec7 a.1 a.2) fl a
theorem lt_X5_findFault_7 {l : Launch} : ∀ (fl : Nat) (a : (sk_D × Int32)) (res : Int32 × sk_D), l_X5_findFault_7 fl a = some res → sk_G l (sk_rm 6 0 0) m_X5_findFault sk_Ex0 (sk_Zm m_X5_findFault (some (.inl res.1)) (sk_mm res.2)) 0 0 7 [some (.inr (.inr (some (35, 0)))), some (.inl a.2)] [] (sk_mm a.1) :=
  sk_it_ind (P := fun (a : (sk_D × Int32)) (res : Int32 × sk_D) => sk_G l (sk_rm 6 0 0) m_X5_findFault sk_Ex0 (sk_Zm m_X5_findFault (some (.inl res.1)) (sk_mm res.2)) 0 0 7 [some (.inr (.inr (some (35, 0)))), some (.inl a.2)] [] (sk_mm a.1)) (fun rec7 hrec7 a res hq  => t_X5_findFault_7 hrec7 hq )
def q_X5_findFault_0 (d : sk_D) : Option (Int32 × sk_D) :=
  (l_X5_findFault_7 sk_fu ((sk_wi d 35 0 2 (0 : Int32)), (0 : Int32)))
set_option maxRecDepth 100000 in
set_option maxHeartbeats 4000000 in
theorem t_X5_findFault_0 {l : Launch} {d : sk_D} {res : Int32 × sk_D} (hq : q_X5_findFault_0 d = some res) :
    sk_G l (sk_rm 6 0 0) m_X5_findFault sk_Ex0 (sk_Zm m_X5_findFault (some (.inl res.1)) (sk_mm res.2)) 0 0 0 [some (.inr (.inr (some (35, 0)))), none] [] (sk_mm d) := by
  unfold q_X5_findFault_0 at hq
  refine sg_aload_n 1 (sk_td o_X5_findFault 0 rfl) rfl rfl ?_
  refine sg_iconst (v := (0 : Int32)) 2 (sk_td o_X5_findFault 1 rfl) rfl (by decide) ?_
  refine sm_putI 5 (sk_td o_X5_findFault 2 rfl) rfl kp_X5_19 rfl rfl sz_35 ?_
  refine sg_iconst (v := (0 : Int32)) 6 (sk_td o_X5_findFault 3 rfl) rfl (by decide) ?_
  refine sg_istore_n 7 [some (.inr (.inr (some (35, 0)))), some (.inl (0 : Int32))] (sk_td o_X5_findFault 4 rfl) rfl rfl (Nat.le_of_ble_eq_true rfl) rfl ?_
  exact lt_X5_findFault_7 sk_fu ((sk_wi d 35 0 2 (0 : Int32)), (0 : Int32)) _ hq
def q_X5_findFault (d : sk_D) : Option (Int32 × sk_D) := q_X5_findFault_0 d 
theorem s_X5_findFault {l : Launch} {d : sk_D} {res : Int32 × sk_D} (hq : q_X5_findFault d = some res) : sk_M l 6 m_X5_findFault [.inr (.inr (some (35, 0)))] (sk_mm d) (some (.inl res.1)) (sk_mm res.2) :=
  sk_enter (by decide) (fun _ => Nat.le_of_ble_eq_true rfl) (Nat.le_of_ble_eq_true rfl) (t_X5_findFault_0 hq )
def q_X6_begin_78 (d : sk_D) : Option (sk_D) :=
  some (sk_fi d 34 0 3 (0 : Int32))
set_option maxRecDepth 100000 in
set_option maxHeartbeats 4000000 in
theorem t_X6_begin_78 {l : Launch} {d : sk_D} {res : sk_D} (hq : q_X6_begin_78 d = some res) :
    sk_G l (sk_rm 2 0 0) m_X6_begin sk_Ex0 (sk_Zm m_X6_begin none (sk_mm res)) 0 0 78 [none, none, none] [.inl (0 : Int32), .inr (.inr (some (34, 0)))] (sk_mm d) := by
  unfold q_X6_begin_78 at hq
  refine sm_callS2v 81 (s_J7_fill_53178 (n := 3) rfl sz_34 (by decide)) (sk_td o_X6_begin 42 rfl) rfl ls_X6_50 rfl (sk_rok (Nat.le_of_ble_eq_true rfl) (Nat.le_of_ble_eq_true rfl) rfl rfl) (Nat.le_of_ble_eq_true rfl) ?_
  obtain rfl := Option.some.inj hq
  exact sg_vret (sk_td o_X6_begin 43 rfl) rfl
def q_X6_begin_70 (d : sk_D) : Option (sk_D) :=
  (q_X6_begin_78 (sk_fi d 31 0 4 (0 : Int32)))
set_option maxRecDepth 100000 in
set_option maxHeartbeats 4000000 in
theorem t_X6_begin_70 {l : Launch} {d : sk_D} {res : sk_D} (hq : q_X6_begin_70 d = some res) :
    sk_G l (sk_rm 2 0 0) m_X6_begin sk_Ex0 (sk_Zm m_X6_begin none (sk_mm res)) 0 0 70 [some (.inr (.inr (some (23, 0)))), none, none] [.inl (0 : Int32), .inr (.inr (some (31, 0)))] (sk_mm d) := by
  unfold q_X6_begin_70 at hq
  refine sm_callS2v 73 (s_J7_fill_53178 (n := 4) rfl sz_31 (by decide)) (sk_td o_X6_begin 38 rfl) rfl ls_X6_50 rfl (sk_rok (Nat.le_of_ble_eq_true rfl) (Nat.le_of_ble_eq_true rfl) rfl rfl) (Nat.le_of_ble_eq_true rfl) ?_
  refine sg_aload_n 74 (sk_td o_X6_begin 39 rfl) rfl rfl ?_
  refine sm_getR (34, 0) 77 (sk_td o_X6_begin 40 rfl) rfl kf_X6_41 rfl rfl sz_23 rfl ?_
  refine sg_iconst (v := (0 : Int32)) 78 (sk_td o_X6_begin 41 rfl) rfl (by decide) ?_
  refine sk_wk [false, true, true] (ls' := [none, none, none]) rfl ?_
  exact t_X6_begin_78 hq
def q_X6_begin_62 (d : sk_D) : Option (sk_D) :=
  (q_X6_begin_70 (sk_fi d 30 0 4 (0 : Int32)))
set_option maxRecDepth 100000 in
set_option maxHeartbeats 4000000 in
theorem t_X6_begin_62 {l : Launch} {d : sk_D} {res : sk_D} (hq : q_X6_begin_62 d = some res) :
    sk_G l (sk_rm 2 0 0) m_X6_begin sk_Ex0 (sk_Zm m_X6_begin none (sk_mm res)) 0 0 62 [some (.inr (.inr (some (23, 0)))), none, none] [.inl (0 : Int32), .inr (.inr (some (30, 0)))] (sk_mm d) := by
  unfold q_X6_begin_62 at hq
  refine sm_callS2v 65 (s_J7_fill_53178 (n := 4) rfl sz_30 (by decide)) (sk_td o_X6_begin 34 rfl) rfl ls_X6_50 rfl (sk_rok (Nat.le_of_ble_eq_true rfl) (Nat.le_of_ble_eq_true rfl) rfl rfl) (Nat.le_of_ble_eq_true rfl) ?_
  refine sg_aload_n 66 (sk_td o_X6_begin 35 rfl) rfl rfl ?_
  refine sm_getR (31, 0) 69 (sk_td o_X6_begin 36 rfl) rfl kf_X6_33 rfl rfl sz_23 rfl ?_
  refine sg_iconst (v := (0 : Int32)) 70 (sk_td o_X6_begin 37 rfl) rfl (by decide) ?_
  exact t_X6_begin_70 hq
def q_X6_begin_54 (d : sk_D) : Option (sk_D) :=
  (q_X6_begin_62 (sk_fi d 29 0 3 (0 : Int32)))
set_option maxRecDepth 100000 in
set_option maxHeartbeats 4000000 in
theorem t_X6_begin_54 {l : Launch} {d : sk_D} {res : sk_D} (hq : q_X6_begin_54 d = some res) :
    sk_G l (sk_rm 2 0 0) m_X6_begin sk_Ex0 (sk_Zm m_X6_begin none (sk_mm res)) 0 0 54 [some (.inr (.inr (some (23, 0)))), none, none] [.inl (0 : Int32), .inr (.inr (some (29, 0)))] (sk_mm d) := by
  unfold q_X6_begin_54 at hq
  refine sm_callS2v 57 (s_J7_fill_53178 (n := 3) rfl sz_29 (by decide)) (sk_td o_X6_begin 30 rfl) rfl ls_X6_50 rfl (sk_rok (Nat.le_of_ble_eq_true rfl) (Nat.le_of_ble_eq_true rfl) rfl rfl) (Nat.le_of_ble_eq_true rfl) ?_
  refine sg_aload_n 58 (sk_td o_X6_begin 31 rfl) rfl rfl ?_
  refine sm_getR (30, 0) 61 (sk_td o_X6_begin 32 rfl) rfl kf_X6_30 rfl rfl sz_23 rfl ?_
  refine sg_iconst (v := (0 : Int32)) 62 (sk_td o_X6_begin 33 rfl) rfl (by decide) ?_
  exact t_X6_begin_62 hq
def q_X6_begin_46 (d : sk_D) : Option (sk_D) :=
  (q_X6_begin_54 (sk_fi d 28 0 3 (0 : Int32)))
set_option maxRecDepth 100000 in
set_option maxHeartbeats 4000000 in
theorem t_X6_begin_46 {l : Launch} {d : sk_D} {res : sk_D} (hq : q_X6_begin_46 d = some res) :
    sk_G l (sk_rm 2 0 0) m_X6_begin sk_Ex0 (sk_Zm m_X6_begin none (sk_mm res)) 0 0 46 [some (.inr (.inr (some (23, 0)))), none, none] [.inl (0 : Int32), .inr (.inr (some (28, 0)))] (sk_mm d) := by
  unfold q_X6_begin_46 at hq
  refine sm_callS2v 49 (s_J7_fill_53178 (n := 3) rfl sz_28 (by decide)) (sk_td o_X6_begin 26 rfl) rfl ls_X6_50 rfl (sk_rok (Nat.le_of_ble_eq_true rfl) (Nat.le_of_ble_eq_true rfl) rfl rfl) (Nat.le_of_ble_eq_true rfl) ?_
  refine sg_aload_n 50 (sk_td o_X6_begin 27 rfl) rfl rfl ?_
  refine sm_getR (29, 0) 53 (sk_td o_X6_begin 28 rfl) rfl kf_X6_27 rfl rfl sz_23 rfl ?_
  refine sg_iconst (v := (0 : Int32)) 54 (sk_td o_X6_begin 29 rfl) rfl (by decide) ?_
  exact t_X6_begin_54 hq
def q_X6_begin_38 (d : sk_D) : Option (sk_D) :=
  (q_X6_begin_46 (sk_fi d 27 0 4 (0 : Int32)))
set_option maxRecDepth 100000 in
set_option maxHeartbeats 4000000 in
theorem t_X6_begin_38 {l : Launch} {d : sk_D} {res : sk_D} (hq : q_X6_begin_38 d = some res) :
    sk_G l (sk_rm 2 0 0) m_X6_begin sk_Ex0 (sk_Zm m_X6_begin none (sk_mm res)) 0 0 38 [some (.inr (.inr (some (23, 0)))), none, none] [.inl (0 : Int32), .inr (.inr (some (27, 0)))] (sk_mm d) := by
  unfold q_X6_begin_38 at hq
  refine sm_callS2v 41 (s_J7_fill_53178 (n := 4) rfl sz_27 (by decide)) (sk_td o_X6_begin 22 rfl) rfl ls_X6_50 rfl (sk_rok (Nat.le_of_ble_eq_true rfl) (Nat.le_of_ble_eq_true rfl) rfl rfl) (Nat.le_of_ble_eq_true rfl) ?_
  refine sg_aload_n 42 (sk_td o_X6_begin 23 rfl) rfl rfl ?_
  refine sm_getR (28, 0) 45 (sk_td o_X6_begin 24 rfl) rfl kf_X6_24 rfl rfl sz_23 rfl ?_
  refine sg_iconst (v := (0 : Int32)) 46 (sk_td o_X6_begin 25 rfl) rfl (by decide) ?_
  exact t_X6_begin_46 hq
def q_X6_begin_2 (rec2 : (sk_D × Int32) → Option (sk_D)) (d : sk_D) (v2 : Int32) : Option (sk_D) :=
  if (4 : Int32) ≤ v2 then (q_X6_begin_38 (sk_fi d 26 0 4 (0 : Int32))) else if sk_bi v2 4 = true then if sk_bi v2 4 = true then (rec2 ((sk_wi d 25 0 v2.toNatClampNeg (d.1 39 v2.toNatClampNeg 5)), (v2 + (1 : Int32)))) else none else none
set_option maxRecDepth 100000 in
set_option maxHeartbeats 4000000 in
theorem t_X6_begin_2 {l : Launch} {rec2 : (sk_D × Int32) → Option (sk_D)} {d : sk_D} {v2 : Int32} (hrec2 : ∀ (a : (sk_D × Int32)) (res : sk_D), rec2 a = some res → sk_G l (sk_rm 2 0 0) m_X6_begin sk_Ex0 (sk_Zm m_X6_begin none (sk_mm res)) 0 0 2 [some (.inr (.inr (some (23, 0)))), some (.inr (.inr (some (2, 0)))), some (.inl a.2)] [] (sk_mm a.1)) {res : sk_D} (hq : q_X6_begin_2 rec2 d v2 = some res) :
    sk_G l (sk_rm 2 0 0) m_X6_begin sk_Ex0 (sk_Zm m_X6_begin none (sk_mm res)) 0 0 2 [some (.inr (.inr (some (23, 0)))), some (.inr (.inr (some (2, 0)))), some (.inl v2)] [] (sk_mm d) := by
  unfold q_X6_begin_2 at hq
  refine sg_iload_n 3 (sk_td o_X6_begin 2 rfl) rfl rfl ?_
  refine sg_iconst (v := (4 : Int32)) 4 (sk_td o_X6_begin 3 rfl) rfl (by decide) ?_
  refine sg_ic_ge 25 7 (sk_td o_X6_begin 4 rfl) (by decide) rfl (fun hc => ?_) (fun hc => ?_)
  · rw [if_pos hc] at hq
    refine sg_aload_n 26 (sk_td o_X6_begin 15 rfl) rfl rfl ?_
    refine sm_getR (26, 0) 29 (sk_td o_X6_begin 16 rfl) rfl kf_X6_18 rfl rfl sz_23 rfl ?_
    refine sg_iconst (v := (0 : Int32)) 30 (sk_td o_X6_begin 17 rfl) rfl (by decide) ?_
    refine sm_callS2v 33 (s_J7_fill_53178 (n := 4) rfl sz_26 (by decide)) (sk_td o_X6_begin 18 rfl) rfl ls_X6_50 rfl (sk_rok (Nat.le_of_ble_eq_true rfl) (Nat.le_of_ble_eq_true rfl) rfl rfl) (Nat.le_of_ble_eq_true rfl) ?_
    refine sg_aload_n 34 (sk_td o_X6_begin 19 rfl) rfl rfl ?_
    refine sm_getR (27, 0) 37 (sk_td o_X6_begin 20 rfl) rfl kf_X6_21 rfl rfl sz_23 rfl ?_
    refine sg_iconst (v := (0 : Int32)) 38 (sk_td o_X6_begin 21 rfl) rfl (by decide) ?_
    refine sk_wk [true, false, false] (ls' := [some (.inr (.inr (some (23, 0)))), none, none]) rfl ?_
    exact t_X6_begin_38 hq
  · rw [if_neg hc] at hq
    refine sg_aload_n 8 (sk_td o_X6_begin 5 rfl) rfl rfl ?_
    refine sm_getR (25, 0) 11 (sk_td o_X6_begin 6 rfl) rfl kf_X6_15 rfl rfl sz_23 rfl ?_
    refine sg_iload_n 12 (sk_td o_X6_begin 7 rfl) rfl rfl ?_
    refine sg_aload_n 13 (sk_td o_X6_begin 8 rfl) rfl rfl ?_
    refine sg_iload_n 14 (sk_td o_X6_begin 9 rfl) rfl rfl ?_
    obtain ⟨hb1, hq⟩ := sk_ifn hq
    refine sm_aald (39, v2.toNatClampNeg) 15 (sk_td o_X6_begin 10 rfl) rfl rfl (by decide) sz_2 hb1 (sr_2 (sk_bi.lt hb1)) ?_
    refine sm_getI 18 (sk_td o_X6_begin 11 rfl) rfl kf_X6_44 rfl rfl (sk_bi.lt hb1) ?_
    obtain ⟨hb2, hq⟩ := sk_ifn hq
    refine sm_iast 19 (sk_td o_X6_begin 12 rfl) rfl rfl sz_25 hb2 ?_
    refine sg_iinc (v2 + (1 : Int32)) 22 [some (.inr (.inr (some (23, 0)))), some (.inr (.inr (some (2, 0)))), some (.inl (v2 + (1 : Int32)))] (sk_td o_X6_begin 13 rfl) rfl rfl rfl rfl (Nat.le_of_ble_eq_true rfl) rfl ?_
    refine sg_goto 2 (sk_td o_X6_begin 14 rfl) (by decide) ?_
    exact hrec2 ((sk_wi d 25 0 v2.toNatClampNeg (d.1 39 v2.toNatClampNeg 5)), (v2 + (1 : Int32))) _ hq
def l_X6_begin_2 (fl : Nat) (a : (sk_D × Int32)) : Option (sk_D) := sk_it (fun rec2 a => q_X6_begin_2 rec2 a.1 a.2) fl a
theorem lt_X6_begin_2 {l : Launch} : ∀ (fl : Nat) (a : (sk_D × Int32)) (res : sk_D), l_X6_begin_2 fl a = some res → sk_G l (sk_rm 2 0 0) m_X6_begin sk_Ex0 (sk_Zm m_X6_begin none (sk_mm res)) 0 0 2 [some (.inr (.inr (some (23, 0)))), some (.inr (.inr (some (2, 0)))), some (.inl a.2)] [] (sk_mm a.1) :=
  sk_it_ind (P := fun (a : (sk_D × Int32)) (res : sk_D) => sk_G l (sk_rm 2 0 0) m_X6_begin sk_Ex0 (sk_Zm m_X6_begin none (sk_mm res)) 0 0 2 [some (.inr (.inr (some (23, 0)))), some (.inr (.inr (some (2, 0)))), some (.inl a.2)] [] (sk_mm a.1)) (fun rec2 hrec2 a res hq  => t_X6_begin_2 hrec2 hq )
def q_X6_begin_0 (d : sk_D) : Option (sk_D) :=
  (l_X6_begin_2 sk_fu (d, (0 : Int32)))
set_option maxRecDepth 100000 in
set_option maxHeartbeats 4000000 in
theorem t_X6_begin_0 {l : Launch} {d : sk_D} {res : sk_D} (hq : q_X6_begin_0 d = some res) :
    sk_G l (sk_rm 2 0 0) m_X6_begin sk_Ex0 (sk_Zm m_X6_begin none (sk_mm res)) 0 0 0 [some (.inr (.inr (some (23, 0)))), some (.inr (.inr (some (2, 0)))), none] [] (sk_mm d) := by
  unfold q_X6_begin_0 at hq
  refine sg_iconst (v := (0 : Int32)) 1 (sk_td o_X6_begin 0 rfl) rfl (by decide) ?_
  refine sg_istore_n 2 [some (.inr (.inr (some (23, 0)))), some (.inr (.inr (some (2, 0)))), some (.inl (0 : Int32))] (sk_td o_X6_begin 1 rfl) rfl rfl (Nat.le_of_ble_eq_true rfl) rfl ?_
  exact lt_X6_begin_2 sk_fu (d, (0 : Int32)) _ hq
def q_X6_begin (d : sk_D) : Option (sk_D) := q_X6_begin_0 d 
theorem s_X6_begin {l : Launch} {d : sk_D} {res : sk_D} (hq : q_X6_begin d = some res) : sk_M l 2 m_X6_begin [.inr (.inr (some (23, 0))), .inr (.inr (some (2, 0)))] (sk_mm d) none (sk_mm res) :=
  sk_enter (by decide) (fun _ => Nat.le_of_ble_eq_true rfl) (Nat.le_of_ble_eq_true rfl) (t_X6_begin_0 hq )
def q_X6_joinQueues_119 (rec2 : (sk_D × Int32 × Int32) → Option (sk_D)) (d : sk_D) (v2 : Int32) (v3 : Int32) : Option (sk_D) :=
  (rec2 (d, v2, (v3 + (1 : Int32))))
set_option maxRecDepth 100000 in
set_option maxHeartbeats 4000000 in
theorem t_X6_joinQueues_119 {l : Launch} {rec2 : (sk_D × Int32 × Int32) → Option (sk_D)} {d : sk_D} {v2 : Int32} {v3 : Int32} (hrec2 : ∀ (a : (sk_D × Int32 × Int32)) (res : sk_D), rec2 a = some res → sk_G l (sk_rm 2 0 0) m_X6_joinQueues sk_Ex0 (sk_Zm m_X6_joinQueues none (sk_mm res)) 0 0 2 [some (.inr (.inr (some (23, 0)))), some (.inr (.inr (some (2, 0)))), some (.inl a.2.1), some (.inl a.2.2), none] [] (sk_mm a.1)) {res : sk_D} (hq : q_X6_joinQueues_119 rec2 d v2 v3 = some res) :
    sk_G l (sk_rm 2 0 0) m_X6_joinQueues sk_Ex0 (sk_Zm m_X6_joinQueues none (sk_mm res)) 0 0 119 [some (.inr (.inr (some (23, 0)))), some (.inr (.inr (some (2, 0)))), some (.inl v2), some (.inl v3), none] [] (sk_mm d) := by
  unfold q_X6_joinQueues_119 at hq
  refine sg_iinc (v3 + (1 : Int32)) 122 [some (.inr (.inr (some (23, 0)))), some (.inr (.inr (some (2, 0)))), some (.inl v2), some (.inl (v3 + (1 : Int32))), none] (sk_td o_X6_joinQueues 73 rfl) rfl rfl rfl rfl (Nat.le_of_ble_eq_true rfl) rfl ?_
  refine sg_goto 2 (sk_td o_X6_joinQueues 74 rfl) (by decide) ?_
  exact hrec2 (d, v2, (v3 + (1 : Int32))) _ hq
def q_X6_joinQueues_117 (rec2 : (sk_D × Int32 × Int32) → Option (sk_D)) (d : sk_D) (v2 : Int32) (v3 : Int32) (s1 : Int32) (s3 : Int32) : Option (sk_D) :=
  if sk_bi s3 4 = true then if sk_bi s1 4 = true then (q_X6_joinQueues_119 rec2 (sk_wi d 31 0 s1.toNatClampNeg (d.1 24 0 s3.toNatClampNeg)) v2 v3) else none else none
set_option maxRecDepth 100000 in
set_option maxHeartbeats 4000000 in
theorem t_X6_joinQueues_117 {l : Launch} {rec2 : (sk_D × Int32 × Int32) → Option (sk_D)} {d : sk_D} {v2 : Int32} {v3 : Int32} {s1 : Int32} {s3 : Int32} (hrec2 : ∀ (a : (sk_D × Int32 × Int32)) (res : sk_D), rec2 a = some res → sk_G l (sk_rm 2 0 0) m_X6_joinQueues sk_Ex0 (sk_Zm m_X6_joinQueues none (sk_mm res)) 0 0 2 [some (.inr (.inr (some (23, 0)))), some (.inr (.inr (some (2, 0)))), some (.inl a.2.1), some (.inl a.2.2), none] [] (sk_mm a.1)) {res : sk_D} (hq : q_X6_joinQueues_117 rec2 d v2 v3 s1 s3 = some res) :
    sk_G l (sk_rm 2 0 0) m_X6_joinQueues sk_Ex0 (sk_Zm m_X6_joinQueues none (sk_mm res)) 0 0 117 [some (.inr (.inr (some (23, 0)))), some (.inr (.inr (some (2, 0)))), some (.inl v2), some (.inl v3), none] [.inl s3, .inr (.inr (some (24, 0))), .inl s1, .inr (.inr (some (31, 0)))] (sk_mm d) := by
  unfold q_X6_joinQueues_117 at hq
  obtain ⟨hb1, hq⟩ := sk_ifn hq
  refine sm_iald 118 (sk_td o_X6_joinQueues 71 rfl) rfl rfl sz_24 hb1 ?_
  obtain ⟨hb2, hq⟩ := sk_ifn hq
  refine sm_iast 119 (sk_td o_X6_joinQueues 72 rfl) rfl rfl sz_31 hb2 ?_
  exact t_X6_joinQueues_119 hrec2 hq
def q_X6_joinQueues_103 (rec2 : (sk_D × Int32 × Int32) → Option (sk_D)) (d : sk_D) (v2 : Int32) (v3 : Int32) (s1 : Int32) (s3 : Int32) : Option (sk_D) :=
  if sk_bi s3 3 = true then if sk_bi s1 3 = true then (q_X6_joinQueues_117 rec2 (sk_wi d 34 0 s1.toNatClampNeg ((d.1 34 0 s3.toNatClampNeg) + (1 : Int32))) v2 v3 v3 v3) else none else none
set_option maxRecDepth 100000 in
set_option maxHeartbeats 4000000 in
theorem t_X6_joinQueues_103 {l : Launch} {rec2 : (sk_D × Int32 × Int32) → Option (sk_D)} {d : sk_D} {v2 : Int32} {v3 : Int32} {s1 : Int32} {s3 : Int32} (hrec2 : ∀ (a : (sk_D × Int32 × Int32)) (res : sk_D), rec2 a = some res → sk_G l (sk_rm 2 0 0) m_X6_joinQueues sk_Ex0 (sk_Zm m_X6_joinQueues none (sk_mm res)) 0 0 2 [some (.inr (.inr (some (23, 0)))), some (.inr (.inr (some (2, 0)))), some (.inl a.2.1), some (.inl a.2.2), none] [] (sk_mm a.1)) {res : sk_D} (hq : q_X6_joinQueues_103 rec2 d v2 v3 s1 s3 = some res) :
    sk_G l (sk_rm 2 0 0) m_X6_joinQueues sk_Ex0 (sk_Zm m_X6_joinQueues none (sk_mm res)) 0 0 103 [some (.inr (.inr (some (23, 0)))), some (.inr (.inr (some (2, 0)))), some (.inl v2), some (.inl v3), none] [.inl s3, .inr (.inr (some (34, 0))), .inl s1, .inr (.inr (some (34, 0)))] (sk_mm d) := by
  unfold q_X6_joinQueues_103 at hq
  obtain ⟨hb1, hq⟩ := sk_ifn hq
  refine sm_iald 104 (sk_td o_X6_joinQueues 61 rfl) rfl rfl sz_34 hb1 ?_
  refine sg_iconst (v := (1 : Int32)) 105 (sk_td o_X6_joinQueues 62 rfl) rfl (by decide) ?_
  refine sg_iadd 106 (sk_td o_X6_joinQueues 63 rfl) rfl ?_
  obtain ⟨hb2, hq⟩ := sk_ifn hq
  refine sm_iast 107 (sk_td o_X6_joinQueues 64 rfl) rfl rfl sz_34 hb2 ?_
  refine sg_aload_n 108 (sk_td o_X6_joinQueues 65 rfl) rfl rfl ?_
  refine sm_getR (31, 0) 111 (sk_td o_X6_joinQueues 66 rfl) rfl kf_X6_33 rfl rfl sz_23 rfl ?_
  refine sg_iload_n 112 (sk_td o_X6_joinQueues 67 rfl) rfl rfl ?_
  refine sg_aload_n 113 (sk_td o_X6_joinQueues 68 rfl) rfl rfl ?_
  refine sm_getR (24, 0) 116 (sk_td o_X6_joinQueues 69 rfl) rfl kf_X6_9 rfl rfl sz_23 rfl ?_
  refine sg_iload_n 117 (sk_td o_X6_joinQueues 70 rfl) rfl rfl ?_
  exact t_X6_joinQueues_117 hrec2 hq
def q_X6_joinQueues_2 (rec2 : (sk_D × Int32 × Int32) → Option (sk_D)) (d : sk_D) (v2 : Int32) (v3 : Int32) : Option (sk_D) :=
  if (4 : Int32) ≤ v3 then some d else if sk_bi v3 4 = true then if (d.1 24 0 v3.toNatClampNeg) ≤ 0 then (q_X6_joinQueues_119 rec2 d v2 v3) else if sk_bi v3 4 = true then if (d.1 25 0 v3.toNatClampNeg) = v2 then if sk_bi v3 4 = true then (q_X8_within d (d.1 30 0 v3.toNatClampNeg) (0 : Int32) (3 : Int32)).bind fun x4 => if x4 = 0 then (q_X6_joinQueues_119 rec2 d v2 v3) else if sk_bi v3 4 = true then if sk_bi v3 4 = true then if sk_bi (d.1 30 0 v3.toNatClampNeg) 4 = true then (q_X8_within d (d.1 40 v3.toNatClampNeg (d.1 30 0 v3.toNatClampNeg).toNatClampNeg) (0 : Int32) (2 : Int32)).bind fun x8 => if x8 = 0 then (q_X6_joinQueues_119 rec2 d v2 v3) else if sk_bi (d.1 40 v3.toNatClampNeg (d.1 30 0 v3.toNatClampNeg).toNatClampNeg) 3 = true then (q_X8_within d (d.1 34 0 (d.1 40 v3.toNatClampNeg (d.1 30 0 v3.toNatClampNeg).toNatClampNeg).toNatClampNeg) (0 : Int32) (3 : Int32)).bind fun x10 => if x10 = 0 then (q_X6_joinQueues_119 rec2 d v2 v3) else if sk_bi (d.1 40 v3.toNatClampNeg (d.1 30 0 v3.toNatClampNeg).toNatClampNeg) 3 = true then if sk_bi (d.1 40 v3.toNatClampNeg (d.1 30 0 v3.toNatClampNeg).toNatClampNeg) 3 = true then if sk_bi (d.1 34 0 (d.1 40 v3.toNatClampNeg (d.1 30 0 v3.toNatClampNeg).toNatClampNeg).toNatClampNeg) 4 = true then (q_X6_joinQueues_103 rec2 (sk_wi d 33 ((d.1 40 v3.toNatClampNeg (d.1 30 0 v3.toNatClampNeg).toNatClampNeg).toNatClampNeg) (d.1 34 0 (d.1 40 v3.toNatClampNeg (d.1 30 0 v3.toNatClampNeg).toNatClampNeg).toNatClampNeg).toNatClampNeg v3) v2 v3 (d.1 40 v3.toNatClampNeg (d.1 30 0 v3.toNatClampNeg).toNatClampNeg) (d.1 40 v3.toNatClampNeg (d.1 30 0 v3.toNatClampNeg).toNatClampNeg)) else none else none else none else none else none else none else none else none else (q_X6_joinQueues_119 rec2 d v2 v3) else none else none
set_option maxRecDepth 100000 in
set_option maxHeartbeats 4000000 in
theorem t_X6_joinQueues_2 {l : Launch} {rec2 : (sk_D × Int32 × Int32) → Option (sk_D)} {d : sk_D} {v2 : Int32} {v3 : Int32} (hrec2 : ∀ (a : (sk_D × Int32 × Int32)) (res : sk_D), rec2 a = some res → sk_G l (sk_rm 2 0 0) m_X6_joinQueues sk_Ex0 (sk_Zm m_X6_joinQueues none (sk_mm res)) 0 0 2 [some (.inr (.inr (some (23, 0)))), some (.inr (.inr (some (2, 0)))), some (.inl a.2.1), some (.inl a.2.2), none] [] (sk_mm a.1)) {res : sk_D} (hq : q_X6_joinQueues_2 rec2 d v2 v3 = some res) :
    sk_G l (sk_rm 2 0 0) m_X6_joinQueues sk_Ex0 (sk_Zm m_X6_joinQueues none (sk_mm res)) 0 0 2 [some (.inr (.inr (some (23, 0)))), some (.inr (.inr (some (2, 0)))), some (.inl v2), some (.inl v3), none] [] (sk_mm d) := by
  unfold q_X6_joinQueues_2 at hq
  refine sg_iload_n 3 (sk_td o_X6_joinQueues 2 rfl) rfl rfl ?_
  refine sg_iconst (v := (4 : Int32)) 4 (sk_td o_X6_joinQueues 3 rfl) rfl (by decide) ?_
  refine sg_ic_ge 125 7 (sk_td o_X6_joinQueues 4 rfl) (by decide) rfl (fun hc => ?_) (fun hc => ?_)
  · rw [if_pos hc] at hq
    obtain rfl := Option.some.inj hq
    exact sg_vret (sk_td o_X6_joinQueues 75 rfl) rfl
  · rw [if_neg hc] at hq
    refine sg_aload_n 8 (sk_td o_X6_joinQueues 5 rfl) rfl rfl ?_
    refine sm_getR (24, 0) 11 (sk_td o_X6_joinQueues 6 rfl) rfl kf_X6_9 rfl rfl sz_23 rfl ?_
    refine sg_iload_n 12 (sk_td o_X6_joinQueues 7 rfl) rfl rfl ?_
    obtain ⟨hb1, hq⟩ := sk_ifn hq
    refine sm_iald 13 (sk_td o_X6_joinQueues 8 rfl) rfl rfl sz_24 hb1 ?_
    refine sg_if_le 119 16 (sk_td o_X6_joinQueues 9 rfl) (by decide) rfl (fun hc => ?_) (fun hc => ?_)
    · rw [if_pos hc] at hq
      exact t_X6_joinQueues_119 hrec2 hq
    · rw [if_neg hc] at hq
      refine sg_aload_n 17 (sk_td o_X6_joinQueues 10 rfl) rfl rfl ?_
      refine sm_getR (25, 0) 20 (sk_td o_X6_joinQueues 11 rfl) rfl kf_X6_15 rfl rfl sz_23 rfl ?_
      refine sg_iload_n 21 (sk_td o_X6_joinQueues 12 rfl) rfl rfl ?_
      obtain ⟨hb2, hq⟩ := sk_ifn hq
      refine sm_iald 22 (sk_td o_X6_joinQueues 13 rfl) rfl rfl sz_25 hb2 ?_
      refine sg_iload_n 23 (sk_td o_X6_joinQueues 14 rfl) rfl rfl ?_
      refine sg_ic_ne 119 26 (sk_td o_X6_joinQueues 15 rfl) (by decide) rfl (fun hc => ?_) (fun hc => ?_)
      · rw [if_neg hc] at hq
        exact t_X6_joinQueues_119 hrec2 hq
      · rw [if_pos hc] at hq
        refine sg_aload_n 27 (sk_td o_X6_joinQueues 16 rfl) rfl rfl ?_
        refine sm_getR (30, 0) 30 (sk_td o_X6_joinQueues 17 rfl) rfl kf_X6_30 rfl rfl sz_23 rfl ?_
        refine sg_iload_n 31 (sk_td o_X6_joinQueues 18 rfl) rfl rfl ?_
        obtain ⟨hb3, hq⟩ := sk_ifn hq
        refine sm_iald 32 (sk_td o_X6_joinQueues 19 rfl) rfl rfl sz_30 hb3 ?_
        refine sg_iconst (v := (0 : Int32)) 33 (sk_td o_X6_joinQueues 20 rfl) rfl (by decide) ?_
        refine sg_iconst (v := (3 : Int32)) 34 (sk_td o_X6_joinQueues 21 rfl) rfl (by decide) ?_
        obtain ⟨x4, hr_x4, hq⟩ := sk_bnd hq
        refine sm_callN3i 37 (s_X8_within hr_x4) (sk_td o_X6_joinQueues 22 rfl) rfl ln_X6_80 rfl (sk_rok (Nat.le_of_ble_eq_true rfl) (Nat.le_of_ble_eq_true rfl) rfl rfl) (Nat.le_of_ble_eq_true rfl) ?_
        refine sg_if_eq 119 40 (sk_td o_X6_joinQueues 23 rfl) (by decide) rfl (fun hc => ?_) (fun hc => ?_)
        · rw [if_pos hc] at hq
          exact t_X6_joinQueues_119 hrec2 hq
        · rw [if_neg hc] at hq
          refine sg_aload_n 41 (sk_td o_X6_joinQueues 24 rfl) rfl rfl ?_
          refine sg_iload_n 42 (sk_td o_X6_joinQueues 25 rfl) rfl rfl ?_
          obtain ⟨hb5, hq⟩ := sk_ifn hq
          refine sm_aald (39, v3.toNatClampNeg) 43 (sk_td o_X6_joinQueues 26 rfl) rfl rfl (by decide) sz_2 hb5 (sr_2 (sk_bi.lt hb5)) ?_
          refine sm_getR (40, v3.toNatClampNeg) 46 (sk_td o_X6_joinQueues 27 rfl) rfl kf_X6_84 rfl rfl (sk_bi.lt hb5) rfl ?_
          refine sg_aload_n 47 (sk_td o_X6_joinQueues 28 rfl) rfl rfl ?_
          refine sm_getR (30, 0) 50 (sk_td o_X6_joinQueues 29 rfl) rfl kf_X6_30 rfl rfl sz_23 rfl ?_
          refine sg_iload_n 51 (sk_td o_X6_joinQueues 30 rfl) rfl rfl ?_
          obtain ⟨hb6, hq⟩ := sk_ifn hq
          refine sm_iald 52 (sk_td o_X6_joinQueues 31 rfl) rfl rfl sz_30 hb6 ?_
          obtain ⟨hb7, hq⟩ := sk_ifn hq
          refine sm_iald 53 (sk_td o_X6_joinQueues 32 rfl) rfl rfl (sk_bi.lt hb5) hb7 ?_
          refine sg_istore 55 [some (.inr (.inr (some (23, 0)))), some (.inr (.inr (some (2, 0)))), some (.inl v2), some (.inl v3), some (.inl (d.1 40 v3.toNatClampNeg (d.1 30 0 v3.toNatClampNeg).toNatClampNeg))] (sk_td o_X6_joinQueues 33 rfl) rfl rfl (Nat.le_of_ble_eq_true rfl) rfl ?_
          refine sg_iload 57 (sk_td o_X6_joinQueues 34 rfl) rfl rfl ?_
          refine sg_iconst (v := (0 : Int32)) 58 (sk_td o_X6_joinQueues 35 rfl) rfl (by decide) ?_
          refine sg_iconst (v := (2 : Int32)) 59 (sk_td o_X6_joinQueues 36 rfl) rfl (by decide) ?_
          obtain ⟨x8, hr_x8, hq⟩ := sk_bnd hq
          refine sm_callN3i 62 (s_X8_within hr_x8) (sk_td o_X6_joinQueues 37 rfl) rfl ln_X6_80 rfl (sk_rok (Nat.le_of_ble_eq_true rfl) (Nat.le_of_ble_eq_true rfl) rfl rfl) (Nat.le_of_ble_eq_true rfl) ?_
          refine sg_if_eq 119 65 (sk_td o_X6_joinQueues 38 rfl) (by decide) rfl (fun hc => ?_) (fun hc => ?_)
          · rw [if_pos hc] at hq
            refine sk_wk [true, true, true, true, false] (ls' := [some (.inr (.inr (some (23, 0)))), some (.inr (.inr (some (2, 0)))), some (.inl v2), some (.inl v3), none]) rfl ?_
            exact t_X6_joinQueues_119 hrec2 hq
          · rw [if_neg hc] at hq
            refine sg_aload_n 66 (sk_td o_X6_joinQueues 39 rfl) rfl rfl ?_
            refine sm_getR (34, 0) 69 (sk_td o_X6_joinQueues 40 rfl) rfl kf_X6_41 rfl rfl sz_23 rfl ?_
            refine sg_iload 71 (sk_td o_X6_joinQueues 41 rfl) rfl rfl ?_
            obtain ⟨hb9, hq⟩ := sk_ifn hq
            refine sm_iald 72 (sk_td o_X6_joinQueues 42 rfl) rfl rfl sz_34 hb9 ?_
            refine sg_iconst (v := (0 : Int32)) 73 (sk_td o_X6_joinQueues 43 rfl) rfl (by decide) ?_
            refine sg_iconst (v := (3 : Int32)) 74 (sk_td o_X6_joinQueues 44 rfl) rfl (by decide) ?_
            obtain ⟨x10, hr_x10, hq⟩ := sk_bnd hq
            refine sm_callN3i 77 (s_X8_within hr_x10) (sk_td o_X6_joinQueues 45 rfl) rfl ln_X6_80 rfl (sk_rok (Nat.le_of_ble_eq_true rfl) (Nat.le_of_ble_eq_true rfl) rfl rfl) (Nat.le_of_ble_eq_true rfl) ?_
            refine sg_if_eq 119 80 (sk_td o_X6_joinQueues 46 rfl) (by decide) rfl (fun hc => ?_) (fun hc => ?_)
            · rw [if_pos hc] at hq
              refine sk_wk [true, true, true, true, false] (ls' := [some (.inr (.inr (some (23, 0)))), some (.inr (.inr (some (2, 0)))), some (.inl v2), some (.inl v3), none]) rfl ?_
              exact t_X6_joinQueues_119 hrec2 hq
            · rw [if_neg hc] at hq
              refine sg_aload_n 81 (sk_td o_X6_joinQueues 47 rfl) rfl rfl ?_
              refine sm_getR (32, 0) 84 (sk_td o_X6_joinQueues 48 rfl) rfl kf_X6_38 rfl rfl sz_23 rfl ?_
              refine sg_iload 86 (sk_td o_X6_joinQueues 49 rfl) rfl rfl ?_
              obtain ⟨hb11, hq⟩ := sk_ifn hq
              refine sm_aald (33, (d.1 40 v3.toNatClampNeg (d.1 30 0 v3.toNatClampNeg).toNatClampNeg).toNatClampNeg) 87 (sk_td o_X6_joinQueues 50 rfl) rfl rfl (by decide) sz_32 hb11 (sr_32 (sk_bi.lt hb11)) ?_
              refine sg_aload_n 88 (sk_td o_X6_joinQueues 51 rfl) rfl rfl ?_
              refine sm_getR (34, 0) 91 (sk_td o_X6_joinQueues 52 rfl) rfl kf_X6_41 rfl rfl sz_23 rfl ?_
              refine sg_iload 93 (sk_td o_X6_joinQueues 53 rfl) rfl rfl ?_
              obtain ⟨hb12, hq⟩ := sk_ifn hq
              refine sm_iald 94 (sk_td o_X6_joinQueues 54 rfl) rfl rfl sz_34 hb12 ?_
              refine sg_iload_n 95 (sk_td o_X6_joinQueues 55 rfl) rfl rfl ?_
              obtain ⟨hb13, hq⟩ := sk_ifn hq
              refine sm_iast 96 (sk_td o_X6_joinQueues 56 rfl) rfl rfl (sk_bi.lt hb11) hb13 ?_
              refine sg_aload_n 97 (sk_td o_X6_joinQueues 57 rfl) rfl rfl ?_
              refine sm_getR (34, 0) 100 (sk_td o_X6_joinQueues 58 rfl) rfl kf_X6_41 rfl rfl sz_23 rfl ?_
              refine sg_iload 102 (sk_td o_X6_joinQueues 59 rfl) rfl rfl ?_
              refine sg_dup2 103 (sk_td o_X6_joinQueues 60 rfl) rfl ?_
              refine sk_wk [true, true, true, true, false] (ls' := [some (.inr (.inr (some (23, 0)))), some (.inr (.inr (some (2, 0)))), some (.inl v2), some (.inl v3), none]) rfl ?_
              exact t_X6_joinQueues_103 hrec2 hq
def l_X6_joinQueues_2 (fl : Nat) (a : (sk_D × Int32 × Int32)) : Option (sk_D) := sk_it (fun rec2 a => q_X6_joinQueues_2 rec2 a.1 a.2.1 a.2.2) fl a
theorem lt_X6_joinQueues_2 {l : Launch} : ∀ (fl : Nat) (a : (sk_D × Int32 × Int32)) (res : sk_D), l_X6_joinQueues_2 fl a = some res → sk_G l (sk_rm 2 0 0) m_X6_joinQueues sk_Ex0 (sk_Zm m_X6_joinQueues none (sk_mm res)) 0 0 2 [some (.inr (.inr (some (23, 0)))), some (.inr (.inr (some (2, 0)))), some (.inl a.2.1), some (.inl a.2.2), none] [] (sk_mm a.1) :=
  sk_it_ind (P := fun (a : (sk_D × Int32 × Int32)) (res : sk_D) => sk_G l (sk_rm 2 0 0) m_X6_joinQueues sk_Ex0 (sk_Zm m_X6_joinQueues none (sk_mm res)) 0 0 2 [some (.inr (.inr (some (23, 0)))), some (.inr (.inr (some (2, 0)))), some (.inl a.2.1), some (.inl a.2.2), none] [] (sk_mm a.1)) (fun rec2 hrec2 a res hq  => t_X6_joinQueues_2 hrec2 hq )
def q_X6_joinQueues_0 (d : sk_D) (v2 : Int32) : Option (sk_D) :=
  (l_X6_joinQueues_2 sk_fu (d, v2, (0 : Int32)))
set_option maxRecDepth 100000 in
set_option maxHeartbeats 4000000 in
theorem t_X6_joinQueues_0 {l : Launch} {d : sk_D} {v2 : Int32} {res : sk_D} (hq : q_X6_joinQueues_0 d v2 = some res) :
    sk_G l (sk_rm 2 0 0) m_X6_joinQueues sk_Ex0 (sk_Zm m_X6_joinQueues none (sk_mm res)) 0 0 0 [some (.inr (.inr (some (23, 0)))), some (.inr (.inr (some (2, 0)))), some (.inl v2), none, none] [] (sk_mm d) := by
  unfold q_X6_joinQueues_0 at hq
  refine sg_iconst (v := (0 : Int32)) 1 (sk_td o_X6_joinQueues 0 rfl) rfl (by decide) ?_
  refine sg_istore_n 2 [some (.inr (.inr (some (23, 0)))), some (.inr (.inr (some (2, 0)))), some (.inl v2), some (.inl (0 : Int32)), none] (sk_td o_X6_joinQueues 1 rfl) rfl rfl (Nat.le_of_ble_eq_true rfl) rfl ?_
  exact lt_X6_joinQueues_2 sk_fu (d, v2, (0 : Int32)) _ hq
def q_X6_joinQueues (d : sk_D) (v2 : Int32) : Option (sk_D) := q_X6_joinQueues_0 d v2 
theorem s_X6_joinQueues {l : Launch} {d : sk_D} {v2 : Int32} {res : sk_D} (hq : q_X6_joinQueues d v2 = some res) : sk_M l 2 m_X6_joinQueues [.inr (.inr (some (23, 0))), .inr (.inr (some (2, 0))), .inl v2] (sk_mm d) none (sk_mm res) :=
  sk_enter (by decide) (fun _ => Nat.le_of_ble_eq_true rfl) (Nat.le_of_ble_eq_true rfl) (t_X6_joinQueues_0 hq )
def q_X6_leaveQueue_41 (d : sk_D) (v1 : Int32) : Option (sk_D) :=
  if sk_bi v1 3 = true then if sk_bi v1 3 = true then some (sk_wi d 34 0 v1.toNatClampNeg ((d.1 34 0 v1.toNatClampNeg) - (1 : Int32))) else none else none
set_option maxRecDepth 100000 in
set_option maxHeartbeats 4000000 in
theorem t_X6_leaveQueue_41 {l : Launch} {d : sk_D} {v1 : Int32} {res : sk_D} (hq : q_X6_leaveQueue_41 d v1 = some res) :
    sk_G l (sk_rm 1 0 0) m_X6_leaveQueue sk_Ex0 (sk_Zm m_X6_leaveQueue none (sk_mm res)) 0 0 41 [some (.inr (.inr (some (23, 0)))), some (.inl v1), none] [] (sk_mm d) := by
  unfold q_X6_leaveQueue_41 at hq
  refine sg_aload_n 42 (sk_td o_X6_leaveQueue 27 rfl) rfl rfl ?_
  refine sm_getR (34, 0) 45 (sk_td o_X6_leaveQueue 28 rfl) rfl kf_X6_41 rfl rfl sz_23 rfl ?_
  refine sg_iload_n 46 (sk_td o_X6_leaveQueue 29 rfl) rfl rfl ?_
  refine sg_dup2 47 (sk_td o_X6_leaveQueue 30 rfl) rfl ?_
  obtain ⟨hb1, hq⟩ := sk_ifn hq
  refine sm_iald 48 (sk_td o_X6_leaveQueue 31 rfl) rfl rfl sz_34 hb1 ?_
  refine sg_iconst (v := (1 : Int32)) 49 (sk_td o_X6_leaveQueue 32 rfl) rfl (by decide) ?_
  refine sg_isub 50 (sk_td o_X6_leaveQueue 33 rfl) rfl ?_
  obtain ⟨hb2, hq⟩ := sk_ifn hq
  refine sm_iast 51 (sk_td o_X6_leaveQueue 34 rfl) rfl rfl sz_34 hb2 ?_
  obtain rfl := Option.some.inj hq
  exact sg_vret (sk_td o_X6_leaveQueue 35 rfl) rfl
def q_X6_leaveQueue_2 (rec2 : (sk_D × Int32 × Int32) → Option (sk_D)) (d : sk_D) (v1 : Int32) (v2 : Int32) : Option (sk_D) :=
  if sk_bi v1 3 = true then if (d.1 34 0 v1.toNatClampNeg) ≤ v2 then (q_X6_leaveQueue_41 d v1) else if (4 : Int32) ≤ v2 then (q_X6_leaveQueue_41 d v1) else if sk_bi v1 3 = true then if sk_bi v1 3 = true then if sk_bi v2 4 = true then if sk_bi (v2 - (1 : Int32)) 4 = true then (rec2 ((sk_wi d 33 v1.toNatClampNeg (v2 - (1 : Int32)).toNatClampNeg (d.1 33 v1.toNatClampNeg v2.toNatClampNeg)), v1, (v2 + (1 : Int32)))) else none else none else none else none else none
set_option maxRecDepth 100000 in
set_option maxHeartbeats 4000000 in
theorem t_X6_leaveQueue_2 {l : Launch} {rec2 : (sk_D × Int32 × Int32) → Option (sk_D)} {d : sk_D} {v1 : Int32} {v2 : Int32} (hrec2 : ∀ (a : (sk_D × Int32 × Int32)) (res : sk_D), rec2 a = some res → sk_G l (sk_rm 1 0 0) m_X6_leaveQueue sk_Ex0 (sk_Zm m_X6_leaveQueue none (sk_mm res)) 0 0 2 [some (.inr (.inr (some (23, 0)))), some (.inl a.2.1), some (.inl a.2.2)] [] (sk_mm a.1)) {res : sk_D} (hq : q_X6_leaveQueue_2 rec2 d v1 v2 = some res) :
    sk_G l (sk_rm 1 0 0) m_X6_leaveQueue sk_Ex0 (sk_Zm m_X6_leaveQueue none (sk_mm res)) 0 0 2 [some (.inr (.inr (some (23, 0)))), some (.inl v1), some (.inl v2)] [] (sk_mm d) := by
  unfold q_X6_leaveQueue_2 at hq
  refine sg_iload_n 3 (sk_td o_X6_leaveQueue 2 rfl) rfl rfl ?_
  refine sg_aload_n 4 (sk_td o_X6_leaveQueue 3 rfl) rfl rfl ?_
  refine sm_getR (34, 0) 7 (sk_td o_X6_leaveQueue 4 rfl) rfl kf_X6_41 rfl rfl sz_23 rfl ?_
  refine sg_iload_n 8 (sk_td o_X6_leaveQueue 5 rfl) rfl rfl ?_
  obtain ⟨hb1, hq⟩ := sk_ifn hq
  refine sm_iald 9 (sk_td o_X6_leaveQueue 6 rfl) rfl rfl sz_34 hb1 ?_
  refine sg_ic_ge 41 12 (sk_td o_X6_leaveQueue 7 rfl) (by decide) rfl (fun hc => ?_) (fun hc => ?_)
  · rw [if_pos hc] at hq
    refine sk_wk [true, true, false] (ls' := [some (.inr (.inr (some (23, 0)))), some (.inl v1), none]) rfl ?_
    exact t_X6_leaveQueue_41 hq
  · rw [if_neg hc] at hq
    refine sg_iload_n 13 (sk_td o_X6_leaveQueue 8 rfl) rfl rfl ?_
    refine sg_iconst (v := (4 : Int32)) 14 (sk_td o_X6_leaveQueue 9 rfl) rfl (by decide) ?_
    refine sg_ic_ge 41 17 (sk_td o_X6_leaveQueue 10 rfl) (by decide) rfl (fun hc => ?_) (fun hc => ?_)
    · rw [if_pos hc] at hq
      refine sk_wk [true, true, false] (ls' := [some (.inr (.inr (some (23, 0)))), some (.inl v1), none]) rfl ?_
      exact t_X6_leaveQueue_41 hq
    · rw [if_neg hc] at hq
      refine sg_aload_n 18 (sk_td o_X6_leaveQueue 11 rfl) rfl rfl ?_
      refine sm_getR (32, 0) 21 (sk_td o_X6_leaveQueue 12 rfl) rfl kf_X6_38 rfl rfl sz_23 rfl ?_
      refine sg_iload_n 22 (sk_td o_X6_leaveQueue 13 rfl) rfl rfl ?_
      obtain ⟨hb2, hq⟩ := sk_ifn hq
      refine sm_aald (33, v1.toNatClampNeg) 23 (sk_td o_X6_leaveQueue 14 rfl) rfl rfl (by decide) sz_32 hb2 (sr_32 (sk_bi.lt hb2)) ?_
      refine sg_iload_n 24 (sk_td o_X6_leaveQueue 15 rfl) rfl rfl ?_
      refine sg_iconst (v := (1 : Int32)) 25 (sk_td o_X6_leaveQueue 16 rfl) rfl (by decide) ?_
      refine sg_isub 26 (sk_td o_X6_leaveQueue 17 rfl) rfl ?_
      refine sg_aload_n 27 (sk_td o_X6_leaveQueue 18 rfl) rfl rfl ?_
      refine sm_getR (32, 0) 30 (sk_td o_X6_leaveQueue 19 rfl) rfl kf_X6_38 rfl rfl sz_23 rfl ?_
      refine sg_iload_n 31 (sk_td o_X6_leaveQueue 20 rfl) rfl rfl ?_
      obtain ⟨hb3, hq⟩ := sk_ifn hq
      refine sm_aald (33, v1.toNatClampNeg) 32 (sk_td o_X6_leaveQueue 21 rfl) rfl rfl (by decide) sz_32 hb3 (sr_32 (sk_bi.lt hb3)) ?_
      refine sg_iload_n 33 (sk_td o_X6_leaveQueue 22 rfl) rfl rfl ?_
      obtain ⟨hb4, hq⟩ := sk_ifn hq
      refine sm_iald 34 (sk_td o_X6_leaveQueue 23 rfl) rfl rfl (sk_bi.lt hb3) hb4 ?_
      obtain ⟨hb5, hq⟩ := sk_ifn hq
      refine sm_iast 35 (sk_td o_X6_leaveQueue 24 rfl) rfl rfl (sk_bi.lt hb2) hb5 ?_
      refine sg_iinc (v2 + (1 : Int32)) 38 [some (.inr (.inr (some (23, 0)))), some (.inl v1), some (.inl (v2 + (1 : Int32)))] (sk_td o_X6_leaveQueue 25 rfl) rfl rfl rfl rfl (Nat.le_of_ble_eq_true rfl) rfl ?_
      refine sg_goto 2 (sk_td o_X6_leaveQueue 26 rfl) (by decide) ?_
      exact hrec2 ((sk_wi d 33 v1.toNatClampNeg (v2 - (1 : Int32)).toNatClampNeg (d.1 33 v1.toNatClampNeg v2.toNatClampNeg)), v1, (v2 + (1 : Int32))) _ hq
def l_X6_leaveQueue_2 (fl : Nat) (a : (sk_D × Int32 × Int32)) : Option (sk_D) := sk_it (fun rec2 a => q_X6_leaveQueue_2 rec2 a.1 a.2.1 a.2.2) fl a
theorem lt_X6_leaveQueue_2 {l : Launch} : ∀ (fl : Nat) (a : (sk_D × Int32 × Int32)) (res : sk_D), l_X6_leaveQueue_2 fl a = some res → sk_G l (sk_rm 1 0 0) m_X6_leaveQueue sk_Ex0 (sk_Zm m_X6_leaveQueue none (sk_mm res)) 0 0 2 [some (.inr (.inr (some (23, 0)))), some (.inl a.2.1), some (.inl a.2.2)] [] (sk_mm a.1) :=
  sk_it_ind (P := fun (a : (sk_D × Int32 × Int32)) (res : sk_D) => sk_G l (sk_rm 1 0 0) m_X6_leaveQueue sk_Ex0 (sk_Zm m_X6_leaveQueue none (sk_mm res)) 0 0 2 [some (.inr (.inr (some (23, 0)))), some (.inl a.2.1), some (.inl a.2.2)] [] (sk_mm a.1)) (fun rec2 hrec2 a res hq  => t_X6_leaveQueue_2 hrec2 hq )
def q_X6_leaveQueue_0 (d : sk_D) (v1 : Int32) : Option (sk_D) :=
  (l_X6_leaveQueue_2 sk_fu (d, v1, (1 : Int32)))
set_option maxRecDepth 100000 in
set_option maxHeartbeats 4000000 in
theorem t_X6_leaveQueue_0 {l : Launch} {d : sk_D} {v1 : Int32} {res : sk_D} (hq : q_X6_leaveQueue_0 d v1 = some res) :
    sk_G l (sk_rm 1 0 0) m_X6_leaveQueue sk_Ex0 (sk_Zm m_X6_leaveQueue none (sk_mm res)) 0 0 0 [some (.inr (.inr (some (23, 0)))), some (.inl v1), none] [] (sk_mm d) := by
  unfold q_X6_leaveQueue_0 at hq
  refine sg_iconst (v := (1 : Int32)) 1 (sk_td o_X6_leaveQueue 0 rfl) rfl (by decide) ?_
  refine sg_istore_n 2 [some (.inr (.inr (some (23, 0)))), some (.inl v1), some (.inl (1 : Int32))] (sk_td o_X6_leaveQueue 1 rfl) rfl rfl (Nat.le_of_ble_eq_true rfl) rfl ?_
  exact lt_X6_leaveQueue_2 sk_fu (d, v1, (1 : Int32)) _ hq
def q_X6_leaveQueue (d : sk_D) (v1 : Int32) : Option (sk_D) := q_X6_leaveQueue_0 d v1 
theorem s_X6_leaveQueue {l : Launch} {d : sk_D} {v1 : Int32} {res : sk_D} (hq : q_X6_leaveQueue d v1 = some res) : sk_M l 1 m_X6_leaveQueue [.inr (.inr (some (23, 0))), .inl v1] (sk_mm d) none (sk_mm res) :=
  sk_enter (by decide) (fun _ => Nat.le_of_ble_eq_true rfl) (Nat.le_of_ble_eq_true rfl) (t_X6_leaveQueue_0 hq )
def q_X6_completeRide_58 (d : sk_D) (v1 : Int32) (k2 : Nat) (s1 : Int32) : Option (sk_D) :=
  if sk_bi s1 4 = true then if (d.1 30 0 s1.toNatClampNeg) < (d.1 39 k2 6) then some d else if sk_bi v1 4 = true then some (sk_wi d 30 0 v1.toNatClampNeg (0 : Int32)) else none else none
set_option maxRecDepth 100000 in
set_option maxHeartbeats 4000000 in
theorem t_X6_completeRide_58 {l : Launch} {d : sk_D} {v1 : Int32} {k2 : Nat} {s1 : Int32} {res : sk_D} (hq : q_X6_completeRide_58 d v1 k2 s1 = some res) (hk_k2 : k2 < sk_cnt 39) :
    sk_G l (sk_rm 2 0 0) m_X6_completeRide sk_Ex0 (sk_Zm m_X6_completeRide none (sk_mm res)) 0 0 58 [some (.inr (.inr (some (23, 0)))), some (.inl v1), some (.inr (.inr (some (39, k2)))), none] [.inl s1, .inr (.inr (some (30, 0)))] (sk_mm d) := by
  unfold q_X6_completeRide_58 at hq
  obtain ⟨hb1, hq⟩ := sk_ifn hq
  refine sm_iald 59 (sk_td o_X6_completeRide 40 rfl) rfl rfl sz_30 hb1 ?_
  refine sg_aload_n 60 (sk_td o_X6_completeRide 41 rfl) rfl rfl ?_
  refine sm_getI 63 (sk_td o_X6_completeRide 42 rfl) rfl kf_X6_103 rfl rfl hk_k2 ?_
  refine sg_ic_lt 73 66 (sk_td o_X6_completeRide 43 rfl) (by decide) rfl (fun hc => ?_) (fun hc => ?_)
  · rw [if_pos hc] at hq
    obtain rfl := Option.some.inj hq
    exact sg_vret (sk_td o_X6_completeRide 49 rfl) rfl
  · rw [if_neg hc] at hq
    refine sg_aload_n 67 (sk_td o_X6_completeRide 44 rfl) rfl rfl ?_
    refine sm_getR (30, 0) 70 (sk_td o_X6_completeRide 45 rfl) rfl kf_X6_30 rfl rfl sz_23 rfl ?_
    refine sg_iload_n 71 (sk_td o_X6_completeRide 46 rfl) rfl rfl ?_
    refine sg_iconst (v := (0 : Int32)) 72 (sk_td o_X6_completeRide 47 rfl) rfl (by decide) ?_
    obtain ⟨hb2, hq⟩ := sk_ifn hq
    refine sm_iast 73 (sk_td o_X6_completeRide 48 rfl) rfl rfl sz_30 hb2 ?_
    obtain rfl := Option.some.inj hq
    exact sg_vret (sk_td o_X6_completeRide 49 rfl) rfl
def q_X6_completeRide_43 (d : sk_D) (v1 : Int32) (k2 : Nat) : Option (sk_D) :=
  if sk_bi v1 4 = true then if sk_bi v1 4 = true then (q_X6_completeRide_58 (sk_wi d 30 0 v1.toNatClampNeg ((d.1 30 0 v1.toNatClampNeg) + (1 : Int32))) v1 k2 v1) else none else none
set_option maxRecDepth 100000 in
set_option maxHeartbeats 4000000 in
theorem t_X6_completeRide_43 {l : Launch} {d : sk_D} {v1 : Int32} {k2 : Nat} {res : sk_D} (hq : q_X6_completeRide_43 d v1 k2 = some res) (hk_k2 : k2 < sk_cnt 39) :
    sk_G l (sk_rm 2 0 0) m_X6_completeRide sk_Ex0 (sk_Zm m_X6_completeRide none (sk_mm res)) 0 0 43 [some (.inr (.inr (some (23, 0)))), some (.inl v1), some (.inr (.inr (some (39, k2)))), none] [] (sk_mm d) := by
  unfold q_X6_completeRide_43 at hq
  refine sg_aload_n 44 (sk_td o_X6_completeRide 29 rfl) rfl rfl ?_
  refine sm_getR (30, 0) 47 (sk_td o_X6_completeRide 30 rfl) rfl kf_X6_30 rfl rfl sz_23 rfl ?_
  refine sg_iload_n 48 (sk_td o_X6_completeRide 31 rfl) rfl rfl ?_
  refine sg_dup2 49 (sk_td o_X6_completeRide 32 rfl) rfl ?_
  obtain ⟨hb1, hq⟩ := sk_ifn hq
  refine sm_iald 50 (sk_td o_X6_completeRide 33 rfl) rfl rfl sz_30 hb1 ?_
  refine sg_iconst (v := (1 : Int32)) 51 (sk_td o_X6_completeRide 34 rfl) rfl (by decide) ?_
  refine sg_iadd 52 (sk_td o_X6_completeRide 35 rfl) rfl ?_
  obtain ⟨hb2, hq⟩ := sk_ifn hq
  refine sm_iast 53 (sk_td o_X6_completeRide 36 rfl) rfl rfl sz_30 hb2 ?_
  refine sg_aload_n 54 (sk_td o_X6_completeRide 37 rfl) rfl rfl ?_
  refine sm_getR (30, 0) 57 (sk_td o_X6_completeRide 38 rfl) rfl kf_X6_30 rfl rfl sz_23 rfl ?_
  refine sg_iload_n 58 (sk_td o_X6_completeRide 39 rfl) rfl rfl ?_
  exact t_X6_completeRide_58 hq hk_k2
def q_X6_completeRide_15 (d : sk_D) (v1 : Int32) (k2 : Nat) (v3 : Int32) (s1 : Int32) : Option (sk_D) :=
  if sk_bi s1 4 = true then (q_X8_within d (d.1 30 0 s1.toNatClampNeg) (0 : Int32) (3 : Int32)).bind fun x2 => if x2 = 0 then (q_X6_completeRide_43 d v1 k2) else if sk_bi v1 4 = true then if sk_bi (d.1 30 0 v1.toNatClampNeg) 4 = true then if sk_bi v1 4 = true then (q_X6_completeRide_43 (sk_wi d 25 0 v1.toNatClampNeg (v3 + (d.1 41 k2 (d.1 30 0 v1.toNatClampNeg).toNatClampNeg))) v1 k2) else none else none else none else none
set_option maxRecDepth 100000 in
set_option maxHeartbeats 4000000 in
theorem t_X6_completeRide_15 {l : Launch} {d : sk_D} {v1 : Int32} {k2 : Nat} {v3 : Int32} {s1 : Int32} {res : sk_D} (hq : q_X6_completeRide_15 d v1 k2 v3 s1 = some res) (hk_k2 : k2 < sk_cnt 39) :
    sk_G l (sk_rm 2 0 0) m_X6_completeRide sk_Ex0 (sk_Zm m_X6_completeRide none (sk_mm res)) 0 0 15 [some (.inr (.inr (some (23, 0)))), some (.inl v1), some (.inr (.inr (some (39, k2)))), some (.inl v3)] [.inl s1, .inr (.inr (some (30, 0)))] (sk_mm d) := by
  unfold q_X6_completeRide_15 at hq
  obtain ⟨hb1, hq⟩ := sk_ifn hq
  refine sm_iald 16 (sk_td o_X6_completeRide 11 rfl) rfl rfl sz_30 hb1 ?_
  refine sg_iconst (v := (0 : Int32)) 17 (sk_td o_X6_completeRide 12 rfl) rfl (by decide) ?_
  refine sg_iconst (v := (3 : Int32)) 18 (sk_td o_X6_completeRide 13 rfl) rfl (by decide) ?_
  obtain ⟨x2, hr_x2, hq⟩ := sk_bnd hq
  refine sm_callN3i 21 (s_X8_within hr_x2) (sk_td o_X6_completeRide 14 rfl) rfl ln_X6_80 rfl (sk_rok (Nat.le_of_ble_eq_true rfl) (Nat.le_of_ble_eq_true rfl) rfl rfl) (Nat.le_of_ble_eq_true rfl) ?_
  refine sg_if_eq 43 24 (sk_td o_X6_completeRide 15 rfl) (by decide) rfl (fun hc => ?_) (fun hc => ?_)
  · rw [if_pos hc] at hq
    refine sk_wk [true, true, true, false] (ls' := [some (.inr (.inr (some (23, 0)))), some (.inl v1), some (.inr (.inr (some (39, k2)))), none]) rfl ?_
    exact t_X6_completeRide_43 hq hk_k2
  · rw [if_neg hc] at hq
    refine sg_aload_n 25 (sk_td o_X6_completeRide 16 rfl) rfl rfl ?_
    refine sm_getR (25, 0) 28 (sk_td o_X6_completeRide 17 rfl) rfl kf_X6_15 rfl rfl sz_23 rfl ?_
    refine sg_iload_n 29 (sk_td o_X6_completeRide 18 rfl) rfl rfl ?_
    refine sg_iload_n 30 (sk_td o_X6_completeRide 19 rfl) rfl rfl ?_
    refine sg_aload_n 31 (sk_td o_X6_completeRide 20 rfl) rfl rfl ?_
    refine sm_getR (41, k2) 34 (sk_td o_X6_completeRide 21 rfl) rfl kf_X6_100 rfl rfl hk_k2 rfl ?_
    refine sg_aload_n 35 (sk_td o_X6_completeRide 22 rfl) rfl rfl ?_
    refine sm_getR (30, 0) 38 (sk_td o_X6_completeRide 23 rfl) rfl kf_X6_30 rfl rfl sz_23 rfl ?_
    refine sg_iload_n 39 (sk_td o_X6_completeRide 24 rfl) rfl rfl ?_
    obtain ⟨hb3, hq⟩ := sk_ifn hq
    refine sm_iald 40 (sk_td o_X6_completeRide 25 rfl) rfl rfl sz_30 hb3 ?_
    obtain ⟨hb4, hq⟩ := sk_ifn hq
    refine sm_iald 41 (sk_td o_X6_completeRide 26 rfl) rfl rfl hk_k2 hb4 ?_
    refine sg_iadd 42 (sk_td o_X6_completeRide 27 rfl) rfl ?_
    obtain ⟨hb5, hq⟩ := sk_ifn hq
    refine sm_iast 43 (sk_td o_X6_completeRide 28 rfl) rfl rfl sz_25 hb5 ?_
    refine sk_wk [true, true, true, false] (ls' := [some (.inr (.inr (some (23, 0)))), some (.inl v1), some (.inr (.inr (some (39, k2)))), none]) rfl ?_
    exact t_X6_completeRide_43 hq hk_k2
def q_X6_completeRide_0 (d : sk_D) (v1 : Int32) (k2 : Nat) (v3 : Int32) : Option (sk_D) :=
  if sk_bi v1 4 = true then if sk_bi v1 4 = true then (q_X6_completeRide_15 (sk_wi d 27 0 v1.toNatClampNeg ((d.1 27 0 v1.toNatClampNeg) + (1 : Int32))) v1 k2 v3 v1) else none else none
set_option maxRecDepth 100000 in
set_option maxHeartbeats 4000000 in
theorem t_X6_completeRide_0 {l : Launch} {d : sk_D} {v1 : Int32} {k2 : Nat} {v3 : Int32} {res : sk_D} (hq : q_X6_completeRide_0 d v1 k2 v3 = some res) (hk_k2 : k2 < sk_cnt 39) :
    sk_G l (sk_rm 2 0 0) m_X6_completeRide sk_Ex0 (sk_Zm m_X6_completeRide none (sk_mm res)) 0 0 0 [some (.inr (.inr (some (23, 0)))), some (.inl v1), some (.inr (.inr (some (39, k2)))), some (.inl v3)] [] (sk_mm d) := by
  unfold q_X6_completeRide_0 at hq
  refine sg_aload_n 1 (sk_td o_X6_completeRide 0 rfl) rfl rfl ?_
  refine sm_getR (27, 0) 4 (sk_td o_X6_completeRide 1 rfl) rfl kf_X6_21 rfl rfl sz_23 rfl ?_
  refine sg_iload_n 5 (sk_td o_X6_completeRide 2 rfl) rfl rfl ?_
  refine sg_dup2 6 (sk_td o_X6_completeRide 3 rfl) rfl ?_
  obtain ⟨hb1, hq⟩ := sk_ifn hq
  refine sm_iald 7 (sk_td o_X6_completeRide 4 rfl) rfl rfl sz_27 hb1 ?_
  refine sg_iconst (v := (1 : Int32)) 8 (sk_td o_X6_completeRide 5 rfl) rfl (by decide) ?_
  refine sg_iadd 9 (sk_td o_X6_completeRide 6 rfl) rfl ?_
  obtain ⟨hb2, hq⟩ := sk_ifn hq
  refine sm_iast 10 (sk_td o_X6_completeRide 7 rfl) rfl rfl sz_27 hb2 ?_
  refine sg_aload_n 11 (sk_td o_X6_completeRide 8 rfl) rfl rfl ?_
  refine sm_getR (30, 0) 14 (sk_td o_X6_completeRide 9 rfl) rfl kf_X6_30 rfl rfl sz_23 rfl ?_
  refine sg_iload_n 15 (sk_td o_X6_completeRide 10 rfl) rfl rfl ?_
  exact t_X6_completeRide_15 hq hk_k2
def q_X6_completeRide (d : sk_D) (v1 : Int32) (k2 : Nat) (v3 : Int32) : Option (sk_D) := q_X6_completeRide_0 d v1 k2 v3 
theorem s_X6_completeRide {l : Launch} {d : sk_D} {v1 : Int32} {k2 : Nat} {v3 : Int32} {res : sk_D} (hq : q_X6_completeRide d v1 k2 v3 = some res) (hk_k2 : k2 < sk_cnt 39) : sk_M l 2 m_X6_completeRide [.inr (.inr (some (23, 0))), .inl v1, .inr (.inr (some (39, k2))), .inl v3] (sk_mm d) none (sk_mm res) :=
  sk_enter (by decide) (fun _ => Nat.le_of_ble_eq_true rfl) (Nat.le_of_ble_eq_true rfl) (t_X6_completeRide_0 hq hk_k2 )
def q_X6_depart_126 (rec9 : (sk_D × Int32 × Nat × Int32 × Int32 × Int32) → Option (sk_D)) (d : sk_D) (v1 : Int32) (k2 : Nat) (v4 : Int32) (v5 : Int32) (v6 : Int32) : Option (sk_D) :=
  (rec9 (d, v1, k2, v4, v5, (v6 + (1 : Int32))))
set_option maxRecDepth 100000 in
set_option maxHeartbeats 4000000 in
theorem t_X6_depart_126 {l : Launch} {rec9 : (sk_D × Int32 × Nat × Int32 × Int32 × Int32) → Option (sk_D)} {d : sk_D} {v1 : Int32} {k2 : Nat} {v4 : Int32} {v5 : Int32} {v6 : Int32} (hrec9 : ∀ (a : (sk_D × Int32 × Nat × Int32 × Int32 × Int32)) (res : sk_D), rec9 a = some res → a.2.2.1 < sk_cnt 43 → sk_G l (sk_rm 3 0 0) m_X6_depart sk_Ex0 (sk_Zm m_X6_depart none (sk_mm res)) 0 0 9 [some (.inr (.inr (some (23, 0)))), some (.inl a.2.1), some (.inr (.inr (some (43, a.2.2.1)))), some (.inr (.inr (some (2, 0)))), some (.inl a.2.2.2.1), some (.inl a.2.2.2.2.1), some (.inl a.2.2.2.2.2), none, none] [] (sk_mm a.1)) {res : sk_D} (hq : q_X6_depart_126 rec9 d v1 k2 v4 v5 v6 = some res) (hk_k2 : k2 < sk_cnt 43) :
    sk_G l (sk_rm 3 0 0) m_X6_depart sk_Ex0 (sk_Zm m_X6_depart none (sk_mm res)) 0 0 126 [some (.inr (.inr (some (23, 0)))), some (.inl v1), some (.inr (.inr (some (43, k2)))), some (.inr (.inr (some (2, 0)))), some (.inl v4), some (.inl v5), some (.inl v6), none, none] [] (sk_mm d) := by
  unfold q_X6_depart_126 at hq
  refine sg_iinc (v6 + (1 : Int32)) 129 [some (.inr (.inr (some (23, 0)))), some (.inl v1), some (.inr (.inr (some (43, k2)))), some (.inr (.inr (some (2, 0)))), some (.inl v4), some (.inl v5), some (.inl (v6 + (1 : Int32))), none, none] (sk_td o_X6_depart 73 rfl) rfl rfl rfl rfl (Nat.le_of_ble_eq_true rfl) rfl ?_
  refine sg_goto 9 (sk_td o_X6_depart 74 rfl) (by decide) ?_
  exact hrec9 (d, v1, k2, v4, v5, (v6 + (1 : Int32))) _ hq hk_k2
def q_X6_depart_100 (rec9 : (sk_D × Int32 × Nat × Int32 × Int32 × Int32) → Option (sk_D)) (d : sk_D) (v1 : Int32) (k2 : Nat) (v4 : Int32) (v5 : Int32) (v6 : Int32) (v7 : Int32) (s1 : Int32) : Option (sk_D) :=
  if sk_bi s1 4 = true then if (d.1 31 0 s1.toNatClampNeg) = 0 then (q_X6_leaveQueue d v1).bind fun x2 => if sk_bi v7 4 = true then (q_X6_completeRide x2 v7 v7.toNatClampNeg (v4 + (x2.1 43 k2 2))).bind fun x4 => (q_X6_depart_126 rec9 x4 v1 k2 v4 v5 v6) else none else (q_X6_depart_126 rec9 d v1 k2 v4 v5 v6) else none
set_option maxRecDepth 100000 in
set_option maxHeartbeats 4000000 in
theorem t_X6_depart_100 {l : Launch} {rec9 : (sk_D × Int32 × Nat × Int32 × Int32 × Int32) → Option (sk_D)} {d : sk_D} {v1 : Int32} {k2 : Nat} {v4 : Int32} {v5 : Int32} {v6 : Int32} {v7 : Int32} {s1 : Int32} (hrec9 : ∀ (a : (sk_D × Int32 × Nat × Int32 × Int32 × Int32)) (res : sk_D), rec9 a = some res → a.2.2.1 < sk_cnt 43 → sk_G l (sk_rm 3 0 0) m_X6_depart sk_Ex0 (sk_Zm m_X6_depart none (sk_mm res)) 0 0 9 [some (.inr (.inr (some (23, 0)))), some (.inl a.2.1), some (.inr (.inr (some (43, a.2.2.1)))), some (.inr (.inr (some (2, 0)))), some (.inl a.2.2.2.1), some (.inl a.2.2.2.2.1), some (.inl a.2.2.2.2.2), none, none] [] (sk_mm a.1)) {res : sk_D} (hq : q_X6_depart_100 rec9 d v1 k2 v4 v5 v6 v7 s1 = some res) (hk_k2 : k2 < sk_cnt 43) :
    sk_G l (sk_rm 3 0 0) m_X6_depart sk_Ex0 (sk_Zm m_X6_depart none (sk_mm res)) 0 0 100 [some (.inr (.inr (some (23, 0)))), some (.inl v1), some (.inr (.inr (some (43, k2)))), some (.inr (.inr (some (2, 0)))), some (.inl v4), some (.inl v5), some (.inl v6), some (.inl v7), none] [.inl s1, .inr (.inr (some (31, 0)))] (sk_mm d) := by
  unfold q_X6_depart_100 at hq
  obtain ⟨hb1, hq⟩ := sk_ifn hq
  refine sm_iald 101 (sk_td o_X6_depart 58 rfl) rfl rfl sz_31 hb1 ?_
  refine sg_if_ne 126 104 (sk_td o_X6_depart 59 rfl) (by decide) rfl (fun hc => ?_) (fun hc => ?_)
  · rw [if_neg hc] at hq
    refine sk_wk [true, true, true, true, true, true, true, false, true] (ls' := [some (.inr (.inr (some (23, 0)))), some (.inl v1), some (.inr (.inr (some (43, k2)))), some (.inr (.inr (some (2, 0)))), some (.inl v4), some (.inl v5), some (.inl v6), none, none]) rfl ?_
    exact t_X6_depart_126 hrec9 hq hk_k2
  · rw [if_pos hc] at hq
    refine sg_aload_n 105 (sk_td o_X6_depart 60 rfl) rfl rfl ?_
    refine sg_iload_n 106 (sk_td o_X6_depart 61 rfl) rfl rfl ?_
    obtain ⟨x2, hr_x2, hq⟩ := sk_bnd hq
    refine sm_callV1v 109 (s_X6_leaveQueue hr_x2) (sk_td o_X6_depart 62 rfl) rfl lv_X6_90 rfl rfl rfl sz_23 (sk_rok (Nat.le_of_ble_eq_true rfl) (Nat.le_of_ble_eq_true rfl) rfl rfl) (Nat.le_of_ble_eq_true rfl) ?_
    refine sg_aload_n 110 (sk_td o_X6_depart 63 rfl) rfl rfl ?_
    refine sg_iload 112 (sk_td o_X6_depart 64 rfl) rfl rfl ?_
    refine sg_aload_n 113 (sk_td o_X6_depart 65 rfl) rfl rfl ?_
    refine sg_iload 115 (sk_td o_X6_depart 66 rfl) rfl rfl ?_
    obtain ⟨hb3, hq⟩ := sk_ifn hq
    refine sm_aald (39, v7.toNatClampNeg) 116 (sk_td o_X6_depart 67 rfl) rfl rfl (by decide) sz_2 hb3 (sr_2 (sk_bi.lt hb3)) ?_
    refine sg_iload 118 (sk_td o_X6_depart 68 rfl) rfl rfl ?_
    refine sg_aload_n 119 (sk_td o_X6_depart 69 rfl) rfl rfl ?_
    refine sm_getI 122 (sk_td o_X6_depart 70 rfl) rfl kf_X6_93 rfl rfl hk_k2 ?_
    refine sg_iadd 123 (sk_td o_X6_depart 71 rfl) rfl ?_
    obtain ⟨x4, hr_x4, hq⟩ := sk_bnd hq
    refine sm_callV3v 126 (s_X6_completeRide hr_x4 (sk_bi.lt hb3)) (sk_td o_X6_depart 72 rfl) rfl lv_X6_96 rfl rfl rfl sz_23 (sk_rok (Nat.le_of_ble_eq_true rfl) (Nat.le_of_ble_eq_true rfl) rfl rfl) (Nat.le_of_ble_eq_true rfl) ?_
    refine sk_wk [true, true, true, true, true, true, true, false, true] (ls' := [some (.inr (.inr (some (23, 0)))), some (.inl v1), some (.inr (.inr (some (43, k2)))), some (.inr (.inr (some (2, 0)))), some (.inl v4), some (.inl v5), some (.inl v6), none, none]) rfl ?_
    exact t_X6_depart_126 hrec9 hq hk_k2
def q_X6_depart_89 (rec9 : (sk_D × Int32 × Nat × Int32 × Int32 × Int32) → Option (sk_D)) (d : sk_D) (v1 : Int32) (k2 : Nat) (v4 : Int32) (v5 : Int32) (v6 : Int32) (v7 : Int32) (v8 : Int32) (s1 : Int32) (s3 : Int32) : Option (sk_D) :=
  if sk_bi s3 3 = true then if sk_bi s1 3 = true then (q_X6_depart_100 rec9 (sk_wi d 29 0 s1.toNatClampNeg ((d.1 29 0 s3.toNatClampNeg) + v8)) v1 k2 v4 v5 v6 v7 v7) else none else none
set_option maxRecDepth 100000 in
set_option maxHeartbeats 4000000 in
theorem t_X6_depart_89 {l : Launch} {rec9 : (sk_D × Int32 × Nat × Int32 × Int32 × Int32) → Option (sk_D)} {d : sk_D} {v1 : Int32} {k2 : Nat} {v4 : Int32} {v5 : Int32} {v6 : Int32} {v7 : Int32} {v8 : Int32} {s1 : Int32} {s3 : Int32} (hrec9 : ∀ (a : (sk_D × Int32 × Nat × Int32 × Int32 × Int32)) (res : sk_D), rec9 a = some res → a.2.2.1 < sk_cnt 43 → sk_G l (sk_rm 3 0 0) m_X6_depart sk_Ex0 (sk_Zm m_X6_depart none (sk_mm res)) 0 0 9 [some (.inr (.inr (some (23, 0)))), some (.inl a.2.1), some (.inr (.inr (some (43, a.2.2.1)))), some (.inr (.inr (some (2, 0)))), some (.inl a.2.2.2.1), some (.inl a.2.2.2.2.1), some (.inl a.2.2.2.2.2), none, none] [] (sk_mm a.1)) {res : sk_D} (hq : q_X6_depart_89 rec9 d v1 k2 v4 v5 v6 v7 v8 s1 s3 = some res) (hk_k2 : k2 < sk_cnt 43) :
    sk_G l (sk_rm 3 0 0) m_X6_depart sk_Ex0 (sk_Zm m_X6_depart none (sk_mm res)) 0 0 89 [some (.inr (.inr (some (23, 0)))), some (.inl v1), some (.inr (.inr (some (43, k2)))), some (.inr (.inr (some (2, 0)))), some (.inl v4), some (.inl v5), some (.inl v6), some (.inl v7), some (.inl v8)] [.inl s3, .inr (.inr (some (29, 0))), .inl s1, .inr (.inr (some (29, 0)))] (sk_mm d) := by
  unfold q_X6_depart_89 at hq
  obtain ⟨hb1, hq⟩ := sk_ifn hq
  refine sm_iald 90 (sk_td o_X6_depart 51 rfl) rfl rfl sz_29 hb1 ?_
  refine sg_iload 92 (sk_td o_X6_depart 52 rfl) rfl rfl ?_
  refine sg_iadd 93 (sk_td o_X6_depart 53 rfl) rfl ?_
  obtain ⟨hb2, hq⟩ := sk_ifn hq
  refine sm_iast 94 (sk_td o_X6_depart 54 rfl) rfl rfl sz_29 hb2 ?_
  refine sg_aload_n 95 (sk_td o_X6_depart 55 rfl) rfl rfl ?_
  refine sm_getR (31, 0) 98 (sk_td o_X6_depart 56 rfl) rfl kf_X6_33 rfl rfl sz_23 rfl ?_
  refine sg_iload 100 (sk_td o_X6_depart 57 rfl) rfl rfl ?_
  refine sk_wk [true, true, true, true, true, true, true, true, false] (ls' := [some (.inr (.inr (some (23, 0)))), some (.inl v1), some (.inr (.inr (some (43, k2)))), some (.inr (.inr (some (2, 0)))), some (.inl v4), some (.inl v5), some (.inl v6), some (.inl v7), none]) rfl ?_
  exact t_X6_depart_100 hrec9 hq hk_k2
def q_X6_depart_9 (rec9 : (sk_D × Int32 × Nat × Int32 × Int32 × Int32) → Option (sk_D)) (d : sk_D) (v1 : Int32) (k2 : Nat) (v4 : Int32) (v5 : Int32) (v6 : Int32) : Option (sk_D) :=
  if (4 : Int32) ≤ v6 then some d else if v5 ≤ 0 then some d else if sk_bi v1 3 = true then if (d.1 34 0 v1.toNatClampNeg) ≤ 0 then some d else if sk_bi v1 3 = true then if sk_bi (0 : Int32) 4 = true then (q_X8_within d (d.1 33 v1.toNatClampNeg (0 : Int32).toNatClampNeg) (0 : Int32) (3 : Int32)).bind fun x4 => if x4 = 0 then some d else if sk_bi (d.1 33 v1.toNatClampNeg (0 : Int32).toNatClampNeg) 4 = true then if sk_bi (d.1 33 v1.toNatClampNeg (0 : Int32).toNatClampNeg) 4 = true then if sk_bi (d.1 33 v1.toNatClampNeg (0 : Int32).toNatClampNeg) 4 = true then (q_X6_depart_89 rec9 (sk_wi d 31 0 (d.1 33 v1.toNatClampNeg (0 : Int32).toNatClampNeg).toNatClampNeg ((d.1 31 0 (d.1 33 v1.toNatClampNeg (0 : Int32).toNatClampNeg).toNatClampNeg) - (if (d.1 31 0 (d.1 33 v1.toNatClampNeg (0 : Int32).toNatClampNeg).toNatClampNeg) < v5 then (d.1 31 0 (d.1 33 v1.toNatClampNeg (0 : Int32).toNatClampNeg).toNatClampNeg) else v5))) v1 k2 v4 (v5 - (if (d.1 31 0 (d.1 33 v1.toNatClampNeg (0 : Int32).toNatClampNeg).toNatClampNeg) < v5 then (d.1 31 0 (d.1 33 v1.toNatClampNeg (0 : Int32).toNatClampNeg).toNatClampNeg) else v5)) v6 (d.1 33 v1.toNatClampNeg (0 : Int32).toNatClampNeg) (if (d.1 31 0 (d.1 33 v1.toNatClampNeg (0 : Int32).toNatClampNeg).toNatClampNeg) < v5 then (d.1 31 0 (d.1 33 v1.toNatClampNeg (0 : Int32).toNatClampNeg).toNatClampNeg) else v5) v1 v1) else none else none else none else none else none else none
set_option maxRecDepth 100000 in
set_option maxHeartbeats 4000000 in
theorem t_X6_depart_9 {l : Launch} {rec9 : (sk_D × Int32 × Nat × Int32 × Int32 × Int32) → Option (sk_D)} {d : sk_D} {v1 : Int32} {k2 : Nat} {v4 : Int32} {v5 : Int32} {v6 : Int32} (hrec9 : ∀ (a : (sk_D × Int32 × Nat × Int32 × Int32 × Int32)) (res : sk_D), rec9 a = some res → a.2.2.1 < sk_cnt 43 → sk_G l (sk_rm 3 0 0) m_X6_depart sk_Ex0 (sk_Zm m_X6_depart none (sk_mm res)) 0 0 9 [some (.inr (.inr (some (23, 0)))), some (.inl a.2.1), some (.inr (.inr (some (43, a.2.2.1)))), some (.inr (.inr (some (2, 0)))), some (.inl a.2.2.2.1), some (.inl a.2.2.2.2.1), some (.inl a.2.2.2.2.2), none, none] [] (sk_mm a.1)) {res : sk_D} (hq : q_X6_depart_9 rec9 d v1 k2 v4 v5 v6 = some res) (hk_k2 : k2 < sk_cnt 43) :
    sk_G l (sk_rm 3 0 0) m_X6_depart sk_Ex0 (sk_Zm m_X6_depart none (sk_mm res)) 0 0 9 [some (.inr (.inr (some (23, 0)))), some (.inl v1), some (.inr (.inr (some (43, k2)))), some (.inr (.inr (some (2, 0)))), some (.inl v4), some (.inl v5), some (.inl v6), none, none] [] (sk_mm d) := by
  unfold q_X6_depart_9 at hq
  refine sg_iload 11 (sk_td o_X6_depart 5 rfl) rfl rfl ?_
  refine sg_iconst (v := (4 : Int32)) 12 (sk_td o_X6_depart 6 rfl) rfl (by decide) ?_
  refine sg_ic_ge 132 15 (sk_td o_X6_depart 7 rfl) (by decide) rfl (fun hc => ?_) (fun hc => ?_)
  · rw [if_pos hc] at hq
    obtain rfl := Option.some.inj hq
    exact sg_vret (sk_td o_X6_depart 75 rfl) rfl
  · rw [if_neg hc] at hq
    refine sg_iload 17 (sk_td o_X6_depart 8 rfl) rfl rfl ?_
    refine sg_if_le 132 20 (sk_td o_X6_depart 9 rfl) (by decide) rfl (fun hc => ?_) (fun hc => ?_)
    · rw [if_pos hc] at hq
      obtain rfl := Option.some.inj hq
      exact sg_vret (sk_td o_X6_depart 75 rfl) rfl
    · rw [if_neg hc] at hq
      refine sg_aload_n 21 (sk_td o_X6_depart 10 rfl) rfl rfl ?_
      refine sm_getR (34, 0) 24 (sk_td o_X6_depart 11 rfl) rfl kf_X6_41 rfl rfl sz_23 rfl ?_
      refine sg_iload_n 25 (sk_td o_X6_depart 12 rfl) rfl rfl ?_
      obtain ⟨hb1, hq⟩ := sk_ifn hq
      refine sm_iald 26 (sk_td o_X6_depart 13 rfl) rfl rfl sz_34 hb1 ?_
      refine sg_if_le 132 29 (sk_td o_X6_depart 14 rfl) (by decide) rfl (fun hc => ?_) (fun hc => ?_)
      · rw [if_pos hc] at hq
        obtain rfl := Option.some.inj hq
        exact sg_vret (sk_td o_X6_depart 75 rfl) rfl
      · rw [if_neg hc] at hq
        refine sg_aload_n 30 (sk_td o_X6_depart 15 rfl) rfl rfl ?_
        refine sm_getR (32, 0) 33 (sk_td o_X6_depart 16 rfl) rfl kf_X6_38 rfl rfl sz_23 rfl ?_
        refine sg_iload_n 34 (sk_td o_X6_depart 17 rfl) rfl rfl ?_
        obtain ⟨hb2, hq⟩ := sk_ifn hq
        refine sm_aald (33, v1.toNatClampNeg) 35 (sk_td o_X6_depart 18 rfl) rfl rfl (by decide) sz_32 hb2 (sr_32 (sk_bi.lt hb2)) ?_
        refine sg_iconst (v := (0 : Int32)) 36 (sk_td o_X6_depart 19 rfl) rfl (by decide) ?_
        obtain ⟨hb3, hq⟩ := sk_ifn hq
        refine sm_iald 37 (sk_td o_X6_depart 20 rfl) rfl rfl (sk_bi.lt hb2) hb3 ?_
        refine sg_istore 39 [some (.inr (.inr (some (23, 0)))), some (.inl v1), some (.inr (.inr (some (43, k2)))), some (.inr (.inr (some (2, 0)))), some (.inl v4), some (.inl v5), some (.inl v6), some (.inl (d.1 33 v1.toNatClampNeg (0 : Int32).toNatClampNeg)), none] (sk_td o_X6_depart 21 rfl) rfl rfl (Nat.le_of_ble_eq_true rfl) rfl ?_
        refine sg_iload 41 (sk_td o_X6_depart 22 rfl) rfl rfl ?_
        refine sg_iconst (v := (0 : Int32)) 42 (sk_td o_X6_depart 23 rfl) rfl (by decide) ?_
        refine sg_iconst (v := (3 : Int32)) 43 (sk_td o_X6_depart 24 rfl) rfl (by decide) ?_
        obtain ⟨x4, hr_x4, hq⟩ := sk_bnd hq
        refine sm_callN3i 46 (s_X8_within hr_x4) (sk_td o_X6_depart 25 rfl) rfl ln_X6_80 rfl (sk_rok (Nat.le_of_ble_eq_true rfl) (Nat.le_of_ble_eq_true rfl) rfl rfl) (Nat.le_of_ble_eq_true rfl) ?_
        refine sg_if_ne 50 49 (sk_td o_X6_depart 26 rfl) (by decide) rfl (fun hc => ?_) (fun hc => ?_)
        · rw [if_neg hc] at hq
          refine sg_iload 52 (sk_td o_X6_depart 28 rfl) rfl rfl ?_
          refine sg_aload_n 53 (sk_td o_X6_depart 29 rfl) rfl rfl ?_
          refine sm_getR (31, 0) 56 (sk_td o_X6_depart 30 rfl) rfl kf_X6_33 rfl rfl sz_23 rfl ?_
          refine sg_iload 58 (sk_td o_X6_depart 31 rfl) rfl rfl ?_
          obtain ⟨hb5, hq⟩ := sk_ifn hq
          refine sm_iald 59 (sk_td o_X6_depart 32 rfl) rfl rfl sz_31 hb5 ?_
          refine sm_min 62 (sk_td o_X6_depart 33 rfl) rfl kM_X6_56 (Nat.le_of_ble_eq_true rfl) (Nat.le_of_ble_eq_true rfl) (Nat.le_of_ble_eq_true rfl) ?_
          refine sg_istore 64 [some (.inr (.inr (some (23, 0)))), some (.inl v1), some (.inr (.inr (some (43, k2)))), some (.inr (.inr (some (2, 0)))), some (.inl v4), some (.inl v5), some (.inl v6), some (.inl (d.1 33 v1.toNatClampNeg (0 : Int32).toNatClampNeg)), some (.inl (if (d.1 31 0 (d.1 33 v1.toNatClampNeg (0 : Int32).toNatClampNeg).toNatClampNeg) < v5 then (d.1 31 0 (d.1 33 v1.toNatClampNeg (0 : Int32).toNatClampNeg).toNatClampNeg) else v5))] (sk_td o_X6_depart 34 rfl) rfl rfl (Nat.le_of_ble_eq_true rfl) rfl ?_
          refine sg_aload_n 65 (sk_td o_X6_depart 35 rfl) rfl rfl ?_
          refine sm_getR (31, 0) 68 (sk_td o_X6_depart 36 rfl) rfl kf_X6_33 rfl rfl sz_23 rfl ?_
          refine sg_iload 70 (sk_td o_X6_depart 37 rfl) rfl rfl ?_
          refine sg_dup2 71 (sk_td o_X6_depart 38 rfl) rfl ?_
          obtain ⟨hb6, hq⟩ := sk_ifn hq
          refine sm_iald 72 (sk_td o_X6_depart 39 rfl) rfl rfl sz_31 hb6 ?_
          refine sg_iload 74 (sk_td o_X6_depart 40 rfl) rfl rfl ?_
          refine sg_isub 75 (sk_td o_X6_depart 41 rfl) rfl ?_
          obtain ⟨hb7, hq⟩ := sk_ifn hq
          refine sm_iast 76 (sk_td o_X6_depart 42 rfl) rfl rfl sz_31 hb7 ?_
          refine sg_iload 78 (sk_td o_X6_depart 43 rfl) rfl rfl ?_
          refine sg_iload 80 (sk_td o_X6_depart 44 rfl) rfl rfl ?_
          refine sg_isub 81 (sk_td o_X6_depart 45 rfl) rfl ?_
          refine sg_istore 83 [some (.inr (.inr (some (23, 0)))), some (.inl v1), some (.inr (.inr (some (43, k2)))), some (.inr (.inr (some (2, 0)))), some (.inl v4), some (.inl (v5 - (if (d.1 31 0 (d.1 33 v1.toNatClampNeg (0 : Int32).toNatClampNeg).toNatClampNeg) < v5 then (d.1 31 0 (d.1 33 v1.toNatClampNeg (0 : Int32).toNatClampNeg).toNatClampNeg) else v5))), some (.inl v6), some (.inl (d.1 33 v1.toNatClampNeg (0 : Int32).toNatClampNeg)), some (.inl (if (d.1 31 0 (d.1 33 v1.toNatClampNeg (0 : Int32).toNatClampNeg).toNatClampNeg) < v5 then (d.1 31 0 (d.1 33 v1.toNatClampNeg (0 : Int32).toNatClampNeg).toNatClampNeg) else v5))] (sk_td o_X6_depart 46 rfl) rfl rfl (Nat.le_of_ble_eq_true rfl) rfl ?_
          refine sg_aload_n 84 (sk_td o_X6_depart 47 rfl) rfl rfl ?_
          refine sm_getR (29, 0) 87 (sk_td o_X6_depart 48 rfl) rfl kf_X6_27 rfl rfl sz_23 rfl ?_
          refine sg_iload_n 88 (sk_td o_X6_depart 49 rfl) rfl rfl ?_
          refine sg_dup2 89 (sk_td o_X6_depart 50 rfl) rfl ?_
          exact t_X6_depart_89 hrec9 hq hk_k2
        · rw [if_pos hc] at hq
          obtain rfl := Option.some.inj hq
          exact sg_vret (sk_td o_X6_depart 27 rfl) rfl
def l_X6_depart_9 (fl : Nat) (a : (sk_D × Int32 × Nat × Int32 × Int32 × Int32)) : Option (sk_D) := sk_it (fun rec9 a => q_X6_depart_9 rec9 a.1 a.2.1 a.2.2.1 a.2.2.2.1 a.2.2.2.2.1 a.2.2.2.2.2) fl a
theorem lt_X6_depart_9 {l : Launch} : ∀ (fl : Nat) (a : (sk_D × Int32 × Nat × Int32 × Int32 × Int32)) (res : sk_D), l_X6_depart_9 fl a = some res → a.2.2.1 < sk_cnt 43 → sk_G l (sk_rm 3 0 0) m_X6_depart sk_Ex0 (sk_Zm m_X6_depart none (sk_mm res)) 0 0 9 [some (.inr (.inr (some (23, 0)))), some (.inl a.2.1), some (.inr (.inr (some (43, a.2.2.1)))), some (.inr (.inr (some (2, 0)))), some (.inl a.2.2.2.1), some (.inl a.2.2.2.2.1), some (.inl a.2.2.2.2.2), none, none] [] (sk_mm a.1) :=
  sk_it_ind (P := fun (a : (sk_D × Int32 × Nat × Int32 × Int32 × Int32)) (res : sk_D) => a.2.2.1 < sk_cnt 43 → sk_G l (sk_rm 3 0 0) m_X6_depart sk_Ex0 (sk_Zm m_X6_depart none (sk_mm res)) 0 0 9 [some (.inr (.inr (some (23, 0)))), some (.inl a.2.1), some (.inr (.inr (some (43, a.2.2.1)))), some (.inr (.inr (some (2, 0)))), some (.inl a.2.2.2.1), some (.inl a.2.2.2.2.1), some (.inl a.2.2.2.2.2), none, none] [] (sk_mm a.1)) (fun rec9 hrec9 a res hq k0_ => t_X6_depart_9 hrec9 hq k0_)
def q_X6_depart_0 (d : sk_D) (v1 : Int32) (k2 : Nat) (v4 : Int32) : Option (sk_D) :=
  (l_X6_depart_9 sk_fu (d, v1, k2, v4, (d.1 43 k2 0), (0 : Int32)))
set_option maxRecDepth 100000 in
set_option maxHeartbeats 4000000 in
theorem t_X6_depart_0 {l : Launch} {d : sk_D} {v1 : Int32} {k2 : Nat} {v4 : Int32} {res : sk_D} (hq : q_X6_depart_0 d v1 k2 v4 = some res) (hk_k2 : k2 < sk_cnt 43) :
    sk_G l (sk_rm 3 0 0) m_X6_depart sk_Ex0 (sk_Zm m_X6_depart none (sk_mm res)) 0 0 0 [some (.inr (.inr (some (23, 0)))), some (.inl v1), some (.inr (.inr (some (43, k2)))), some (.inr (.inr (some (2, 0)))), some (.inl v4), none, none, none, none] [] (sk_mm d) := by
  unfold q_X6_depart_0 at hq
  refine sg_aload_n 1 (sk_td o_X6_depart 0 rfl) rfl rfl ?_
  refine sm_getI 4 (sk_td o_X6_depart 1 rfl) rfl kf_X6_87 rfl rfl hk_k2 ?_
  refine sg_istore 6 [some (.inr (.inr (some (23, 0)))), some (.inl v1), some (.inr (.inr (some (43, k2)))), some (.inr (.inr (some (2, 0)))), some (.inl v4), some (.inl (d.1 43 k2 0)), none, none, none] (sk_td o_X6_depart 2 rfl) rfl rfl (Nat.le_of_ble_eq_true rfl) rfl ?_
  refine sg_iconst (v := (0 : Int32)) 7 (sk_td o_X6_depart 3 rfl) rfl (by decide) ?_
  refine sg_istore 9 [some (.inr (.inr (some (23, 0)))), some (.inl v1), some (.inr (.inr (some (43, k2)))), some (.inr (.inr (some (2, 0)))), some (.inl v4), some (.inl (d.1 43 k2 0)), some (.inl (0 : Int32)), none, none] (sk_td o_X6_depart 4 rfl) rfl rfl (Nat.le_of_ble_eq_true rfl) rfl ?_
  exact lt_X6_depart_9 sk_fu (d, v1, k2, v4, (d.1 43 k2 0), (0 : Int32)) _ hq hk_k2
def q_X6_depart (d : sk_D) (v1 : Int32) (k2 : Nat) (v4 : Int32) : Option (sk_D) := q_X6_depart_0 d v1 k2 v4 
theorem s_X6_depart {l : Launch} {d : sk_D} {v1 : Int32} {k2 : Nat} {v4 : Int32} {res : sk_D} (hq : q_X6_depart d v1 k2 v4 = some res) (hk_k2 : k2 < sk_cnt 43) : sk_M l 3 m_X6_depart [.inr (.inr (some (23, 0))), .inl v1, .inr (.inr (some (43, k2))), .inr (.inr (some (2, 0))), .inl v4] (sk_mm d) none (sk_mm res) :=
  sk_enter (by decide) (fun _ => Nat.le_of_ble_eq_true rfl) (Nat.le_of_ble_eq_true rfl) (t_X6_depart_0 hq hk_k2 )
def q_X6_waitAMinute_72 (d : sk_D) (v1 : Int32) (v2 : Int32) : Option (sk_D) :=
  if sk_bi v1 3 = true then if sk_bi v1 3 = true then some (sk_wi d 28 0 v1.toNatClampNeg (if (d.1 28 0 v1.toNatClampNeg) < v2 then v2 else (d.1 28 0 v1.toNatClampNeg))) else none else none
set_option maxRecDepth 100000 in
set_option maxHeartbeats 4000000 in
theorem t_X6_waitAMinute_72 {l : Launch} {d : sk_D} {v1 : Int32} {v2 : Int32} {res : sk_D} (hq : q_X6_waitAMinute_72 d v1 v2 = some res) :
    sk_G l (sk_rm 2 0 0) m_X6_waitAMinute sk_Ex0 (sk_Zm m_X6_waitAMinute none (sk_mm res)) 0 0 72 [some (.inr (.inr (some (23, 0)))), some (.inl v1), some (.inl v2), none, none] [] (sk_mm d) := by
  unfold q_X6_waitAMinute_72 at hq
  refine sg_aload_n 73 (sk_td o_X6_waitAMinute 45 rfl) rfl rfl ?_
  refine sm_getR (28, 0) 76 (sk_td o_X6_waitAMinute 46 rfl) rfl kf_X6_24 rfl rfl sz_23 rfl ?_
  refine sg_iload_n 77 (sk_td o_X6_waitAMinute 47 rfl) rfl rfl ?_
  refine sg_aload_n 78 (sk_td o_X6_waitAMinute 48 rfl) rfl rfl ?_
  refine sm_getR (28, 0) 81 (sk_td o_X6_waitAMinute 49 rfl) rfl kf_X6_24 rfl rfl sz_23 rfl ?_
  refine sg_iload_n 82 (sk_td o_X6_waitAMinute 50 rfl) rfl rfl ?_
  obtain ⟨hb1, hq⟩ := sk_ifn hq
  refine sm_iald 83 (sk_td o_X6_waitAMinute 51 rfl) rfl rfl sz_28 hb1 ?_
  refine sg_iload_n 84 (sk_td o_X6_waitAMinute 52 rfl) rfl rfl ?_
  refine sm_max 87 (sk_td o_X6_waitAMinute 53 rfl) rfl kM_X6_106 (Nat.le_of_ble_eq_true rfl) (Nat.le_of_ble_eq_true rfl) (Nat.le_of_ble_eq_true rfl) ?_
  obtain ⟨hb2, hq⟩ := sk_ifn hq
  refine sm_iast 88 (sk_td o_X6_waitAMinute 54 rfl) rfl rfl sz_28 hb2 ?_
  obtain rfl := Option.some.inj hq
  exact sg_vret (sk_td o_X6_waitAMinute 55 rfl) rfl
def q_X6_waitAMinute_66 (rec4 : (sk_D × Int32 × Int32 × Int32) → Option (sk_D)) (d : sk_D) (v1 : Int32) (v2 : Int32) (v3 : Int32) : Option (sk_D) :=
  (rec4 (d, v1, v2, (v3 + (1 : Int32))))
set_option maxRecDepth 100000 in
set_option maxHeartbeats 4000000 in
theorem t_X6_waitAMinute_66 {l : Launch} {rec4 : (sk_D × Int32 × Int32 × Int32) → Option (sk_D)} {d : sk_D} {v1 : Int32} {v2 : Int32} {v3 : Int32} (hrec4 : ∀ (a : (sk_D × Int32 × Int32 × Int32)) (res : sk_D), rec4 a = some res → sk_G l (sk_rm 2 0 0) m_X6_waitAMinute sk_Ex0 (sk_Zm m_X6_waitAMinute none (sk_mm res)) 0 0 4 [some (.inr (.inr (some (23, 0)))), some (.inl a.2.1), some (.inl a.2.2.1), some (.inl a.2.2.2), none] [] (sk_mm a.1)) {res : sk_D} (hq : q_X6_waitAMinute_66 rec4 d v1 v2 v3 = some res) :
    sk_G l (sk_rm 2 0 0) m_X6_waitAMinute sk_Ex0 (sk_Zm m_X6_waitAMinute none (sk_mm res)) 0 0 66 [some (.inr (.inr (some (23, 0)))), some (.inl v1), some (.inl v2), some (.inl v3), none] [] (sk_mm d) := by
  unfold q_X6_waitAMinute_66 at hq
  refine sg_iinc (v3 + (1 : Int32)) 69 [some (.inr (.inr (some (23, 0)))), some (.inl v1), some (.inl v2), some (.inl (v3 + (1 : Int32))), none] (sk_td o_X6_waitAMinute 43 rfl) rfl rfl rfl rfl (Nat.le_of_ble_eq_true rfl) rfl ?_
  refine sg_goto 4 (sk_td o_X6_waitAMinute 44 rfl) (by decide) ?_
  exact hrec4 (d, v1, v2, (v3 + (1 : Int32))) _ hq
def q_X6_waitAMinute_4 (rec4 : (sk_D × Int32 × Int32 × Int32) → Option (sk_D)) (d : sk_D) (v1 : Int32) (v2 : Int32) (v3 : Int32) : Option (sk_D) :=
  if sk_bi v1 3 = true then if (d.1 34 0 v1.toNatClampNeg) ≤ v3 then (q_X6_waitAMinute_72 d v1 v2) else if (4 : Int32) ≤ v3 then (q_X6_waitAMinute_72 d v1 v2) else if sk_bi v1 3 = true then if sk_bi v3 4 = true then (q_X8_within d (d.1 33 v1.toNatClampNeg v3.toNatClampNeg) (0 : Int32) (3 : Int32)).bind fun x4 => if x4 = 0 then (q_X6_waitAMinute_66 rec4 d v1 v2 v3) else if sk_bi (d.1 33 v1.toNatClampNeg v3.toNatClampNeg) 4 = true then if sk_bi (d.1 33 v1.toNatClampNeg v3.toNatClampNeg) 4 = true then if sk_bi (d.1 33 v1.toNatClampNeg v3.toNatClampNeg) 4 = true then if sk_bi (d.1 33 v1.toNatClampNeg v3.toNatClampNeg) 4 = true then (q_X6_waitAMinute_66 rec4 (sk_wi d 26 0 (d.1 33 v1.toNatClampNeg v3.toNatClampNeg).toNatClampNeg ((d.1 26 0 (d.1 33 v1.toNatClampNeg v3.toNatClampNeg).toNatClampNeg) + (d.1 31 0 (d.1 33 v1.toNatClampNeg v3.toNatClampNeg).toNatClampNeg))) v1 (v2 + (d.1 31 0 (d.1 33 v1.toNatClampNeg v3.toNatClampNeg).toNatClampNeg)) v3) else none else none else none else none else none else none else none
set_option maxRecDepth 100000 in
set_option maxHeartbeats 4000000 in
theorem t_X6_waitAMinute_4 {l : Launch} {rec4 : (sk_D × Int32 × Int32 × Int32) → Option (sk_D)} {d : sk_D} {v1 : Int32} {v2 : Int32} {v3 : Int32} (hrec4 : ∀ (a : (sk_D × Int32 × Int32 × Int32)) (res : sk_D), rec4 a = some res → sk_G l (sk_rm 2 0 0) m_X6_waitAMinute sk_Ex0 (sk_Zm m_X6_waitAMinute none (sk_mm res)) 0 0 4 [some (.inr (.inr (some (23, 0)))), some (.inl a.2.1), some (.inl a.2.2.1), some (.inl a.2.2.2), none] [] (sk_mm a.1)) {res : sk_D} (hq : q_X6_waitAMinute_4 rec4 d v1 v2 v3 = some res) :
    sk_G l (sk_rm 2 0 0) m_X6_waitAMinute sk_Ex0 (sk_Zm m_X6_waitAMinute none (sk_mm res)) 0 0 4 [some (.inr (.inr (some (23, 0)))), some (.inl v1), some (.inl v2), some (.inl v3), none] [] (sk_mm d) := by
  unfold q_X6_waitAMinute_4 at hq
  refine sg_iload_n 5 (sk_td o_X6_waitAMinute 4 rfl) rfl rfl ?_
  refine sg_aload_n 6 (sk_td o_X6_waitAMinute 5 rfl) rfl rfl ?_
  refine sm_getR (34, 0) 9 (sk_td o_X6_waitAMinute 6 rfl) rfl kf_X6_41 rfl rfl sz_23 rfl ?_
  refine sg_iload_n 10 (sk_td o_X6_waitAMinute 7 rfl) rfl rfl ?_
  obtain ⟨hb1, hq⟩ := sk_ifn hq
  refine sm_iald 11 (sk_td o_X6_waitAMinute 8 rfl) rfl rfl sz_34 hb1 ?_
  refine sg_ic_ge 72 14 (sk_td o_X6_waitAMinute 9 rfl) (by decide) rfl (fun hc => ?_) (fun hc => ?_)
  · rw [if_pos hc] at hq
    refine sk_wk [true, true, true, false, true] (ls' := [some (.inr (.inr (some (23, 0)))), some (.inl v1), some (.inl v2), none, none]) rfl ?_
    exact t_X6_waitAMinute_72 hq
  · rw [if_neg hc] at hq
    refine sg_iload_n 15 (sk_td o_X6_waitAMinute 10 rfl) rfl rfl ?_
    refine sg_iconst (v := (4 : Int32)) 16 (sk_td o_X6_waitAMinute 11 rfl) rfl (by decide) ?_
    refine sg_ic_ge 72 19 (sk_td o_X6_waitAMinute 12 rfl) (by decide) rfl (fun hc => ?_) (fun hc => ?_)
    · rw [if_pos hc] at hq
      refine sk_wk [true, true, true, false, true] (ls' := [some (.inr (.inr (some (23, 0)))), some (.inl v1), some (.inl v2), none, none]) rfl ?_
      exact t_X6_waitAMinute_72 hq
    · rw [if_neg hc] at hq
      refine sg_aload_n 20 (sk_td o_X6_waitAMinute 13 rfl) rfl rfl ?_
      refine sm_getR (32, 0) 23 (sk_td o_X6_waitAMinute 14 rfl) rfl kf_X6_38 rfl rfl sz_23 rfl ?_
      refine sg_iload_n 24 (sk_td o_X6_waitAMinute 15 rfl) rfl rfl ?_
      obtain ⟨hb2, hq⟩ := sk_ifn hq
      refine sm_aald (33, v1.toNatClampNeg) 25 (sk_td o_X6_waitAMinute 16 rfl) rfl rfl (by decide) sz_32 hb2 (sr_32 (sk_bi.lt hb2)) ?_
      refine sg_iload_n 26 (sk_td o_X6_waitAMinute 17 rfl) rfl rfl ?_
      obtain ⟨hb3, hq⟩ := sk_ifn hq
      refine sm_iald 27 (sk_td o_X6_waitAMinute 18 rfl) rfl rfl (sk_bi.lt hb2) hb3 ?_
      refine sg_istore 29 [some (.inr (.inr (some (23, 0)))), some (.inl v1), some (.inl v2), some (.inl v3), some (.inl (d.1 33 v1.toNatClampNeg v3.toNatClampNeg))] (sk_td o_X6_waitAMinute 19 rfl) rfl rfl (Nat.le_of_ble_eq_true rfl) rfl ?_
      refine sg_iload 31 (sk_td o_X6_waitAMinute 20 rfl) rfl rfl ?_
      refine sg_iconst (v := (0 : Int32)) 32 (sk_td o_X6_waitAMinute 21 rfl) rfl (by decide) ?_
      refine sg_iconst (v := (3 : Int32)) 33 (sk_td o_X6_waitAMinute 22 rfl) rfl (by decide) ?_
      obtain ⟨x4, hr_x4, hq⟩ := sk_bnd hq
      refine sm_callN3i 36 (s_X8_within hr_x4) (sk_td o_X6_waitAMinute 23 rfl) rfl ln_X6_80 rfl (sk_rok (Nat.le_of_ble_eq_true rfl) (Nat.le_of_ble_eq_true rfl) rfl rfl) (Nat.le_of_ble_eq_true rfl) ?_
      refine sg_if_eq 66 39 (sk_td o_X6_waitAMinute 24 rfl) (by decide) rfl (fun hc => ?_) (fun hc => ?_)
      · rw [if_pos hc] at hq
        refine sk_wk [true, true, true, true, false] (ls' := [some (.inr (.inr (some (23, 0)))), some (.inl v1), some (.inl v2), some (.inl v3), none]) rfl ?_
        exact t_X6_waitAMinute_66 hrec4 hq
      · rw [if_neg hc] at hq
        refine sg_iload_n 40 (sk_td o_X6_waitAMinute 25 rfl) rfl rfl ?_
        refine sg_aload_n 41 (sk_td o_X6_waitAMinute 26 rfl) rfl rfl ?_
        refine sm_getR (31, 0) 44 (sk_td o_X6_waitAMinute 27 rfl) rfl kf_X6_33 rfl rfl sz_23 rfl ?_
        refine sg_iload 46 (sk_td o_X6_waitAMinute 28 rfl) rfl rfl ?_
        obtain ⟨hb5, hq⟩ := sk_ifn hq
        refine sm_iald 47 (sk_td o_X6_waitAMinute 29 rfl) rfl rfl sz_31 hb5 ?_
        refine sg_iadd 48 (sk_td o_X6_waitAMinute 30 rfl) rfl ?_
        refine sg_istore_n 49 [some (.inr (.inr (some (23, 0)))), some (.inl v1), some (.inl (v2 + (d.1 31 0 (d.1 33 v1.toNatClampNeg v3.toNatClampNeg).toNatClampNeg))), some (.inl v3), some (.inl (d.1 33 v1.toNatClampNeg v3.toNatClampNeg))] (sk_td o_X6_waitAMinute 31 rfl) rfl rfl (Nat.le_of_ble_eq_true rfl) rfl ?_
        refine sg_aload_n 50 (sk_td o_X6_waitAMinute 32 rfl) rfl rfl ?_
        refine sm_getR (26, 0) 53 (sk_td o_X6_waitAMinute 33 rfl) rfl kf_X6_18 rfl rfl sz_23 rfl ?_
        refine sg_iload 55 (sk_td o_X6_waitAMinute 34 rfl) rfl rfl ?_
        refine sg_dup2 56 (sk_td o_X6_waitAMinute 35 rfl) rfl ?_
        obtain ⟨hb6, hq⟩ := sk_ifn hq
        refine sm_iald 57 (sk_td o_X6_waitAMinute 36 rfl) rfl rfl sz_26 hb6 ?_
        refine sg_aload_n 58 (sk_td o_X6_waitAMinute 37 rfl) rfl rfl ?_
        refine sm_getR (31, 0) 61 (sk_td o_X6_waitAMinute 38 rfl) rfl kf_X6_33 rfl rfl sz_23 rfl ?_
        refine sg_iload 63 (sk_td o_X6_waitAMinute 39 rfl) rfl rfl ?_
        obtain ⟨hb7, hq⟩ := sk_ifn hq
        refine sm_iald 64 (sk_td o_X6_waitAMinute 40 rfl) rfl rfl sz_31 hb7 ?_
        refine sg_iadd 65 (sk_td o_X6_waitAMinute 41 rfl) rfl ?_
        obtain ⟨hb8, hq⟩ := sk_ifn hq
        refine sm_iast 66 (sk_td o_X6_waitAMinute 42 rfl) rfl rfl sz_26 hb8 ?_
        refine sk_wk [true, true, true, true, false] (ls' := [some (.inr (.inr (some (23, 0)))), some (.inl v1), some (.inl (v2 + (d.1 31 0 (d.1 33 v1.toNatClampNeg v3.toNatClampNeg).toNatClampNeg))), some (.inl v3), none]) rfl ?_
        exact t_X6_waitAMinute_66 hrec4 hq
def l_X6_waitAMinute_4 (fl : Nat) (a : (sk_D × Int32 × Int32 × Int32)) : Option (sk_D) := sk_it (fun rec4 a => q_X6_waitAMinute_4 rec4 a.1 a.2.1 a.2.2.1 a.2.2.2) fl a
theorem lt_X6_waitAMinute_4 {l : Launch} : ∀ (fl : Nat) (a : (sk_D × Int32 × Int32 × Int32)) (res : sk_D), l_X6_waitAMinute_4 fl a = some res → sk_G l (sk_rm 2 0 0) m_X6_waitAMinute sk_Ex0 (sk_Zm m_X6_waitAMinute none (sk_mm res)) 0 0 4 [some (.inr (.inr (some (23, 0)))), some (.inl a.2.1), some (.inl a.2.2.1), some (.inl a.2.2.2), none] [] (sk_mm a.1) :=
  sk_it_ind (P := fun (a : (sk_D × Int32 × Int32 × Int32)) (res : sk_D) => sk_G l (sk_rm 2 0 0) m_X6_waitAMinute sk_Ex0 (sk_Zm m_X6_waitAMinute none (sk_mm res)) 0 0 4 [some (.inr (.inr (some (23, 0)))), some (.inl a.2.1), some (.inl a.2.2.1), some (.inl a.2.2.2), none] [] (sk_mm a.1)) (fun rec4 hrec4 a res hq  => t_X6_waitAMinute_4 hrec4 hq )
def q_X6_waitAMinute_0 (d : sk_D) (v1 : Int32) : Option (sk_D) :=
  (l_X6_waitAMinute_4 sk_fu (d, v1, (0 : Int32), (0 : Int32)))
set_option maxRecDepth 100000 in
set_option maxHeartbeats 4000000 in
theorem t_X6_waitAMinute_0 {l : Launch} {d : sk_D} {v1 : Int32} {res : sk_D} (hq : q_X6_waitAMinute_0 d v1 = some res) :
    sk_G l (sk_rm 2 0 0) m_X6_waitAMinute sk_Ex0 (sk_Zm m_X6_waitAMinute none (sk_mm res)) 0 0 0 [some (.inr (.inr (some (23, 0)))), some (.inl v1), none, none, none] [] (sk_mm d) := by
  unfold q_X6_waitAMinute_0 at hq
  refine sg_iconst (v := (0 : Int32)) 1 (sk_td o_X6_waitAMinute 0 rfl) rfl (by decide) ?_
  refine sg_istore_n 2 [some (.inr (.inr (some (23, 0)))), some (.inl v1), some (.inl (0 : Int32)), none, none] (sk_td o_X6_waitAMinute 1 rfl) rfl rfl (Nat.le_of_ble_eq_true rfl) rfl ?_
  refine sg_iconst (v := (0 : Int32)) 3 (sk_td o_X6_waitAMinute 2 rfl) rfl (by decide) ?_
  refine sg_istore_n 4 [some (.inr (.inr (some (23, 0)))), some (.inl v1), some (.inl (0 : Int32)), some (.inl (0 : Int32)), none] (sk_td o_X6_waitAMinute 3 rfl) rfl rfl (Nat.le_of_ble_eq_true rfl) rfl ?_
  exact lt_X6_waitAMinute_4 sk_fu (d, v1, (0 : Int32), (0 : Int32)) _ hq
def q_X6_waitAMinute (d : sk_D) (v1 : Int32) : Option (sk_D) := q_X6_waitAMinute_0 d v1 
theorem s_X6_waitAMinute {l : Launch} {d : sk_D} {v1 : Int32} {res : sk_D} (hq : q_X6_waitAMinute d v1 = some res) : sk_M l 2 m_X6_waitAMinute [.inr (.inr (some (23, 0))), .inl v1] (sk_mm d) none (sk_mm res) :=
  sk_enter (by decide) (fun _ => Nat.le_of_ble_eq_true rfl) (Nat.le_of_ble_eq_true rfl) (t_X6_waitAMinute_0 hq )
def q_X6_run_68 (rec10 : (sk_D × Int32 × Int32 × Int32) → Option (sk_D)) (rec68 : (sk_D × Int32 × Int32 × Int32 × Int32) → Option (sk_D)) (d : sk_D) (v4 : Int32) (v5 : Int32) (v6 : Int32) (v7 : Int32) : Option (sk_D) :=
  if v5 ≤ v7 then (rec10 (d, v4, v5, (v6 + (1 : Int32)))) else (q_X6_waitAMinute d v7).bind fun x1 => (rec68 (x1, v4, v5, v6, (v7 + (1 : Int32))))
set_option maxRecDepth 100000 in
set_option maxHeartbeats 4000000 in
theorem t_X6_run_68 {l : Launch} {rec10 : (sk_D × Int32 × Int32 × Int32) → Option (sk_D)} {rec68 : (sk_D × Int32 × Int32 × Int32 × Int32) → Option (sk_D)} {d : sk_D} {v4 : Int32} {v5 : Int32} {v6 : Int32} {v7 : Int32} (hrec10 : ∀ (a : (sk_D × Int32 × Int32 × Int32)) (res : sk_D), rec10 a = some res → sk_G l (sk_rm 4 0 0) m_X6_run sk_Ex0 (sk_Zm m_X6_run none (sk_mm res)) 0 0 10 [some (.inr (.inr (some (23, 0)))), some (.inr (.inr (some (2, 0)))), some (.inr (.inr (some (4, 0)))), none, some (.inl a.2.1), some (.inl a.2.2.1), some (.inl a.2.2.2), none] [] (sk_mm a.1)) (hrec68 : ∀ (a : (sk_D × Int32 × Int32 × Int32 × Int32)) (res : sk_D), rec68 a = some res → sk_G l (sk_rm 4 0 0) m_X6_run sk_Ex0 (sk_Zm m_X6_run none (sk_mm res)) 0 0 68 [some (.inr (.inr (some (23, 0)))), some (.inr (.inr (some (2, 0)))), some (.inr (.inr (some (4, 0)))), none, some (.inl a.2.1), some (.inl a.2.2.1), some (.inl a.2.2.2.1), some (.inl a.2.2.2.2)] [] (sk_mm a.1)) {res : sk_D} (hq : q_X6_run_68 rec10 rec68 d v4 v5 v6 v7 = some res) :
    sk_G l (sk_rm 4 0 0) m_X6_run sk_Ex0 (sk_Zm m_X6_run none (sk_mm res)) 0 0 68 [some (.inr (.inr (some (23, 0)))), some (.inr (.inr (some (2, 0)))), some (.inr (.inr (some (4, 0)))), none, some (.inl v4), some (.inl v5), some (.inl v6), some (.inl v7)] [] (sk_mm d) := by
  unfold q_X6_run_68 at hq
  refine sg_iload 70 (sk_td o_X6_run 36 rfl) rfl rfl ?_
  refine sg_iload 72 (sk_td o_X6_run 37 rfl) rfl rfl ?_
  refine sg_ic_ge 87 75 (sk_td o_X6_run 38 rfl) (by decide) rfl (fun hc => ?_) (fun hc => ?_)
  · rw [if_pos hc] at hq
    refine sg_iinc (v6 + (1 : Int32)) 90 [some (.inr (.inr (some (23, 0)))), some (.inr (.inr (some (2, 0)))), some (.inr (.inr (some (4, 0)))), none, some (.inl v4), some (.inl v5), some (.inl (v6 + (1 : Int32))), some (.inl v7)] (sk_td o_X6_run 44 rfl) rfl rfl rfl rfl (Nat.le_of_ble_eq_true rfl) rfl ?_
    refine sg_goto 10 (sk_td o_X6_run 45 rfl) (by decide) ?_
    refine sk_wk [true, true, true, true, true, true, true, false] (ls' := [some (.inr (.inr (some (23, 0)))), some (.inr (.inr (some (2, 0)))), some (.inr (.inr (some (4, 0)))), none, some (.inl v4), some (.inl v5), some (.inl (v6 + (1 : Int32))), none]) rfl ?_
    exact hrec10 (d, v4, v5, (v6 + (1 : Int32))) _ hq
  · rw [if_neg hc] at hq
    refine sg_aload_n 76 (sk_td o_X6_run 39 rfl) rfl rfl ?_
    refine sg_iload 78 (sk_td o_X6_run 40 rfl) rfl rfl ?_
    obtain ⟨x1, hr_x1, hq⟩ := sk_bnd hq
    refine sm_callV1v 81 (s_X6_waitAMinute hr_x1) (sk_td o_X6_run 41 rfl) rfl lv_X6_76 rfl rfl rfl sz_23 (sk_rok (Nat.le_of_ble_eq_true rfl) (Nat.le_of_ble_eq_true rfl) rfl rfl) (Nat.le_of_ble_eq_true rfl) ?_
    refine sg_iinc (v7 + (1 : Int32)) 84 [some (.inr (.inr (some (23, 0)))), some (.inr (.inr (some (2, 0)))), some (.inr (.inr (some (4, 0)))), none, some (.inl v4), some (.inl v5), some (.inl v6), some (.inl (v7 + (1 : Int32)))] (sk_td o_X6_run 42 rfl) rfl rfl rfl rfl (Nat.le_of_ble_eq_true rfl) rfl ?_
    refine sg_goto 68 (sk_td o_X6_run 43 rfl) (by decide) ?_
    exact hrec68 (x1, v4, v5, v6, (v7 + (1 : Int32))) _ hq
def l_X6_run_68 (rec10 : (sk_D × Int32 × Int32 × Int32) → Option (sk_D)) (fl : Nat) (a : (sk_D × Int32 × Int32 × Int32 × Int32)) : Option (sk_D) := sk_it (fun rec68 a => q_X6_run_68 rec10 rec68 a.1 a.2.1 a.2.2.1 a.2.2.2.1 a.2.2.2.2) fl a
theorem lt_X6_run_68 {l : Launch} {rec10 : (sk_D × Int32 × Int32 × Int32) → Option (sk_D)} (hrec10 : ∀ (a : (sk_D × Int32 × Int32 × Int32)) (res : sk_D), rec10 a = some res → sk_G l (sk_rm 4 0 0) m_X6_run sk_Ex0 (sk_Zm m_X6_run none (sk_mm res)) 0 0 10 [some (.inr (.inr (some (23, 0)))), some (.inr (.inr (some (2, 0)))), some (.inr (.inr (some (4, 0)))), none, some (.inl a.2.1), some (.inl a.2.2.1), some (.inl a.2.2.2), none] [] (sk_mm a.1)) : ∀ (fl : Nat) (a : (sk_D × Int32 × Int32 × Int32 × Int32)) (res : sk_D), l_X6_run_68 rec10 fl a = some res → sk_G l (sk_rm 4 0 0) m_X6_run sk_Ex0 (sk_Zm m_X6_run none (sk_mm res)) 0 0 68 [some (.inr (.inr (some (23, 0)))), some (.inr (.inr (some (2, 0)))), some (.inr (.inr (some (4, 0)))), none, some (.inl a.2.1), some (.inl a.2.2.1), some (.inl a.2.2.2.1), some (.inl a.2.2.2.2)] [] (sk_mm a.1) :=
  sk_it_ind (P := fun (a : (sk_D × Int32 × Int32 × Int32 × Int32)) (res : sk_D) => sk_G l (sk_rm 4 0 0) m_X6_run sk_Ex0 (sk_Zm m_X6_run none (sk_mm res)) 0 0 68 [some (.inr (.inr (some (23, 0)))), some (.inr (.inr (some (2, 0)))), some (.inr (.inr (some (4, 0)))), none, some (.inl a.2.1), some (.inl a.2.2.1), some (.inl a.2.2.2.1), some (.inl a.2.2.2.2)] [] (sk_mm a.1)) (fun rec68 hrec68 a res hq  => t_X6_run_68 hrec10 hrec68 hq )
def q_X6_run_59 (rec10 : (sk_D × Int32 × Int32 × Int32) → Option (sk_D)) (rec27 : (sk_D × Int32 × Int32 × Int32 × Int32) → Option (sk_D)) (d : sk_D) (v4 : Int32) (v5 : Int32) (v6 : Int32) (v7 : Int32) : Option (sk_D) :=
  (rec27 (d, v4, v5, v6, (v7 + (1 : Int32))))
set_option maxRecDepth 100000 in
set_option maxHeartbeats 4000000 in
theorem t_X6_run_59 {l : Launch} {rec10 : (sk_D × Int32 × Int32 × Int32) → Option (sk_D)} {rec27 : (sk_D × Int32 × Int32 × Int32 × Int32) → Option (sk_D)} {d : sk_D} {v4 : Int32} {v5 : Int32} {v6 : Int32} {v7 : Int32} (hrec10 : ∀ (a : (sk_D × Int32 × Int32 × Int32)) (res : sk_D), rec10 a = some res → sk_G l (sk_rm 4 0 0) m_X6_run sk_Ex0 (sk_Zm m_X6_run none (sk_mm res)) 0 0 10 [some (.inr (.inr (some (23, 0)))), some (.inr (.inr (some (2, 0)))), some (.inr (.inr (some (4, 0)))), none, some (.inl a.2.1), some (.inl a.2.2.1), some (.inl a.2.2.2), none] [] (sk_mm a.1)) (hrec27 : ∀ (a : (sk_D × Int32 × Int32 × Int32 × Int32)) (res : sk_D), rec27 a = some res → sk_G l (sk_rm 4 0 0) m_X6_run sk_Ex0 (sk_Zm m_X6_run none (sk_mm res)) 0 0 27 [some (.inr (.inr (some (23, 0)))), some (.inr (.inr (some (2, 0)))), some (.inr (.inr (some (4, 0)))), none, some (.inl a.2.1), some (.inl a.2.2.1), some (.inl a.2.2.2.1), some (.inl a.2.2.2.2)] [] (sk_mm a.1)) {res : sk_D} (hq : q_X6_run_59 rec10 rec27 d v4 v5 v6 v7 = some res) :
    sk_G l (sk_rm 4 0 0) m_X6_run sk_Ex0 (sk_Zm m_X6_run none (sk_mm res)) 0 0 59 [some (.inr (.inr (some (23, 0)))), some (.inr (.inr (some (2, 0)))), some (.inr (.inr (some (4, 0)))), none, some (.inl v4), some (.inl v5), some (.inl v6), some (.inl v7)] [] (sk_mm d) := by
  unfold q_X6_run_59 at hq
  refine sg_iinc (v7 + (1 : Int32)) 62 [some (.inr (.inr (some (23, 0)))), some (.inr (.inr (some (2, 0)))), some (.inr (.inr (some (4, 0)))), none, some (.inl v4), some (.inl v5), some (.inl v6), some (.inl (v7 + (1 : Int32)))] (sk_td o_X6_run 32 rfl) rfl rfl rfl rfl (Nat.le_of_ble_eq_true rfl) rfl ?_
  refine sg_goto 27 (sk_td o_X6_run 33 rfl) (by decide) ?_
  exact hrec27 (d, v4, v5, v6, (v7 + (1 : Int32))) _ hq
def q_X6_run_27 (rec10 : (sk_D × Int32 × Int32 × Int32) → Option (sk_D)) (rec27 : (sk_D × Int32 × Int32 × Int32 × Int32) → Option (sk_D)) (d : sk_D) (v4 : Int32) (v5 : Int32) (v6 : Int32) (v7 : Int32) : Option (sk_D) :=
  if v5 ≤ v7 then (l_X6_run_68 rec10 sk_fu (d, v4, v5, v6, (0 : Int32))) else if sk_bi v7 3 = true then (q_X2_departsAt d v7.toNatClampNeg v6).bind fun x2 => if x2 = 0 then (q_X6_run_59 rec10 rec27 d v4 v5 v6 v7) else if sk_bi v7 3 = true then (q_X6_depart d v7 v7.toNatClampNeg v6).bind fun x4 => (q_X6_run_59 rec10 rec27 x4 v4 v5 v6 v7) else none else none
set_option maxRecDepth 100000 in
set_option maxHeartbeats 4000000 in
theorem t_X6_run_27 {l : Launch} {rec10 : (sk_D × Int32 × Int32 × Int32) → Option (sk_D)} {rec27 : (sk_D × Int32 × Int32 × Int32 × Int32) → Option (sk_D)} {d : sk_D} {v4 : Int32} {v5 : Int32} {v6 : Int32} {v7 : Int32} (hrec10 : ∀ (a : (sk_D × Int32 × Int32 × Int32)) (res : sk_D), rec10 a = some res → sk_G l (sk_rm 4 0 0) m_X6_run sk_Ex0 (sk_Zm m_X6_run none (sk_mm res)) 0 0 10 [some (.inr (.inr (some (23, 0)))), some (.inr (.inr (some (2, 0)))), some (.inr (.inr (some (4, 0)))), none, some (.inl a.2.1), some (.inl a.2.2.1), some (.inl a.2.2.2), none] [] (sk_mm a.1)) (hrec27 : ∀ (a : (sk_D × Int32 × Int32 × Int32 × Int32)) (res : sk_D), rec27 a = some res → sk_G l (sk_rm 4 0 0) m_X6_run sk_Ex0 (sk_Zm m_X6_run none (sk_mm res)) 0 0 27 [some (.inr (.inr (some (23, 0)))), some (.inr (.inr (some (2, 0)))), some (.inr (.inr (some (4, 0)))), none, some (.inl a.2.1), some (.inl a.2.2.1), some (.inl a.2.2.2.1), some (.inl a.2.2.2.2)] [] (sk_mm a.1)) {res : sk_D} (hq : q_X6_run_27 rec10 rec27 d v4 v5 v6 v7 = some res) :
    sk_G l (sk_rm 4 0 0) m_X6_run sk_Ex0 (sk_Zm m_X6_run none (sk_mm res)) 0 0 27 [some (.inr (.inr (some (23, 0)))), some (.inr (.inr (some (2, 0)))), some (.inr (.inr (some (4, 0)))), none, some (.inl v4), some (.inl v5), some (.inl v6), some (.inl v7)] [] (sk_mm d) := by
  unfold q_X6_run_27 at hq
  refine sg_iload 29 (sk_td o_X6_run 15 rfl) rfl rfl ?_
  refine sg_iload 31 (sk_td o_X6_run 16 rfl) rfl rfl ?_
  refine sg_ic_ge 65 34 (sk_td o_X6_run 17 rfl) (by decide) rfl (fun hc => ?_) (fun hc => ?_)
  · rw [if_pos hc] at hq
    refine sg_iconst (v := (0 : Int32)) 66 (sk_td o_X6_run 34 rfl) rfl (by decide) ?_
    refine sg_istore 68 [some (.inr (.inr (some (23, 0)))), some (.inr (.inr (some (2, 0)))), some (.inr (.inr (some (4, 0)))), none, some (.inl v4), some (.inl v5), some (.inl v6), some (.inl (0 : Int32))] (sk_td o_X6_run 35 rfl) rfl rfl (Nat.le_of_ble_eq_true rfl) rfl ?_
    exact lt_X6_run_68 hrec10 sk_fu (d, v4, v5, v6, (0 : Int32)) _ hq
  · rw [if_neg hc] at hq
    refine sg_aload_n 35 (sk_td o_X6_run 18 rfl) rfl rfl ?_
    refine sg_iload 37 (sk_td o_X6_run 19 rfl) rfl rfl ?_
    obtain ⟨hb1, hq⟩ := sk_ifn hq
    refine sm_aald (43, v7.toNatClampNeg) 38 (sk_td o_X6_run 20 rfl) rfl rfl (by decide) sz_4 hb1 (sr_4 (sk_bi.lt hb1)) ?_
    refine sg_iload 40 (sk_td o_X6_run 21 rfl) rfl rfl ?_
    obtain ⟨x2, hr_x2, hq⟩ := sk_bnd hq
    refine sm_callV1i 43 (s_X2_departsAt hr_x2 (sk_bi.lt hb1)) (sk_td o_X6_run 22 rfl) rfl lv_X6_66 rfl rfl rfl (sk_bi.lt hb1) (sk_rok (Nat.le_of_ble_eq_true rfl) (Nat.le_of_ble_eq_true rfl) rfl rfl) (Nat.le_of_ble_eq_true rfl) ?_
    refine sg_if_eq 59 46 (sk_td o_X6_run 23 rfl) (by decide) rfl (fun hc => ?_) (fun hc => ?_)
    · rw [if_pos hc] at hq
      exact t_X6_run_59 hrec10 hrec27 hq
    · rw [if_neg hc] at hq
      refine sg_aload_n 47 (sk_td o_X6_run 24 rfl) rfl rfl ?_
      refine sg_iload 49 (sk_td o_X6_run 25 rfl) rfl rfl ?_
      refine sg_aload_n 50 (sk_td o_X6_run 26 rfl) rfl rfl ?_
      refine sg_iload 52 (sk_td o_X6_run 27 rfl) rfl rfl ?_
      obtain ⟨hb3, hq⟩ := sk_ifn hq
      refine sm_aald (43, v7.toNatClampNeg) 53 (sk_td o_X6_run 28 rfl) rfl rfl (by decide) sz_4 hb3 (sr_4 (sk_bi.lt hb3)) ?_
      refine sg_aload_n 54 (sk_td o_X6_run 29 rfl) rfl rfl ?_
      refine sg_iload 56 (sk_td o_X6_run 30 rfl) rfl rfl ?_
      obtain ⟨x4, hr_x4, hq⟩ := sk_bnd hq
      refine sm_callV4v 59 (s_X6_depart hr_x4 (sk_bi.lt hb3)) (sk_td o_X6_run 31 rfl) rfl lv_X6_72 rfl rfl rfl sz_23 (sk_rok (Nat.le_of_ble_eq_true rfl) (Nat.le_of_ble_eq_true rfl) rfl rfl) (Nat.le_of_ble_eq_true rfl) ?_
      exact t_X6_run_59 hrec10 hrec27 hq
def l_X6_run_27 (rec10 : (sk_D × Int32 × Int32 × Int32) → Option (sk_D)) (fl : Nat) (a : (sk_D × Int32 × Int32 × Int32 × Int32)) : Option (sk_D) := sk_it (fun rec27 a => q_X6_run_27 rec10 rec27 a.1 a.2.1 a.2.2.1 a.2.2.2.1 a.2.2.2.2) fl a
theorem lt_X6_run_27 {l : Launch} {rec10 : (sk_D × Int32 × Int32 × Int32) → Option (sk_D)} (hrec10 : ∀ (a : (sk_D × Int32 × Int32 × Int32)) (res : sk_D), rec10 a = some res → sk_G l (sk_rm 4 0 0) m_X6_run sk_Ex0 (sk_Zm m_X6_run none (sk_mm res)) 0 0 10 [some (.inr (.inr (some (23, 0)))), some (.inr (.inr (some (2, 0)))), some (.inr (.inr (some (4, 0)))), none, some (.inl a.2.1), some (.inl a.2.2.1), some (.inl a.2.2.2), none] [] (sk_mm a.1)) : ∀ (fl : Nat) (a : (sk_D × Int32 × Int32 × Int32 × Int32)) (res : sk_D), l_X6_run_27 rec10 fl a = some res → sk_G l (sk_rm 4 0 0) m_X6_run sk_Ex0 (sk_Zm m_X6_run none (sk_mm res)) 0 0 27 [some (.inr (.inr (some (23, 0)))), some (.inr (.inr (some (2, 0)))), some (.inr (.inr (some (4, 0)))), none, some (.inl a.2.1), some (.inl a.2.2.1), some (.inl a.2.2.2.1), some (.inl a.2.2.2.2)] [] (sk_mm a.1) :=
  sk_it_ind (P := fun (a : (sk_D × Int32 × Int32 × Int32 × Int32)) (res : sk_D) => sk_G l (sk_rm 4 0 0) m_X6_run sk_Ex0 (sk_Zm m_X6_run none (sk_mm res)) 0 0 27 [some (.inr (.inr (some (23, 0)))), some (.inr (.inr (some (2, 0)))), some (.inr (.inr (some (4, 0)))), none, some (.inl a.2.1), some (.inl a.2.2.1), some (.inl a.2.2.2.1), some (.inl a.2.2.2.2)] [] (sk_mm a.1)) (fun rec27 hrec27 a res hq  => t_X6_run_27 hrec10 hrec27 hq )
def q_X6_run_10 (rec10 : (sk_D × Int32 × Int32 × Int32) → Option (sk_D)) (d : sk_D) (v4 : Int32) (v5 : Int32) (v6 : Int32) : Option (sk_D) :=
  if v4 ≤ v6 then some d else (q_X6_joinQueues d v6).bind fun x1 => (l_X6_run_27 rec10 sk_fu (x1, v4, v5, v6, (0 : Int32)))
set_option maxRecDepth 100000 in
set_option maxHeartbeats 4000000 in
theorem t_X6_run_10 {l : Launch} {rec10 : (sk_D × Int32 × Int32 × Int32) → Option (sk_D)} {d : sk_D} {v4 : Int32} {v5 : Int32} {v6 : Int32} (hrec10 : ∀ (a : (sk_D × Int32 × Int32 × Int32)) (res : sk_D), rec10 a = some res → sk_G l (sk_rm 4 0 0) m_X6_run sk_Ex0 (sk_Zm m_X6_run none (sk_mm res)) 0 0 10 [some (.inr (.inr (some (23, 0)))), some (.inr (.inr (some (2, 0)))), some (.inr (.inr (some (4, 0)))), none, some (.inl a.2.1), some (.inl a.2.2.1), some (.inl a.2.2.2), none] [] (sk_mm a.1)) {res : sk_D} (hq : q_X6_run_10 rec10 d v4 v5 v6 = some res) :
    sk_G l (sk_rm 4 0 0) m_X6_run sk_Ex0 (sk_Zm m_X6_run none (sk_mm res)) 0 0 10 [some (.inr (.inr (some (23, 0)))), some (.inr (.inr (some (2, 0)))), some (.inr (.inr (some (4, 0)))), none, some (.inl v4), some (.inl v5), some (.inl v6), none] [] (sk_mm d) := by
  unfold q_X6_run_10 at hq
  refine sg_iload 12 (sk_td o_X6_run 6 rfl) rfl rfl ?_
  refine sg_iload 14 (sk_td o_X6_run 7 rfl) rfl rfl ?_
  refine sg_ic_ge 93 17 (sk_td o_X6_run 8 rfl) (by decide) rfl (fun hc => ?_) (fun hc => ?_)
  · rw [if_pos hc] at hq
    obtain rfl := Option.some.inj hq
    exact sg_vret (sk_td o_X6_run 46 rfl) rfl
  · rw [if_neg hc] at hq
    refine sg_aload_n 18 (sk_td o_X6_run 9 rfl) rfl rfl ?_
    refine sg_aload_n 19 (sk_td o_X6_run 10 rfl) rfl rfl ?_
    refine sg_iload 21 (sk_td o_X6_run 11 rfl) rfl rfl ?_
    obtain ⟨x1, hr_x1, hq⟩ := sk_bnd hq
    refine sm_callV2v 24 (s_X6_joinQueues hr_x1) (sk_td o_X6_run 12 rfl) rfl lv_X6_62 rfl rfl rfl sz_23 (sk_rok (Nat.le_of_ble_eq_true rfl) (Nat.le_of_ble_eq_true rfl) rfl rfl) (Nat.le_of_ble_eq_true rfl) ?_
    refine sg_iconst (v := (0 : Int32)) 25 (sk_td o_X6_run 13 rfl) rfl (by decide) ?_
    refine sg_istore 27 [some (.inr (.inr (some (23, 0)))), some (.inr (.inr (some (2, 0)))), some (.inr (.inr (some (4, 0)))), none, some (.inl v4), some (.inl v5), some (.inl v6), some (.inl (0 : Int32))] (sk_td o_X6_run 14 rfl) rfl rfl (Nat.le_of_ble_eq_true rfl) rfl ?_
    exact lt_X6_run_27 hrec10 sk_fu (x1, v4, v5, v6, (0 : Int32)) _ hq
def l_X6_run_10 (fl : Nat) (a : (sk_D × Int32 × Int32 × Int32)) : Option (sk_D) := sk_it (fun rec10 a => q_X6_run_10 rec10 a.1 a.2.1 a.2.2.1 a.2.2.2) fl a
theorem lt_X6_run_10 {l : Launch} : ∀ (fl : Nat) (a : (sk_D × Int32 × Int32 × Int32)) (res : sk_D), l_X6_run_10 fl a = some res → sk_G l (sk_rm 4 0 0) m_X6_run sk_Ex0 (sk_Zm m_X6_run none (sk_mm res)) 0 0 10 [some (.inr (.inr (some (23, 0)))), some (.inr (.inr (some (2, 0)))), some (.inr (.inr (some (4, 0)))), none, some (.inl a.2.1), some (.inl a.2.2.1), some (.inl a.2.2.2), none] [] (sk_mm a.1) :=
  sk_it_ind (P := fun (a : (sk_D × Int32 × Int32 × Int32)) (res : sk_D) => sk_G l (sk_rm 4 0 0) m_X6_run sk_Ex0 (sk_Zm m_X6_run none (sk_mm res)) 0 0 10 [some (.inr (.inr (some (23, 0)))), some (.inr (.inr (some (2, 0)))), some (.inr (.inr (some (4, 0)))), none, some (.inl a.2.1), some (.inl a.2.2.1), some (.inl a.2.2.2), none] [] (sk_mm a.1)) (fun rec10 hrec10 a res hq  => t_X6_run_10 hrec10 hq )
def q_X6_run_0 (d : sk_D) (v3 : Int32) (v4 : Int32) : Option (sk_D) :=
  (l_X6_run_10 sk_fu (d, v4, (if (3 : Int32) < v3 then (3 : Int32) else v3), (0 : Int32)))
set_option maxRecDepth 100000 in
set_option maxHeartbeats 4000000 in
theorem t_X6_run_0 {l : Launch} {d : sk_D} {v3 : Int32} {v4 : Int32} {res : sk_D} (hq : q_X6_run_0 d v3 v4 = some res) :
    sk_G l (sk_rm 4 0 0) m_X6_run sk_Ex0 (sk_Zm m_X6_run none (sk_mm res)) 0 0 0 [some (.inr (.inr (some (23, 0)))), some (.inr (.inr (some (2, 0)))), some (.inr (.inr (some (4, 0)))), some (.inl v3), some (.inl v4), none, none, none] [] (sk_mm d) := by
  unfold q_X6_run_0 at hq
  refine sg_iload_n 1 (sk_td o_X6_run 0 rfl) rfl rfl ?_
  refine sg_iconst (v := (3 : Int32)) 2 (sk_td o_X6_run 1 rfl) rfl (by decide) ?_
  refine sm_min 5 (sk_td o_X6_run 2 rfl) rfl kM_X6_56 (Nat.le_of_ble_eq_true rfl) (Nat.le_of_ble_eq_true rfl) (Nat.le_of_ble_eq_true rfl) ?_
  refine sg_istore 7 [some (.inr (.inr (some (23, 0)))), some (.inr (.inr (some (2, 0)))), some (.inr (.inr (some (4, 0)))), some (.inl v3), some (.inl v4), some (.inl (if (3 : Int32) < v3 then (3 : Int32) else v3)), none, none] (sk_td o_X6_run 3 rfl) rfl rfl (Nat.le_of_ble_eq_true rfl) rfl ?_
  refine sg_iconst (v := (0 : Int32)) 8 (sk_td o_X6_run 4 rfl) rfl (by decide) ?_
  refine sg_istore 10 [some (.inr (.inr (some (23, 0)))), some (.inr (.inr (some (2, 0)))), some (.inr (.inr (some (4, 0)))), some (.inl v3), some (.inl v4), some (.inl (if (3 : Int32) < v3 then (3 : Int32) else v3)), some (.inl (0 : Int32)), none] (sk_td o_X6_run 5 rfl) rfl rfl (Nat.le_of_ble_eq_true rfl) rfl ?_
  refine sk_wk [true, true, true, false, true, true, true, true] (ls' := [some (.inr (.inr (some (23, 0)))), some (.inr (.inr (some (2, 0)))), some (.inr (.inr (some (4, 0)))), none, some (.inl v4), some (.inl (if (3 : Int32) < v3 then (3 : Int32) else v3)), some (.inl (0 : Int32)), none]) rfl ?_
  exact lt_X6_run_10 sk_fu (d, v4, (if (3 : Int32) < v3 then (3 : Int32) else v3), (0 : Int32)) _ hq
def q_X6_run (d : sk_D) (v3 : Int32) (v4 : Int32) : Option (sk_D) := q_X6_run_0 d v3 v4 
theorem s_X6_run {l : Launch} {d : sk_D} {v3 : Int32} {v4 : Int32} {res : sk_D} (hq : q_X6_run d v3 v4 = some res) : sk_M l 4 m_X6_run [.inr (.inr (some (23, 0))), .inr (.inr (some (2, 0))), .inr (.inr (some (4, 0))), .inl v3, .inl v4] (sk_mm d) none (sk_mm res) :=
  sk_enter (by decide) (fun _ => Nat.le_of_ble_eq_true rfl) (Nat.le_of_ble_eq_true rfl) (t_X6_run_0 hq )
