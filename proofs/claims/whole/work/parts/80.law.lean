/-! THE LAW *** by program (wip/whole/gen/law.py) -/
def sk_ExL (L : Nat) (xs : Nat → Int32) : sk_EX := fun s args bb => args = #[Value.ref bb.2] ∧ va_X bb.2 L xs s s.heap ∧ bb.2 < bb.1 ∧ bb.1 = s.heap.size
def sk_ZL : sk_ZZ := fun s args below _ _ _ => lw_Z below args s
section SKL
variable {l : Launch} {R : Room} {μ : sk_MI} {Ex : sk_EX} {Z : sk_ZZ} {cn sn pc : Nat} {ls : List (Option sk_AV)} {st : List sk_AV} {h : sk_Mem} {d : sk_D} {L : Nat} {xs : Nat → Int32}
theorem sg_sld {n : Nat} {v : Int32} (pc' : Nat) (hd : decode μ.2.1 pc = .ok (.iaload, 1)) (hp : pc + 1 = pc') (hv : v = nI n) (hn : n < L) (hL : L ≤ 2560) (kk : sk_G l R μ (sk_ExL L xs) Z cn sn pc' ls (.inl (xs n) :: st) h) : sk_G l R μ (sk_ExL L xs) Z cn sn pc ls (.inl v :: .inr (.inr (some (9999, 0))) :: st) h := by
  subst hp; subst hv
  intro p e s0 m args below meth c H locs bb D kc la hH hE hR hS hB hLR
  have := kk p e s0 m args below meth c H locs bb D kc la hH hE hR hS hB hLR
  refine va_sld (xs := xs) (L := L) hH.1 hH.2.1 hE.2.1 (by rw [← hE.2.2.2]; exact hE.2.2.1) (by show ¬ bb.1 ≤ bb.2; have := hE.2.2.1; omega) hS (vp_in_nI hn (by omega)) hd ?_
  rw [nI_clamp (by omega)]
  exact this
theorem sg_slen (pc' : Nat) (hd : decode μ.2.1 pc = .ok (.arraylength, 1)) (hp : pc + 1 = pc') (kk : sk_G l R μ (sk_ExL L xs) Z cn sn pc' ls (.inl (nI L) :: st) h) : sk_G l R μ (sk_ExL L xs) Z cn sn pc ls (.inr (.inr (some (9999, 0))) :: st) h := by
  subst hp
  intro p e s0 m args below meth c H locs bb D kc la hH hE hR hS hB hLR
  have := kk p e s0 m args below meth c H locs bb D kc la hH hE hR hS hB hLR
  exact va_slen (xs := xs) (L := L) hH.1 hH.2.1 hE.2.1 (by rw [← hE.2.2.2]; exact hE.2.2.1) (by show ¬ bb.1 ≤ bb.2; have := hE.2.2.1; omega) hS hd this
theorem sg_tblO {dflt lo hi : Int} {offs : Array Int} {len : Nat} {x : Int32} (tgt : Nat) (hd : decode μ.2.1 pc = .ok (.tableswitch dflt lo hi offs, len)) (hx : x.toInt < lo ∨ hi < x.toInt) (ht : (pc : Int) + dflt = (tgt : Int)) (kk : sk_G l R μ Ex Z cn sn tgt ls st h) : sk_G l R μ Ex Z cn sn pc ls (.inl x :: st) h := by
  intro p e s0 m args below meth c H locs bb D kc la hH hE hR hS hB hLR
  exact lv_tableOut hH.1 hH.2.1 hd hx ht (kk p e s0 m args below meth c H locs bb D kc la hH hE hR hS hB hLR)
theorem sg_tblI {dflt lo hi : Int} {offs : Array Int} {len : Nat} {x : Int32} (off : Int) (tgt : Nat) (hd : decode μ.2.1 pc = .ok (.tableswitch dflt lo hi offs, len)) (h1 : ¬ x.toInt < lo) (h2 : ¬ hi < x.toInt) (ho : offs[(x.toInt - lo).toNat]? = some off) (ht : (pc : Int) + off = (tgt : Int)) (kk : sk_G l R μ Ex Z cn sn tgt ls st h) : sk_G l R μ Ex Z cn sn pc ls (.inl x :: st) h := by
  intro p e s0 m args below meth c H locs bb D kc la hH hE hR hS hB hLR
  exact lv_tableIn hH.1 hH.2.1 hd h1 h2 ho ht (kk p e s0 m args below meth c H locs bb D kc la hH hE hR hS hB hLR)
theorem sm_callL0i {μ' : sk_MI} {dp idx s ci : Nat} {x : Int32} {h' : sk_Mem} (pc' : Nat) (hM : sk_M l dp μ' [.inr (.inr (some (s, 0)))] (sk_mm d) (some (.inl x)) h') (hd : decode μ.2.1 pc = .ok (.invokevirtual idx, 3)) (hp : pc + 3 = pc') (hk : sk_lkV μ.1.cls idx μ' 0) (hz : μ'.2.2.2.2 = (0, 0)) (hs : sk_shp s = .inl ci) (hci : (vwCl[ci]?).map (fun q => q.1) = some μ'.1.cls) (hl : 0 < sk_cnt s) (hr : sk_rmok dp μ' R cn sn) (h8 : sk_cat8 st ≤ 8)
    (kk : sk_G l R μ Ex Z cn sn pc' ls (.inl x :: st) h') : sk_G l R μ Ex Z cn sn pc ls (.inr (.inr (some (s, 0))) :: st) (sk_mm d) := by
  refine sg_callV (as := []) pc' hM hd hp hk rfl hs hci (sk_lvm hl) hr h8 ?_
  rw [hz]
  exact kk
theorem sm_callL0l {μ' : sk_MI} {dp idx s ci : Nat} {x : Int64} {h' : sk_Mem} (pc' : Nat) (hM : sk_M l dp μ' [.inr (.inr (some (s, 0)))] (sk_mm d) (some (.inr (.inl x))) h') (hd : decode μ.2.1 pc = .ok (.invokevirtual idx, 3)) (hp : pc + 3 = pc') (hk : sk_lkV μ.1.cls idx μ' 0) (hz : μ'.2.2.2.2 = (0, 0)) (hs : sk_shp s = .inl ci) (hci : (vwCl[ci]?).map (fun q => q.1) = some μ'.1.cls) (hl : 0 < sk_cnt s) (hr : sk_rmok dp μ' R cn sn) (h8 : sk_cat8 st ≤ 8)
    (kk : sk_G l R μ Ex Z cn sn pc' ls (.inr (.inl x) :: st) h') : sk_G l R μ Ex Z cn sn pc ls (.inr (.inr (some (s, 0))) :: st) (sk_mm d) := by
  refine sg_callV (as := []) pc' hM hd hp hk rfl hs hci (sk_lvm hl) hr h8 ?_
  rw [hz]
  exact kk
theorem sm_callL1i {μ' : sk_MI} {dp idx s ci : Nat} {a0 : sk_AV} {x : Int32} {h' : sk_Mem} (pc' : Nat) (hM : sk_M l dp μ' [.inr (.inr (some (s, 0))), a0] (sk_mm d) (some (.inl x)) h') (hd : decode μ.2.1 pc = .ok (.invokevirtual idx, 3)) (hp : pc + 3 = pc') (hk : sk_lkV μ.1.cls idx μ' 1) (hz : μ'.2.2.2.2 = (0, 0)) (hs : sk_shp s = .inl ci) (hci : (vwCl[ci]?).map (fun q => q.1) = some μ'.1.cls) (hl : 0 < sk_cnt s) (hr : sk_rmok dp μ' R cn sn) (h8 : sk_cat8 st ≤ 8)
    (kk : sk_G l R μ Ex Z cn sn pc' ls (.inl x :: st) h') : sk_G l R μ Ex Z cn sn pc ls (a0 :: .inr (.inr (some (s, 0))) :: st) (sk_mm d) := by
  refine sg_callV (as := [a0]) pc' hM hd hp hk rfl hs hci (sk_lvm hl) hr h8 ?_
  rw [hz]
  exact kk
theorem sm_callL2i {μ' : sk_MI} {dp idx s ci : Nat} {a0 a1 : sk_AV} {x : Int32} {h' : sk_Mem} (pc' : Nat) (hM : sk_M l dp μ' [.inr (.inr (some (s, 0))), a0, a1] (sk_mm d) (some (.inl x)) h') (hd : decode μ.2.1 pc = .ok (.invokevirtual idx, 3)) (hp : pc + 3 = pc') (hk : sk_lkV μ.1.cls idx μ' 2) (hz : μ'.2.2.2.2 = (0, 0)) (hs : sk_shp s = .inl ci) (hci : (vwCl[ci]?).map (fun q => q.1) = some μ'.1.cls) (hl : 0 < sk_cnt s) (hr : sk_rmok dp μ' R cn sn) (h8 : sk_cat8 st ≤ 8)
    (kk : sk_G l R μ Ex Z cn sn pc' ls (.inl x :: st) h') : sk_G l R μ Ex Z cn sn pc ls (a1 :: a0 :: .inr (.inr (some (s, 0))) :: st) (sk_mm d) := by
  refine sg_callV (as := [a0, a1]) pc' hM hd hp hk rfl hs hci (sk_lvm hl) hr h8 ?_
  rw [hz]
  exact kk
theorem sm_callL3i {μ' : sk_MI} {dp idx s ci : Nat} {a0 a1 a2 : sk_AV} {x : Int32} {h' : sk_Mem} (pc' : Nat) (hM : sk_M l dp μ' [.inr (.inr (some (s, 0))), a0, a1, a2] (sk_mm d) (some (.inl x)) h') (hd : decode μ.2.1 pc = .ok (.invokevirtual idx, 3)) (hp : pc + 3 = pc') (hk : sk_lkV μ.1.cls idx μ' 3) (hz : μ'.2.2.2.2 = (0, 0)) (hs : sk_shp s = .inl ci) (hci : (vwCl[ci]?).map (fun q => q.1) = some μ'.1.cls) (hl : 0 < sk_cnt s) (hr : sk_rmok dp μ' R cn sn) (h8 : sk_cat8 st ≤ 8)
    (kk : sk_G l R μ Ex Z cn sn pc' ls (.inl x :: st) h') : sk_G l R μ Ex Z cn sn pc ls (a2 :: a1 :: a0 :: .inr (.inr (some (s, 0))) :: st) (sk_mm d) := by
  refine sg_callV (as := [a0, a1, a2]) pc' hM hd hp hk rfl hs hci (sk_lvm hl) hr h8 ?_
  rw [hz]
  exact kk
theorem sm_callL4i {μ' : sk_MI} {dp idx s ci : Nat} {a0 a1 a2 a3 : sk_AV} {x : Int32} {h' : sk_Mem} (pc' : Nat) (hM : sk_M l dp μ' [.inr (.inr (some (s, 0))), a0, a1, a2, a3] (sk_mm d) (some (.inl x)) h') (hd : decode μ.2.1 pc = .ok (.invokevirtual idx, 3)) (hp : pc + 3 = pc') (hk : sk_lkV μ.1.cls idx μ' 4) (hz : μ'.2.2.2.2 = (0, 0)) (hs : sk_shp s = .inl ci) (hci : (vwCl[ci]?).map (fun q => q.1) = some μ'.1.cls) (hl : 0 < sk_cnt s) (hr : sk_rmok dp μ' R cn sn) (h8 : sk_cat8 st ≤ 8)
    (kk : sk_G l R μ Ex Z cn sn pc' ls (.inl x :: st) h') : sk_G l R μ Ex Z cn sn pc ls (a3 :: a2 :: a1 :: a0 :: .inr (.inr (some (s, 0))) :: st) (sk_mm d) := by
  refine sg_callV (as := [a0, a1, a2, a3]) pc' hM hd hp hk rfl hs hci (sk_lvm hl) hr h8 ?_
  rw [hz]
  exact kk
end SKL
def m_law (nm : String) : sk_MI := (⟨"SkiSchoolLaw", nm, ""⟩, code, 4, ret, 0, 0)
def tb_law0 : List (Nat × Instr × Nat) := [(0, .new 7, 3), (3, .dup, 1), (4, .invokespecial 9, 3), (7, .astore_n 1, 1), (8, .new 10, 3), (11, .dup, 1), (12, .invokespecial 12, 3), (15, .astore_n 2, 1), (16, .iconst 0, 1), (17, .istore_n 3, 1), (18, .iload_n 3, 1), (19, .aload_n 0, 1), (20, .arraylength, 1), (21, .iconst 5, 1), (22, .isub, 1), (23, .if_icmp .gt 1400, 3), (26, .aload_n 0, 1), (27, .iload_n 3, 1), (28, .iaload, 1), (29, .bipush 63, 2), (31, .iand, 1), (32, .tableswitch 1385 0 45 #[200, 243, 266, 279, 302, 325, 348, 371, 420, 443, 486, 519, 562, 585, 598, 641, 664, 677, 700, 723, 746, 759, 772, 785, 828, 851, 904, 927, 940, 973, 986, 1009, 1032, 1075, 1118, 1141, 1174, 1197, 1220, 1243, 1266, 1289, 1322, 1345, 1358, 1371], 200), (232, .aload_n 1, 1), (233, .aload_n 0, 1), (234, .iload_n 3, 1), (235, .iconst 1, 1), (236, .iadd, 1), (237, .iaload, 1), (238, .aload_n 0, 1), (239, .iload_n 3, 1), (240, .iconst 2, 1), (241, .iadd, 1), (242, .iaload, 1), (243, .aload_n 0, 1), (244, .iload_n 3, 1), (245, .iconst 3, 1), (246, .iadd, 1), (247, .iaload, 1), (248, .invokevirtual 13, 3), (251, .aload_n 2, 1), (252, .aload_n 0, 1), (253, .iload_n 3, 1), (254, .iconst 1, 1), (255, .iadd, 1), (256, .iaload, 1), (257, .aload_n 0, 1), (258, .iload_n 3, 1), (259, .iconst 2, 1), (260, .iadd, 1), (261, .iaload, 1), (262, .aload_n 0, 1), (263, .iload_n 3, 1), (264, .iconst 3, 1), (265, .iadd, 1), (266, .iaload, 1), (267, .invokevirtual 17, 3), (270, .if_icmp .eq 1147, 3), (273, .iconst 0, 1), (274, .ireturn, 1), (275, .aload_n 1, 1)]
theorem o_law0 : tb_law0.all (fun q => decide (decode code q.1 = .ok q.2)) = true := by decide +kernel
def tb_law1 : List (Nat × Instr × Nat) := [(276, .aload_n 0, 1), (277, .iload_n 3, 1), (278, .iconst 1, 1), (279, .iadd, 1), (280, .iaload, 1), (281, .invokevirtual 18, 3), (284, .aload_n 2, 1), (285, .aload_n 0, 1), (286, .iload_n 3, 1), (287, .iconst 1, 1), (288, .iadd, 1), (289, .iaload, 1), (290, .invokevirtual 22, 3), (293, .if_icmp .eq 1124, 3), (296, .iconst 0, 1), (297, .ireturn, 1), (298, .aload_n 1, 1), (299, .invokevirtual 23, 3), (302, .aload_n 2, 1), (303, .invokevirtual 27, 3), (306, .if_icmp .eq 1111, 3), (309, .iconst 0, 1), (310, .ireturn, 1), (311, .aload_n 1, 1), (312, .aload_n 0, 1), (313, .iload_n 3, 1), (314, .iconst 1, 1), (315, .iadd, 1), (316, .iaload, 1), (317, .invokevirtual 28, 3), (320, .aload_n 2, 1), (321, .aload_n 0, 1), (322, .iload_n 3, 1), (323, .iconst 1, 1), (324, .iadd, 1), (325, .iaload, 1), (326, .invokevirtual 31, 3), (329, .if_icmp .eq 1088, 3), (332, .iconst 0, 1), (333, .ireturn, 1), (334, .aload_n 1, 1), (335, .aload_n 0, 1), (336, .iload_n 3, 1), (337, .iconst 1, 1), (338, .iadd, 1), (339, .iaload, 1), (340, .invokevirtual 32, 3), (343, .aload_n 2, 1), (344, .aload_n 0, 1), (345, .iload_n 3, 1), (346, .iconst 1, 1), (347, .iadd, 1), (348, .iaload, 1), (349, .invokevirtual 35, 3), (352, .if_icmp .eq 1065, 3), (355, .iconst 0, 1), (356, .ireturn, 1), (357, .aload_n 1, 1), (358, .aload_n 0, 1), (359, .iload_n 3, 1)]
theorem o_law1 : tb_law1.all (fun q => decide (decode code q.1 = .ok q.2)) = true := by decide +kernel
def tb_law2 : List (Nat × Instr × Nat) := [(360, .iconst 1, 1), (361, .iadd, 1), (362, .iaload, 1), (363, .invokevirtual 36, 3), (366, .aload_n 2, 1), (367, .aload_n 0, 1), (368, .iload_n 3, 1), (369, .iconst 1, 1), (370, .iadd, 1), (371, .iaload, 1), (372, .invokevirtual 39, 3), (375, .if_icmp .eq 1042, 3), (378, .iconst 0, 1), (379, .ireturn, 1), (380, .aload_n 1, 1), (381, .aload_n 0, 1), (382, .iload_n 3, 1), (383, .iconst 1, 1), (384, .iadd, 1), (385, .iaload, 1), (386, .invokevirtual 40, 3), (389, .aload_n 2, 1), (390, .aload_n 0, 1), (391, .iload_n 3, 1), (392, .iconst 1, 1), (393, .iadd, 1), (394, .iaload, 1), (395, .invokevirtual 43, 3), (398, .if_icmp .eq 1019, 3), (401, .iconst 0, 1), (402, .ireturn, 1), (403, .aload_n 1, 1), (404, .aload_n 0, 1), (405, .iload_n 3, 1), (406, .iconst 1, 1), (407, .iadd, 1), (408, .iaload, 1), (409, .aload_n 0, 1), (410, .iload_n 3, 1), (411, .iconst 2, 1), (412, .iadd, 1), (413, .iaload, 1), (414, .ifCond .eq 7, 3), (417, .iconst 1, 1), (418, .goto 4, 3), (421, .iconst 0, 1), (422, .invokevirtual 44, 3), (425, .aload_n 2, 1), (426, .aload_n 0, 1), (427, .iload_n 3, 1), (428, .iconst 1, 1), (429, .iadd, 1), (430, .iaload, 1), (431, .aload_n 0, 1), (432, .iload_n 3, 1), (433, .iconst 2, 1), (434, .iadd, 1), (435, .iaload, 1), (436, .ifCond .eq 7, 3), (439, .iconst 1, 1)]
theorem o_law2 : tb_law2.all (fun q => decide (decode code q.1 = .ok q.2)) = true := by decide +kernel
def tb_law3 : List (Nat × Instr × Nat) := [(440, .goto 4, 3), (443, .iconst 0, 1), (444, .invokevirtual 48, 3), (447, .if_icmp .eq 970, 3), (450, .iconst 0, 1), (451, .ireturn, 1), (452, .aload_n 1, 1), (453, .aload_n 0, 1), (454, .iload_n 3, 1), (455, .iconst 1, 1), (456, .iadd, 1), (457, .iaload, 1), (458, .invokevirtual 49, 3), (461, .aload_n 2, 1), (462, .aload_n 0, 1), (463, .iload_n 3, 1), (464, .iconst 1, 1), (465, .iadd, 1), (466, .iaload, 1), (467, .invokevirtual 52, 3), (470, .if_icmp .eq 947, 3), (473, .iconst 0, 1), (474, .ireturn, 1), (475, .aload_n 1, 1), (476, .aload_n 0, 1), (477, .iload_n 3, 1), (478, .iconst 1, 1), (479, .iadd, 1), (480, .iaload, 1), (481, .aload_n 0, 1), (482, .iload_n 3, 1), (483, .iconst 2, 1), (484, .iadd, 1), (485, .iaload, 1), (486, .aload_n 0, 1), (487, .iload_n 3, 1), (488, .iconst 3, 1), (489, .iadd, 1), (490, .iaload, 1), (491, .invokevirtual 53, 3), (494, .aload_n 2, 1), (495, .aload_n 0, 1), (496, .iload_n 3, 1), (497, .iconst 1, 1), (498, .iadd, 1), (499, .iaload, 1), (500, .aload_n 0, 1), (501, .iload_n 3, 1), (502, .iconst 2, 1), (503, .iadd, 1), (504, .iaload, 1), (505, .aload_n 0, 1), (506, .iload_n 3, 1), (507, .iconst 3, 1), (508, .iadd, 1), (509, .iaload, 1), (510, .invokevirtual 56, 3), (513, .if_icmp .eq 904, 3), (516, .iconst 0, 1), (517, .ireturn, 1)]
theorem o_law3 : tb_law3.all (fun q => decide (decode code q.1 = .ok q.2)) = true := by decide +kernel
def tb_law4 : List (Nat × Instr × Nat) := [(518, .aload_n 1, 1), (519, .aload_n 0, 1), (520, .iload_n 3, 1), (521, .iconst 1, 1), (522, .iadd, 1), (523, .iaload, 1), (524, .aload_n 0, 1), (525, .iload_n 3, 1), (526, .iconst 2, 1), (527, .iadd, 1), (528, .iaload, 1), (529, .invokevirtual 57, 3), (532, .aload_n 2, 1), (533, .aload_n 0, 1), (534, .iload_n 3, 1), (535, .iconst 1, 1), (536, .iadd, 1), (537, .iaload, 1), (538, .aload_n 0, 1), (539, .iload_n 3, 1), (540, .iconst 2, 1), (541, .iadd, 1), (542, .iaload, 1), (543, .invokevirtual 61, 3), (546, .if_icmp .eq 871, 3), (549, .iconst 0, 1), (550, .ireturn, 1), (551, .aload_n 1, 1), (552, .aload_n 0, 1), (553, .iload_n 3, 1), (554, .iconst 1, 1), (555, .iadd, 1), (556, .iaload, 1), (557, .aload_n 0, 1), (558, .iload_n 3, 1), (559, .iconst 2, 1), (560, .iadd, 1), (561, .iaload, 1), (562, .aload_n 0, 1), (563, .iload_n 3, 1), (564, .iconst 3, 1), (565, .iadd, 1), (566, .iaload, 1), (567, .invokevirtual 62, 3), (570, .aload_n 2, 1), (571, .aload_n 0, 1), (572, .iload_n 3, 1), (573, .iconst 1, 1), (574, .iadd, 1), (575, .iaload, 1), (576, .aload_n 0, 1), (577, .iload_n 3, 1), (578, .iconst 2, 1), (579, .iadd, 1), (580, .iaload, 1), (581, .aload_n 0, 1), (582, .iload_n 3, 1), (583, .iconst 3, 1), (584, .iadd, 1), (585, .iaload, 1)]
theorem o_law4 : tb_law4.all (fun q => decide (decode code q.1 = .ok q.2)) = true := by decide +kernel
def tb_law5 : List (Nat × Instr × Nat) := [(586, .invokevirtual 65, 3), (589, .if_icmp .eq 828, 3), (592, .iconst 0, 1), (593, .ireturn, 1), (594, .aload_n 1, 1), (595, .aload_n 0, 1), (596, .iload_n 3, 1), (597, .iconst 1, 1), (598, .iadd, 1), (599, .iaload, 1), (600, .invokevirtual 66, 3), (603, .aload_n 2, 1), (604, .aload_n 0, 1), (605, .iload_n 3, 1), (606, .iconst 1, 1), (607, .iadd, 1), (608, .iaload, 1), (609, .invokevirtual 69, 3), (612, .if_icmp .eq 805, 3), (615, .iconst 0, 1), (616, .ireturn, 1), (617, .aload_n 1, 1), (618, .invokevirtual 70, 3), (621, .aload_n 2, 1), (622, .invokevirtual 73, 3), (625, .if_icmp .eq 792, 3), (628, .iconst 0, 1), (629, .ireturn, 1), (630, .aload_n 1, 1), (631, .aload_n 0, 1), (632, .iload_n 3, 1), (633, .iconst 1, 1), (634, .iadd, 1), (635, .iaload, 1), (636, .aload_n 0, 1), (637, .iload_n 3, 1), (638, .iconst 2, 1), (639, .iadd, 1), (640, .iaload, 1), (641, .aload_n 0, 1), (642, .iload_n 3, 1), (643, .iconst 3, 1), (644, .iadd, 1), (645, .iaload, 1), (646, .invokevirtual 74, 3), (649, .aload_n 2, 1), (650, .aload_n 0, 1), (651, .iload_n 3, 1), (652, .iconst 1, 1), (653, .iadd, 1), (654, .iaload, 1), (655, .aload_n 0, 1), (656, .iload_n 3, 1), (657, .iconst 2, 1), (658, .iadd, 1), (659, .iaload, 1), (660, .aload_n 0, 1), (661, .iload_n 3, 1), (662, .iconst 3, 1), (663, .iadd, 1)]
theorem o_law5 : tb_law5.all (fun q => decide (decode code q.1 = .ok q.2)) = true := by decide +kernel
def tb_law6 : List (Nat × Instr × Nat) := [(664, .iaload, 1), (665, .invokevirtual 77, 3), (668, .if_icmp .eq 749, 3), (671, .iconst 0, 1), (672, .ireturn, 1), (673, .aload_n 1, 1), (674, .aload_n 0, 1), (675, .iload_n 3, 1), (676, .iconst 1, 1), (677, .iadd, 1), (678, .iaload, 1), (679, .invokevirtual 78, 3), (682, .aload_n 2, 1), (683, .aload_n 0, 1), (684, .iload_n 3, 1), (685, .iconst 1, 1), (686, .iadd, 1), (687, .iaload, 1), (688, .invokevirtual 81, 3), (691, .if_icmp .eq 726, 3), (694, .iconst 0, 1), (695, .ireturn, 1), (696, .aload_n 1, 1), (697, .invokevirtual 82, 3), (700, .aload_n 2, 1), (701, .invokevirtual 85, 3), (704, .if_icmp .eq 713, 3), (707, .iconst 0, 1), (708, .ireturn, 1), (709, .aload_n 1, 1), (710, .aload_n 0, 1), (711, .iload_n 3, 1), (712, .iconst 1, 1), (713, .iadd, 1), (714, .iaload, 1), (715, .invokevirtual 86, 3), (718, .aload_n 2, 1), (719, .aload_n 0, 1), (720, .iload_n 3, 1), (721, .iconst 1, 1), (722, .iadd, 1), (723, .iaload, 1), (724, .invokevirtual 89, 3), (727, .if_icmp .eq 690, 3), (730, .iconst 0, 1), (731, .ireturn, 1), (732, .aload_n 1, 1), (733, .aload_n 0, 1), (734, .iload_n 3, 1), (735, .iconst 1, 1), (736, .iadd, 1), (737, .iaload, 1), (738, .invokevirtual 90, 3), (741, .aload_n 2, 1), (742, .aload_n 0, 1), (743, .iload_n 3, 1), (744, .iconst 1, 1), (745, .iadd, 1), (746, .iaload, 1), (747, .invokevirtual 93, 3)]
theorem o_law6 : tb_law6.all (fun q => decide (decode code q.1 = .ok q.2)) = true := by decide +kernel
def tb_law7 : List (Nat × Instr × Nat) := [(750, .if_icmp .eq 667, 3), (753, .iconst 0, 1), (754, .ireturn, 1), (755, .aload_n 1, 1), (756, .aload_n 0, 1), (757, .iload_n 3, 1), (758, .iconst 1, 1), (759, .iadd, 1), (760, .iaload, 1), (761, .invokevirtual 94, 3), (764, .aload_n 2, 1), (765, .aload_n 0, 1), (766, .iload_n 3, 1), (767, .iconst 1, 1), (768, .iadd, 1), (769, .iaload, 1), (770, .invokevirtual 97, 3), (773, .if_icmp .eq 644, 3), (776, .iconst 0, 1), (777, .ireturn, 1), (778, .aload_n 1, 1), (779, .invokevirtual 98, 3), (782, .aload_n 2, 1), (783, .invokevirtual 101, 3), (786, .if_icmp .eq 631, 3), (789, .iconst 0, 1), (790, .ireturn, 1), (791, .aload_n 1, 1), (792, .invokevirtual 102, 3), (795, .aload_n 2, 1), (796, .invokevirtual 105, 3), (799, .if_icmp .eq 618, 3), (802, .iconst 0, 1), (803, .ireturn, 1), (804, .aload_n 1, 1), (805, .invokevirtual 106, 3), (808, .aload_n 2, 1), (809, .invokevirtual 109, 3), (812, .if_icmp .eq 605, 3), (815, .iconst 0, 1), (816, .ireturn, 1), (817, .aload_n 1, 1), (818, .aload_n 0, 1), (819, .iload_n 3, 1), (820, .iconst 1, 1), (821, .iadd, 1), (822, .iaload, 1), (823, .aload_n 0, 1), (824, .iload_n 3, 1), (825, .iconst 2, 1), (826, .iadd, 1), (827, .iaload, 1), (828, .aload_n 0, 1), (829, .iload_n 3, 1), (830, .iconst 3, 1), (831, .iadd, 1), (832, .iaload, 1), (833, .invokevirtual 110, 3), (836, .aload_n 2, 1), (837, .aload_n 0, 1)]
theorem o_law7 : tb_law7.all (fun q => decide (decode code q.1 = .ok q.2)) = true := by decide +kernel
def tb_law8 : List (Nat × Instr × Nat) := [(838, .iload_n 3, 1), (839, .iconst 1, 1), (840, .iadd, 1), (841, .iaload, 1), (842, .aload_n 0, 1), (843, .iload_n 3, 1), (844, .iconst 2, 1), (845, .iadd, 1), (846, .iaload, 1), (847, .aload_n 0, 1), (848, .iload_n 3, 1), (849, .iconst 3, 1), (850, .iadd, 1), (851, .iaload, 1), (852, .invokevirtual 113, 3), (855, .if_icmp .eq 562, 3), (858, .iconst 0, 1), (859, .ireturn, 1), (860, .aload_n 1, 1), (861, .aload_n 0, 1), (862, .iload_n 3, 1), (863, .iconst 1, 1), (864, .iadd, 1), (865, .iaload, 1), (866, .invokevirtual 114, 3), (869, .aload_n 2, 1), (870, .aload_n 0, 1), (871, .iload_n 3, 1), (872, .iconst 1, 1), (873, .iadd, 1), (874, .iaload, 1), (875, .invokevirtual 117, 3), (878, .if_icmp .eq 539, 3), (881, .iconst 0, 1), (882, .ireturn, 1), (883, .aload_n 1, 1), (884, .aload_n 0, 1), (885, .iload_n 3, 1), (886, .iconst 1, 1), (887, .iadd, 1), (888, .iaload, 1), (889, .aload_n 0, 1), (890, .iload_n 3, 1), (891, .iconst 2, 1), (892, .iadd, 1), (893, .iaload, 1), (894, .aload_n 0, 1), (895, .iload_n 3, 1), (896, .iconst 3, 1), (897, .iadd, 1), (898, .iaload, 1), (899, .aload_n 0, 1), (900, .iload_n 3, 1), (901, .iconst 4, 1), (902, .iadd, 1), (903, .iaload, 1), (904, .invokevirtual 118, 3), (907, .aload_n 2, 1), (908, .aload_n 0, 1), (909, .iload_n 3, 1)]
theorem o_law8 : tb_law8.all (fun q => decide (decode code q.1 = .ok q.2)) = true := by decide +kernel
def tb_law9 : List (Nat × Instr × Nat) := [(910, .iconst 1, 1), (911, .iadd, 1), (912, .iaload, 1), (913, .aload_n 0, 1), (914, .iload_n 3, 1), (915, .iconst 2, 1), (916, .iadd, 1), (917, .iaload, 1), (918, .aload_n 0, 1), (919, .iload_n 3, 1), (920, .iconst 3, 1), (921, .iadd, 1), (922, .iaload, 1), (923, .aload_n 0, 1), (924, .iload_n 3, 1), (925, .iconst 4, 1), (926, .iadd, 1), (927, .iaload, 1), (928, .invokevirtual 122, 3), (931, .if_icmp .eq 486, 3), (934, .iconst 0, 1), (935, .ireturn, 1), (936, .aload_n 1, 1), (937, .aload_n 0, 1), (938, .iload_n 3, 1), (939, .iconst 1, 1), (940, .iadd, 1), (941, .iaload, 1), (942, .invokevirtual 123, 3), (945, .aload_n 2, 1), (946, .aload_n 0, 1), (947, .iload_n 3, 1), (948, .iconst 1, 1), (949, .iadd, 1), (950, .iaload, 1), (951, .invokevirtual 126, 3), (954, .if_icmp .eq 463, 3), (957, .iconst 0, 1), (958, .ireturn, 1), (959, .aload_n 1, 1), (960, .invokevirtual 127, 3), (963, .aload_n 2, 1), (964, .invokevirtual 130, 3), (967, .if_icmp .eq 450, 3), (970, .iconst 0, 1), (971, .ireturn, 1), (972, .aload_n 1, 1), (973, .aload_n 0, 1), (974, .iload_n 3, 1), (975, .iconst 1, 1), (976, .iadd, 1), (977, .iaload, 1), (978, .aload_n 0, 1), (979, .iload_n 3, 1), (980, .iconst 2, 1), (981, .iadd, 1), (982, .iaload, 1), (983, .invokevirtual 131, 3), (986, .aload_n 2, 1), (987, .aload_n 0, 1)]
theorem o_law9 : tb_law9.all (fun q => decide (decode code q.1 = .ok q.2)) = true := by decide +kernel
def tb_law10 : List (Nat × Instr × Nat) := [(988, .iload_n 3, 1), (989, .iconst 1, 1), (990, .iadd, 1), (991, .iaload, 1), (992, .aload_n 0, 1), (993, .iload_n 3, 1), (994, .iconst 2, 1), (995, .iadd, 1), (996, .iaload, 1), (997, .invokevirtual 134, 3), (1000, .if_icmp .eq 417, 3), (1003, .iconst 0, 1), (1004, .ireturn, 1), (1005, .aload_n 1, 1), (1006, .invokevirtual 135, 3), (1009, .aload_n 2, 1), (1010, .invokevirtual 138, 3), (1013, .if_icmp .eq 404, 3), (1016, .iconst 0, 1), (1017, .ireturn, 1), (1018, .aload_n 1, 1), (1019, .aload_n 0, 1), (1020, .iload_n 3, 1), (1021, .iconst 1, 1), (1022, .iadd, 1), (1023, .iaload, 1), (1024, .invokevirtual 139, 3), (1027, .aload_n 2, 1), (1028, .aload_n 0, 1), (1029, .iload_n 3, 1), (1030, .iconst 1, 1), (1031, .iadd, 1), (1032, .iaload, 1), (1033, .invokevirtual 142, 3), (1036, .if_icmp .eq 381, 3), (1039, .iconst 0, 1), (1040, .ireturn, 1), (1041, .aload_n 1, 1), (1042, .aload_n 0, 1), (1043, .iload_n 3, 1), (1044, .iconst 1, 1), (1045, .iadd, 1), (1046, .iaload, 1), (1047, .invokevirtual 143, 3), (1050, .aload_n 2, 1), (1051, .aload_n 0, 1), (1052, .iload_n 3, 1), (1053, .iconst 1, 1), (1054, .iadd, 1), (1055, .iaload, 1), (1056, .invokevirtual 146, 3), (1059, .if_icmp .eq 358, 3), (1062, .iconst 0, 1), (1063, .ireturn, 1), (1064, .aload_n 1, 1), (1065, .aload_n 0, 1), (1066, .iload_n 3, 1), (1067, .iconst 1, 1), (1068, .iadd, 1), (1069, .iaload, 1)]
theorem o_law10 : tb_law10.all (fun q => decide (decode code q.1 = .ok q.2)) = true := by decide +kernel
def tb_law11 : List (Nat × Instr × Nat) := [(1070, .aload_n 0, 1), (1071, .iload_n 3, 1), (1072, .iconst 2, 1), (1073, .iadd, 1), (1074, .iaload, 1), (1075, .aload_n 0, 1), (1076, .iload_n 3, 1), (1077, .iconst 3, 1), (1078, .iadd, 1), (1079, .iaload, 1), (1080, .invokevirtual 147, 3), (1083, .aload_n 2, 1), (1084, .aload_n 0, 1), (1085, .iload_n 3, 1), (1086, .iconst 1, 1), (1087, .iadd, 1), (1088, .iaload, 1), (1089, .aload_n 0, 1), (1090, .iload_n 3, 1), (1091, .iconst 2, 1), (1092, .iadd, 1), (1093, .iaload, 1), (1094, .aload_n 0, 1), (1095, .iload_n 3, 1), (1096, .iconst 3, 1), (1097, .iadd, 1), (1098, .iaload, 1), (1099, .invokevirtual 150, 3), (1102, .if_icmp .eq 315, 3), (1105, .iconst 0, 1), (1106, .ireturn, 1), (1107, .aload_n 1, 1), (1108, .aload_n 0, 1), (1109, .iload_n 3, 1), (1110, .iconst 1, 1), (1111, .iadd, 1), (1112, .iaload, 1), (1113, .aload_n 0, 1), (1114, .iload_n 3, 1), (1115, .iconst 2, 1), (1116, .iadd, 1), (1117, .iaload, 1), (1118, .aload_n 0, 1), (1119, .iload_n 3, 1), (1120, .iconst 3, 1), (1121, .iadd, 1), (1122, .iaload, 1), (1123, .invokevirtual 151, 3), (1126, .aload_n 2, 1), (1127, .aload_n 0, 1), (1128, .iload_n 3, 1), (1129, .iconst 1, 1), (1130, .iadd, 1), (1131, .iaload, 1), (1132, .aload_n 0, 1), (1133, .iload_n 3, 1), (1134, .iconst 2, 1), (1135, .iadd, 1), (1136, .iaload, 1), (1137, .aload_n 0, 1)]
theorem o_law11 : tb_law11.all (fun q => decide (decode code q.1 = .ok q.2)) = true := by decide +kernel
def tb_law12 : List (Nat × Instr × Nat) := [(1138, .iload_n 3, 1), (1139, .iconst 3, 1), (1140, .iadd, 1), (1141, .iaload, 1), (1142, .invokevirtual 154, 3), (1145, .if_icmp .eq 272, 3), (1148, .iconst 0, 1), (1149, .ireturn, 1), (1150, .aload_n 1, 1), (1151, .aload_n 0, 1), (1152, .iload_n 3, 1), (1153, .iconst 1, 1), (1154, .iadd, 1), (1155, .iaload, 1), (1156, .invokevirtual 155, 3), (1159, .aload_n 2, 1), (1160, .aload_n 0, 1), (1161, .iload_n 3, 1), (1162, .iconst 1, 1), (1163, .iadd, 1), (1164, .iaload, 1), (1165, .invokevirtual 158, 3), (1168, .if_icmp .eq 249, 3), (1171, .iconst 0, 1), (1172, .ireturn, 1), (1173, .aload_n 1, 1), (1174, .aload_n 0, 1), (1175, .iload_n 3, 1), (1176, .iconst 1, 1), (1177, .iadd, 1), (1178, .iaload, 1), (1179, .aload_n 0, 1), (1180, .iload_n 3, 1), (1181, .iconst 2, 1), (1182, .iadd, 1), (1183, .iaload, 1), (1184, .invokevirtual 159, 3), (1187, .aload_n 2, 1), (1188, .aload_n 0, 1), (1189, .iload_n 3, 1), (1190, .iconst 1, 1), (1191, .iadd, 1), (1192, .iaload, 1), (1193, .aload_n 0, 1), (1194, .iload_n 3, 1), (1195, .iconst 2, 1), (1196, .iadd, 1), (1197, .iaload, 1), (1198, .invokevirtual 162, 3), (1201, .if_icmp .eq 216, 3), (1204, .iconst 0, 1), (1205, .ireturn, 1), (1206, .aload_n 1, 1), (1207, .aload_n 0, 1), (1208, .iload_n 3, 1), (1209, .iconst 1, 1), (1210, .iadd, 1), (1211, .iaload, 1), (1212, .invokevirtual 163, 3), (1215, .aload_n 2, 1)]
theorem o_law12 : tb_law12.all (fun q => decide (decode code q.1 = .ok q.2)) = true := by decide +kernel
def tb_law13 : List (Nat × Instr × Nat) := [(1216, .aload_n 0, 1), (1217, .iload_n 3, 1), (1218, .iconst 1, 1), (1219, .iadd, 1), (1220, .iaload, 1), (1221, .invokevirtual 166, 3), (1224, .if_icmp .eq 193, 3), (1227, .iconst 0, 1), (1228, .ireturn, 1), (1229, .aload_n 1, 1), (1230, .aload_n 0, 1), (1231, .iload_n 3, 1), (1232, .iconst 1, 1), (1233, .iadd, 1), (1234, .iaload, 1), (1235, .invokevirtual 167, 3), (1238, .aload_n 2, 1), (1239, .aload_n 0, 1), (1240, .iload_n 3, 1), (1241, .iconst 1, 1), (1242, .iadd, 1), (1243, .iaload, 1), (1244, .invokevirtual 170, 3), (1247, .if_icmp .eq 170, 3), (1250, .iconst 0, 1), (1251, .ireturn, 1), (1252, .aload_n 1, 1), (1253, .aload_n 0, 1), (1254, .iload_n 3, 1), (1255, .iconst 1, 1), (1256, .iadd, 1), (1257, .iaload, 1), (1258, .invokevirtual 171, 3), (1261, .aload_n 2, 1), (1262, .aload_n 0, 1), (1263, .iload_n 3, 1), (1264, .iconst 1, 1), (1265, .iadd, 1), (1266, .iaload, 1), (1267, .invokevirtual 174, 3), (1270, .if_icmp .eq 147, 3), (1273, .iconst 0, 1), (1274, .ireturn, 1), (1275, .aload_n 1, 1), (1276, .aload_n 0, 1), (1277, .iload_n 3, 1), (1278, .iconst 1, 1), (1279, .iadd, 1), (1280, .iaload, 1), (1281, .invokevirtual 175, 3), (1284, .aload_n 2, 1), (1285, .aload_n 0, 1), (1286, .iload_n 3, 1), (1287, .iconst 1, 1), (1288, .iadd, 1), (1289, .iaload, 1), (1290, .invokevirtual 178, 3), (1293, .if_icmp .eq 124, 3), (1296, .iconst 0, 1), (1297, .ireturn, 1)]
theorem o_law13 : tb_law13.all (fun q => decide (decode code q.1 = .ok q.2)) = true := by decide +kernel
def tb_law14 : List (Nat × Instr × Nat) := [(1298, .aload_n 1, 1), (1299, .aload_n 0, 1), (1300, .iload_n 3, 1), (1301, .iconst 1, 1), (1302, .iadd, 1), (1303, .iaload, 1), (1304, .invokevirtual 179, 3), (1307, .aload_n 2, 1), (1308, .aload_n 0, 1), (1309, .iload_n 3, 1), (1310, .iconst 1, 1), (1311, .iadd, 1), (1312, .iaload, 1), (1313, .invokevirtual 182, 3), (1316, .if_icmp .eq 101, 3), (1319, .iconst 0, 1), (1320, .ireturn, 1), (1321, .aload_n 1, 1), (1322, .aload_n 0, 1), (1323, .iload_n 3, 1), (1324, .iconst 1, 1), (1325, .iadd, 1), (1326, .iaload, 1), (1327, .aload_n 0, 1), (1328, .iload_n 3, 1), (1329, .iconst 2, 1), (1330, .iadd, 1), (1331, .iaload, 1), (1332, .invokevirtual 183, 3), (1335, .aload_n 2, 1), (1336, .aload_n 0, 1), (1337, .iload_n 3, 1), (1338, .iconst 1, 1), (1339, .iadd, 1), (1340, .iaload, 1), (1341, .aload_n 0, 1), (1342, .iload_n 3, 1), (1343, .iconst 2, 1), (1344, .iadd, 1), (1345, .iaload, 1), (1346, .invokevirtual 186, 3), (1349, .if_icmp .eq 68, 3), (1352, .iconst 0, 1), (1353, .ireturn, 1), (1354, .aload_n 1, 1), (1355, .aload_n 0, 1), (1356, .iload_n 3, 1), (1357, .iconst 1, 1), (1358, .iadd, 1), (1359, .iaload, 1), (1360, .invokevirtual 187, 3), (1363, .aload_n 2, 1), (1364, .aload_n 0, 1), (1365, .iload_n 3, 1), (1366, .iconst 1, 1), (1367, .iadd, 1), (1368, .iaload, 1), (1369, .invokevirtual 190, 3), (1372, .if_icmp .eq 45, 3), (1375, .iconst 0, 1)]
theorem o_law14 : tb_law14.all (fun q => decide (decode code q.1 = .ok q.2)) = true := by decide +kernel
def tb_law15 : List (Nat × Instr × Nat) := [(1376, .ireturn, 1), (1377, .aload_n 1, 1), (1378, .invokevirtual 191, 3), (1381, .aload_n 2, 1), (1382, .invokevirtual 194, 3), (1385, .if_icmp .eq 32, 3), (1388, .iconst 0, 1), (1389, .ireturn, 1), (1390, .aload_n 1, 1), (1391, .invokevirtual 195, 3), (1394, .aload_n 2, 1), (1395, .invokevirtual 198, 3), (1398, .if_icmp .eq 19, 3), (1401, .iconst 0, 1), (1402, .ireturn, 1), (1403, .aload_n 1, 1), (1404, .invokevirtual 199, 3), (1407, .aload_n 2, 1), (1408, .invokevirtual 203, 3), (1411, .lcmp, 1), (1412, .ifCond .eq 5, 3), (1415, .iconst 0, 1), (1416, .ireturn, 1), (1417, .iinc 3 5, 3), (1420, .goto (-1402), 3), (1423, .iconst 1, 1), (1424, .ireturn, 1)]
theorem o_law15 : tb_law15.all (fun q => decide (decode code q.1 = .ok q.2)) = true := by decide +kernel
theorem lv_L_13 : sk_lkV "SkiSchoolLaw" 13 m_X8_addPupil 3 := ⟨⟨by decide, by decide, by decide +kernel⟩, (sk_in 482 (by decide +kernel) (by decide +kernel)), (sk_in 483 (by decide +kernel) (by decide +kernel)), (sk_in 484 (by decide +kernel) (by decide +kernel)), (sk_in 84 (by decide +kernel) (by decide +kernel)), (sk_in 485 (by decide +kernel) (by decide +kernel))⟩
theorem lv_L_17 : sk_lkV "SkiSchoolLaw" 17 m_X9_addPupil 3 := ⟨⟨by decide, by decide, by decide +kernel⟩, (sk_in 1188 (by decide +kernel) (by decide +kernel)), (sk_in 1189 (by decide +kernel) (by decide +kernel)), (sk_in 1190 (by decide +kernel) (by decide +kernel)), (sk_in 93 (by decide +kernel) (by decide +kernel)), (sk_in 1191 (by decide +kernel) (by decide +kernel))⟩
theorem lv_L_18 : sk_lkV "SkiSchoolLaw" 18 m_X8_removePupil 1 := ⟨⟨by decide, by decide, by decide +kernel⟩, (sk_in 519 (by decide +kernel) (by decide +kernel)), (sk_in 520 (by decide +kernel) (by decide +kernel)), (sk_in 521 (by decide +kernel) (by decide +kernel)), (sk_in 84 (by decide +kernel) (by decide +kernel)), (sk_in 522 (by decide +kernel) (by decide +kernel))⟩
theorem lv_L_22 : sk_lkV "SkiSchoolLaw" 22 m_X9_removePupil 1 := ⟨⟨by decide, by decide, by decide +kernel⟩, (sk_in 1220 (by decide +kernel) (by decide +kernel)), (sk_in 1221 (by decide +kernel) (by decide +kernel)), (sk_in 1222 (by decide +kernel) (by decide +kernel)), (sk_in 93 (by decide +kernel) (by decide +kernel)), (sk_in 1223 (by decide +kernel) (by decide +kernel))⟩
theorem lv_L_23 : sk_lkV "SkiSchoolLaw" 23 m_X8_pupils 0 := ⟨⟨by decide, by decide, by decide +kernel⟩, (sk_in 531 (by decide +kernel) (by decide +kernel)), (sk_in 528 (by decide +kernel) (by decide +kernel)), (sk_in 529 (by decide +kernel) (by decide +kernel)), (sk_in 84 (by decide +kernel) (by decide +kernel)), (sk_in 530 (by decide +kernel) (by decide +kernel))⟩
theorem lv_L_27 : sk_lkV "SkiSchoolLaw" 27 m_X9_pupils 0 := ⟨⟨by decide, by decide, by decide +kernel⟩, (sk_in 1228 (by decide +kernel) (by decide +kernel)), (sk_in 1229 (by decide +kernel) (by decide +kernel)), (sk_in 1230 (by decide +kernel) (by decide +kernel)), (sk_in 93 (by decide +kernel) (by decide +kernel)), (sk_in 1231 (by decide +kernel) (by decide +kernel))⟩
theorem lv_L_28 : sk_lkV "SkiSchoolLaw" 28 m_X8_level 1 := ⟨⟨by decide, by decide, by decide +kernel⟩, (sk_in 532 (by decide +kernel) (by decide +kernel)), (sk_in 533 (by decide +kernel) (by decide +kernel)), (sk_in 534 (by decide +kernel) (by decide +kernel)), (sk_in 84 (by decide +kernel) (by decide +kernel)), (sk_in 535 (by decide +kernel) (by decide +kernel))⟩
theorem lv_L_31 : sk_lkV "SkiSchoolLaw" 31 m_X9_level 1 := ⟨⟨by decide, by decide, by decide +kernel⟩, (sk_in 1232 (by decide +kernel) (by decide +kernel)), (sk_in 1233 (by decide +kernel) (by decide +kernel)), (sk_in 1234 (by decide +kernel) (by decide +kernel)), (sk_in 93 (by decide +kernel) (by decide +kernel)), (sk_in 1235 (by decide +kernel) (by decide +kernel))⟩
theorem lv_L_32 : sk_lkV "SkiSchoolLaw" 32 m_X8_languages 1 := ⟨⟨by decide, by decide, by decide +kernel⟩, (sk_in 536 (by decide +kernel) (by decide +kernel)), (sk_in 537 (by decide +kernel) (by decide +kernel)), (sk_in 538 (by decide +kernel) (by decide +kernel)), (sk_in 84 (by decide +kernel) (by decide +kernel)), (sk_in 539 (by decide +kernel) (by decide +kernel))⟩
theorem lv_L_35 : sk_lkV "SkiSchoolLaw" 35 m_X9_languages 1 := ⟨⟨by decide, by decide, by decide +kernel⟩, (sk_in 1236 (by decide +kernel) (by decide +kernel)), (sk_in 1237 (by decide +kernel) (by decide +kernel)), (sk_in 1238 (by decide +kernel) (by decide +kernel)), (sk_in 93 (by decide +kernel) (by decide +kernel)), (sk_in 1239 (by decide +kernel) (by decide +kernel))⟩
theorem lv_L_36 : sk_lkV "SkiSchoolLaw" 36 m_X8_family 1 := ⟨⟨by decide, by decide, by decide +kernel⟩, (sk_in 540 (by decide +kernel) (by decide +kernel)), (sk_in 541 (by decide +kernel) (by decide +kernel)), (sk_in 542 (by decide +kernel) (by decide +kernel)), (sk_in 84 (by decide +kernel) (by decide +kernel)), (sk_in 543 (by decide +kernel) (by decide +kernel))⟩
theorem lv_L_39 : sk_lkV "SkiSchoolLaw" 39 m_X9_family 1 := ⟨⟨by decide, by decide, by decide +kernel⟩, (sk_in 1240 (by decide +kernel) (by decide +kernel)), (sk_in 1241 (by decide +kernel) (by decide +kernel)), (sk_in 1242 (by decide +kernel) (by decide +kernel)), (sk_in 93 (by decide +kernel) (by decide +kernel)), (sk_in 1243 (by decide +kernel) (by decide +kernel))⟩
theorem lv_L_40 : sk_lkV "SkiSchoolLaw" 40 m_X8_group 1 := ⟨⟨by decide, by decide, by decide +kernel⟩, (sk_in 544 (by decide +kernel) (by decide +kernel)), (sk_in 545 (by decide +kernel) (by decide +kernel)), (sk_in 546 (by decide +kernel) (by decide +kernel)), (sk_in 84 (by decide +kernel) (by decide +kernel)), (sk_in 547 (by decide +kernel) (by decide +kernel))⟩
theorem lv_L_43 : sk_lkV "SkiSchoolLaw" 43 m_X9_group 1 := ⟨⟨by decide, by decide, by decide +kernel⟩, (sk_in 1244 (by decide +kernel) (by decide +kernel)), (sk_in 1245 (by decide +kernel) (by decide +kernel)), (sk_in 1246 (by decide +kernel) (by decide +kernel)), (sk_in 93 (by decide +kernel) (by decide +kernel)), (sk_in 1247 (by decide +kernel) (by decide +kernel))⟩
theorem lv_L_44 : sk_lkV "SkiSchoolLaw" 44 m_X8_setTogether 2 := ⟨⟨by decide, by decide, by decide +kernel⟩, (sk_in 548 (by decide +kernel) (by decide +kernel)), (sk_in 549 (by decide +kernel) (by decide +kernel)), (sk_in 550 (by decide +kernel) (by decide +kernel)), (sk_in 84 (by decide +kernel) (by decide +kernel)), (sk_in 551 (by decide +kernel) (by decide +kernel))⟩
theorem lv_L_48 : sk_lkV "SkiSchoolLaw" 48 m_X9_setTogether 2 := ⟨⟨by decide, by decide, by decide +kernel⟩, (sk_in 1248 (by decide +kernel) (by decide +kernel)), (sk_in 1249 (by decide +kernel) (by decide +kernel)), (sk_in 1250 (by decide +kernel) (by decide +kernel)), (sk_in 93 (by decide +kernel) (by decide +kernel)), (sk_in 1251 (by decide +kernel) (by decide +kernel))⟩
theorem lv_L_49 : sk_lkV "SkiSchoolLaw" 49 m_X8_spread 1 := ⟨⟨by decide, by decide, by decide +kernel⟩, (sk_in 552 (by decide +kernel) (by decide +kernel)), (sk_in 553 (by decide +kernel) (by decide +kernel)), (sk_in 554 (by decide +kernel) (by decide +kernel)), (sk_in 84 (by decide +kernel) (by decide +kernel)), (sk_in 555 (by decide +kernel) (by decide +kernel))⟩
theorem lv_L_52 : sk_lkV "SkiSchoolLaw" 52 m_X9_spread 1 := ⟨⟨by decide, by decide, by decide +kernel⟩, (sk_in 1252 (by decide +kernel) (by decide +kernel)), (sk_in 1253 (by decide +kernel) (by decide +kernel)), (sk_in 1254 (by decide +kernel) (by decide +kernel)), (sk_in 93 (by decide +kernel) (by decide +kernel)), (sk_in 1255 (by decide +kernel) (by decide +kernel))⟩
theorem lv_L_53 : sk_lkV "SkiSchoolLaw" 53 m_X8_score 3 := ⟨⟨by decide, by decide, by decide +kernel⟩, (sk_in 562 (by decide +kernel) (by decide +kernel)), (sk_in 563 (by decide +kernel) (by decide +kernel)), (sk_in 564 (by decide +kernel) (by decide +kernel)), (sk_in 84 (by decide +kernel) (by decide +kernel)), (sk_in 565 (by decide +kernel) (by decide +kernel))⟩
theorem lv_L_56 : sk_lkV "SkiSchoolLaw" 56 m_X9_score 3 := ⟨⟨by decide, by decide, by decide +kernel⟩, (sk_in 1260 (by decide +kernel) (by decide +kernel)), (sk_in 1261 (by decide +kernel) (by decide +kernel)), (sk_in 1262 (by decide +kernel) (by decide +kernel)), (sk_in 93 (by decide +kernel) (by decide +kernel)), (sk_in 1263 (by decide +kernel) (by decide +kernel))⟩
theorem lv_L_57 : sk_lkV "SkiSchoolLaw" 57 m_X8_scoreOf 2 := ⟨⟨by decide, by decide, by decide +kernel⟩, (sk_in 573 (by decide +kernel) (by decide +kernel)), (sk_in 574 (by decide +kernel) (by decide +kernel)), (sk_in 575 (by decide +kernel) (by decide +kernel)), (sk_in 84 (by decide +kernel) (by decide +kernel)), (sk_in 576 (by decide +kernel) (by decide +kernel))⟩
theorem lv_L_61 : sk_lkV "SkiSchoolLaw" 61 m_X9_scoreOf 2 := ⟨⟨by decide, by decide, by decide +kernel⟩, (sk_in 1271 (by decide +kernel) (by decide +kernel)), (sk_in 1272 (by decide +kernel) (by decide +kernel)), (sk_in 1273 (by decide +kernel) (by decide +kernel)), (sk_in 93 (by decide +kernel) (by decide +kernel)), (sk_in 1274 (by decide +kernel) (by decide +kernel))⟩
theorem lv_L_62 : sk_lkV "SkiSchoolLaw" 62 m_X8_setMarks 3 := ⟨⟨by decide, by decide, by decide +kernel⟩, (sk_in 577 (by decide +kernel) (by decide +kernel)), (sk_in 578 (by decide +kernel) (by decide +kernel)), (sk_in 579 (by decide +kernel) (by decide +kernel)), (sk_in 84 (by decide +kernel) (by decide +kernel)), (sk_in 580 (by decide +kernel) (by decide +kernel))⟩
theorem lv_L_65 : sk_lkV "SkiSchoolLaw" 65 m_X9_setMarks 3 := ⟨⟨by decide, by decide, by decide +kernel⟩, (sk_in 1275 (by decide +kernel) (by decide +kernel)), (sk_in 1276 (by decide +kernel) (by decide +kernel)), (sk_in 1277 (by decide +kernel) (by decide +kernel)), (sk_in 93 (by decide +kernel) (by decide +kernel)), (sk_in 1278 (by decide +kernel) (by decide +kernel))⟩
theorem lv_L_66 : sk_lkV "SkiSchoolLaw" 66 m_X8_grade 1 := ⟨⟨by decide, by decide, by decide +kernel⟩, (sk_in 581 (by decide +kernel) (by decide +kernel)), (sk_in 582 (by decide +kernel) (by decide +kernel)), (sk_in 583 (by decide +kernel) (by decide +kernel)), (sk_in 84 (by decide +kernel) (by decide +kernel)), (sk_in 584 (by decide +kernel) (by decide +kernel))⟩
theorem lv_L_69 : sk_lkV "SkiSchoolLaw" 69 m_X9_grade 1 := ⟨⟨by decide, by decide, by decide +kernel⟩, (sk_in 1279 (by decide +kernel) (by decide +kernel)), (sk_in 1280 (by decide +kernel) (by decide +kernel)), (sk_in 1281 (by decide +kernel) (by decide +kernel)), (sk_in 93 (by decide +kernel) (by decide +kernel)), (sk_in 1282 (by decide +kernel) (by decide +kernel))⟩
theorem lv_L_70 : sk_lkV "SkiSchoolLaw" 70 m_X8_nextDay 0 := ⟨⟨by decide, by decide, by decide +kernel⟩, (sk_in 610 (by decide +kernel) (by decide +kernel)), (sk_in 611 (by decide +kernel) (by decide +kernel)), (sk_in 612 (by decide +kernel) (by decide +kernel)), (sk_in 84 (by decide +kernel) (by decide +kernel)), (sk_in 613 (by decide +kernel) (by decide +kernel))⟩
theorem lv_L_73 : sk_lkV "SkiSchoolLaw" 73 m_X9_nextDay 0 := ⟨⟨by decide, by decide, by decide +kernel⟩, (sk_in 1287 (by decide +kernel) (by decide +kernel)), (sk_in 1288 (by decide +kernel) (by decide +kernel)), (sk_in 1289 (by decide +kernel) (by decide +kernel)), (sk_in 93 (by decide +kernel) (by decide +kernel)), (sk_in 1290 (by decide +kernel) (by decide +kernel))⟩
theorem lv_L_74 : sk_lkV "SkiSchoolLaw" 74 m_X8_openGroup 3 := ⟨⟨by decide, by decide, by decide +kernel⟩, (sk_in 614 (by decide +kernel) (by decide +kernel)), (sk_in 615 (by decide +kernel) (by decide +kernel)), (sk_in 616 (by decide +kernel) (by decide +kernel)), (sk_in 84 (by decide +kernel) (by decide +kernel)), (sk_in 617 (by decide +kernel) (by decide +kernel))⟩
theorem lv_L_77 : sk_lkV "SkiSchoolLaw" 77 m_X9_openGroup 3 := ⟨⟨by decide, by decide, by decide +kernel⟩, (sk_in 1291 (by decide +kernel) (by decide +kernel)), (sk_in 1292 (by decide +kernel) (by decide +kernel)), (sk_in 1293 (by decide +kernel) (by decide +kernel)), (sk_in 93 (by decide +kernel) (by decide +kernel)), (sk_in 1294 (by decide +kernel) (by decide +kernel))⟩
theorem lv_L_78 : sk_lkV "SkiSchoolLaw" 78 m_X8_closeGroup 1 := ⟨⟨by decide, by decide, by decide +kernel⟩, (sk_in 629 (by decide +kernel) (by decide +kernel)), (sk_in 630 (by decide +kernel) (by decide +kernel)), (sk_in 631 (by decide +kernel) (by decide +kernel)), (sk_in 84 (by decide +kernel) (by decide +kernel)), (sk_in 632 (by decide +kernel) (by decide +kernel))⟩
theorem lv_L_81 : sk_lkV "SkiSchoolLaw" 81 m_X9_closeGroup 1 := ⟨⟨by decide, by decide, by decide +kernel⟩, (sk_in 1306 (by decide +kernel) (by decide +kernel)), (sk_in 1307 (by decide +kernel) (by decide +kernel)), (sk_in 1308 (by decide +kernel) (by decide +kernel)), (sk_in 93 (by decide +kernel) (by decide +kernel)), (sk_in 1309 (by decide +kernel) (by decide +kernel))⟩
theorem lv_L_82 : sk_lkV "SkiSchoolLaw" 82 m_X8_groups 0 := ⟨⟨by decide, by decide, by decide +kernel⟩, (sk_in 641 (by decide +kernel) (by decide +kernel)), (sk_in 642 (by decide +kernel) (by decide +kernel)), (sk_in 643 (by decide +kernel) (by decide +kernel)), (sk_in 84 (by decide +kernel) (by decide +kernel)), (sk_in 644 (by decide +kernel) (by decide +kernel))⟩
theorem lv_L_85 : sk_lkV "SkiSchoolLaw" 85 m_X9_groups 0 := ⟨⟨by decide, by decide, by decide +kernel⟩, (sk_in 1318 (by decide +kernel) (by decide +kernel)), (sk_in 1319 (by decide +kernel) (by decide +kernel)), (sk_in 1320 (by decide +kernel) (by decide +kernel)), (sk_in 93 (by decide +kernel) (by decide +kernel)), (sk_in 1321 (by decide +kernel) (by decide +kernel))⟩
theorem lv_L_86 : sk_lkV "SkiSchoolLaw" 86 m_X8_groupLevel 1 := ⟨⟨by decide, by decide, by decide +kernel⟩, (sk_in 645 (by decide +kernel) (by decide +kernel)), (sk_in 646 (by decide +kernel) (by decide +kernel)), (sk_in 647 (by decide +kernel) (by decide +kernel)), (sk_in 84 (by decide +kernel) (by decide +kernel)), (sk_in 648 (by decide +kernel) (by decide +kernel))⟩
theorem lv_L_89 : sk_lkV "SkiSchoolLaw" 89 m_X9_groupLevel 1 := ⟨⟨by decide, by decide, by decide +kernel⟩, (sk_in 1322 (by decide +kernel) (by decide +kernel)), (sk_in 1323 (by decide +kernel) (by decide +kernel)), (sk_in 1324 (by decide +kernel) (by decide +kernel)), (sk_in 93 (by decide +kernel) (by decide +kernel)), (sk_in 1325 (by decide +kernel) (by decide +kernel))⟩
theorem lv_L_90 : sk_lkV "SkiSchoolLaw" 90 m_X8_size 1 := ⟨⟨by decide, by decide, by decide +kernel⟩, (sk_in 649 (by decide +kernel) (by decide +kernel)), (sk_in 650 (by decide +kernel) (by decide +kernel)), (sk_in 651 (by decide +kernel) (by decide +kernel)), (sk_in 84 (by decide +kernel) (by decide +kernel)), (sk_in 652 (by decide +kernel) (by decide +kernel))⟩
theorem lv_L_93 : sk_lkV "SkiSchoolLaw" 93 m_X9_size 1 := ⟨⟨by decide, by decide, by decide +kernel⟩, (sk_in 1326 (by decide +kernel) (by decide +kernel)), (sk_in 1327 (by decide +kernel) (by decide +kernel)), (sk_in 1328 (by decide +kernel) (by decide +kernel)), (sk_in 93 (by decide +kernel) (by decide +kernel)), (sk_in 1329 (by decide +kernel) (by decide +kernel))⟩
theorem lv_L_94 : sk_lkV "SkiSchoolLaw" 94 m_X8_instructor 1 := ⟨⟨by decide, by decide, by decide +kernel⟩, (sk_in 657 (by decide +kernel) (by decide +kernel)), (sk_in 658 (by decide +kernel) (by decide +kernel)), (sk_in 659 (by decide +kernel) (by decide +kernel)), (sk_in 84 (by decide +kernel) (by decide +kernel)), (sk_in 660 (by decide +kernel) (by decide +kernel))⟩
theorem lv_L_97 : sk_lkV "SkiSchoolLaw" 97 m_X9_instructor 1 := ⟨⟨by decide, by decide, by decide +kernel⟩, (sk_in 1330 (by decide +kernel) (by decide +kernel)), (sk_in 1331 (by decide +kernel) (by decide +kernel)), (sk_in 1332 (by decide +kernel) (by decide +kernel)), (sk_in 93 (by decide +kernel) (by decide +kernel)), (sk_in 1333 (by decide +kernel) (by decide +kernel))⟩
theorem lv_L_98 : sk_lkV "SkiSchoolLaw" 98 m_X8_assign 0 := ⟨⟨by decide, by decide, by decide +kernel⟩, (sk_in 661 (by decide +kernel) (by decide +kernel)), (sk_in 662 (by decide +kernel) (by decide +kernel)), (sk_in 663 (by decide +kernel) (by decide +kernel)), (sk_in 84 (by decide +kernel) (by decide +kernel)), (sk_in 664 (by decide +kernel) (by decide +kernel))⟩
theorem lv_L_101 : sk_lkV "SkiSchoolLaw" 101 m_X9_assign 0 := ⟨⟨by decide, by decide, by decide +kernel⟩, (sk_in 1334 (by decide +kernel) (by decide +kernel)), (sk_in 1335 (by decide +kernel) (by decide +kernel)), (sk_in 1336 (by decide +kernel) (by decide +kernel)), (sk_in 93 (by decide +kernel) (by decide +kernel)), (sk_in 1337 (by decide +kernel) (by decide +kernel))⟩
theorem lv_L_102 : sk_lkV "SkiSchoolLaw" 102 m_X8_placed 0 := ⟨⟨by decide, by decide, by decide +kernel⟩, (sk_in 718 (by decide +kernel) (by decide +kernel)), (sk_in 719 (by decide +kernel) (by decide +kernel)), (sk_in 720 (by decide +kernel) (by decide +kernel)), (sk_in 84 (by decide +kernel) (by decide +kernel)), (sk_in 721 (by decide +kernel) (by decide +kernel))⟩
theorem lv_L_105 : sk_lkV "SkiSchoolLaw" 105 m_X9_placed 0 := ⟨⟨by decide, by decide, by decide +kernel⟩, (sk_in 1365 (by decide +kernel) (by decide +kernel)), (sk_in 1366 (by decide +kernel) (by decide +kernel)), (sk_in 1367 (by decide +kernel) (by decide +kernel)), (sk_in 93 (by decide +kernel) (by decide +kernel)), (sk_in 1368 (by decide +kernel) (by decide +kernel))⟩
theorem lv_L_106 : sk_lkV "SkiSchoolLaw" 106 m_X8_outOfLevel 0 := ⟨⟨by decide, by decide, by decide +kernel⟩, (sk_in 722 (by decide +kernel) (by decide +kernel)), (sk_in 723 (by decide +kernel) (by decide +kernel)), (sk_in 724 (by decide +kernel) (by decide +kernel)), (sk_in 84 (by decide +kernel) (by decide +kernel)), (sk_in 725 (by decide +kernel) (by decide +kernel))⟩
theorem lv_L_109 : sk_lkV "SkiSchoolLaw" 109 m_X9_outOfLevel 0 := ⟨⟨by decide, by decide, by decide +kernel⟩, (sk_in 1373 (by decide +kernel) (by decide +kernel)), (sk_in 1374 (by decide +kernel) (by decide +kernel)), (sk_in 1375 (by decide +kernel) (by decide +kernel)), (sk_in 93 (by decide +kernel) (by decide +kernel)), (sk_in 1376 (by decide +kernel) (by decide +kernel))⟩
theorem lv_L_110 : sk_lkV "SkiSchoolLaw" 110 m_X8_extraPlaced 3 := ⟨⟨by decide, by decide, by decide +kernel⟩, (sk_in 726 (by decide +kernel) (by decide +kernel)), (sk_in 727 (by decide +kernel) (by decide +kernel)), (sk_in 728 (by decide +kernel) (by decide +kernel)), (sk_in 84 (by decide +kernel) (by decide +kernel)), (sk_in 729 (by decide +kernel) (by decide +kernel))⟩
theorem lv_L_113 : sk_lkV "SkiSchoolLaw" 113 m_X9_extraPlaced 3 := ⟨⟨by decide, by decide, by decide +kernel⟩, (sk_in 1381 (by decide +kernel) (by decide +kernel)), (sk_in 1382 (by decide +kernel) (by decide +kernel)), (sk_in 1383 (by decide +kernel) (by decide +kernel)), (sk_in 93 (by decide +kernel) (by decide +kernel)), (sk_in 1384 (by decide +kernel) (by decide +kernel))⟩
theorem lv_L_114 : sk_lkV "SkiSchoolLaw" 114 m_X8_splitGain 1 := ⟨⟨by decide, by decide, by decide +kernel⟩, (sk_in 730 (by decide +kernel) (by decide +kernel)), (sk_in 731 (by decide +kernel) (by decide +kernel)), (sk_in 732 (by decide +kernel) (by decide +kernel)), (sk_in 84 (by decide +kernel) (by decide +kernel)), (sk_in 733 (by decide +kernel) (by decide +kernel))⟩
theorem lv_L_117 : sk_lkV "SkiSchoolLaw" 117 m_X9_splitGain 1 := ⟨⟨by decide, by decide, by decide +kernel⟩, (sk_in 1385 (by decide +kernel) (by decide +kernel)), (sk_in 1386 (by decide +kernel) (by decide +kernel)), (sk_in 1387 (by decide +kernel) (by decide +kernel)), (sk_in 93 (by decide +kernel) (by decide +kernel)), (sk_in 1388 (by decide +kernel) (by decide +kernel))⟩
theorem lv_L_118 : sk_lkV "SkiSchoolLaw" 118 m_X8_hire 4 := ⟨⟨by decide, by decide, by decide +kernel⟩, (sk_in 734 (by decide +kernel) (by decide +kernel)), (sk_in 735 (by decide +kernel) (by decide +kernel)), (sk_in 736 (by decide +kernel) (by decide +kernel)), (sk_in 84 (by decide +kernel) (by decide +kernel)), (sk_in 737 (by decide +kernel) (by decide +kernel))⟩
theorem lv_L_122 : sk_lkV "SkiSchoolLaw" 122 m_X9_hire 4 := ⟨⟨by decide, by decide, by decide +kernel⟩, (sk_in 1389 (by decide +kernel) (by decide +kernel)), (sk_in 1390 (by decide +kernel) (by decide +kernel)), (sk_in 1391 (by decide +kernel) (by decide +kernel)), (sk_in 93 (by decide +kernel) (by decide +kernel)), (sk_in 1392 (by decide +kernel) (by decide +kernel))⟩
theorem lv_L_123 : sk_lkV "SkiSchoolLaw" 123 m_X8_dismiss 1 := ⟨⟨by decide, by decide, by decide +kernel⟩, (sk_in 747 (by decide +kernel) (by decide +kernel)), (sk_in 748 (by decide +kernel) (by decide +kernel)), (sk_in 749 (by decide +kernel) (by decide +kernel)), (sk_in 84 (by decide +kernel) (by decide +kernel)), (sk_in 750 (by decide +kernel) (by decide +kernel))⟩
theorem lv_L_126 : sk_lkV "SkiSchoolLaw" 126 m_X9_dismiss 1 := ⟨⟨by decide, by decide, by decide +kernel⟩, (sk_in 1398 (by decide +kernel) (by decide +kernel)), (sk_in 1399 (by decide +kernel) (by decide +kernel)), (sk_in 1400 (by decide +kernel) (by decide +kernel)), (sk_in 93 (by decide +kernel) (by decide +kernel)), (sk_in 1401 (by decide +kernel) (by decide +kernel))⟩
theorem lv_L_127 : sk_lkV "SkiSchoolLaw" 127 m_X8_instructors 0 := ⟨⟨by decide, by decide, by decide +kernel⟩, (sk_in 755 (by decide +kernel) (by decide +kernel)), (sk_in 756 (by decide +kernel) (by decide +kernel)), (sk_in 757 (by decide +kernel) (by decide +kernel)), (sk_in 84 (by decide +kernel) (by decide +kernel)), (sk_in 758 (by decide +kernel) (by decide +kernel))⟩
theorem lv_L_130 : sk_lkV "SkiSchoolLaw" 130 m_X9_instructors 0 := ⟨⟨by decide, by decide, by decide +kernel⟩, (sk_in 1406 (by decide +kernel) (by decide +kernel)), (sk_in 1407 (by decide +kernel) (by decide +kernel)), (sk_in 1408 (by decide +kernel) (by decide +kernel)), (sk_in 93 (by decide +kernel) (by decide +kernel)), (sk_in 1409 (by decide +kernel) (by decide +kernel))⟩
theorem lv_L_131 : sk_lkV "SkiSchoolLaw" 131 m_X8_canTeach 2 := ⟨⟨by decide, by decide, by decide +kernel⟩, (sk_in 759 (by decide +kernel) (by decide +kernel)), (sk_in 760 (by decide +kernel) (by decide +kernel)), (sk_in 761 (by decide +kernel) (by decide +kernel)), (sk_in 84 (by decide +kernel) (by decide +kernel)), (sk_in 762 (by decide +kernel) (by decide +kernel))⟩
theorem lv_L_134 : sk_lkV "SkiSchoolLaw" 134 m_X9_canTeach 2 := ⟨⟨by decide, by decide, by decide +kernel⟩, (sk_in 1410 (by decide +kernel) (by decide +kernel)), (sk_in 1411 (by decide +kernel) (by decide +kernel)), (sk_in 1412 (by decide +kernel) (by decide +kernel)), (sk_in 93 (by decide +kernel) (by decide +kernel)), (sk_in 1413 (by decide +kernel) (by decide +kernel))⟩
theorem lv_L_135 : sk_lkV "SkiSchoolLaw" 135 m_X8_staff 0 := ⟨⟨by decide, by decide, by decide +kernel⟩, (sk_in 768 (by decide +kernel) (by decide +kernel)), (sk_in 769 (by decide +kernel) (by decide +kernel)), (sk_in 770 (by decide +kernel) (by decide +kernel)), (sk_in 84 (by decide +kernel) (by decide +kernel)), (sk_in 771 (by decide +kernel) (by decide +kernel))⟩
theorem lv_L_138 : sk_lkV "SkiSchoolLaw" 138 m_X9_staff 0 := ⟨⟨by decide, by decide, by decide +kernel⟩, (sk_in 1418 (by decide +kernel) (by decide +kernel)), (sk_in 1419 (by decide +kernel) (by decide +kernel)), (sk_in 1420 (by decide +kernel) (by decide +kernel)), (sk_in 93 (by decide +kernel) (by decide +kernel)), (sk_in 1421 (by decide +kernel) (by decide +kernel))⟩
theorem lv_L_139 : sk_lkV "SkiSchoolLaw" 139 m_X8_pay 1 := ⟨⟨by decide, by decide, by decide +kernel⟩, (sk_in 785 (by decide +kernel) (by decide +kernel)), (sk_in 786 (by decide +kernel) (by decide +kernel)), (sk_in 787 (by decide +kernel) (by decide +kernel)), (sk_in 84 (by decide +kernel) (by decide +kernel)), (sk_in 788 (by decide +kernel) (by decide +kernel))⟩
theorem lv_L_142 : sk_lkV "SkiSchoolLaw" 142 m_X9_pay 1 := ⟨⟨by decide, by decide, by decide +kernel⟩, (sk_in 1433 (by decide +kernel) (by decide +kernel)), (sk_in 1434 (by decide +kernel) (by decide +kernel)), (sk_in 1435 (by decide +kernel) (by decide +kernel)), (sk_in 93 (by decide +kernel) (by decide +kernel)), (sk_in 1436 (by decide +kernel) (by decide +kernel))⟩
theorem lv_L_143 : sk_lkV "SkiSchoolLaw" 143 m_X8_earnings 1 := ⟨⟨by decide, by decide, by decide +kernel⟩, (sk_in 798 (by decide +kernel) (by decide +kernel)), (sk_in 799 (by decide +kernel) (by decide +kernel)), (sk_in 800 (by decide +kernel) (by decide +kernel)), (sk_in 84 (by decide +kernel) (by decide +kernel)), (sk_in 801 (by decide +kernel) (by decide +kernel))⟩
theorem lv_L_146 : sk_lkV "SkiSchoolLaw" 146 m_X9_earnings 1 := ⟨⟨by decide, by decide, by decide +kernel⟩, (sk_in 1438 (by decide +kernel) (by decide +kernel)), (sk_in 1439 (by decide +kernel) (by decide +kernel)), (sk_in 1440 (by decide +kernel) (by decide +kernel)), (sk_in 93 (by decide +kernel) (by decide +kernel)), (sk_in 1441 (by decide +kernel) (by decide +kernel))⟩
theorem lv_L_147 : sk_lkV "SkiSchoolLaw" 147 m_X8_addLift 3 := ⟨⟨by decide, by decide, by decide +kernel⟩, (sk_in 802 (by decide +kernel) (by decide +kernel)), (sk_in 803 (by decide +kernel) (by decide +kernel)), (sk_in 804 (by decide +kernel) (by decide +kernel)), (sk_in 84 (by decide +kernel) (by decide +kernel)), (sk_in 805 (by decide +kernel) (by decide +kernel))⟩
theorem lv_L_150 : sk_lkV "SkiSchoolLaw" 150 m_X9_addLift 3 := ⟨⟨by decide, by decide, by decide +kernel⟩, (sk_in 1442 (by decide +kernel) (by decide +kernel)), (sk_in 1443 (by decide +kernel) (by decide +kernel)), (sk_in 1444 (by decide +kernel) (by decide +kernel)), (sk_in 93 (by decide +kernel) (by decide +kernel)), (sk_in 1445 (by decide +kernel) (by decide +kernel))⟩
theorem lv_L_151 : sk_lkV "SkiSchoolLaw" 151 m_X8_addStop 3 := ⟨⟨by decide, by decide, by decide +kernel⟩, (sk_in 806 (by decide +kernel) (by decide +kernel)), (sk_in 807 (by decide +kernel) (by decide +kernel)), (sk_in 808 (by decide +kernel) (by decide +kernel)), (sk_in 84 (by decide +kernel) (by decide +kernel)), (sk_in 809 (by decide +kernel) (by decide +kernel))⟩
theorem lv_L_154 : sk_lkV "SkiSchoolLaw" 154 m_X9_addStop 3 := ⟨⟨by decide, by decide, by decide +kernel⟩, (sk_in 1446 (by decide +kernel) (by decide +kernel)), (sk_in 1447 (by decide +kernel) (by decide +kernel)), (sk_in 1448 (by decide +kernel) (by decide +kernel)), (sk_in 93 (by decide +kernel) (by decide +kernel)), (sk_in 1449 (by decide +kernel) (by decide +kernel))⟩
theorem lv_L_155 : sk_lkV "SkiSchoolLaw" 155 m_X8_clearStops 1 := ⟨⟨by decide, by decide, by decide +kernel⟩, (sk_in 814 (by decide +kernel) (by decide +kernel)), (sk_in 815 (by decide +kernel) (by decide +kernel)), (sk_in 816 (by decide +kernel) (by decide +kernel)), (sk_in 84 (by decide +kernel) (by decide +kernel)), (sk_in 817 (by decide +kernel) (by decide +kernel))⟩
theorem lv_L_158 : sk_lkV "SkiSchoolLaw" 158 m_X9_clearStops 1 := ⟨⟨by decide, by decide, by decide +kernel⟩, (sk_in 1454 (by decide +kernel) (by decide +kernel)), (sk_in 1455 (by decide +kernel) (by decide +kernel)), (sk_in 1456 (by decide +kernel) (by decide +kernel)), (sk_in 93 (by decide +kernel) (by decide +kernel)), (sk_in 1457 (by decide +kernel) (by decide +kernel))⟩
theorem lv_L_159 : sk_lkV "SkiSchoolLaw" 159 m_X8_setStart 2 := ⟨⟨by decide, by decide, by decide +kernel⟩, (sk_in 818 (by decide +kernel) (by decide +kernel)), (sk_in 819 (by decide +kernel) (by decide +kernel)), (sk_in 820 (by decide +kernel) (by decide +kernel)), (sk_in 84 (by decide +kernel) (by decide +kernel)), (sk_in 821 (by decide +kernel) (by decide +kernel))⟩
theorem lv_L_162 : sk_lkV "SkiSchoolLaw" 162 m_X9_setStart 2 := ⟨⟨by decide, by decide, by decide +kernel⟩, (sk_in 1458 (by decide +kernel) (by decide +kernel)), (sk_in 1459 (by decide +kernel) (by decide +kernel)), (sk_in 1460 (by decide +kernel) (by decide +kernel)), (sk_in 93 (by decide +kernel) (by decide +kernel)), (sk_in 1461 (by decide +kernel) (by decide +kernel))⟩
theorem lv_L_163 : sk_lkV "SkiSchoolLaw" 163 m_X8_simulate 1 := ⟨⟨by decide, by decide, by decide +kernel⟩, (sk_in 822 (by decide +kernel) (by decide +kernel)), (sk_in 823 (by decide +kernel) (by decide +kernel)), (sk_in 824 (by decide +kernel) (by decide +kernel)), (sk_in 84 (by decide +kernel) (by decide +kernel)), (sk_in 825 (by decide +kernel) (by decide +kernel))⟩
theorem lv_L_166 : sk_lkV "SkiSchoolLaw" 166 m_X9_simulate 1 := ⟨⟨by decide, by decide, by decide +kernel⟩, (sk_in 1462 (by decide +kernel) (by decide +kernel)), (sk_in 1463 (by decide +kernel) (by decide +kernel)), (sk_in 1464 (by decide +kernel) (by decide +kernel)), (sk_in 93 (by decide +kernel) (by decide +kernel)), (sk_in 1465 (by decide +kernel) (by decide +kernel))⟩
theorem lv_L_167 : sk_lkV "SkiSchoolLaw" 167 m_X8_waited 1 := ⟨⟨by decide, by decide, by decide +kernel⟩, (sk_in 874 (by decide +kernel) (by decide +kernel)), (sk_in 875 (by decide +kernel) (by decide +kernel)), (sk_in 876 (by decide +kernel) (by decide +kernel)), (sk_in 84 (by decide +kernel) (by decide +kernel)), (sk_in 877 (by decide +kernel) (by decide +kernel))⟩
theorem lv_L_170 : sk_lkV "SkiSchoolLaw" 170 m_X9_waited 1 := ⟨⟨by decide, by decide, by decide +kernel⟩, (sk_in 1489 (by decide +kernel) (by decide +kernel)), (sk_in 1490 (by decide +kernel) (by decide +kernel)), (sk_in 1491 (by decide +kernel) (by decide +kernel)), (sk_in 93 (by decide +kernel) (by decide +kernel)), (sk_in 1492 (by decide +kernel) (by decide +kernel))⟩
theorem lv_L_171 : sk_lkV "SkiSchoolLaw" 171 m_X8_rides 1 := ⟨⟨by decide, by decide, by decide +kernel⟩, (sk_in 878 (by decide +kernel) (by decide +kernel)), (sk_in 879 (by decide +kernel) (by decide +kernel)), (sk_in 880 (by decide +kernel) (by decide +kernel)), (sk_in 84 (by decide +kernel) (by decide +kernel)), (sk_in 881 (by decide +kernel) (by decide +kernel))⟩
theorem lv_L_174 : sk_lkV "SkiSchoolLaw" 174 m_X9_rides 1 := ⟨⟨by decide, by decide, by decide +kernel⟩, (sk_in 1493 (by decide +kernel) (by decide +kernel)), (sk_in 1494 (by decide +kernel) (by decide +kernel)), (sk_in 1495 (by decide +kernel) (by decide +kernel)), (sk_in 93 (by decide +kernel) (by decide +kernel)), (sk_in 1496 (by decide +kernel) (by decide +kernel))⟩
theorem lv_L_175 : sk_lkV "SkiSchoolLaw" 175 m_X8_longestQueue 1 := ⟨⟨by decide, by decide, by decide +kernel⟩, (sk_in 882 (by decide +kernel) (by decide +kernel)), (sk_in 883 (by decide +kernel) (by decide +kernel)), (sk_in 884 (by decide +kernel) (by decide +kernel)), (sk_in 84 (by decide +kernel) (by decide +kernel)), (sk_in 885 (by decide +kernel) (by decide +kernel))⟩
theorem lv_L_178 : sk_lkV "SkiSchoolLaw" 178 m_X9_longestQueue 1 := ⟨⟨by decide, by decide, by decide +kernel⟩, (sk_in 1497 (by decide +kernel) (by decide +kernel)), (sk_in 1498 (by decide +kernel) (by decide +kernel)), (sk_in 1499 (by decide +kernel) (by decide +kernel)), (sk_in 93 (by decide +kernel) (by decide +kernel)), (sk_in 1500 (by decide +kernel) (by decide +kernel))⟩
theorem lv_L_179 : sk_lkV "SkiSchoolLaw" 179 m_X8_carried 1 := ⟨⟨by decide, by decide, by decide +kernel⟩, (sk_in 886 (by decide +kernel) (by decide +kernel)), (sk_in 887 (by decide +kernel) (by decide +kernel)), (sk_in 888 (by decide +kernel) (by decide +kernel)), (sk_in 84 (by decide +kernel) (by decide +kernel)), (sk_in 889 (by decide +kernel) (by decide +kernel))⟩
theorem lv_L_182 : sk_lkV "SkiSchoolLaw" 182 m_X9_carried 1 := ⟨⟨by decide, by decide, by decide +kernel⟩, (sk_in 1501 (by decide +kernel) (by decide +kernel)), (sk_in 1502 (by decide +kernel) (by decide +kernel)), (sk_in 1503 (by decide +kernel) (by decide +kernel)), (sk_in 93 (by decide +kernel) (by decide +kernel)), (sk_in 1504 (by decide +kernel) (by decide +kernel))⟩
theorem lv_L_183 : sk_lkV "SkiSchoolLaw" 183 m_X8_bestStart 2 := ⟨⟨by decide, by decide, by decide +kernel⟩, (sk_in 890 (by decide +kernel) (by decide +kernel)), (sk_in 891 (by decide +kernel) (by decide +kernel)), (sk_in 892 (by decide +kernel) (by decide +kernel)), (sk_in 84 (by decide +kernel) (by decide +kernel)), (sk_in 893 (by decide +kernel) (by decide +kernel))⟩
theorem lv_L_186 : sk_lkV "SkiSchoolLaw" 186 m_X9_bestStart 2 := ⟨⟨by decide, by decide, by decide +kernel⟩, (sk_in 1505 (by decide +kernel) (by decide +kernel)), (sk_in 1506 (by decide +kernel) (by decide +kernel)), (sk_in 1507 (by decide +kernel) (by decide +kernel)), (sk_in 93 (by decide +kernel) (by decide +kernel)), (sk_in 1508 (by decide +kernel) (by decide +kernel))⟩
theorem lv_L_187 : sk_lkV "SkiSchoolLaw" 187 m_X8_type 1 := ⟨⟨by decide, by decide, by decide +kernel⟩, (sk_in 894 (by decide +kernel) (by decide +kernel)), (sk_in 895 (by decide +kernel) (by decide +kernel)), (sk_in 896 (by decide +kernel) (by decide +kernel)), (sk_in 84 (by decide +kernel) (by decide +kernel)), (sk_in 897 (by decide +kernel) (by decide +kernel))⟩
theorem lv_L_190 : sk_lkV "SkiSchoolLaw" 190 m_X9_type 1 := ⟨⟨by decide, by decide, by decide +kernel⟩, (sk_in 1509 (by decide +kernel) (by decide +kernel)), (sk_in 1510 (by decide +kernel) (by decide +kernel)), (sk_in 1511 (by decide +kernel) (by decide +kernel)), (sk_in 93 (by decide +kernel) (by decide +kernel)), (sk_in 1512 (by decide +kernel) (by decide +kernel))⟩
theorem lv_L_191 : sk_lkV "SkiSchoolLaw" 191 m_X8_clearText 0 := ⟨⟨by decide, by decide, by decide +kernel⟩, (sk_in 898 (by decide +kernel) (by decide +kernel)), (sk_in 899 (by decide +kernel) (by decide +kernel)), (sk_in 900 (by decide +kernel) (by decide +kernel)), (sk_in 84 (by decide +kernel) (by decide +kernel)), (sk_in 901 (by decide +kernel) (by decide +kernel))⟩
theorem lv_L_194 : sk_lkV "SkiSchoolLaw" 194 m_X9_clearText 0 := ⟨⟨by decide, by decide, by decide +kernel⟩, (sk_in 1513 (by decide +kernel) (by decide +kernel)), (sk_in 1514 (by decide +kernel) (by decide +kernel)), (sk_in 1515 (by decide +kernel) (by decide +kernel)), (sk_in 93 (by decide +kernel) (by decide +kernel)), (sk_in 1516 (by decide +kernel) (by decide +kernel))⟩
theorem lv_L_195 : sk_lkV "SkiSchoolLaw" 195 m_X8_load 0 := ⟨⟨by decide, by decide, by decide +kernel⟩, (sk_in 902 (by decide +kernel) (by decide +kernel)), (sk_in 903 (by decide +kernel) (by decide +kernel)), (sk_in 904 (by decide +kernel) (by decide +kernel)), (sk_in 84 (by decide +kernel) (by decide +kernel)), (sk_in 905 (by decide +kernel) (by decide +kernel))⟩
theorem lv_L_198 : sk_lkV "SkiSchoolLaw" 198 m_X9_load 0 := ⟨⟨by decide, by decide, by decide +kernel⟩, (sk_in 1517 (by decide +kernel) (by decide +kernel)), (sk_in 1518 (by decide +kernel) (by decide +kernel)), (sk_in 1519 (by decide +kernel) (by decide +kernel)), (sk_in 93 (by decide +kernel) (by decide +kernel)), (sk_in 1520 (by decide +kernel) (by decide +kernel))⟩
theorem lv_L_199 : sk_lkV "SkiSchoolLaw" 199 m_X8_digest 0 := ⟨⟨by decide, by decide, by decide +kernel⟩, (sk_in 958 (by decide +kernel) (by decide +kernel)), (sk_in 959 (by decide +kernel) (by decide +kernel)), (sk_in 960 (by decide +kernel) (by decide +kernel)), (sk_in 84 (by decide +kernel) (by decide +kernel)), (sk_in 961 (by decide +kernel) (by decide +kernel))⟩
theorem lv_L_203 : sk_lkV "SkiSchoolLaw" 203 m_X9_digest 0 := ⟨⟨by decide, by decide, by decide +kernel⟩, (sk_in 1560 (by decide +kernel) (by decide +kernel)), (sk_in 1561 (by decide +kernel) (by decide +kernel)), (sk_in 1562 (by decide +kernel) (by decide +kernel)), (sk_in 93 (by decide +kernel) (by decide +kernel)), (sk_in 1563 (by decide +kernel) (by decide +kernel))⟩
set_option maxRecDepth 100000 in
set_option maxHeartbeats 4000000 in
theorem law_c0 {l : Launch} {nm : String} {L i : Nat} {xs : Nat → Int32} {d : sk_D} (hL : L ≤ 2560) (hi : i + 5 ≤ L) (hR : sk_R d) (kk : ∀ d2, sk_R d2 → sk_G l room_1 (m_law nm) (sk_ExL L xs) sk_ZL 171 56719 1417 [some (.inr (.inr (some (9999, 0)))), some (.inr (.inr (some (0, 0)))), some (.inr (.inr (some (44, 0)))), some (.inl (nI i))] [] (sk_mm d2)) : sk_G l room_1 (m_law nm) (sk_ExL L xs) sk_ZL 171 56719 232 [some (.inr (.inr (some (9999, 0)))), some (.inr (.inr (some (0, 0)))), some (.inr (.inr (some (44, 0)))), some (.inl (nI i))] [] (sk_mm d) := by
  obtain ⟨a, d1, d2, hq1, hq2, hR2⟩ := pz_addPupil hR (xs (i + 1)) (xs (i + 2)) (xs (i + 3))
  refine sg_aload_n 233 (sk_td o_law0 22 rfl) rfl rfl ?_
  refine sg_aload_n 234 (sk_td o_law0 23 rfl) rfl rfl ?_
  refine sg_iload_n 235 (sk_td o_law0 24 rfl) rfl rfl ?_
  refine sg_iconst (v := (1 : Int32)) 236 (sk_td o_law0 25 rfl) rfl (by decide) ?_
  refine sg_iadd 237 (sk_td o_law0 26 rfl) rfl ?_
  refine sg_sld (n := i + 1) 238 (sk_td o_law0 27 rfl) rfl (nI_add i 1) (by omega) hL ?_
  refine sg_aload_n 239 (sk_td o_law0 28 rfl) rfl rfl ?_
  refine sg_iload_n 240 (sk_td o_law0 29 rfl) rfl rfl ?_
  refine sg_iconst (v := (2 : Int32)) 241 (sk_td o_law0 30 rfl) rfl (by decide) ?_
  refine sg_iadd 242 (sk_td o_law0 31 rfl) rfl ?_
  refine sg_sld (n := i + 2) 243 (sk_td o_law0 32 rfl) rfl (nI_add i 2) (by omega) hL ?_
  refine sg_aload_n 244 (sk_td o_law0 33 rfl) rfl rfl ?_
  refine sg_iload_n 245 (sk_td o_law0 34 rfl) rfl rfl ?_
  refine sg_iconst (v := (3 : Int32)) 246 (sk_td o_law0 35 rfl) rfl (by decide) ?_
  refine sg_iadd 247 (sk_td o_law0 36 rfl) rfl ?_
  refine sg_sld (n := i + 3) 248 (sk_td o_law0 37 rfl) rfl (nI_add i 3) (by omega) hL ?_
  refine sm_callL3i 251 (s_X8_addPupil hq1) (sk_td o_law0 38 rfl) rfl lv_L_13 rfl rfl rfl sz_0 ⟨Nat.le_of_ble_eq_true rfl, Nat.le_of_ble_eq_true rfl, Nat.le_of_ble_eq_true rfl, Nat.le_of_ble_eq_true rfl⟩ (Nat.le_of_ble_eq_true rfl) ?_
  refine sg_aload_n 252 (sk_td o_law0 39 rfl) rfl rfl ?_
  refine sg_aload_n 253 (sk_td o_law0 40 rfl) rfl rfl ?_
  refine sg_iload_n 254 (sk_td o_law0 41 rfl) rfl rfl ?_
  refine sg_iconst (v := (1 : Int32)) 255 (sk_td o_law0 42 rfl) rfl (by decide) ?_
  refine sg_iadd 256 (sk_td o_law0 43 rfl) rfl ?_
  refine sg_sld (n := i + 1) 257 (sk_td o_law0 44 rfl) rfl (nI_add i 1) (by omega) hL ?_
  refine sg_aload_n 258 (sk_td o_law0 45 rfl) rfl rfl ?_
  refine sg_iload_n 259 (sk_td o_law0 46 rfl) rfl rfl ?_
  refine sg_iconst (v := (2 : Int32)) 260 (sk_td o_law0 47 rfl) rfl (by decide) ?_
  refine sg_iadd 261 (sk_td o_law0 48 rfl) rfl ?_
  refine sg_sld (n := i + 2) 262 (sk_td o_law0 49 rfl) rfl (nI_add i 2) (by omega) hL ?_
  refine sg_aload_n 263 (sk_td o_law0 50 rfl) rfl rfl ?_
  refine sg_iload_n 264 (sk_td o_law0 51 rfl) rfl rfl ?_
  refine sg_iconst (v := (3 : Int32)) 265 (sk_td o_law0 52 rfl) rfl (by decide) ?_
  refine sg_iadd 266 (sk_td o_law0 53 rfl) rfl ?_
  refine sg_sld (n := i + 3) 267 (sk_td o_law0 54 rfl) rfl (nI_add i 3) (by omega) hL ?_
  refine sm_callL3i 270 (s_X9_addPupil hq2) (sk_td o_law0 55 rfl) rfl lv_L_17 rfl rfl rfl sz_44 ⟨Nat.le_of_ble_eq_true rfl, Nat.le_of_ble_eq_true rfl, Nat.le_of_ble_eq_true rfl, Nat.le_of_ble_eq_true rfl⟩ (Nat.le_of_ble_eq_true rfl) ?_
  refine sg_ic_eq 1417 273 (sk_td o_law0 56 rfl) (by decide) rfl (fun _ => ?_) (fun hc => absurd rfl hc) ?_
  exact kk _ hR2
set_option maxRecDepth 100000 in
set_option maxHeartbeats 4000000 in
theorem law_c1 {l : Launch} {nm : String} {L i : Nat} {xs : Nat → Int32} {d : sk_D} (hL : L ≤ 2560) (hi : i + 5 ≤ L) (hR : sk_R d) (kk : ∀ d2, sk_R d2 → sk_G l room_1 (m_law nm) (sk_ExL L xs) sk_ZL 171 56719 1417 [some (.inr (.inr (some (9999, 0)))), some (.inr (.inr (some (0, 0)))), some (.inr (.inr (some (44, 0)))), some (.inl (nI i))] [] (sk_mm d2)) : sk_G l room_1 (m_law nm) (sk_ExL L xs) sk_ZL 171 56719 275 [some (.inr (.inr (some (9999, 0)))), some (.inr (.inr (some (0, 0)))), some (.inr (.inr (some (44, 0)))), some (.inl (nI i))] [] (sk_mm d) := by
  obtain ⟨a, d1, d2, hq1, hq2, hR2⟩ := pz_removePupil hR (xs (i + 1))
  refine sg_aload_n 276 (sk_td o_law0 59 rfl) rfl rfl ?_
  refine sg_aload_n 277 (sk_td o_law1 0 rfl) rfl rfl ?_
  refine sg_iload_n 278 (sk_td o_law1 1 rfl) rfl rfl ?_
  refine sg_iconst (v := (1 : Int32)) 279 (sk_td o_law1 2 rfl) rfl (by decide) ?_
  refine sg_iadd 280 (sk_td o_law1 3 rfl) rfl ?_
  refine sg_sld (n := i + 1) 281 (sk_td o_law1 4 rfl) rfl (nI_add i 1) (by omega) hL ?_
  refine sm_callL1i 284 (s_X8_removePupil hq1) (sk_td o_law1 5 rfl) rfl lv_L_18 rfl rfl rfl sz_0 ⟨Nat.le_of_ble_eq_true rfl, Nat.le_of_ble_eq_true rfl, Nat.le_of_ble_eq_true rfl, Nat.le_of_ble_eq_true rfl⟩ (Nat.le_of_ble_eq_true rfl) ?_
  refine sg_aload_n 285 (sk_td o_law1 6 rfl) rfl rfl ?_
  refine sg_aload_n 286 (sk_td o_law1 7 rfl) rfl rfl ?_
  refine sg_iload_n 287 (sk_td o_law1 8 rfl) rfl rfl ?_
  refine sg_iconst (v := (1 : Int32)) 288 (sk_td o_law1 9 rfl) rfl (by decide) ?_
  refine sg_iadd 289 (sk_td o_law1 10 rfl) rfl ?_
  refine sg_sld (n := i + 1) 290 (sk_td o_law1 11 rfl) rfl (nI_add i 1) (by omega) hL ?_
  refine sm_callL1i 293 (s_X9_removePupil hq2) (sk_td o_law1 12 rfl) rfl lv_L_22 rfl rfl rfl sz_44 ⟨Nat.le_of_ble_eq_true rfl, Nat.le_of_ble_eq_true rfl, Nat.le_of_ble_eq_true rfl, Nat.le_of_ble_eq_true rfl⟩ (Nat.le_of_ble_eq_true rfl) ?_
  refine sg_ic_eq 1417 296 (sk_td o_law1 13 rfl) (by decide) rfl (fun _ => ?_) (fun hc => absurd rfl hc) ?_
  exact kk _ hR2
set_option maxRecDepth 100000 in
set_option maxHeartbeats 4000000 in
theorem law_c2 {l : Launch} {nm : String} {L i : Nat} {xs : Nat → Int32} {d : sk_D} (hL : L ≤ 2560) (hi : i + 5 ≤ L) (hR : sk_R d) (kk : ∀ d2, sk_R d2 → sk_G l room_1 (m_law nm) (sk_ExL L xs) sk_ZL 171 56719 1417 [some (.inr (.inr (some (9999, 0)))), some (.inr (.inr (some (0, 0)))), some (.inr (.inr (some (44, 0)))), some (.inl (nI i))] [] (sk_mm d2)) : sk_G l room_1 (m_law nm) (sk_ExL L xs) sk_ZL 171 56719 298 [some (.inr (.inr (some (9999, 0)))), some (.inr (.inr (some (0, 0)))), some (.inr (.inr (some (44, 0)))), some (.inl (nI i))] [] (sk_mm d) := by
  obtain ⟨a, hq1, hq2⟩ := pz_pupils hR
  refine sg_aload_n 299 (sk_td o_law1 16 rfl) rfl rfl ?_
  refine sm_callL0i 302 (s_X8_pupils hq1) (sk_td o_law1 17 rfl) rfl lv_L_23 rfl rfl rfl sz_0 ⟨Nat.le_of_ble_eq_true rfl, Nat.le_of_ble_eq_true rfl, Nat.le_of_ble_eq_true rfl, Nat.le_of_ble_eq_true rfl⟩ (Nat.le_of_ble_eq_true rfl) ?_
  refine sg_aload_n 303 (sk_td o_law1 18 rfl) rfl rfl ?_
  refine sm_callL0i 306 (s_X9_pupils hq2) (sk_td o_law1 19 rfl) rfl lv_L_27 rfl rfl rfl sz_44 ⟨Nat.le_of_ble_eq_true rfl, Nat.le_of_ble_eq_true rfl, Nat.le_of_ble_eq_true rfl, Nat.le_of_ble_eq_true rfl⟩ (Nat.le_of_ble_eq_true rfl) ?_
  refine sg_ic_eq 1417 309 (sk_td o_law1 20 rfl) (by decide) rfl (fun _ => ?_) (fun hc => absurd rfl hc) ?_
  exact kk _ hR
set_option maxRecDepth 100000 in
set_option maxHeartbeats 4000000 in
theorem law_c3 {l : Launch} {nm : String} {L i : Nat} {xs : Nat → Int32} {d : sk_D} (hL : L ≤ 2560) (hi : i + 5 ≤ L) (hR : sk_R d) (kk : ∀ d2, sk_R d2 → sk_G l room_1 (m_law nm) (sk_ExL L xs) sk_ZL 171 56719 1417 [some (.inr (.inr (some (9999, 0)))), some (.inr (.inr (some (0, 0)))), some (.inr (.inr (some (44, 0)))), some (.inl (nI i))] [] (sk_mm d2)) : sk_G l room_1 (m_law nm) (sk_ExL L xs) sk_ZL 171 56719 311 [some (.inr (.inr (some (9999, 0)))), some (.inr (.inr (some (0, 0)))), some (.inr (.inr (some (44, 0)))), some (.inl (nI i))] [] (sk_mm d) := by
  obtain ⟨a, hq1, hq2⟩ := pz_level hR (xs (i + 1))
  refine sg_aload_n 312 (sk_td o_law1 23 rfl) rfl rfl ?_
  refine sg_aload_n 313 (sk_td o_law1 24 rfl) rfl rfl ?_
  refine sg_iload_n 314 (sk_td o_law1 25 rfl) rfl rfl ?_
  refine sg_iconst (v := (1 : Int32)) 315 (sk_td o_law1 26 rfl) rfl (by decide) ?_
  refine sg_iadd 316 (sk_td o_law1 27 rfl) rfl ?_
  refine sg_sld (n := i + 1) 317 (sk_td o_law1 28 rfl) rfl (nI_add i 1) (by omega) hL ?_
  refine sm_callL1i 320 (s_X8_level hq1) (sk_td o_law1 29 rfl) rfl lv_L_28 rfl rfl rfl sz_0 ⟨Nat.le_of_ble_eq_true rfl, Nat.le_of_ble_eq_true rfl, Nat.le_of_ble_eq_true rfl, Nat.le_of_ble_eq_true rfl⟩ (Nat.le_of_ble_eq_true rfl) ?_
  refine sg_aload_n 321 (sk_td o_law1 30 rfl) rfl rfl ?_
  refine sg_aload_n 322 (sk_td o_law1 31 rfl) rfl rfl ?_
  refine sg_iload_n 323 (sk_td o_law1 32 rfl) rfl rfl ?_
  refine sg_iconst (v := (1 : Int32)) 324 (sk_td o_law1 33 rfl) rfl (by decide) ?_
  refine sg_iadd 325 (sk_td o_law1 34 rfl) rfl ?_
  refine sg_sld (n := i + 1) 326 (sk_td o_law1 35 rfl) rfl (nI_add i 1) (by omega) hL ?_
  refine sm_callL1i 329 (s_X9_level hq2) (sk_td o_law1 36 rfl) rfl lv_L_31 rfl rfl rfl sz_44 ⟨Nat.le_of_ble_eq_true rfl, Nat.le_of_ble_eq_true rfl, Nat.le_of_ble_eq_true rfl, Nat.le_of_ble_eq_true rfl⟩ (Nat.le_of_ble_eq_true rfl) ?_
  refine sg_ic_eq 1417 332 (sk_td o_law1 37 rfl) (by decide) rfl (fun _ => ?_) (fun hc => absurd rfl hc) ?_
  exact kk _ hR
set_option maxRecDepth 100000 in
set_option maxHeartbeats 4000000 in
theorem law_c4 {l : Launch} {nm : String} {L i : Nat} {xs : Nat → Int32} {d : sk_D} (hL : L ≤ 2560) (hi : i + 5 ≤ L) (hR : sk_R d) (kk : ∀ d2, sk_R d2 → sk_G l room_1 (m_law nm) (sk_ExL L xs) sk_ZL 171 56719 1417 [some (.inr (.inr (some (9999, 0)))), some (.inr (.inr (some (0, 0)))), some (.inr (.inr (some (44, 0)))), some (.inl (nI i))] [] (sk_mm d2)) : sk_G l room_1 (m_law nm) (sk_ExL L xs) sk_ZL 171 56719 334 [some (.inr (.inr (some (9999, 0)))), some (.inr (.inr (some (0, 0)))), some (.inr (.inr (some (44, 0)))), some (.inl (nI i))] [] (sk_mm d) := by
  obtain ⟨a, hq1, hq2⟩ := pz_languages hR (xs (i + 1))
  refine sg_aload_n 335 (sk_td o_law1 40 rfl) rfl rfl ?_
  refine sg_aload_n 336 (sk_td o_law1 41 rfl) rfl rfl ?_
  refine sg_iload_n 337 (sk_td o_law1 42 rfl) rfl rfl ?_
  refine sg_iconst (v := (1 : Int32)) 338 (sk_td o_law1 43 rfl) rfl (by decide) ?_
  refine sg_iadd 339 (sk_td o_law1 44 rfl) rfl ?_
  refine sg_sld (n := i + 1) 340 (sk_td o_law1 45 rfl) rfl (nI_add i 1) (by omega) hL ?_
  refine sm_callL1i 343 (s_X8_languages hq1) (sk_td o_law1 46 rfl) rfl lv_L_32 rfl rfl rfl sz_0 ⟨Nat.le_of_ble_eq_true rfl, Nat.le_of_ble_eq_true rfl, Nat.le_of_ble_eq_true rfl, Nat.le_of_ble_eq_true rfl⟩ (Nat.le_of_ble_eq_true rfl) ?_
  refine sg_aload_n 344 (sk_td o_law1 47 rfl) rfl rfl ?_
  refine sg_aload_n 345 (sk_td o_law1 48 rfl) rfl rfl ?_
  refine sg_iload_n 346 (sk_td o_law1 49 rfl) rfl rfl ?_
  refine sg_iconst (v := (1 : Int32)) 347 (sk_td o_law1 50 rfl) rfl (by decide) ?_
  refine sg_iadd 348 (sk_td o_law1 51 rfl) rfl ?_
  refine sg_sld (n := i + 1) 349 (sk_td o_law1 52 rfl) rfl (nI_add i 1) (by omega) hL ?_
  refine sm_callL1i 352 (s_X9_languages hq2) (sk_td o_law1 53 rfl) rfl lv_L_35 rfl rfl rfl sz_44 ⟨Nat.le_of_ble_eq_true rfl, Nat.le_of_ble_eq_true rfl, Nat.le_of_ble_eq_true rfl, Nat.le_of_ble_eq_true rfl⟩ (Nat.le_of_ble_eq_true rfl) ?_
  refine sg_ic_eq 1417 355 (sk_td o_law1 54 rfl) (by decide) rfl (fun _ => ?_) (fun hc => absurd rfl hc) ?_
  exact kk _ hR
set_option maxRecDepth 100000 in
set_option maxHeartbeats 4000000 in
theorem law_c5 {l : Launch} {nm : String} {L i : Nat} {xs : Nat → Int32} {d : sk_D} (hL : L ≤ 2560) (hi : i + 5 ≤ L) (hR : sk_R d) (kk : ∀ d2, sk_R d2 → sk_G l room_1 (m_law nm) (sk_ExL L xs) sk_ZL 171 56719 1417 [some (.inr (.inr (some (9999, 0)))), some (.inr (.inr (some (0, 0)))), some (.inr (.inr (some (44, 0)))), some (.inl (nI i))] [] (sk_mm d2)) : sk_G l room_1 (m_law nm) (sk_ExL L xs) sk_ZL 171 56719 357 [some (.inr (.inr (some (9999, 0)))), some (.inr (.inr (some (0, 0)))), some (.inr (.inr (some (44, 0)))), some (.inl (nI i))] [] (sk_mm d) := by
  obtain ⟨a, hq1, hq2⟩ := pz_family hR (xs (i + 1))
  refine sg_aload_n 358 (sk_td o_law1 57 rfl) rfl rfl ?_
  refine sg_aload_n 359 (sk_td o_law1 58 rfl) rfl rfl ?_
  refine sg_iload_n 360 (sk_td o_law1 59 rfl) rfl rfl ?_
  refine sg_iconst (v := (1 : Int32)) 361 (sk_td o_law2 0 rfl) rfl (by decide) ?_
  refine sg_iadd 362 (sk_td o_law2 1 rfl) rfl ?_
  refine sg_sld (n := i + 1) 363 (sk_td o_law2 2 rfl) rfl (nI_add i 1) (by omega) hL ?_
  refine sm_callL1i 366 (s_X8_family hq1) (sk_td o_law2 3 rfl) rfl lv_L_36 rfl rfl rfl sz_0 ⟨Nat.le_of_ble_eq_true rfl, Nat.le_of_ble_eq_true rfl, Nat.le_of_ble_eq_true rfl, Nat.le_of_ble_eq_true rfl⟩ (Nat.le_of_ble_eq_true rfl) ?_
  refine sg_aload_n 367 (sk_td o_law2 4 rfl) rfl rfl ?_
  refine sg_aload_n 368 (sk_td o_law2 5 rfl) rfl rfl ?_
  refine sg_iload_n 369 (sk_td o_law2 6 rfl) rfl rfl ?_
  refine sg_iconst (v := (1 : Int32)) 370 (sk_td o_law2 7 rfl) rfl (by decide) ?_
  refine sg_iadd 371 (sk_td o_law2 8 rfl) rfl ?_
  refine sg_sld (n := i + 1) 372 (sk_td o_law2 9 rfl) rfl (nI_add i 1) (by omega) hL ?_
  refine sm_callL1i 375 (s_X9_family hq2) (sk_td o_law2 10 rfl) rfl lv_L_39 rfl rfl rfl sz_44 ⟨Nat.le_of_ble_eq_true rfl, Nat.le_of_ble_eq_true rfl, Nat.le_of_ble_eq_true rfl, Nat.le_of_ble_eq_true rfl⟩ (Nat.le_of_ble_eq_true rfl) ?_
  refine sg_ic_eq 1417 378 (sk_td o_law2 11 rfl) (by decide) rfl (fun _ => ?_) (fun hc => absurd rfl hc) ?_
  exact kk _ hR
set_option maxRecDepth 100000 in
set_option maxHeartbeats 4000000 in
theorem law_c6 {l : Launch} {nm : String} {L i : Nat} {xs : Nat → Int32} {d : sk_D} (hL : L ≤ 2560) (hi : i + 5 ≤ L) (hR : sk_R d) (kk : ∀ d2, sk_R d2 → sk_G l room_1 (m_law nm) (sk_ExL L xs) sk_ZL 171 56719 1417 [some (.inr (.inr (some (9999, 0)))), some (.inr (.inr (some (0, 0)))), some (.inr (.inr (some (44, 0)))), some (.inl (nI i))] [] (sk_mm d2)) : sk_G l room_1 (m_law nm) (sk_ExL L xs) sk_ZL 171 56719 380 [some (.inr (.inr (some (9999, 0)))), some (.inr (.inr (some (0, 0)))), some (.inr (.inr (some (44, 0)))), some (.inl (nI i))] [] (sk_mm d) := by
  obtain ⟨a, hq1, hq2⟩ := pz_group hR (xs (i + 1))
  refine sg_aload_n 381 (sk_td o_law2 14 rfl) rfl rfl ?_
  refine sg_aload_n 382 (sk_td o_law2 15 rfl) rfl rfl ?_
  refine sg_iload_n 383 (sk_td o_law2 16 rfl) rfl rfl ?_
  refine sg_iconst (v := (1 : Int32)) 384 (sk_td o_law2 17 rfl) rfl (by decide) ?_
  refine sg_iadd 385 (sk_td o_law2 18 rfl) rfl ?_
  refine sg_sld (n := i + 1) 386 (sk_td o_law2 19 rfl) rfl (nI_add i 1) (by omega) hL ?_
  refine sm_callL1i 389 (s_X8_group hq1) (sk_td o_law2 20 rfl) rfl lv_L_40 rfl rfl rfl sz_0 ⟨Nat.le_of_ble_eq_true rfl, Nat.le_of_ble_eq_true rfl, Nat.le_of_ble_eq_true rfl, Nat.le_of_ble_eq_true rfl⟩ (Nat.le_of_ble_eq_true rfl) ?_
  refine sg_aload_n 390 (sk_td o_law2 21 rfl) rfl rfl ?_
  refine sg_aload_n 391 (sk_td o_law2 22 rfl) rfl rfl ?_
  refine sg_iload_n 392 (sk_td o_law2 23 rfl) rfl rfl ?_
  refine sg_iconst (v := (1 : Int32)) 393 (sk_td o_law2 24 rfl) rfl (by decide) ?_
  refine sg_iadd 394 (sk_td o_law2 25 rfl) rfl ?_
  refine sg_sld (n := i + 1) 395 (sk_td o_law2 26 rfl) rfl (nI_add i 1) (by omega) hL ?_
  refine sm_callL1i 398 (s_X9_group hq2) (sk_td o_law2 27 rfl) rfl lv_L_43 rfl rfl rfl sz_44 ⟨Nat.le_of_ble_eq_true rfl, Nat.le_of_ble_eq_true rfl, Nat.le_of_ble_eq_true rfl, Nat.le_of_ble_eq_true rfl⟩ (Nat.le_of_ble_eq_true rfl) ?_
  refine sg_ic_eq 1417 401 (sk_td o_law2 28 rfl) (by decide) rfl (fun _ => ?_) (fun hc => absurd rfl hc) ?_
  exact kk _ hR
set_option maxRecDepth 100000 in
set_option maxHeartbeats 4000000 in
theorem law_c7 {l : Launch} {nm : String} {L i : Nat} {xs : Nat → Int32} {d : sk_D} (hL : L ≤ 2560) (hi : i + 5 ≤ L) (hR : sk_R d) (kk : ∀ d2, sk_R d2 → sk_G l room_1 (m_law nm) (sk_ExL L xs) sk_ZL 171 56719 1417 [some (.inr (.inr (some (9999, 0)))), some (.inr (.inr (some (0, 0)))), some (.inr (.inr (some (44, 0)))), some (.inl (nI i))] [] (sk_mm d2)) : sk_G l room_1 (m_law nm) (sk_ExL L xs) sk_ZL 171 56719 403 [some (.inr (.inr (some (9999, 0)))), some (.inr (.inr (some (0, 0)))), some (.inr (.inr (some (44, 0)))), some (.inl (nI i))] [] (sk_mm d) := by
  obtain ⟨a, d1, d2, hq1, hq2, hR2⟩ := pz_setTogether hR (xs (i + 1)) (if (xs (i + 2)) = 0 then (0 : Int32) else 1) (by split; exact .inl rfl; exact .inr rfl)
  refine sg_aload_n 404 (sk_td o_law2 31 rfl) rfl rfl ?_
  refine sg_aload_n 405 (sk_td o_law2 32 rfl) rfl rfl ?_
  refine sg_iload_n 406 (sk_td o_law2 33 rfl) rfl rfl ?_
  refine sg_iconst (v := (1 : Int32)) 407 (sk_td o_law2 34 rfl) rfl (by decide) ?_
  refine sg_iadd 408 (sk_td o_law2 35 rfl) rfl ?_
  refine sg_sld (n := i + 1) 409 (sk_td o_law2 36 rfl) rfl (nI_add i 1) (by omega) hL ?_
  refine sg_aload_n 410 (sk_td o_law2 37 rfl) rfl rfl ?_
  refine sg_iload_n 411 (sk_td o_law2 38 rfl) rfl rfl ?_
  refine sg_iconst (v := (2 : Int32)) 412 (sk_td o_law2 39 rfl) rfl (by decide) ?_
  refine sg_iadd 413 (sk_td o_law2 40 rfl) rfl ?_
  refine sg_sld (n := i + 2) 414 (sk_td o_law2 41 rfl) rfl (nI_add i 2) (by omega) hL ?_
  have hbz414 : ∀ y : Int32, y = (if (xs (i + 2)) = 0 then 0 else 1) → sk_G l room_1 (m_law nm) (sk_ExL L xs) sk_ZL 171 56719 422 [some (.inr (.inr (some (9999, 0)))), some (.inr (.inr (some (0, 0)))), some (.inr (.inr (some (44, 0)))), some (.inl (nI i))] (.inl y :: .inl (xs (i + 1)) :: .inr (.inr (some (0, 0))) :: []) (sk_mm d) → sk_G l room_1 (m_law nm) (sk_ExL L xs) sk_ZL 171 56719 414 [some (.inr (.inr (some (9999, 0)))), some (.inr (.inr (some (0, 0)))), some (.inr (.inr (some (44, 0)))), some (.inl (nI i))] (.inl (xs (i + 2)) :: .inl (xs (i + 1)) :: .inr (.inr (some (0, 0))) :: []) (sk_mm d) := by
    intro y hy kk2
    refine sg_if_eq 421 417 (sk_td o_law2 42 rfl) (by decide) rfl (fun hc => ?_) (fun hc => ?_)
    · rw [if_pos hc] at hy
      subst hy
      exact sg_iconst (v := (0 : Int32)) 422 (sk_td o_law2 45 rfl) rfl (by decide) kk2
    · rw [if_neg hc] at hy
      subst hy
      exact sg_iconst (v := (1 : Int32)) 418 (sk_td o_law2 43 rfl) rfl (by decide) (sg_goto 422 (sk_td o_law2 44 rfl) (by decide) kk2)
  refine hbz414 _ rfl ?_
  refine sm_callL2i 425 (s_X8_setTogether hq1) (sk_td o_law2 46 rfl) rfl lv_L_44 rfl rfl rfl sz_0 ⟨Nat.le_of_ble_eq_true rfl, Nat.le_of_ble_eq_true rfl, Nat.le_of_ble_eq_true rfl, Nat.le_of_ble_eq_true rfl⟩ (Nat.le_of_ble_eq_true rfl) ?_
  refine sg_aload_n 426 (sk_td o_law2 47 rfl) rfl rfl ?_
  refine sg_aload_n 427 (sk_td o_law2 48 rfl) rfl rfl ?_
  refine sg_iload_n 428 (sk_td o_law2 49 rfl) rfl rfl ?_
  refine sg_iconst (v := (1 : Int32)) 429 (sk_td o_law2 50 rfl) rfl (by decide) ?_
  refine sg_iadd 430 (sk_td o_law2 51 rfl) rfl ?_
  refine sg_sld (n := i + 1) 431 (sk_td o_law2 52 rfl) rfl (nI_add i 1) (by omega) hL ?_
  refine sg_aload_n 432 (sk_td o_law2 53 rfl) rfl rfl ?_
  refine sg_iload_n 433 (sk_td o_law2 54 rfl) rfl rfl ?_
  refine sg_iconst (v := (2 : Int32)) 434 (sk_td o_law2 55 rfl) rfl (by decide) ?_
  refine sg_iadd 435 (sk_td o_law2 56 rfl) rfl ?_
  refine sg_sld (n := i + 2) 436 (sk_td o_law2 57 rfl) rfl (nI_add i 2) (by omega) hL ?_
  have hbz436 : ∀ y : Int32, y = (if (xs (i + 2)) = 0 then 0 else 1) → sk_G l room_1 (m_law nm) (sk_ExL L xs) sk_ZL 171 56719 444 [some (.inr (.inr (some (9999, 0)))), some (.inr (.inr (some (0, 0)))), some (.inr (.inr (some (44, 0)))), some (.inl (nI i))] (.inl y :: .inl (xs (i + 1)) :: .inr (.inr (some (44, 0))) :: .inl a :: []) (sk_mm d1) → sk_G l room_1 (m_law nm) (sk_ExL L xs) sk_ZL 171 56719 436 [some (.inr (.inr (some (9999, 0)))), some (.inr (.inr (some (0, 0)))), some (.inr (.inr (some (44, 0)))), some (.inl (nI i))] (.inl (xs (i + 2)) :: .inl (xs (i + 1)) :: .inr (.inr (some (44, 0))) :: .inl a :: []) (sk_mm d1) := by
    intro y hy kk2
    refine sg_if_eq 443 439 (sk_td o_law2 58 rfl) (by decide) rfl (fun hc => ?_) (fun hc => ?_)
    · rw [if_pos hc] at hy
      subst hy
      exact sg_iconst (v := (0 : Int32)) 444 (sk_td o_law3 1 rfl) rfl (by decide) kk2
    · rw [if_neg hc] at hy
      subst hy
      exact sg_iconst (v := (1 : Int32)) 440 (sk_td o_law2 59 rfl) rfl (by decide) (sg_goto 444 (sk_td o_law3 0 rfl) (by decide) kk2)
  refine hbz436 _ rfl ?_
  refine sm_callL2i 447 (s_X9_setTogether hq2) (sk_td o_law3 2 rfl) rfl lv_L_48 rfl rfl rfl sz_44 ⟨Nat.le_of_ble_eq_true rfl, Nat.le_of_ble_eq_true rfl, Nat.le_of_ble_eq_true rfl, Nat.le_of_ble_eq_true rfl⟩ (Nat.le_of_ble_eq_true rfl) ?_
  refine sg_ic_eq 1417 450 (sk_td o_law3 3 rfl) (by decide) rfl (fun _ => ?_) (fun hc => absurd rfl hc) ?_
  exact kk _ hR2
set_option maxRecDepth 100000 in
set_option maxHeartbeats 4000000 in
theorem law_c8 {l : Launch} {nm : String} {L i : Nat} {xs : Nat → Int32} {d : sk_D} (hL : L ≤ 2560) (hi : i + 5 ≤ L) (hR : sk_R d) (kk : ∀ d2, sk_R d2 → sk_G l room_1 (m_law nm) (sk_ExL L xs) sk_ZL 171 56719 1417 [some (.inr (.inr (some (9999, 0)))), some (.inr (.inr (some (0, 0)))), some (.inr (.inr (some (44, 0)))), some (.inl (nI i))] [] (sk_mm d2)) : sk_G l room_1 (m_law nm) (sk_ExL L xs) sk_ZL 171 56719 452 [some (.inr (.inr (some (9999, 0)))), some (.inr (.inr (some (0, 0)))), some (.inr (.inr (some (44, 0)))), some (.inl (nI i))] [] (sk_mm d) := by
  obtain ⟨a, hq1, hq2⟩ := pz_spread hR (xs (i + 1))
  refine sg_aload_n 453 (sk_td o_law3 6 rfl) rfl rfl ?_
  refine sg_aload_n 454 (sk_td o_law3 7 rfl) rfl rfl ?_
  refine sg_iload_n 455 (sk_td o_law3 8 rfl) rfl rfl ?_
  refine sg_iconst (v := (1 : Int32)) 456 (sk_td o_law3 9 rfl) rfl (by decide) ?_
  refine sg_iadd 457 (sk_td o_law3 10 rfl) rfl ?_
  refine sg_sld (n := i + 1) 458 (sk_td o_law3 11 rfl) rfl (nI_add i 1) (by omega) hL ?_
  refine sm_callL1i 461 (s_X8_spread hq1) (sk_td o_law3 12 rfl) rfl lv_L_49 rfl rfl rfl sz_0 ⟨Nat.le_of_ble_eq_true rfl, Nat.le_of_ble_eq_true rfl, Nat.le_of_ble_eq_true rfl, Nat.le_of_ble_eq_true rfl⟩ (Nat.le_of_ble_eq_true rfl) ?_
  refine sg_aload_n 462 (sk_td o_law3 13 rfl) rfl rfl ?_
  refine sg_aload_n 463 (sk_td o_law3 14 rfl) rfl rfl ?_
  refine sg_iload_n 464 (sk_td o_law3 15 rfl) rfl rfl ?_
  refine sg_iconst (v := (1 : Int32)) 465 (sk_td o_law3 16 rfl) rfl (by decide) ?_
  refine sg_iadd 466 (sk_td o_law3 17 rfl) rfl ?_
  refine sg_sld (n := i + 1) 467 (sk_td o_law3 18 rfl) rfl (nI_add i 1) (by omega) hL ?_
  refine sm_callL1i 470 (s_X9_spread hq2) (sk_td o_law3 19 rfl) rfl lv_L_52 rfl rfl rfl sz_44 ⟨Nat.le_of_ble_eq_true rfl, Nat.le_of_ble_eq_true rfl, Nat.le_of_ble_eq_true rfl, Nat.le_of_ble_eq_true rfl⟩ (Nat.le_of_ble_eq_true rfl) ?_
  refine sg_ic_eq 1417 473 (sk_td o_law3 20 rfl) (by decide) rfl (fun _ => ?_) (fun hc => absurd rfl hc) ?_
  exact kk _ hR
set_option maxRecDepth 100000 in
set_option maxHeartbeats 4000000 in
theorem law_c9 {l : Launch} {nm : String} {L i : Nat} {xs : Nat → Int32} {d : sk_D} (hL : L ≤ 2560) (hi : i + 5 ≤ L) (hR : sk_R d) (kk : ∀ d2, sk_R d2 → sk_G l room_1 (m_law nm) (sk_ExL L xs) sk_ZL 171 56719 1417 [some (.inr (.inr (some (9999, 0)))), some (.inr (.inr (some (0, 0)))), some (.inr (.inr (some (44, 0)))), some (.inl (nI i))] [] (sk_mm d2)) : sk_G l room_1 (m_law nm) (sk_ExL L xs) sk_ZL 171 56719 475 [some (.inr (.inr (some (9999, 0)))), some (.inr (.inr (some (0, 0)))), some (.inr (.inr (some (44, 0)))), some (.inl (nI i))] [] (sk_mm d) := by
  obtain ⟨a, d1, d2, hq1, hq2, hR2⟩ := pz_score hR (xs (i + 1)) (xs (i + 2)) (xs (i + 3))
  refine sg_aload_n 476 (sk_td o_law3 23 rfl) rfl rfl ?_
  refine sg_aload_n 477 (sk_td o_law3 24 rfl) rfl rfl ?_
  refine sg_iload_n 478 (sk_td o_law3 25 rfl) rfl rfl ?_
  refine sg_iconst (v := (1 : Int32)) 479 (sk_td o_law3 26 rfl) rfl (by decide) ?_
  refine sg_iadd 480 (sk_td o_law3 27 rfl) rfl ?_
  refine sg_sld (n := i + 1) 481 (sk_td o_law3 28 rfl) rfl (nI_add i 1) (by omega) hL ?_
  refine sg_aload_n 482 (sk_td o_law3 29 rfl) rfl rfl ?_
  refine sg_iload_n 483 (sk_td o_law3 30 rfl) rfl rfl ?_
  refine sg_iconst (v := (2 : Int32)) 484 (sk_td o_law3 31 rfl) rfl (by decide) ?_
  refine sg_iadd 485 (sk_td o_law3 32 rfl) rfl ?_
  refine sg_sld (n := i + 2) 486 (sk_td o_law3 33 rfl) rfl (nI_add i 2) (by omega) hL ?_
  refine sg_aload_n 487 (sk_td o_law3 34 rfl) rfl rfl ?_
  refine sg_iload_n 488 (sk_td o_law3 35 rfl) rfl rfl ?_
  refine sg_iconst (v := (3 : Int32)) 489 (sk_td o_law3 36 rfl) rfl (by decide) ?_
  refine sg_iadd 490 (sk_td o_law3 37 rfl) rfl ?_
  refine sg_sld (n := i + 3) 491 (sk_td o_law3 38 rfl) rfl (nI_add i 3) (by omega) hL ?_
  refine sm_callL3i 494 (s_X8_score hq1) (sk_td o_law3 39 rfl) rfl lv_L_53 rfl rfl rfl sz_0 ⟨Nat.le_of_ble_eq_true rfl, Nat.le_of_ble_eq_true rfl, Nat.le_of_ble_eq_true rfl, Nat.le_of_ble_eq_true rfl⟩ (Nat.le_of_ble_eq_true rfl) ?_
  refine sg_aload_n 495 (sk_td o_law3 40 rfl) rfl rfl ?_
  refine sg_aload_n 496 (sk_td o_law3 41 rfl) rfl rfl ?_
  refine sg_iload_n 497 (sk_td o_law3 42 rfl) rfl rfl ?_
  refine sg_iconst (v := (1 : Int32)) 498 (sk_td o_law3 43 rfl) rfl (by decide) ?_
  refine sg_iadd 499 (sk_td o_law3 44 rfl) rfl ?_
  refine sg_sld (n := i + 1) 500 (sk_td o_law3 45 rfl) rfl (nI_add i 1) (by omega) hL ?_
  refine sg_aload_n 501 (sk_td o_law3 46 rfl) rfl rfl ?_
  refine sg_iload_n 502 (sk_td o_law3 47 rfl) rfl rfl ?_
  refine sg_iconst (v := (2 : Int32)) 503 (sk_td o_law3 48 rfl) rfl (by decide) ?_
  refine sg_iadd 504 (sk_td o_law3 49 rfl) rfl ?_
  refine sg_sld (n := i + 2) 505 (sk_td o_law3 50 rfl) rfl (nI_add i 2) (by omega) hL ?_
  refine sg_aload_n 506 (sk_td o_law3 51 rfl) rfl rfl ?_
  refine sg_iload_n 507 (sk_td o_law3 52 rfl) rfl rfl ?_
  refine sg_iconst (v := (3 : Int32)) 508 (sk_td o_law3 53 rfl) rfl (by decide) ?_
  refine sg_iadd 509 (sk_td o_law3 54 rfl) rfl ?_
  refine sg_sld (n := i + 3) 510 (sk_td o_law3 55 rfl) rfl (nI_add i 3) (by omega) hL ?_
  refine sm_callL3i 513 (s_X9_score hq2) (sk_td o_law3 56 rfl) rfl lv_L_56 rfl rfl rfl sz_44 ⟨Nat.le_of_ble_eq_true rfl, Nat.le_of_ble_eq_true rfl, Nat.le_of_ble_eq_true rfl, Nat.le_of_ble_eq_true rfl⟩ (Nat.le_of_ble_eq_true rfl) ?_
  refine sg_ic_eq 1417 516 (sk_td o_law3 57 rfl) (by decide) rfl (fun _ => ?_) (fun hc => absurd rfl hc) ?_
  exact kk _ hR2
set_option maxRecDepth 100000 in
set_option maxHeartbeats 4000000 in
theorem law_c10 {l : Launch} {nm : String} {L i : Nat} {xs : Nat → Int32} {d : sk_D} (hL : L ≤ 2560) (hi : i + 5 ≤ L) (hR : sk_R d) (kk : ∀ d2, sk_R d2 → sk_G l room_1 (m_law nm) (sk_ExL L xs) sk_ZL 171 56719 1417 [some (.inr (.inr (some (9999, 0)))), some (.inr (.inr (some (0, 0)))), some (.inr (.inr (some (44, 0)))), some (.inl (nI i))] [] (sk_mm d2)) : sk_G l room_1 (m_law nm) (sk_ExL L xs) sk_ZL 171 56719 518 [some (.inr (.inr (some (9999, 0)))), some (.inr (.inr (some (0, 0)))), some (.inr (.inr (some (44, 0)))), some (.inl (nI i))] [] (sk_mm d) := by
  obtain ⟨a, hq1, hq2⟩ := pz_scoreOf hR (xs (i + 1)) (xs (i + 2))
  refine sg_aload_n 519 (sk_td o_law4 0 rfl) rfl rfl ?_
  refine sg_aload_n 520 (sk_td o_law4 1 rfl) rfl rfl ?_
  refine sg_iload_n 521 (sk_td o_law4 2 rfl) rfl rfl ?_
  refine sg_iconst (v := (1 : Int32)) 522 (sk_td o_law4 3 rfl) rfl (by decide) ?_
  refine sg_iadd 523 (sk_td o_law4 4 rfl) rfl ?_
  refine sg_sld (n := i + 1) 524 (sk_td o_law4 5 rfl) rfl (nI_add i 1) (by omega) hL ?_
  refine sg_aload_n 525 (sk_td o_law4 6 rfl) rfl rfl ?_
  refine sg_iload_n 526 (sk_td o_law4 7 rfl) rfl rfl ?_
  refine sg_iconst (v := (2 : Int32)) 527 (sk_td o_law4 8 rfl) rfl (by decide) ?_
  refine sg_iadd 528 (sk_td o_law4 9 rfl) rfl ?_
  refine sg_sld (n := i + 2) 529 (sk_td o_law4 10 rfl) rfl (nI_add i 2) (by omega) hL ?_
  refine sm_callL2i 532 (s_X8_scoreOf hq1) (sk_td o_law4 11 rfl) rfl lv_L_57 rfl rfl rfl sz_0 ⟨Nat.le_of_ble_eq_true rfl, Nat.le_of_ble_eq_true rfl, Nat.le_of_ble_eq_true rfl, Nat.le_of_ble_eq_true rfl⟩ (Nat.le_of_ble_eq_true rfl) ?_
  refine sg_aload_n 533 (sk_td o_law4 12 rfl) rfl rfl ?_
  refine sg_aload_n 534 (sk_td o_law4 13 rfl) rfl rfl ?_
  refine sg_iload_n 535 (sk_td o_law4 14 rfl) rfl rfl ?_
  refine sg_iconst (v := (1 : Int32)) 536 (sk_td o_law4 15 rfl) rfl (by decide) ?_
  refine sg_iadd 537 (sk_td o_law4 16 rfl) rfl ?_
  refine sg_sld (n := i + 1) 538 (sk_td o_law4 17 rfl) rfl (nI_add i 1) (by omega) hL ?_
  refine sg_aload_n 539 (sk_td o_law4 18 rfl) rfl rfl ?_
  refine sg_iload_n 540 (sk_td o_law4 19 rfl) rfl rfl ?_
  refine sg_iconst (v := (2 : Int32)) 541 (sk_td o_law4 20 rfl) rfl (by decide) ?_
  refine sg_iadd 542 (sk_td o_law4 21 rfl) rfl ?_
  refine sg_sld (n := i + 2) 543 (sk_td o_law4 22 rfl) rfl (nI_add i 2) (by omega) hL ?_
  refine sm_callL2i 546 (s_X9_scoreOf hq2) (sk_td o_law4 23 rfl) rfl lv_L_61 rfl rfl rfl sz_44 ⟨Nat.le_of_ble_eq_true rfl, Nat.le_of_ble_eq_true rfl, Nat.le_of_ble_eq_true rfl, Nat.le_of_ble_eq_true rfl⟩ (Nat.le_of_ble_eq_true rfl) ?_
  refine sg_ic_eq 1417 549 (sk_td o_law4 24 rfl) (by decide) rfl (fun _ => ?_) (fun hc => absurd rfl hc) ?_
  exact kk _ hR
set_option maxRecDepth 100000 in
set_option maxHeartbeats 4000000 in
theorem law_c11 {l : Launch} {nm : String} {L i : Nat} {xs : Nat → Int32} {d : sk_D} (hL : L ≤ 2560) (hi : i + 5 ≤ L) (hR : sk_R d) (kk : ∀ d2, sk_R d2 → sk_G l room_1 (m_law nm) (sk_ExL L xs) sk_ZL 171 56719 1417 [some (.inr (.inr (some (9999, 0)))), some (.inr (.inr (some (0, 0)))), some (.inr (.inr (some (44, 0)))), some (.inl (nI i))] [] (sk_mm d2)) : sk_G l room_1 (m_law nm) (sk_ExL L xs) sk_ZL 171 56719 551 [some (.inr (.inr (some (9999, 0)))), some (.inr (.inr (some (0, 0)))), some (.inr (.inr (some (44, 0)))), some (.inl (nI i))] [] (sk_mm d) := by
  obtain ⟨a, d1, d2, hq1, hq2, hR2⟩ := pz_setMarks hR (xs (i + 1)) (xs (i + 2)) (xs (i + 3))
  refine sg_aload_n 552 (sk_td o_law4 27 rfl) rfl rfl ?_
  refine sg_aload_n 553 (sk_td o_law4 28 rfl) rfl rfl ?_
  refine sg_iload_n 554 (sk_td o_law4 29 rfl) rfl rfl ?_
  refine sg_iconst (v := (1 : Int32)) 555 (sk_td o_law4 30 rfl) rfl (by decide) ?_
  refine sg_iadd 556 (sk_td o_law4 31 rfl) rfl ?_
  refine sg_sld (n := i + 1) 557 (sk_td o_law4 32 rfl) rfl (nI_add i 1) (by omega) hL ?_
  refine sg_aload_n 558 (sk_td o_law4 33 rfl) rfl rfl ?_
  refine sg_iload_n 559 (sk_td o_law4 34 rfl) rfl rfl ?_
  refine sg_iconst (v := (2 : Int32)) 560 (sk_td o_law4 35 rfl) rfl (by decide) ?_
  refine sg_iadd 561 (sk_td o_law4 36 rfl) rfl ?_
  refine sg_sld (n := i + 2) 562 (sk_td o_law4 37 rfl) rfl (nI_add i 2) (by omega) hL ?_
  refine sg_aload_n 563 (sk_td o_law4 38 rfl) rfl rfl ?_
  refine sg_iload_n 564 (sk_td o_law4 39 rfl) rfl rfl ?_
  refine sg_iconst (v := (3 : Int32)) 565 (sk_td o_law4 40 rfl) rfl (by decide) ?_
  refine sg_iadd 566 (sk_td o_law4 41 rfl) rfl ?_
  refine sg_sld (n := i + 3) 567 (sk_td o_law4 42 rfl) rfl (nI_add i 3) (by omega) hL ?_
  refine sm_callL3i 570 (s_X8_setMarks hq1) (sk_td o_law4 43 rfl) rfl lv_L_62 rfl rfl rfl sz_0 ⟨Nat.le_of_ble_eq_true rfl, Nat.le_of_ble_eq_true rfl, Nat.le_of_ble_eq_true rfl, Nat.le_of_ble_eq_true rfl⟩ (Nat.le_of_ble_eq_true rfl) ?_
  refine sg_aload_n 571 (sk_td o_law4 44 rfl) rfl rfl ?_
  refine sg_aload_n 572 (sk_td o_law4 45 rfl) rfl rfl ?_
  refine sg_iload_n 573 (sk_td o_law4 46 rfl) rfl rfl ?_
  refine sg_iconst (v := (1 : Int32)) 574 (sk_td o_law4 47 rfl) rfl (by decide) ?_
  refine sg_iadd 575 (sk_td o_law4 48 rfl) rfl ?_
  refine sg_sld (n := i + 1) 576 (sk_td o_law4 49 rfl) rfl (nI_add i 1) (by omega) hL ?_
  refine sg_aload_n 577 (sk_td o_law4 50 rfl) rfl rfl ?_
  refine sg_iload_n 578 (sk_td o_law4 51 rfl) rfl rfl ?_
  refine sg_iconst (v := (2 : Int32)) 579 (sk_td o_law4 52 rfl) rfl (by decide) ?_
  refine sg_iadd 580 (sk_td o_law4 53 rfl) rfl ?_
  refine sg_sld (n := i + 2) 581 (sk_td o_law4 54 rfl) rfl (nI_add i 2) (by omega) hL ?_
  refine sg_aload_n 582 (sk_td o_law4 55 rfl) rfl rfl ?_
  refine sg_iload_n 583 (sk_td o_law4 56 rfl) rfl rfl ?_
  refine sg_iconst (v := (3 : Int32)) 584 (sk_td o_law4 57 rfl) rfl (by decide) ?_
  refine sg_iadd 585 (sk_td o_law4 58 rfl) rfl ?_
  refine sg_sld (n := i + 3) 586 (sk_td o_law4 59 rfl) rfl (nI_add i 3) (by omega) hL ?_
  refine sm_callL3i 589 (s_X9_setMarks hq2) (sk_td o_law5 0 rfl) rfl lv_L_65 rfl rfl rfl sz_44 ⟨Nat.le_of_ble_eq_true rfl, Nat.le_of_ble_eq_true rfl, Nat.le_of_ble_eq_true rfl, Nat.le_of_ble_eq_true rfl⟩ (Nat.le_of_ble_eq_true rfl) ?_
  refine sg_ic_eq 1417 592 (sk_td o_law5 1 rfl) (by decide) rfl (fun _ => ?_) (fun hc => absurd rfl hc) ?_
  exact kk _ hR2
set_option maxRecDepth 100000 in
set_option maxHeartbeats 4000000 in
theorem law_c12 {l : Launch} {nm : String} {L i : Nat} {xs : Nat → Int32} {d : sk_D} (hL : L ≤ 2560) (hi : i + 5 ≤ L) (hR : sk_R d) (kk : ∀ d2, sk_R d2 → sk_G l room_1 (m_law nm) (sk_ExL L xs) sk_ZL 171 56719 1417 [some (.inr (.inr (some (9999, 0)))), some (.inr (.inr (some (0, 0)))), some (.inr (.inr (some (44, 0)))), some (.inl (nI i))] [] (sk_mm d2)) : sk_G l room_1 (m_law nm) (sk_ExL L xs) sk_ZL 171 56719 594 [some (.inr (.inr (some (9999, 0)))), some (.inr (.inr (some (0, 0)))), some (.inr (.inr (some (44, 0)))), some (.inl (nI i))] [] (sk_mm d) := by
  obtain ⟨a, d1, d2, hq1, hq2, hR2⟩ := pz_grade hR (xs (i + 1))
  refine sg_aload_n 595 (sk_td o_law5 4 rfl) rfl rfl ?_
  refine sg_aload_n 596 (sk_td o_law5 5 rfl) rfl rfl ?_
  refine sg_iload_n 597 (sk_td o_law5 6 rfl) rfl rfl ?_
  refine sg_iconst (v := (1 : Int32)) 598 (sk_td o_law5 7 rfl) rfl (by decide) ?_
  refine sg_iadd 599 (sk_td o_law5 8 rfl) rfl ?_
  refine sg_sld (n := i + 1) 600 (sk_td o_law5 9 rfl) rfl (nI_add i 1) (by omega) hL ?_
  refine sm_callL1i 603 (s_X8_grade hq1) (sk_td o_law5 10 rfl) rfl lv_L_66 rfl rfl rfl sz_0 ⟨Nat.le_of_ble_eq_true rfl, Nat.le_of_ble_eq_true rfl, Nat.le_of_ble_eq_true rfl, Nat.le_of_ble_eq_true rfl⟩ (Nat.le_of_ble_eq_true rfl) ?_
  refine sg_aload_n 604 (sk_td o_law5 11 rfl) rfl rfl ?_
  refine sg_aload_n 605 (sk_td o_law5 12 rfl) rfl rfl ?_
  refine sg_iload_n 606 (sk_td o_law5 13 rfl) rfl rfl ?_
  refine sg_iconst (v := (1 : Int32)) 607 (sk_td o_law5 14 rfl) rfl (by decide) ?_
  refine sg_iadd 608 (sk_td o_law5 15 rfl) rfl ?_
  refine sg_sld (n := i + 1) 609 (sk_td o_law5 16 rfl) rfl (nI_add i 1) (by omega) hL ?_
  refine sm_callL1i 612 (s_X9_grade hq2) (sk_td o_law5 17 rfl) rfl lv_L_69 rfl rfl rfl sz_44 ⟨Nat.le_of_ble_eq_true rfl, Nat.le_of_ble_eq_true rfl, Nat.le_of_ble_eq_true rfl, Nat.le_of_ble_eq_true rfl⟩ (Nat.le_of_ble_eq_true rfl) ?_
  refine sg_ic_eq 1417 615 (sk_td o_law5 18 rfl) (by decide) rfl (fun _ => ?_) (fun hc => absurd rfl hc) ?_
  exact kk _ hR2
set_option maxRecDepth 100000 in
set_option maxHeartbeats 4000000 in
theorem law_c13 {l : Launch} {nm : String} {L i : Nat} {xs : Nat → Int32} {d : sk_D} (hL : L ≤ 2560) (hi : i + 5 ≤ L) (hR : sk_R d) (kk : ∀ d2, sk_R d2 → sk_G l room_1 (m_law nm) (sk_ExL L xs) sk_ZL 171 56719 1417 [some (.inr (.inr (some (9999, 0)))), some (.inr (.inr (some (0, 0)))), some (.inr (.inr (some (44, 0)))), some (.inl (nI i))] [] (sk_mm d2)) : sk_G l room_1 (m_law nm) (sk_ExL L xs) sk_ZL 171 56719 617 [some (.inr (.inr (some (9999, 0)))), some (.inr (.inr (some (0, 0)))), some (.inr (.inr (some (44, 0)))), some (.inl (nI i))] [] (sk_mm d) := by
  obtain ⟨a, d1, d2, hq1, hq2, hR2⟩ := pz_nextDay hR
  refine sg_aload_n 618 (sk_td o_law5 21 rfl) rfl rfl ?_
  refine sm_callL0i 621 (s_X8_nextDay hq1) (sk_td o_law5 22 rfl) rfl lv_L_70 rfl rfl rfl sz_0 ⟨Nat.le_of_ble_eq_true rfl, Nat.le_of_ble_eq_true rfl, Nat.le_of_ble_eq_true rfl, Nat.le_of_ble_eq_true rfl⟩ (Nat.le_of_ble_eq_true rfl) ?_
  refine sg_aload_n 622 (sk_td o_law5 23 rfl) rfl rfl ?_
  refine sm_callL0i 625 (s_X9_nextDay hq2) (sk_td o_law5 24 rfl) rfl lv_L_73 rfl rfl rfl sz_44 ⟨Nat.le_of_ble_eq_true rfl, Nat.le_of_ble_eq_true rfl, Nat.le_of_ble_eq_true rfl, Nat.le_of_ble_eq_true rfl⟩ (Nat.le_of_ble_eq_true rfl) ?_
  refine sg_ic_eq 1417 628 (sk_td o_law5 25 rfl) (by decide) rfl (fun _ => ?_) (fun hc => absurd rfl hc) ?_
  exact kk _ hR2
set_option maxRecDepth 100000 in
set_option maxHeartbeats 4000000 in
theorem law_c14 {l : Launch} {nm : String} {L i : Nat} {xs : Nat → Int32} {d : sk_D} (hL : L ≤ 2560) (hi : i + 5 ≤ L) (hR : sk_R d) (kk : ∀ d2, sk_R d2 → sk_G l room_1 (m_law nm) (sk_ExL L xs) sk_ZL 171 56719 1417 [some (.inr (.inr (some (9999, 0)))), some (.inr (.inr (some (0, 0)))), some (.inr (.inr (some (44, 0)))), some (.inl (nI i))] [] (sk_mm d2)) : sk_G l room_1 (m_law nm) (sk_ExL L xs) sk_ZL 171 56719 630 [some (.inr (.inr (some (9999, 0)))), some (.inr (.inr (some (0, 0)))), some (.inr (.inr (some (44, 0)))), some (.inl (nI i))] [] (sk_mm d) := by
  obtain ⟨a, d1, d2, hq1, hq2, hR2⟩ := pz_openGroup hR (xs (i + 1)) (xs (i + 2)) (xs (i + 3))
  refine sg_aload_n 631 (sk_td o_law5 28 rfl) rfl rfl ?_
  refine sg_aload_n 632 (sk_td o_law5 29 rfl) rfl rfl ?_
  refine sg_iload_n 633 (sk_td o_law5 30 rfl) rfl rfl ?_
  refine sg_iconst (v := (1 : Int32)) 634 (sk_td o_law5 31 rfl) rfl (by decide) ?_
  refine sg_iadd 635 (sk_td o_law5 32 rfl) rfl ?_
  refine sg_sld (n := i + 1) 636 (sk_td o_law5 33 rfl) rfl (nI_add i 1) (by omega) hL ?_
  refine sg_aload_n 637 (sk_td o_law5 34 rfl) rfl rfl ?_
  refine sg_iload_n 638 (sk_td o_law5 35 rfl) rfl rfl ?_
  refine sg_iconst (v := (2 : Int32)) 639 (sk_td o_law5 36 rfl) rfl (by decide) ?_
  refine sg_iadd 640 (sk_td o_law5 37 rfl) rfl ?_
  refine sg_sld (n := i + 2) 641 (sk_td o_law5 38 rfl) rfl (nI_add i 2) (by omega) hL ?_
  refine sg_aload_n 642 (sk_td o_law5 39 rfl) rfl rfl ?_
  refine sg_iload_n 643 (sk_td o_law5 40 rfl) rfl rfl ?_
  refine sg_iconst (v := (3 : Int32)) 644 (sk_td o_law5 41 rfl) rfl (by decide) ?_
  refine sg_iadd 645 (sk_td o_law5 42 rfl) rfl ?_
  refine sg_sld (n := i + 3) 646 (sk_td o_law5 43 rfl) rfl (nI_add i 3) (by omega) hL ?_
  refine sm_callL3i 649 (s_X8_openGroup hq1) (sk_td o_law5 44 rfl) rfl lv_L_74 rfl rfl rfl sz_0 ⟨Nat.le_of_ble_eq_true rfl, Nat.le_of_ble_eq_true rfl, Nat.le_of_ble_eq_true rfl, Nat.le_of_ble_eq_true rfl⟩ (Nat.le_of_ble_eq_true rfl) ?_
  refine sg_aload_n 650 (sk_td o_law5 45 rfl) rfl rfl ?_
  refine sg_aload_n 651 (sk_td o_law5 46 rfl) rfl rfl ?_
  refine sg_iload_n 652 (sk_td o_law5 47 rfl) rfl rfl ?_
  refine sg_iconst (v := (1 : Int32)) 653 (sk_td o_law5 48 rfl) rfl (by decide) ?_
  refine sg_iadd 654 (sk_td o_law5 49 rfl) rfl ?_
  refine sg_sld (n := i + 1) 655 (sk_td o_law5 50 rfl) rfl (nI_add i 1) (by omega) hL ?_
  refine sg_aload_n 656 (sk_td o_law5 51 rfl) rfl rfl ?_
  refine sg_iload_n 657 (sk_td o_law5 52 rfl) rfl rfl ?_
  refine sg_iconst (v := (2 : Int32)) 658 (sk_td o_law5 53 rfl) rfl (by decide) ?_
  refine sg_iadd 659 (sk_td o_law5 54 rfl) rfl ?_
  refine sg_sld (n := i + 2) 660 (sk_td o_law5 55 rfl) rfl (nI_add i 2) (by omega) hL ?_
  refine sg_aload_n 661 (sk_td o_law5 56 rfl) rfl rfl ?_
  refine sg_iload_n 662 (sk_td o_law5 57 rfl) rfl rfl ?_
  refine sg_iconst (v := (3 : Int32)) 663 (sk_td o_law5 58 rfl) rfl (by decide) ?_
  refine sg_iadd 664 (sk_td o_law5 59 rfl) rfl ?_
  refine sg_sld (n := i + 3) 665 (sk_td o_law6 0 rfl) rfl (nI_add i 3) (by omega) hL ?_
  refine sm_callL3i 668 (s_X9_openGroup hq2) (sk_td o_law6 1 rfl) rfl lv_L_77 rfl rfl rfl sz_44 ⟨Nat.le_of_ble_eq_true rfl, Nat.le_of_ble_eq_true rfl, Nat.le_of_ble_eq_true rfl, Nat.le_of_ble_eq_true rfl⟩ (Nat.le_of_ble_eq_true rfl) ?_
  refine sg_ic_eq 1417 671 (sk_td o_law6 2 rfl) (by decide) rfl (fun _ => ?_) (fun hc => absurd rfl hc) ?_
  exact kk _ hR2
set_option maxRecDepth 100000 in
set_option maxHeartbeats 4000000 in
theorem law_c15 {l : Launch} {nm : String} {L i : Nat} {xs : Nat → Int32} {d : sk_D} (hL : L ≤ 2560) (hi : i + 5 ≤ L) (hR : sk_R d) (kk : ∀ d2, sk_R d2 → sk_G l room_1 (m_law nm) (sk_ExL L xs) sk_ZL 171 56719 1417 [some (.inr (.inr (some (9999, 0)))), some (.inr (.inr (some (0, 0)))), some (.inr (.inr (some (44, 0)))), some (.inl (nI i))] [] (sk_mm d2)) : sk_G l room_1 (m_law nm) (sk_ExL L xs) sk_ZL 171 56719 673 [some (.inr (.inr (some (9999, 0)))), some (.inr (.inr (some (0, 0)))), some (.inr (.inr (some (44, 0)))), some (.inl (nI i))] [] (sk_mm d) := by
  obtain ⟨a, d1, d2, hq1, hq2, hR2⟩ := pz_closeGroup hR (xs (i + 1))
  refine sg_aload_n 674 (sk_td o_law6 5 rfl) rfl rfl ?_
  refine sg_aload_n 675 (sk_td o_law6 6 rfl) rfl rfl ?_
  refine sg_iload_n 676 (sk_td o_law6 7 rfl) rfl rfl ?_
  refine sg_iconst (v := (1 : Int32)) 677 (sk_td o_law6 8 rfl) rfl (by decide) ?_
  refine sg_iadd 678 (sk_td o_law6 9 rfl) rfl ?_
  refine sg_sld (n := i + 1) 679 (sk_td o_law6 10 rfl) rfl (nI_add i 1) (by omega) hL ?_
  refine sm_callL1i 682 (s_X8_closeGroup hq1) (sk_td o_law6 11 rfl) rfl lv_L_78 rfl rfl rfl sz_0 ⟨Nat.le_of_ble_eq_true rfl, Nat.le_of_ble_eq_true rfl, Nat.le_of_ble_eq_true rfl, Nat.le_of_ble_eq_true rfl⟩ (Nat.le_of_ble_eq_true rfl) ?_
  refine sg_aload_n 683 (sk_td o_law6 12 rfl) rfl rfl ?_
  refine sg_aload_n 684 (sk_td o_law6 13 rfl) rfl rfl ?_
  refine sg_iload_n 685 (sk_td o_law6 14 rfl) rfl rfl ?_
  refine sg_iconst (v := (1 : Int32)) 686 (sk_td o_law6 15 rfl) rfl (by decide) ?_
  refine sg_iadd 687 (sk_td o_law6 16 rfl) rfl ?_
  refine sg_sld (n := i + 1) 688 (sk_td o_law6 17 rfl) rfl (nI_add i 1) (by omega) hL ?_
  refine sm_callL1i 691 (s_X9_closeGroup hq2) (sk_td o_law6 18 rfl) rfl lv_L_81 rfl rfl rfl sz_44 ⟨Nat.le_of_ble_eq_true rfl, Nat.le_of_ble_eq_true rfl, Nat.le_of_ble_eq_true rfl, Nat.le_of_ble_eq_true rfl⟩ (Nat.le_of_ble_eq_true rfl) ?_
  refine sg_ic_eq 1417 694 (sk_td o_law6 19 rfl) (by decide) rfl (fun _ => ?_) (fun hc => absurd rfl hc) ?_
  exact kk _ hR2
set_option maxRecDepth 100000 in
set_option maxHeartbeats 4000000 in
theorem law_c16 {l : Launch} {nm : String} {L i : Nat} {xs : Nat → Int32} {d : sk_D} (hL : L ≤ 2560) (hi : i + 5 ≤ L) (hR : sk_R d) (kk : ∀ d2, sk_R d2 → sk_G l room_1 (m_law nm) (sk_ExL L xs) sk_ZL 171 56719 1417 [some (.inr (.inr (some (9999, 0)))), some (.inr (.inr (some (0, 0)))), some (.inr (.inr (some (44, 0)))), some (.inl (nI i))] [] (sk_mm d2)) : sk_G l room_1 (m_law nm) (sk_ExL L xs) sk_ZL 171 56719 696 [some (.inr (.inr (some (9999, 0)))), some (.inr (.inr (some (0, 0)))), some (.inr (.inr (some (44, 0)))), some (.inl (nI i))] [] (sk_mm d) := by
  obtain ⟨a, hq1, hq2⟩ := pz_groups hR
  refine sg_aload_n 697 (sk_td o_law6 22 rfl) rfl rfl ?_
  refine sm_callL0i 700 (s_X8_groups hq1) (sk_td o_law6 23 rfl) rfl lv_L_82 rfl rfl rfl sz_0 ⟨Nat.le_of_ble_eq_true rfl, Nat.le_of_ble_eq_true rfl, Nat.le_of_ble_eq_true rfl, Nat.le_of_ble_eq_true rfl⟩ (Nat.le_of_ble_eq_true rfl) ?_
  refine sg_aload_n 701 (sk_td o_law6 24 rfl) rfl rfl ?_
  refine sm_callL0i 704 (s_X9_groups hq2) (sk_td o_law6 25 rfl) rfl lv_L_85 rfl rfl rfl sz_44 ⟨Nat.le_of_ble_eq_true rfl, Nat.le_of_ble_eq_true rfl, Nat.le_of_ble_eq_true rfl, Nat.le_of_ble_eq_true rfl⟩ (Nat.le_of_ble_eq_true rfl) ?_
  refine sg_ic_eq 1417 707 (sk_td o_law6 26 rfl) (by decide) rfl (fun _ => ?_) (fun hc => absurd rfl hc) ?_
  exact kk _ hR
set_option maxRecDepth 100000 in
set_option maxHeartbeats 4000000 in
theorem law_c17 {l : Launch} {nm : String} {L i : Nat} {xs : Nat → Int32} {d : sk_D} (hL : L ≤ 2560) (hi : i + 5 ≤ L) (hR : sk_R d) (kk : ∀ d2, sk_R d2 → sk_G l room_1 (m_law nm) (sk_ExL L xs) sk_ZL 171 56719 1417 [some (.inr (.inr (some (9999, 0)))), some (.inr (.inr (some (0, 0)))), some (.inr (.inr (some (44, 0)))), some (.inl (nI i))] [] (sk_mm d2)) : sk_G l room_1 (m_law nm) (sk_ExL L xs) sk_ZL 171 56719 709 [some (.inr (.inr (some (9999, 0)))), some (.inr (.inr (some (0, 0)))), some (.inr (.inr (some (44, 0)))), some (.inl (nI i))] [] (sk_mm d) := by
  obtain ⟨a, hq1, hq2⟩ := pz_groupLevel hR (xs (i + 1))
  refine sg_aload_n 710 (sk_td o_law6 29 rfl) rfl rfl ?_
  refine sg_aload_n 711 (sk_td o_law6 30 rfl) rfl rfl ?_
  refine sg_iload_n 712 (sk_td o_law6 31 rfl) rfl rfl ?_
  refine sg_iconst (v := (1 : Int32)) 713 (sk_td o_law6 32 rfl) rfl (by decide) ?_
  refine sg_iadd 714 (sk_td o_law6 33 rfl) rfl ?_
  refine sg_sld (n := i + 1) 715 (sk_td o_law6 34 rfl) rfl (nI_add i 1) (by omega) hL ?_
  refine sm_callL1i 718 (s_X8_groupLevel hq1) (sk_td o_law6 35 rfl) rfl lv_L_86 rfl rfl rfl sz_0 ⟨Nat.le_of_ble_eq_true rfl, Nat.le_of_ble_eq_true rfl, Nat.le_of_ble_eq_true rfl, Nat.le_of_ble_eq_true rfl⟩ (Nat.le_of_ble_eq_true rfl) ?_
  refine sg_aload_n 719 (sk_td o_law6 36 rfl) rfl rfl ?_
  refine sg_aload_n 720 (sk_td o_law6 37 rfl) rfl rfl ?_
  refine sg_iload_n 721 (sk_td o_law6 38 rfl) rfl rfl ?_
  refine sg_iconst (v := (1 : Int32)) 722 (sk_td o_law6 39 rfl) rfl (by decide) ?_
  refine sg_iadd 723 (sk_td o_law6 40 rfl) rfl ?_
  refine sg_sld (n := i + 1) 724 (sk_td o_law6 41 rfl) rfl (nI_add i 1) (by omega) hL ?_
  refine sm_callL1i 727 (s_X9_groupLevel hq2) (sk_td o_law6 42 rfl) rfl lv_L_89 rfl rfl rfl sz_44 ⟨Nat.le_of_ble_eq_true rfl, Nat.le_of_ble_eq_true rfl, Nat.le_of_ble_eq_true rfl, Nat.le_of_ble_eq_true rfl⟩ (Nat.le_of_ble_eq_true rfl) ?_
  refine sg_ic_eq 1417 730 (sk_td o_law6 43 rfl) (by decide) rfl (fun _ => ?_) (fun hc => absurd rfl hc) ?_
  exact kk _ hR
set_option maxRecDepth 100000 in
set_option maxHeartbeats 4000000 in
theorem law_c18 {l : Launch} {nm : String} {L i : Nat} {xs : Nat → Int32} {d : sk_D} (hL : L ≤ 2560) (hi : i + 5 ≤ L) (hR : sk_R d) (kk : ∀ d2, sk_R d2 → sk_G l room_1 (m_law nm) (sk_ExL L xs) sk_ZL 171 56719 1417 [some (.inr (.inr (some (9999, 0)))), some (.inr (.inr (some (0, 0)))), some (.inr (.inr (some (44, 0)))), some (.inl (nI i))] [] (sk_mm d2)) : sk_G l room_1 (m_law nm) (sk_ExL L xs) sk_ZL 171 56719 732 [some (.inr (.inr (some (9999, 0)))), some (.inr (.inr (some (0, 0)))), some (.inr (.inr (some (44, 0)))), some (.inl (nI i))] [] (sk_mm d) := by
  obtain ⟨a, hq1, hq2⟩ := pz_size hR (xs (i + 1))
  refine sg_aload_n 733 (sk_td o_law6 46 rfl) rfl rfl ?_
  refine sg_aload_n 734 (sk_td o_law6 47 rfl) rfl rfl ?_
  refine sg_iload_n 735 (sk_td o_law6 48 rfl) rfl rfl ?_
  refine sg_iconst (v := (1 : Int32)) 736 (sk_td o_law6 49 rfl) rfl (by decide) ?_
  refine sg_iadd 737 (sk_td o_law6 50 rfl) rfl ?_
  refine sg_sld (n := i + 1) 738 (sk_td o_law6 51 rfl) rfl (nI_add i 1) (by omega) hL ?_
  refine sm_callL1i 741 (s_X8_size hq1) (sk_td o_law6 52 rfl) rfl lv_L_90 rfl rfl rfl sz_0 ⟨Nat.le_of_ble_eq_true rfl, Nat.le_of_ble_eq_true rfl, Nat.le_of_ble_eq_true rfl, Nat.le_of_ble_eq_true rfl⟩ (Nat.le_of_ble_eq_true rfl) ?_
  refine sg_aload_n 742 (sk_td o_law6 53 rfl) rfl rfl ?_
  refine sg_aload_n 743 (sk_td o_law6 54 rfl) rfl rfl ?_
  refine sg_iload_n 744 (sk_td o_law6 55 rfl) rfl rfl ?_
  refine sg_iconst (v := (1 : Int32)) 745 (sk_td o_law6 56 rfl) rfl (by decide) ?_
  refine sg_iadd 746 (sk_td o_law6 57 rfl) rfl ?_
  refine sg_sld (n := i + 1) 747 (sk_td o_law6 58 rfl) rfl (nI_add i 1) (by omega) hL ?_
  refine sm_callL1i 750 (s_X9_size hq2) (sk_td o_law6 59 rfl) rfl lv_L_93 rfl rfl rfl sz_44 ⟨Nat.le_of_ble_eq_true rfl, Nat.le_of_ble_eq_true rfl, Nat.le_of_ble_eq_true rfl, Nat.le_of_ble_eq_true rfl⟩ (Nat.le_of_ble_eq_true rfl) ?_
  refine sg_ic_eq 1417 753 (sk_td o_law7 0 rfl) (by decide) rfl (fun _ => ?_) (fun hc => absurd rfl hc) ?_
  exact kk _ hR
set_option maxRecDepth 100000 in
set_option maxHeartbeats 4000000 in
theorem law_c19 {l : Launch} {nm : String} {L i : Nat} {xs : Nat → Int32} {d : sk_D} (hL : L ≤ 2560) (hi : i + 5 ≤ L) (hR : sk_R d) (kk : ∀ d2, sk_R d2 → sk_G l room_1 (m_law nm) (sk_ExL L xs) sk_ZL 171 56719 1417 [some (.inr (.inr (some (9999, 0)))), some (.inr (.inr (some (0, 0)))), some (.inr (.inr (some (44, 0)))), some (.inl (nI i))] [] (sk_mm d2)) : sk_G l room_1 (m_law nm) (sk_ExL L xs) sk_ZL 171 56719 755 [some (.inr (.inr (some (9999, 0)))), some (.inr (.inr (some (0, 0)))), some (.inr (.inr (some (44, 0)))), some (.inl (nI i))] [] (sk_mm d) := by
  obtain ⟨a, hq1, hq2⟩ := pz_instructor hR (xs (i + 1))
  refine sg_aload_n 756 (sk_td o_law7 3 rfl) rfl rfl ?_
  refine sg_aload_n 757 (sk_td o_law7 4 rfl) rfl rfl ?_
  refine sg_iload_n 758 (sk_td o_law7 5 rfl) rfl rfl ?_
  refine sg_iconst (v := (1 : Int32)) 759 (sk_td o_law7 6 rfl) rfl (by decide) ?_
  refine sg_iadd 760 (sk_td o_law7 7 rfl) rfl ?_
  refine sg_sld (n := i + 1) 761 (sk_td o_law7 8 rfl) rfl (nI_add i 1) (by omega) hL ?_
  refine sm_callL1i 764 (s_X8_instructor hq1) (sk_td o_law7 9 rfl) rfl lv_L_94 rfl rfl rfl sz_0 ⟨Nat.le_of_ble_eq_true rfl, Nat.le_of_ble_eq_true rfl, Nat.le_of_ble_eq_true rfl, Nat.le_of_ble_eq_true rfl⟩ (Nat.le_of_ble_eq_true rfl) ?_
  refine sg_aload_n 765 (sk_td o_law7 10 rfl) rfl rfl ?_
  refine sg_aload_n 766 (sk_td o_law7 11 rfl) rfl rfl ?_
  refine sg_iload_n 767 (sk_td o_law7 12 rfl) rfl rfl ?_
  refine sg_iconst (v := (1 : Int32)) 768 (sk_td o_law7 13 rfl) rfl (by decide) ?_
  refine sg_iadd 769 (sk_td o_law7 14 rfl) rfl ?_
  refine sg_sld (n := i + 1) 770 (sk_td o_law7 15 rfl) rfl (nI_add i 1) (by omega) hL ?_
  refine sm_callL1i 773 (s_X9_instructor hq2) (sk_td o_law7 16 rfl) rfl lv_L_97 rfl rfl rfl sz_44 ⟨Nat.le_of_ble_eq_true rfl, Nat.le_of_ble_eq_true rfl, Nat.le_of_ble_eq_true rfl, Nat.le_of_ble_eq_true rfl⟩ (Nat.le_of_ble_eq_true rfl) ?_
  refine sg_ic_eq 1417 776 (sk_td o_law7 17 rfl) (by decide) rfl (fun _ => ?_) (fun hc => absurd rfl hc) ?_
  exact kk _ hR
set_option maxRecDepth 100000 in
set_option maxHeartbeats 4000000 in
theorem law_c20 {l : Launch} {nm : String} {L i : Nat} {xs : Nat → Int32} {d : sk_D} (hL : L ≤ 2560) (hi : i + 5 ≤ L) (hR : sk_R d) (kk : ∀ d2, sk_R d2 → sk_G l room_1 (m_law nm) (sk_ExL L xs) sk_ZL 171 56719 1417 [some (.inr (.inr (some (9999, 0)))), some (.inr (.inr (some (0, 0)))), some (.inr (.inr (some (44, 0)))), some (.inl (nI i))] [] (sk_mm d2)) : sk_G l room_1 (m_law nm) (sk_ExL L xs) sk_ZL 171 56719 778 [some (.inr (.inr (some (9999, 0)))), some (.inr (.inr (some (0, 0)))), some (.inr (.inr (some (44, 0)))), some (.inl (nI i))] [] (sk_mm d) := by
  obtain ⟨a, d1, d2, hq1, hq2, hR2⟩ := pz_assign hR
  refine sg_aload_n 779 (sk_td o_law7 20 rfl) rfl rfl ?_
  refine sm_callL0i 782 (s_X8_assign hq1) (sk_td o_law7 21 rfl) rfl lv_L_98 rfl rfl rfl sz_0 ⟨Nat.le_of_ble_eq_true rfl, Nat.le_of_ble_eq_true rfl, Nat.le_of_ble_eq_true rfl, Nat.le_of_ble_eq_true rfl⟩ (Nat.le_of_ble_eq_true rfl) ?_
  refine sg_aload_n 783 (sk_td o_law7 22 rfl) rfl rfl ?_
  refine sm_callL0i 786 (s_X9_assign hq2) (sk_td o_law7 23 rfl) rfl lv_L_101 rfl rfl rfl sz_44 ⟨Nat.le_of_ble_eq_true rfl, Nat.le_of_ble_eq_true rfl, Nat.le_of_ble_eq_true rfl, Nat.le_of_ble_eq_true rfl⟩ (Nat.le_of_ble_eq_true rfl) ?_
  refine sg_ic_eq 1417 789 (sk_td o_law7 24 rfl) (by decide) rfl (fun _ => ?_) (fun hc => absurd rfl hc) ?_
  exact kk _ hR2
set_option maxRecDepth 100000 in
set_option maxHeartbeats 4000000 in
theorem law_c21 {l : Launch} {nm : String} {L i : Nat} {xs : Nat → Int32} {d : sk_D} (hL : L ≤ 2560) (hi : i + 5 ≤ L) (hR : sk_R d) (kk : ∀ d2, sk_R d2 → sk_G l room_1 (m_law nm) (sk_ExL L xs) sk_ZL 171 56719 1417 [some (.inr (.inr (some (9999, 0)))), some (.inr (.inr (some (0, 0)))), some (.inr (.inr (some (44, 0)))), some (.inl (nI i))] [] (sk_mm d2)) : sk_G l room_1 (m_law nm) (sk_ExL L xs) sk_ZL 171 56719 791 [some (.inr (.inr (some (9999, 0)))), some (.inr (.inr (some (0, 0)))), some (.inr (.inr (some (44, 0)))), some (.inl (nI i))] [] (sk_mm d) := by
  obtain ⟨a, hq1, hq2⟩ := pz_placed hR
  refine sg_aload_n 792 (sk_td o_law7 27 rfl) rfl rfl ?_
  refine sm_callL0i 795 (s_X8_placed hq1) (sk_td o_law7 28 rfl) rfl lv_L_102 rfl rfl rfl sz_0 ⟨Nat.le_of_ble_eq_true rfl, Nat.le_of_ble_eq_true rfl, Nat.le_of_ble_eq_true rfl, Nat.le_of_ble_eq_true rfl⟩ (Nat.le_of_ble_eq_true rfl) ?_
  refine sg_aload_n 796 (sk_td o_law7 29 rfl) rfl rfl ?_
  refine sm_callL0i 799 (s_X9_placed hq2) (sk_td o_law7 30 rfl) rfl lv_L_105 rfl rfl rfl sz_44 ⟨Nat.le_of_ble_eq_true rfl, Nat.le_of_ble_eq_true rfl, Nat.le_of_ble_eq_true rfl, Nat.le_of_ble_eq_true rfl⟩ (Nat.le_of_ble_eq_true rfl) ?_
  refine sg_ic_eq 1417 802 (sk_td o_law7 31 rfl) (by decide) rfl (fun _ => ?_) (fun hc => absurd rfl hc) ?_
  exact kk _ hR
set_option maxRecDepth 100000 in
set_option maxHeartbeats 4000000 in
theorem law_c22 {l : Launch} {nm : String} {L i : Nat} {xs : Nat → Int32} {d : sk_D} (hL : L ≤ 2560) (hi : i + 5 ≤ L) (hR : sk_R d) (kk : ∀ d2, sk_R d2 → sk_G l room_1 (m_law nm) (sk_ExL L xs) sk_ZL 171 56719 1417 [some (.inr (.inr (some (9999, 0)))), some (.inr (.inr (some (0, 0)))), some (.inr (.inr (some (44, 0)))), some (.inl (nI i))] [] (sk_mm d2)) : sk_G l room_1 (m_law nm) (sk_ExL L xs) sk_ZL 171 56719 804 [some (.inr (.inr (some (9999, 0)))), some (.inr (.inr (some (0, 0)))), some (.inr (.inr (some (44, 0)))), some (.inl (nI i))] [] (sk_mm d) := by
  obtain ⟨a, hq1, hq2⟩ := pz_outOfLevel hR
  refine sg_aload_n 805 (sk_td o_law7 34 rfl) rfl rfl ?_
  refine sm_callL0i 808 (s_X8_outOfLevel hq1) (sk_td o_law7 35 rfl) rfl lv_L_106 rfl rfl rfl sz_0 ⟨Nat.le_of_ble_eq_true rfl, Nat.le_of_ble_eq_true rfl, Nat.le_of_ble_eq_true rfl, Nat.le_of_ble_eq_true rfl⟩ (Nat.le_of_ble_eq_true rfl) ?_
  refine sg_aload_n 809 (sk_td o_law7 36 rfl) rfl rfl ?_
  refine sm_callL0i 812 (s_X9_outOfLevel hq2) (sk_td o_law7 37 rfl) rfl lv_L_109 rfl rfl rfl sz_44 ⟨Nat.le_of_ble_eq_true rfl, Nat.le_of_ble_eq_true rfl, Nat.le_of_ble_eq_true rfl, Nat.le_of_ble_eq_true rfl⟩ (Nat.le_of_ble_eq_true rfl) ?_
  refine sg_ic_eq 1417 815 (sk_td o_law7 38 rfl) (by decide) rfl (fun _ => ?_) (fun hc => absurd rfl hc) ?_
  exact kk _ hR
set_option maxRecDepth 100000 in
set_option maxHeartbeats 4000000 in
theorem law_c23 {l : Launch} {nm : String} {L i : Nat} {xs : Nat → Int32} {d : sk_D} (hL : L ≤ 2560) (hi : i + 5 ≤ L) (hR : sk_R d) (kk : ∀ d2, sk_R d2 → sk_G l room_1 (m_law nm) (sk_ExL L xs) sk_ZL 171 56719 1417 [some (.inr (.inr (some (9999, 0)))), some (.inr (.inr (some (0, 0)))), some (.inr (.inr (some (44, 0)))), some (.inl (nI i))] [] (sk_mm d2)) : sk_G l room_1 (m_law nm) (sk_ExL L xs) sk_ZL 171 56719 817 [some (.inr (.inr (some (9999, 0)))), some (.inr (.inr (some (0, 0)))), some (.inr (.inr (some (44, 0)))), some (.inl (nI i))] [] (sk_mm d) := by
  obtain ⟨a, d1, d2, hq1, hq2, hR2⟩ := pz_extraPlaced hR (xs (i + 1)) (xs (i + 2)) (xs (i + 3))
  refine sg_aload_n 818 (sk_td o_law7 41 rfl) rfl rfl ?_
  refine sg_aload_n 819 (sk_td o_law7 42 rfl) rfl rfl ?_
  refine sg_iload_n 820 (sk_td o_law7 43 rfl) rfl rfl ?_
  refine sg_iconst (v := (1 : Int32)) 821 (sk_td o_law7 44 rfl) rfl (by decide) ?_
  refine sg_iadd 822 (sk_td o_law7 45 rfl) rfl ?_
  refine sg_sld (n := i + 1) 823 (sk_td o_law7 46 rfl) rfl (nI_add i 1) (by omega) hL ?_
  refine sg_aload_n 824 (sk_td o_law7 47 rfl) rfl rfl ?_
  refine sg_iload_n 825 (sk_td o_law7 48 rfl) rfl rfl ?_
  refine sg_iconst (v := (2 : Int32)) 826 (sk_td o_law7 49 rfl) rfl (by decide) ?_
  refine sg_iadd 827 (sk_td o_law7 50 rfl) rfl ?_
  refine sg_sld (n := i + 2) 828 (sk_td o_law7 51 rfl) rfl (nI_add i 2) (by omega) hL ?_
  refine sg_aload_n 829 (sk_td o_law7 52 rfl) rfl rfl ?_
  refine sg_iload_n 830 (sk_td o_law7 53 rfl) rfl rfl ?_
  refine sg_iconst (v := (3 : Int32)) 831 (sk_td o_law7 54 rfl) rfl (by decide) ?_
  refine sg_iadd 832 (sk_td o_law7 55 rfl) rfl ?_
  refine sg_sld (n := i + 3) 833 (sk_td o_law7 56 rfl) rfl (nI_add i 3) (by omega) hL ?_
  refine sm_callL3i 836 (s_X8_extraPlaced hq1) (sk_td o_law7 57 rfl) rfl lv_L_110 rfl rfl rfl sz_0 ⟨Nat.le_of_ble_eq_true rfl, Nat.le_of_ble_eq_true rfl, Nat.le_of_ble_eq_true rfl, Nat.le_of_ble_eq_true rfl⟩ (Nat.le_of_ble_eq_true rfl) ?_
  refine sg_aload_n 837 (sk_td o_law7 58 rfl) rfl rfl ?_
  refine sg_aload_n 838 (sk_td o_law7 59 rfl) rfl rfl ?_
  refine sg_iload_n 839 (sk_td o_law8 0 rfl) rfl rfl ?_
  refine sg_iconst (v := (1 : Int32)) 840 (sk_td o_law8 1 rfl) rfl (by decide) ?_
  refine sg_iadd 841 (sk_td o_law8 2 rfl) rfl ?_
  refine sg_sld (n := i + 1) 842 (sk_td o_law8 3 rfl) rfl (nI_add i 1) (by omega) hL ?_
  refine sg_aload_n 843 (sk_td o_law8 4 rfl) rfl rfl ?_
  refine sg_iload_n 844 (sk_td o_law8 5 rfl) rfl rfl ?_
  refine sg_iconst (v := (2 : Int32)) 845 (sk_td o_law8 6 rfl) rfl (by decide) ?_
  refine sg_iadd 846 (sk_td o_law8 7 rfl) rfl ?_
  refine sg_sld (n := i + 2) 847 (sk_td o_law8 8 rfl) rfl (nI_add i 2) (by omega) hL ?_
  refine sg_aload_n 848 (sk_td o_law8 9 rfl) rfl rfl ?_
  refine sg_iload_n 849 (sk_td o_law8 10 rfl) rfl rfl ?_
  refine sg_iconst (v := (3 : Int32)) 850 (sk_td o_law8 11 rfl) rfl (by decide) ?_
  refine sg_iadd 851 (sk_td o_law8 12 rfl) rfl ?_
  refine sg_sld (n := i + 3) 852 (sk_td o_law8 13 rfl) rfl (nI_add i 3) (by omega) hL ?_
  refine sm_callL3i 855 (s_X9_extraPlaced hq2) (sk_td o_law8 14 rfl) rfl lv_L_113 rfl rfl rfl sz_44 ⟨Nat.le_of_ble_eq_true rfl, Nat.le_of_ble_eq_true rfl, Nat.le_of_ble_eq_true rfl, Nat.le_of_ble_eq_true rfl⟩ (Nat.le_of_ble_eq_true rfl) ?_
  refine sg_ic_eq 1417 858 (sk_td o_law8 15 rfl) (by decide) rfl (fun _ => ?_) (fun hc => absurd rfl hc) ?_
  exact kk _ hR2
set_option maxRecDepth 100000 in
set_option maxHeartbeats 4000000 in
theorem law_c24 {l : Launch} {nm : String} {L i : Nat} {xs : Nat → Int32} {d : sk_D} (hL : L ≤ 2560) (hi : i + 5 ≤ L) (hR : sk_R d) (kk : ∀ d2, sk_R d2 → sk_G l room_1 (m_law nm) (sk_ExL L xs) sk_ZL 171 56719 1417 [some (.inr (.inr (some (9999, 0)))), some (.inr (.inr (some (0, 0)))), some (.inr (.inr (some (44, 0)))), some (.inl (nI i))] [] (sk_mm d2)) : sk_G l room_1 (m_law nm) (sk_ExL L xs) sk_ZL 171 56719 860 [some (.inr (.inr (some (9999, 0)))), some (.inr (.inr (some (0, 0)))), some (.inr (.inr (some (44, 0)))), some (.inl (nI i))] [] (sk_mm d) := by
  obtain ⟨a, d1, d2, hq1, hq2, hR2⟩ := pz_splitGain hR (xs (i + 1))
  refine sg_aload_n 861 (sk_td o_law8 18 rfl) rfl rfl ?_
  refine sg_aload_n 862 (sk_td o_law8 19 rfl) rfl rfl ?_
  refine sg_iload_n 863 (sk_td o_law8 20 rfl) rfl rfl ?_
  refine sg_iconst (v := (1 : Int32)) 864 (sk_td o_law8 21 rfl) rfl (by decide) ?_
  refine sg_iadd 865 (sk_td o_law8 22 rfl) rfl ?_
  refine sg_sld (n := i + 1) 866 (sk_td o_law8 23 rfl) rfl (nI_add i 1) (by omega) hL ?_
  refine sm_callL1i 869 (s_X8_splitGain hq1) (sk_td o_law8 24 rfl) rfl lv_L_114 rfl rfl rfl sz_0 ⟨Nat.le_of_ble_eq_true rfl, Nat.le_of_ble_eq_true rfl, Nat.le_of_ble_eq_true rfl, Nat.le_of_ble_eq_true rfl⟩ (Nat.le_of_ble_eq_true rfl) ?_
  refine sg_aload_n 870 (sk_td o_law8 25 rfl) rfl rfl ?_
  refine sg_aload_n 871 (sk_td o_law8 26 rfl) rfl rfl ?_
  refine sg_iload_n 872 (sk_td o_law8 27 rfl) rfl rfl ?_
  refine sg_iconst (v := (1 : Int32)) 873 (sk_td o_law8 28 rfl) rfl (by decide) ?_
  refine sg_iadd 874 (sk_td o_law8 29 rfl) rfl ?_
  refine sg_sld (n := i + 1) 875 (sk_td o_law8 30 rfl) rfl (nI_add i 1) (by omega) hL ?_
  refine sm_callL1i 878 (s_X9_splitGain hq2) (sk_td o_law8 31 rfl) rfl lv_L_117 rfl rfl rfl sz_44 ⟨Nat.le_of_ble_eq_true rfl, Nat.le_of_ble_eq_true rfl, Nat.le_of_ble_eq_true rfl, Nat.le_of_ble_eq_true rfl⟩ (Nat.le_of_ble_eq_true rfl) ?_
  refine sg_ic_eq 1417 881 (sk_td o_law8 32 rfl) (by decide) rfl (fun _ => ?_) (fun hc => absurd rfl hc) ?_
  exact kk _ hR2
set_option maxRecDepth 100000 in
set_option maxHeartbeats 4000000 in
theorem law_c25 {l : Launch} {nm : String} {L i : Nat} {xs : Nat → Int32} {d : sk_D} (hL : L ≤ 2560) (hi : i + 5 ≤ L) (hR : sk_R d) (kk : ∀ d2, sk_R d2 → sk_G l room_1 (m_law nm) (sk_ExL L xs) sk_ZL 171 56719 1417 [some (.inr (.inr (some (9999, 0)))), some (.inr (.inr (some (0, 0)))), some (.inr (.inr (some (44, 0)))), some (.inl (nI i))] [] (sk_mm d2)) : sk_G l room_1 (m_law nm) (sk_ExL L xs) sk_ZL 171 56719 883 [some (.inr (.inr (some (9999, 0)))), some (.inr (.inr (some (0, 0)))), some (.inr (.inr (some (44, 0)))), some (.inl (nI i))] [] (sk_mm d) := by
  obtain ⟨a, d1, d2, hq1, hq2, hR2⟩ := pz_hire hR (xs (i + 1)) (xs (i + 2)) (xs (i + 3)) (xs (i + 4))
  refine sg_aload_n 884 (sk_td o_law8 35 rfl) rfl rfl ?_
  refine sg_aload_n 885 (sk_td o_law8 36 rfl) rfl rfl ?_
  refine sg_iload_n 886 (sk_td o_law8 37 rfl) rfl rfl ?_
  refine sg_iconst (v := (1 : Int32)) 887 (sk_td o_law8 38 rfl) rfl (by decide) ?_
  refine sg_iadd 888 (sk_td o_law8 39 rfl) rfl ?_
  refine sg_sld (n := i + 1) 889 (sk_td o_law8 40 rfl) rfl (nI_add i 1) (by omega) hL ?_
  refine sg_aload_n 890 (sk_td o_law8 41 rfl) rfl rfl ?_
  refine sg_iload_n 891 (sk_td o_law8 42 rfl) rfl rfl ?_
  refine sg_iconst (v := (2 : Int32)) 892 (sk_td o_law8 43 rfl) rfl (by decide) ?_
  refine sg_iadd 893 (sk_td o_law8 44 rfl) rfl ?_
  refine sg_sld (n := i + 2) 894 (sk_td o_law8 45 rfl) rfl (nI_add i 2) (by omega) hL ?_
  refine sg_aload_n 895 (sk_td o_law8 46 rfl) rfl rfl ?_
  refine sg_iload_n 896 (sk_td o_law8 47 rfl) rfl rfl ?_
  refine sg_iconst (v := (3 : Int32)) 897 (sk_td o_law8 48 rfl) rfl (by decide) ?_
  refine sg_iadd 898 (sk_td o_law8 49 rfl) rfl ?_
  refine sg_sld (n := i + 3) 899 (sk_td o_law8 50 rfl) rfl (nI_add i 3) (by omega) hL ?_
  refine sg_aload_n 900 (sk_td o_law8 51 rfl) rfl rfl ?_
  refine sg_iload_n 901 (sk_td o_law8 52 rfl) rfl rfl ?_
  refine sg_iconst (v := (4 : Int32)) 902 (sk_td o_law8 53 rfl) rfl (by decide) ?_
  refine sg_iadd 903 (sk_td o_law8 54 rfl) rfl ?_
  refine sg_sld (n := i + 4) 904 (sk_td o_law8 55 rfl) rfl (nI_add i 4) (by omega) hL ?_
  refine sm_callL4i 907 (s_X8_hire hq1) (sk_td o_law8 56 rfl) rfl lv_L_118 rfl rfl rfl sz_0 ⟨Nat.le_of_ble_eq_true rfl, Nat.le_of_ble_eq_true rfl, Nat.le_of_ble_eq_true rfl, Nat.le_of_ble_eq_true rfl⟩ (Nat.le_of_ble_eq_true rfl) ?_
  refine sg_aload_n 908 (sk_td o_law8 57 rfl) rfl rfl ?_
  refine sg_aload_n 909 (sk_td o_law8 58 rfl) rfl rfl ?_
  refine sg_iload_n 910 (sk_td o_law8 59 rfl) rfl rfl ?_
  refine sg_iconst (v := (1 : Int32)) 911 (sk_td o_law9 0 rfl) rfl (by decide) ?_
  refine sg_iadd 912 (sk_td o_law9 1 rfl) rfl ?_
  refine sg_sld (n := i + 1) 913 (sk_td o_law9 2 rfl) rfl (nI_add i 1) (by omega) hL ?_
  refine sg_aload_n 914 (sk_td o_law9 3 rfl) rfl rfl ?_
  refine sg_iload_n 915 (sk_td o_law9 4 rfl) rfl rfl ?_
  refine sg_iconst (v := (2 : Int32)) 916 (sk_td o_law9 5 rfl) rfl (by decide) ?_
  refine sg_iadd 917 (sk_td o_law9 6 rfl) rfl ?_
  refine sg_sld (n := i + 2) 918 (sk_td o_law9 7 rfl) rfl (nI_add i 2) (by omega) hL ?_
  refine sg_aload_n 919 (sk_td o_law9 8 rfl) rfl rfl ?_
  refine sg_iload_n 920 (sk_td o_law9 9 rfl) rfl rfl ?_
  refine sg_iconst (v := (3 : Int32)) 921 (sk_td o_law9 10 rfl) rfl (by decide) ?_
  refine sg_iadd 922 (sk_td o_law9 11 rfl) rfl ?_
  refine sg_sld (n := i + 3) 923 (sk_td o_law9 12 rfl) rfl (nI_add i 3) (by omega) hL ?_
  refine sg_aload_n 924 (sk_td o_law9 13 rfl) rfl rfl ?_
  refine sg_iload_n 925 (sk_td o_law9 14 rfl) rfl rfl ?_
  refine sg_iconst (v := (4 : Int32)) 926 (sk_td o_law9 15 rfl) rfl (by decide) ?_
  refine sg_iadd 927 (sk_td o_law9 16 rfl) rfl ?_
  refine sg_sld (n := i + 4) 928 (sk_td o_law9 17 rfl) rfl (nI_add i 4) (by omega) hL ?_
  refine sm_callL4i 931 (s_X9_hire hq2) (sk_td o_law9 18 rfl) rfl lv_L_122 rfl rfl rfl sz_44 ⟨Nat.le_of_ble_eq_true rfl, Nat.le_of_ble_eq_true rfl, Nat.le_of_ble_eq_true rfl, Nat.le_of_ble_eq_true rfl⟩ (Nat.le_of_ble_eq_true rfl) ?_
  refine sg_ic_eq 1417 934 (sk_td o_law9 19 rfl) (by decide) rfl (fun _ => ?_) (fun hc => absurd rfl hc) ?_
  exact kk _ hR2
set_option maxRecDepth 100000 in
set_option maxHeartbeats 4000000 in
theorem law_c26 {l : Launch} {nm : String} {L i : Nat} {xs : Nat → Int32} {d : sk_D} (hL : L ≤ 2560) (hi : i + 5 ≤ L) (hR : sk_R d) (kk : ∀ d2, sk_R d2 → sk_G l room_1 (m_law nm) (sk_ExL L xs) sk_ZL 171 56719 1417 [some (.inr (.inr (some (9999, 0)))), some (.inr (.inr (some (0, 0)))), some (.inr (.inr (some (44, 0)))), some (.inl (nI i))] [] (sk_mm d2)) : sk_G l room_1 (m_law nm) (sk_ExL L xs) sk_ZL 171 56719 936 [some (.inr (.inr (some (9999, 0)))), some (.inr (.inr (some (0, 0)))), some (.inr (.inr (some (44, 0)))), some (.inl (nI i))] [] (sk_mm d) := by
  obtain ⟨a, d1, d2, hq1, hq2, hR2⟩ := pz_dismiss hR (xs (i + 1))
  refine sg_aload_n 937 (sk_td o_law9 22 rfl) rfl rfl ?_
  refine sg_aload_n 938 (sk_td o_law9 23 rfl) rfl rfl ?_
  refine sg_iload_n 939 (sk_td o_law9 24 rfl) rfl rfl ?_
  refine sg_iconst (v := (1 : Int32)) 940 (sk_td o_law9 25 rfl) rfl (by decide) ?_
  refine sg_iadd 941 (sk_td o_law9 26 rfl) rfl ?_
  refine sg_sld (n := i + 1) 942 (sk_td o_law9 27 rfl) rfl (nI_add i 1) (by omega) hL ?_
  refine sm_callL1i 945 (s_X8_dismiss hq1) (sk_td o_law9 28 rfl) rfl lv_L_123 rfl rfl rfl sz_0 ⟨Nat.le_of_ble_eq_true rfl, Nat.le_of_ble_eq_true rfl, Nat.le_of_ble_eq_true rfl, Nat.le_of_ble_eq_true rfl⟩ (Nat.le_of_ble_eq_true rfl) ?_
  refine sg_aload_n 946 (sk_td o_law9 29 rfl) rfl rfl ?_
  refine sg_aload_n 947 (sk_td o_law9 30 rfl) rfl rfl ?_
  refine sg_iload_n 948 (sk_td o_law9 31 rfl) rfl rfl ?_
  refine sg_iconst (v := (1 : Int32)) 949 (sk_td o_law9 32 rfl) rfl (by decide) ?_
  refine sg_iadd 950 (sk_td o_law9 33 rfl) rfl ?_
  refine sg_sld (n := i + 1) 951 (sk_td o_law9 34 rfl) rfl (nI_add i 1) (by omega) hL ?_
  refine sm_callL1i 954 (s_X9_dismiss hq2) (sk_td o_law9 35 rfl) rfl lv_L_126 rfl rfl rfl sz_44 ⟨Nat.le_of_ble_eq_true rfl, Nat.le_of_ble_eq_true rfl, Nat.le_of_ble_eq_true rfl, Nat.le_of_ble_eq_true rfl⟩ (Nat.le_of_ble_eq_true rfl) ?_
  refine sg_ic_eq 1417 957 (sk_td o_law9 36 rfl) (by decide) rfl (fun _ => ?_) (fun hc => absurd rfl hc) ?_
  exact kk _ hR2
set_option maxRecDepth 100000 in
set_option maxHeartbeats 4000000 in
theorem law_c27 {l : Launch} {nm : String} {L i : Nat} {xs : Nat → Int32} {d : sk_D} (hL : L ≤ 2560) (hi : i + 5 ≤ L) (hR : sk_R d) (kk : ∀ d2, sk_R d2 → sk_G l room_1 (m_law nm) (sk_ExL L xs) sk_ZL 171 56719 1417 [some (.inr (.inr (some (9999, 0)))), some (.inr (.inr (some (0, 0)))), some (.inr (.inr (some (44, 0)))), some (.inl (nI i))] [] (sk_mm d2)) : sk_G l room_1 (m_law nm) (sk_ExL L xs) sk_ZL 171 56719 959 [some (.inr (.inr (some (9999, 0)))), some (.inr (.inr (some (0, 0)))), some (.inr (.inr (some (44, 0)))), some (.inl (nI i))] [] (sk_mm d) := by
  obtain ⟨a, hq1, hq2⟩ := pz_instructors hR
  refine sg_aload_n 960 (sk_td o_law9 39 rfl) rfl rfl ?_
  refine sm_callL0i 963 (s_X8_instructors hq1) (sk_td o_law9 40 rfl) rfl lv_L_127 rfl rfl rfl sz_0 ⟨Nat.le_of_ble_eq_true rfl, Nat.le_of_ble_eq_true rfl, Nat.le_of_ble_eq_true rfl, Nat.le_of_ble_eq_true rfl⟩ (Nat.le_of_ble_eq_true rfl) ?_
  refine sg_aload_n 964 (sk_td o_law9 41 rfl) rfl rfl ?_
  refine sm_callL0i 967 (s_X9_instructors hq2) (sk_td o_law9 42 rfl) rfl lv_L_130 rfl rfl rfl sz_44 ⟨Nat.le_of_ble_eq_true rfl, Nat.le_of_ble_eq_true rfl, Nat.le_of_ble_eq_true rfl, Nat.le_of_ble_eq_true rfl⟩ (Nat.le_of_ble_eq_true rfl) ?_
  refine sg_ic_eq 1417 970 (sk_td o_law9 43 rfl) (by decide) rfl (fun _ => ?_) (fun hc => absurd rfl hc) ?_
  exact kk _ hR
set_option maxRecDepth 100000 in
set_option maxHeartbeats 4000000 in
theorem law_c28 {l : Launch} {nm : String} {L i : Nat} {xs : Nat → Int32} {d : sk_D} (hL : L ≤ 2560) (hi : i + 5 ≤ L) (hR : sk_R d) (kk : ∀ d2, sk_R d2 → sk_G l room_1 (m_law nm) (sk_ExL L xs) sk_ZL 171 56719 1417 [some (.inr (.inr (some (9999, 0)))), some (.inr (.inr (some (0, 0)))), some (.inr (.inr (some (44, 0)))), some (.inl (nI i))] [] (sk_mm d2)) : sk_G l room_1 (m_law nm) (sk_ExL L xs) sk_ZL 171 56719 972 [some (.inr (.inr (some (9999, 0)))), some (.inr (.inr (some (0, 0)))), some (.inr (.inr (some (44, 0)))), some (.inl (nI i))] [] (sk_mm d) := by
  obtain ⟨a, hq1, hq2⟩ := pz_canTeach hR (xs (i + 1)) (xs (i + 2))
  refine sg_aload_n 973 (sk_td o_law9 46 rfl) rfl rfl ?_
  refine sg_aload_n 974 (sk_td o_law9 47 rfl) rfl rfl ?_
  refine sg_iload_n 975 (sk_td o_law9 48 rfl) rfl rfl ?_
  refine sg_iconst (v := (1 : Int32)) 976 (sk_td o_law9 49 rfl) rfl (by decide) ?_
  refine sg_iadd 977 (sk_td o_law9 50 rfl) rfl ?_
  refine sg_sld (n := i + 1) 978 (sk_td o_law9 51 rfl) rfl (nI_add i 1) (by omega) hL ?_
  refine sg_aload_n 979 (sk_td o_law9 52 rfl) rfl rfl ?_
  refine sg_iload_n 980 (sk_td o_law9 53 rfl) rfl rfl ?_
  refine sg_iconst (v := (2 : Int32)) 981 (sk_td o_law9 54 rfl) rfl (by decide) ?_
  refine sg_iadd 982 (sk_td o_law9 55 rfl) rfl ?_
  refine sg_sld (n := i + 2) 983 (sk_td o_law9 56 rfl) rfl (nI_add i 2) (by omega) hL ?_
  refine sm_callL2i 986 (s_X8_canTeach hq1) (sk_td o_law9 57 rfl) rfl lv_L_131 rfl rfl rfl sz_0 ⟨Nat.le_of_ble_eq_true rfl, Nat.le_of_ble_eq_true rfl, Nat.le_of_ble_eq_true rfl, Nat.le_of_ble_eq_true rfl⟩ (Nat.le_of_ble_eq_true rfl) ?_
  refine sg_aload_n 987 (sk_td o_law9 58 rfl) rfl rfl ?_
  refine sg_aload_n 988 (sk_td o_law9 59 rfl) rfl rfl ?_
  refine sg_iload_n 989 (sk_td o_law10 0 rfl) rfl rfl ?_
  refine sg_iconst (v := (1 : Int32)) 990 (sk_td o_law10 1 rfl) rfl (by decide) ?_
  refine sg_iadd 991 (sk_td o_law10 2 rfl) rfl ?_
  refine sg_sld (n := i + 1) 992 (sk_td o_law10 3 rfl) rfl (nI_add i 1) (by omega) hL ?_
  refine sg_aload_n 993 (sk_td o_law10 4 rfl) rfl rfl ?_
  refine sg_iload_n 994 (sk_td o_law10 5 rfl) rfl rfl ?_
  refine sg_iconst (v := (2 : Int32)) 995 (sk_td o_law10 6 rfl) rfl (by decide) ?_
  refine sg_iadd 996 (sk_td o_law10 7 rfl) rfl ?_
  refine sg_sld (n := i + 2) 997 (sk_td o_law10 8 rfl) rfl (nI_add i 2) (by omega) hL ?_
  refine sm_callL2i 1000 (s_X9_canTeach hq2) (sk_td o_law10 9 rfl) rfl lv_L_134 rfl rfl rfl sz_44 ⟨Nat.le_of_ble_eq_true rfl, Nat.le_of_ble_eq_true rfl, Nat.le_of_ble_eq_true rfl, Nat.le_of_ble_eq_true rfl⟩ (Nat.le_of_ble_eq_true rfl) ?_
  refine sg_ic_eq 1417 1003 (sk_td o_law10 10 rfl) (by decide) rfl (fun _ => ?_) (fun hc => absurd rfl hc) ?_
  exact kk _ hR
set_option maxRecDepth 100000 in
set_option maxHeartbeats 4000000 in
theorem law_c29 {l : Launch} {nm : String} {L i : Nat} {xs : Nat → Int32} {d : sk_D} (hL : L ≤ 2560) (hi : i + 5 ≤ L) (hR : sk_R d) (kk : ∀ d2, sk_R d2 → sk_G l room_1 (m_law nm) (sk_ExL L xs) sk_ZL 171 56719 1417 [some (.inr (.inr (some (9999, 0)))), some (.inr (.inr (some (0, 0)))), some (.inr (.inr (some (44, 0)))), some (.inl (nI i))] [] (sk_mm d2)) : sk_G l room_1 (m_law nm) (sk_ExL L xs) sk_ZL 171 56719 1005 [some (.inr (.inr (some (9999, 0)))), some (.inr (.inr (some (0, 0)))), some (.inr (.inr (some (44, 0)))), some (.inl (nI i))] [] (sk_mm d) := by
  obtain ⟨a, d1, d2, hq1, hq2, hR2⟩ := pz_staff hR
  refine sg_aload_n 1006 (sk_td o_law10 13 rfl) rfl rfl ?_
  refine sm_callL0i 1009 (s_X8_staff hq1) (sk_td o_law10 14 rfl) rfl lv_L_135 rfl rfl rfl sz_0 ⟨Nat.le_of_ble_eq_true rfl, Nat.le_of_ble_eq_true rfl, Nat.le_of_ble_eq_true rfl, Nat.le_of_ble_eq_true rfl⟩ (Nat.le_of_ble_eq_true rfl) ?_
  refine sg_aload_n 1010 (sk_td o_law10 15 rfl) rfl rfl ?_
  refine sm_callL0i 1013 (s_X9_staff hq2) (sk_td o_law10 16 rfl) rfl lv_L_138 rfl rfl rfl sz_44 ⟨Nat.le_of_ble_eq_true rfl, Nat.le_of_ble_eq_true rfl, Nat.le_of_ble_eq_true rfl, Nat.le_of_ble_eq_true rfl⟩ (Nat.le_of_ble_eq_true rfl) ?_
  refine sg_ic_eq 1417 1016 (sk_td o_law10 17 rfl) (by decide) rfl (fun _ => ?_) (fun hc => absurd rfl hc) ?_
  exact kk _ hR2
set_option maxRecDepth 100000 in
set_option maxHeartbeats 4000000 in
theorem law_c30 {l : Launch} {nm : String} {L i : Nat} {xs : Nat → Int32} {d : sk_D} (hL : L ≤ 2560) (hi : i + 5 ≤ L) (hR : sk_R d) (kk : ∀ d2, sk_R d2 → sk_G l room_1 (m_law nm) (sk_ExL L xs) sk_ZL 171 56719 1417 [some (.inr (.inr (some (9999, 0)))), some (.inr (.inr (some (0, 0)))), some (.inr (.inr (some (44, 0)))), some (.inl (nI i))] [] (sk_mm d2)) : sk_G l room_1 (m_law nm) (sk_ExL L xs) sk_ZL 171 56719 1018 [some (.inr (.inr (some (9999, 0)))), some (.inr (.inr (some (0, 0)))), some (.inr (.inr (some (44, 0)))), some (.inl (nI i))] [] (sk_mm d) := by
  obtain ⟨a, d1, d2, hq1, hq2, hR2⟩ := pz_pay hR (xs (i + 1))
  refine sg_aload_n 1019 (sk_td o_law10 20 rfl) rfl rfl ?_
  refine sg_aload_n 1020 (sk_td o_law10 21 rfl) rfl rfl ?_
  refine sg_iload_n 1021 (sk_td o_law10 22 rfl) rfl rfl ?_
  refine sg_iconst (v := (1 : Int32)) 1022 (sk_td o_law10 23 rfl) rfl (by decide) ?_
  refine sg_iadd 1023 (sk_td o_law10 24 rfl) rfl ?_
  refine sg_sld (n := i + 1) 1024 (sk_td o_law10 25 rfl) rfl (nI_add i 1) (by omega) hL ?_
  refine sm_callL1i 1027 (s_X8_pay hq1) (sk_td o_law10 26 rfl) rfl lv_L_139 rfl rfl rfl sz_0 ⟨Nat.le_of_ble_eq_true rfl, Nat.le_of_ble_eq_true rfl, Nat.le_of_ble_eq_true rfl, Nat.le_of_ble_eq_true rfl⟩ (Nat.le_of_ble_eq_true rfl) ?_
  refine sg_aload_n 1028 (sk_td o_law10 27 rfl) rfl rfl ?_
  refine sg_aload_n 1029 (sk_td o_law10 28 rfl) rfl rfl ?_
  refine sg_iload_n 1030 (sk_td o_law10 29 rfl) rfl rfl ?_
  refine sg_iconst (v := (1 : Int32)) 1031 (sk_td o_law10 30 rfl) rfl (by decide) ?_
  refine sg_iadd 1032 (sk_td o_law10 31 rfl) rfl ?_
  refine sg_sld (n := i + 1) 1033 (sk_td o_law10 32 rfl) rfl (nI_add i 1) (by omega) hL ?_
  refine sm_callL1i 1036 (s_X9_pay hq2) (sk_td o_law10 33 rfl) rfl lv_L_142 rfl rfl rfl sz_44 ⟨Nat.le_of_ble_eq_true rfl, Nat.le_of_ble_eq_true rfl, Nat.le_of_ble_eq_true rfl, Nat.le_of_ble_eq_true rfl⟩ (Nat.le_of_ble_eq_true rfl) ?_
  refine sg_ic_eq 1417 1039 (sk_td o_law10 34 rfl) (by decide) rfl (fun _ => ?_) (fun hc => absurd rfl hc) ?_
  exact kk _ hR2
set_option maxRecDepth 100000 in
set_option maxHeartbeats 4000000 in
theorem law_c31 {l : Launch} {nm : String} {L i : Nat} {xs : Nat → Int32} {d : sk_D} (hL : L ≤ 2560) (hi : i + 5 ≤ L) (hR : sk_R d) (kk : ∀ d2, sk_R d2 → sk_G l room_1 (m_law nm) (sk_ExL L xs) sk_ZL 171 56719 1417 [some (.inr (.inr (some (9999, 0)))), some (.inr (.inr (some (0, 0)))), some (.inr (.inr (some (44, 0)))), some (.inl (nI i))] [] (sk_mm d2)) : sk_G l room_1 (m_law nm) (sk_ExL L xs) sk_ZL 171 56719 1041 [some (.inr (.inr (some (9999, 0)))), some (.inr (.inr (some (0, 0)))), some (.inr (.inr (some (44, 0)))), some (.inl (nI i))] [] (sk_mm d) := by
  obtain ⟨a, hq1, hq2⟩ := pz_earnings hR (xs (i + 1))
  refine sg_aload_n 1042 (sk_td o_law10 37 rfl) rfl rfl ?_
  refine sg_aload_n 1043 (sk_td o_law10 38 rfl) rfl rfl ?_
  refine sg_iload_n 1044 (sk_td o_law10 39 rfl) rfl rfl ?_
  refine sg_iconst (v := (1 : Int32)) 1045 (sk_td o_law10 40 rfl) rfl (by decide) ?_
  refine sg_iadd 1046 (sk_td o_law10 41 rfl) rfl ?_
  refine sg_sld (n := i + 1) 1047 (sk_td o_law10 42 rfl) rfl (nI_add i 1) (by omega) hL ?_
  refine sm_callL1i 1050 (s_X8_earnings hq1) (sk_td o_law10 43 rfl) rfl lv_L_143 rfl rfl rfl sz_0 ⟨Nat.le_of_ble_eq_true rfl, Nat.le_of_ble_eq_true rfl, Nat.le_of_ble_eq_true rfl, Nat.le_of_ble_eq_true rfl⟩ (Nat.le_of_ble_eq_true rfl) ?_
  refine sg_aload_n 1051 (sk_td o_law10 44 rfl) rfl rfl ?_
  refine sg_aload_n 1052 (sk_td o_law10 45 rfl) rfl rfl ?_
  refine sg_iload_n 1053 (sk_td o_law10 46 rfl) rfl rfl ?_
  refine sg_iconst (v := (1 : Int32)) 1054 (sk_td o_law10 47 rfl) rfl (by decide) ?_
  refine sg_iadd 1055 (sk_td o_law10 48 rfl) rfl ?_
  refine sg_sld (n := i + 1) 1056 (sk_td o_law10 49 rfl) rfl (nI_add i 1) (by omega) hL ?_
  refine sm_callL1i 1059 (s_X9_earnings hq2) (sk_td o_law10 50 rfl) rfl lv_L_146 rfl rfl rfl sz_44 ⟨Nat.le_of_ble_eq_true rfl, Nat.le_of_ble_eq_true rfl, Nat.le_of_ble_eq_true rfl, Nat.le_of_ble_eq_true rfl⟩ (Nat.le_of_ble_eq_true rfl) ?_
  refine sg_ic_eq 1417 1062 (sk_td o_law10 51 rfl) (by decide) rfl (fun _ => ?_) (fun hc => absurd rfl hc) ?_
  exact kk _ hR
set_option maxRecDepth 100000 in
set_option maxHeartbeats 4000000 in
theorem law_c32 {l : Launch} {nm : String} {L i : Nat} {xs : Nat → Int32} {d : sk_D} (hL : L ≤ 2560) (hi : i + 5 ≤ L) (hR : sk_R d) (kk : ∀ d2, sk_R d2 → sk_G l room_1 (m_law nm) (sk_ExL L xs) sk_ZL 171 56719 1417 [some (.inr (.inr (some (9999, 0)))), some (.inr (.inr (some (0, 0)))), some (.inr (.inr (some (44, 0)))), some (.inl (nI i))] [] (sk_mm d2)) : sk_G l room_1 (m_law nm) (sk_ExL L xs) sk_ZL 171 56719 1064 [some (.inr (.inr (some (9999, 0)))), some (.inr (.inr (some (0, 0)))), some (.inr (.inr (some (44, 0)))), some (.inl (nI i))] [] (sk_mm d) := by
  obtain ⟨a, d1, d2, hq1, hq2, hR2⟩ := pz_addLift hR (xs (i + 1)) (xs (i + 2)) (xs (i + 3))
  refine sg_aload_n 1065 (sk_td o_law10 54 rfl) rfl rfl ?_
  refine sg_aload_n 1066 (sk_td o_law10 55 rfl) rfl rfl ?_
  refine sg_iload_n 1067 (sk_td o_law10 56 rfl) rfl rfl ?_
  refine sg_iconst (v := (1 : Int32)) 1068 (sk_td o_law10 57 rfl) rfl (by decide) ?_
  refine sg_iadd 1069 (sk_td o_law10 58 rfl) rfl ?_
  refine sg_sld (n := i + 1) 1070 (sk_td o_law10 59 rfl) rfl (nI_add i 1) (by omega) hL ?_
  refine sg_aload_n 1071 (sk_td o_law11 0 rfl) rfl rfl ?_
  refine sg_iload_n 1072 (sk_td o_law11 1 rfl) rfl rfl ?_
  refine sg_iconst (v := (2 : Int32)) 1073 (sk_td o_law11 2 rfl) rfl (by decide) ?_
  refine sg_iadd 1074 (sk_td o_law11 3 rfl) rfl ?_
  refine sg_sld (n := i + 2) 1075 (sk_td o_law11 4 rfl) rfl (nI_add i 2) (by omega) hL ?_
  refine sg_aload_n 1076 (sk_td o_law11 5 rfl) rfl rfl ?_
  refine sg_iload_n 1077 (sk_td o_law11 6 rfl) rfl rfl ?_
  refine sg_iconst (v := (3 : Int32)) 1078 (sk_td o_law11 7 rfl) rfl (by decide) ?_
  refine sg_iadd 1079 (sk_td o_law11 8 rfl) rfl ?_
  refine sg_sld (n := i + 3) 1080 (sk_td o_law11 9 rfl) rfl (nI_add i 3) (by omega) hL ?_
  refine sm_callL3i 1083 (s_X8_addLift hq1) (sk_td o_law11 10 rfl) rfl lv_L_147 rfl rfl rfl sz_0 ⟨Nat.le_of_ble_eq_true rfl, Nat.le_of_ble_eq_true rfl, Nat.le_of_ble_eq_true rfl, Nat.le_of_ble_eq_true rfl⟩ (Nat.le_of_ble_eq_true rfl) ?_
  refine sg_aload_n 1084 (sk_td o_law11 11 rfl) rfl rfl ?_
  refine sg_aload_n 1085 (sk_td o_law11 12 rfl) rfl rfl ?_
  refine sg_iload_n 1086 (sk_td o_law11 13 rfl) rfl rfl ?_
  refine sg_iconst (v := (1 : Int32)) 1087 (sk_td o_law11 14 rfl) rfl (by decide) ?_
  refine sg_iadd 1088 (sk_td o_law11 15 rfl) rfl ?_
  refine sg_sld (n := i + 1) 1089 (sk_td o_law11 16 rfl) rfl (nI_add i 1) (by omega) hL ?_
  refine sg_aload_n 1090 (sk_td o_law11 17 rfl) rfl rfl ?_
  refine sg_iload_n 1091 (sk_td o_law11 18 rfl) rfl rfl ?_
  refine sg_iconst (v := (2 : Int32)) 1092 (sk_td o_law11 19 rfl) rfl (by decide) ?_
  refine sg_iadd 1093 (sk_td o_law11 20 rfl) rfl ?_
  refine sg_sld (n := i + 2) 1094 (sk_td o_law11 21 rfl) rfl (nI_add i 2) (by omega) hL ?_
  refine sg_aload_n 1095 (sk_td o_law11 22 rfl) rfl rfl ?_
  refine sg_iload_n 1096 (sk_td o_law11 23 rfl) rfl rfl ?_
  refine sg_iconst (v := (3 : Int32)) 1097 (sk_td o_law11 24 rfl) rfl (by decide) ?_
  refine sg_iadd 1098 (sk_td o_law11 25 rfl) rfl ?_
  refine sg_sld (n := i + 3) 1099 (sk_td o_law11 26 rfl) rfl (nI_add i 3) (by omega) hL ?_
  refine sm_callL3i 1102 (s_X9_addLift hq2) (sk_td o_law11 27 rfl) rfl lv_L_150 rfl rfl rfl sz_44 ⟨Nat.le_of_ble_eq_true rfl, Nat.le_of_ble_eq_true rfl, Nat.le_of_ble_eq_true rfl, Nat.le_of_ble_eq_true rfl⟩ (Nat.le_of_ble_eq_true rfl) ?_
  refine sg_ic_eq 1417 1105 (sk_td o_law11 28 rfl) (by decide) rfl (fun _ => ?_) (fun hc => absurd rfl hc) ?_
  exact kk _ hR2
set_option maxRecDepth 100000 in
set_option maxHeartbeats 4000000 in
theorem law_c33 {l : Launch} {nm : String} {L i : Nat} {xs : Nat → Int32} {d : sk_D} (hL : L ≤ 2560) (hi : i + 5 ≤ L) (hR : sk_R d) (kk : ∀ d2, sk_R d2 → sk_G l room_1 (m_law nm) (sk_ExL L xs) sk_ZL 171 56719 1417 [some (.inr (.inr (some (9999, 0)))), some (.inr (.inr (some (0, 0)))), some (.inr (.inr (some (44, 0)))), some (.inl (nI i))] [] (sk_mm d2)) : sk_G l room_1 (m_law nm) (sk_ExL L xs) sk_ZL 171 56719 1107 [some (.inr (.inr (some (9999, 0)))), some (.inr (.inr (some (0, 0)))), some (.inr (.inr (some (44, 0)))), some (.inl (nI i))] [] (sk_mm d) := by
  obtain ⟨a, d1, d2, hq1, hq2, hR2⟩ := pz_addStop hR (xs (i + 1)) (xs (i + 2)) (xs (i + 3))
  refine sg_aload_n 1108 (sk_td o_law11 31 rfl) rfl rfl ?_
  refine sg_aload_n 1109 (sk_td o_law11 32 rfl) rfl rfl ?_
  refine sg_iload_n 1110 (sk_td o_law11 33 rfl) rfl rfl ?_
  refine sg_iconst (v := (1 : Int32)) 1111 (sk_td o_law11 34 rfl) rfl (by decide) ?_
  refine sg_iadd 1112 (sk_td o_law11 35 rfl) rfl ?_
  refine sg_sld (n := i + 1) 1113 (sk_td o_law11 36 rfl) rfl (nI_add i 1) (by omega) hL ?_
  refine sg_aload_n 1114 (sk_td o_law11 37 rfl) rfl rfl ?_
  refine sg_iload_n 1115 (sk_td o_law11 38 rfl) rfl rfl ?_
  refine sg_iconst (v := (2 : Int32)) 1116 (sk_td o_law11 39 rfl) rfl (by decide) ?_
  refine sg_iadd 1117 (sk_td o_law11 40 rfl) rfl ?_
  refine sg_sld (n := i + 2) 1118 (sk_td o_law11 41 rfl) rfl (nI_add i 2) (by omega) hL ?_
  refine sg_aload_n 1119 (sk_td o_law11 42 rfl) rfl rfl ?_
  refine sg_iload_n 1120 (sk_td o_law11 43 rfl) rfl rfl ?_
  refine sg_iconst (v := (3 : Int32)) 1121 (sk_td o_law11 44 rfl) rfl (by decide) ?_
  refine sg_iadd 1122 (sk_td o_law11 45 rfl) rfl ?_
  refine sg_sld (n := i + 3) 1123 (sk_td o_law11 46 rfl) rfl (nI_add i 3) (by omega) hL ?_
  refine sm_callL3i 1126 (s_X8_addStop hq1) (sk_td o_law11 47 rfl) rfl lv_L_151 rfl rfl rfl sz_0 ⟨Nat.le_of_ble_eq_true rfl, Nat.le_of_ble_eq_true rfl, Nat.le_of_ble_eq_true rfl, Nat.le_of_ble_eq_true rfl⟩ (Nat.le_of_ble_eq_true rfl) ?_
  refine sg_aload_n 1127 (sk_td o_law11 48 rfl) rfl rfl ?_
  refine sg_aload_n 1128 (sk_td o_law11 49 rfl) rfl rfl ?_
  refine sg_iload_n 1129 (sk_td o_law11 50 rfl) rfl rfl ?_
  refine sg_iconst (v := (1 : Int32)) 1130 (sk_td o_law11 51 rfl) rfl (by decide) ?_
  refine sg_iadd 1131 (sk_td o_law11 52 rfl) rfl ?_
  refine sg_sld (n := i + 1) 1132 (sk_td o_law11 53 rfl) rfl (nI_add i 1) (by omega) hL ?_
  refine sg_aload_n 1133 (sk_td o_law11 54 rfl) rfl rfl ?_
  refine sg_iload_n 1134 (sk_td o_law11 55 rfl) rfl rfl ?_
  refine sg_iconst (v := (2 : Int32)) 1135 (sk_td o_law11 56 rfl) rfl (by decide) ?_
  refine sg_iadd 1136 (sk_td o_law11 57 rfl) rfl ?_
  refine sg_sld (n := i + 2) 1137 (sk_td o_law11 58 rfl) rfl (nI_add i 2) (by omega) hL ?_
  refine sg_aload_n 1138 (sk_td o_law11 59 rfl) rfl rfl ?_
  refine sg_iload_n 1139 (sk_td o_law12 0 rfl) rfl rfl ?_
  refine sg_iconst (v := (3 : Int32)) 1140 (sk_td o_law12 1 rfl) rfl (by decide) ?_
  refine sg_iadd 1141 (sk_td o_law12 2 rfl) rfl ?_
  refine sg_sld (n := i + 3) 1142 (sk_td o_law12 3 rfl) rfl (nI_add i 3) (by omega) hL ?_
  refine sm_callL3i 1145 (s_X9_addStop hq2) (sk_td o_law12 4 rfl) rfl lv_L_154 rfl rfl rfl sz_44 ⟨Nat.le_of_ble_eq_true rfl, Nat.le_of_ble_eq_true rfl, Nat.le_of_ble_eq_true rfl, Nat.le_of_ble_eq_true rfl⟩ (Nat.le_of_ble_eq_true rfl) ?_
  refine sg_ic_eq 1417 1148 (sk_td o_law12 5 rfl) (by decide) rfl (fun _ => ?_) (fun hc => absurd rfl hc) ?_
  exact kk _ hR2
set_option maxRecDepth 100000 in
set_option maxHeartbeats 4000000 in
theorem law_c34 {l : Launch} {nm : String} {L i : Nat} {xs : Nat → Int32} {d : sk_D} (hL : L ≤ 2560) (hi : i + 5 ≤ L) (hR : sk_R d) (kk : ∀ d2, sk_R d2 → sk_G l room_1 (m_law nm) (sk_ExL L xs) sk_ZL 171 56719 1417 [some (.inr (.inr (some (9999, 0)))), some (.inr (.inr (some (0, 0)))), some (.inr (.inr (some (44, 0)))), some (.inl (nI i))] [] (sk_mm d2)) : sk_G l room_1 (m_law nm) (sk_ExL L xs) sk_ZL 171 56719 1150 [some (.inr (.inr (some (9999, 0)))), some (.inr (.inr (some (0, 0)))), some (.inr (.inr (some (44, 0)))), some (.inl (nI i))] [] (sk_mm d) := by
  obtain ⟨a, d1, d2, hq1, hq2, hR2⟩ := pz_clearStops hR (xs (i + 1))
  refine sg_aload_n 1151 (sk_td o_law12 8 rfl) rfl rfl ?_
  refine sg_aload_n 1152 (sk_td o_law12 9 rfl) rfl rfl ?_
  refine sg_iload_n 1153 (sk_td o_law12 10 rfl) rfl rfl ?_
  refine sg_iconst (v := (1 : Int32)) 1154 (sk_td o_law12 11 rfl) rfl (by decide) ?_
  refine sg_iadd 1155 (sk_td o_law12 12 rfl) rfl ?_
  refine sg_sld (n := i + 1) 1156 (sk_td o_law12 13 rfl) rfl (nI_add i 1) (by omega) hL ?_
  refine sm_callL1i 1159 (s_X8_clearStops hq1) (sk_td o_law12 14 rfl) rfl lv_L_155 rfl rfl rfl sz_0 ⟨Nat.le_of_ble_eq_true rfl, Nat.le_of_ble_eq_true rfl, Nat.le_of_ble_eq_true rfl, Nat.le_of_ble_eq_true rfl⟩ (Nat.le_of_ble_eq_true rfl) ?_
  refine sg_aload_n 1160 (sk_td o_law12 15 rfl) rfl rfl ?_
  refine sg_aload_n 1161 (sk_td o_law12 16 rfl) rfl rfl ?_
  refine sg_iload_n 1162 (sk_td o_law12 17 rfl) rfl rfl ?_
  refine sg_iconst (v := (1 : Int32)) 1163 (sk_td o_law12 18 rfl) rfl (by decide) ?_
  refine sg_iadd 1164 (sk_td o_law12 19 rfl) rfl ?_
  refine sg_sld (n := i + 1) 1165 (sk_td o_law12 20 rfl) rfl (nI_add i 1) (by omega) hL ?_
  refine sm_callL1i 1168 (s_X9_clearStops hq2) (sk_td o_law12 21 rfl) rfl lv_L_158 rfl rfl rfl sz_44 ⟨Nat.le_of_ble_eq_true rfl, Nat.le_of_ble_eq_true rfl, Nat.le_of_ble_eq_true rfl, Nat.le_of_ble_eq_true rfl⟩ (Nat.le_of_ble_eq_true rfl) ?_
  refine sg_ic_eq 1417 1171 (sk_td o_law12 22 rfl) (by decide) rfl (fun _ => ?_) (fun hc => absurd rfl hc) ?_
  exact kk _ hR2
set_option maxRecDepth 100000 in
set_option maxHeartbeats 4000000 in
theorem law_c35 {l : Launch} {nm : String} {L i : Nat} {xs : Nat → Int32} {d : sk_D} (hL : L ≤ 2560) (hi : i + 5 ≤ L) (hR : sk_R d) (kk : ∀ d2, sk_R d2 → sk_G l room_1 (m_law nm) (sk_ExL L xs) sk_ZL 171 56719 1417 [some (.inr (.inr (some (9999, 0)))), some (.inr (.inr (some (0, 0)))), some (.inr (.inr (some (44, 0)))), some (.inl (nI i))] [] (sk_mm d2)) : sk_G l room_1 (m_law nm) (sk_ExL L xs) sk_ZL 171 56719 1173 [some (.inr (.inr (some (9999, 0)))), some (.inr (.inr (some (0, 0)))), some (.inr (.inr (some (44, 0)))), some (.inl (nI i))] [] (sk_mm d) := by
  obtain ⟨a, d1, d2, hq1, hq2, hR2⟩ := pz_setStart hR (xs (i + 1)) (xs (i + 2))
  refine sg_aload_n 1174 (sk_td o_law12 25 rfl) rfl rfl ?_
  refine sg_aload_n 1175 (sk_td o_law12 26 rfl) rfl rfl ?_
  refine sg_iload_n 1176 (sk_td o_law12 27 rfl) rfl rfl ?_
  refine sg_iconst (v := (1 : Int32)) 1177 (sk_td o_law12 28 rfl) rfl (by decide) ?_
  refine sg_iadd 1178 (sk_td o_law12 29 rfl) rfl ?_
  refine sg_sld (n := i + 1) 1179 (sk_td o_law12 30 rfl) rfl (nI_add i 1) (by omega) hL ?_
  refine sg_aload_n 1180 (sk_td o_law12 31 rfl) rfl rfl ?_
  refine sg_iload_n 1181 (sk_td o_law12 32 rfl) rfl rfl ?_
  refine sg_iconst (v := (2 : Int32)) 1182 (sk_td o_law12 33 rfl) rfl (by decide) ?_
  refine sg_iadd 1183 (sk_td o_law12 34 rfl) rfl ?_
  refine sg_sld (n := i + 2) 1184 (sk_td o_law12 35 rfl) rfl (nI_add i 2) (by omega) hL ?_
  refine sm_callL2i 1187 (s_X8_setStart hq1) (sk_td o_law12 36 rfl) rfl lv_L_159 rfl rfl rfl sz_0 ⟨Nat.le_of_ble_eq_true rfl, Nat.le_of_ble_eq_true rfl, Nat.le_of_ble_eq_true rfl, Nat.le_of_ble_eq_true rfl⟩ (Nat.le_of_ble_eq_true rfl) ?_
  refine sg_aload_n 1188 (sk_td o_law12 37 rfl) rfl rfl ?_
  refine sg_aload_n 1189 (sk_td o_law12 38 rfl) rfl rfl ?_
  refine sg_iload_n 1190 (sk_td o_law12 39 rfl) rfl rfl ?_
  refine sg_iconst (v := (1 : Int32)) 1191 (sk_td o_law12 40 rfl) rfl (by decide) ?_
  refine sg_iadd 1192 (sk_td o_law12 41 rfl) rfl ?_
  refine sg_sld (n := i + 1) 1193 (sk_td o_law12 42 rfl) rfl (nI_add i 1) (by omega) hL ?_
  refine sg_aload_n 1194 (sk_td o_law12 43 rfl) rfl rfl ?_
  refine sg_iload_n 1195 (sk_td o_law12 44 rfl) rfl rfl ?_
  refine sg_iconst (v := (2 : Int32)) 1196 (sk_td o_law12 45 rfl) rfl (by decide) ?_
  refine sg_iadd 1197 (sk_td o_law12 46 rfl) rfl ?_
  refine sg_sld (n := i + 2) 1198 (sk_td o_law12 47 rfl) rfl (nI_add i 2) (by omega) hL ?_
  refine sm_callL2i 1201 (s_X9_setStart hq2) (sk_td o_law12 48 rfl) rfl lv_L_162 rfl rfl rfl sz_44 ⟨Nat.le_of_ble_eq_true rfl, Nat.le_of_ble_eq_true rfl, Nat.le_of_ble_eq_true rfl, Nat.le_of_ble_eq_true rfl⟩ (Nat.le_of_ble_eq_true rfl) ?_
  refine sg_ic_eq 1417 1204 (sk_td o_law12 49 rfl) (by decide) rfl (fun _ => ?_) (fun hc => absurd rfl hc) ?_
  exact kk _ hR2
set_option maxRecDepth 100000 in
set_option maxHeartbeats 4000000 in
theorem law_c36 {l : Launch} {nm : String} {L i : Nat} {xs : Nat → Int32} {d : sk_D} (hL : L ≤ 2560) (hi : i + 5 ≤ L) (hR : sk_R d) (kk : ∀ d2, sk_R d2 → sk_G l room_1 (m_law nm) (sk_ExL L xs) sk_ZL 171 56719 1417 [some (.inr (.inr (some (9999, 0)))), some (.inr (.inr (some (0, 0)))), some (.inr (.inr (some (44, 0)))), some (.inl (nI i))] [] (sk_mm d2)) : sk_G l room_1 (m_law nm) (sk_ExL L xs) sk_ZL 171 56719 1206 [some (.inr (.inr (some (9999, 0)))), some (.inr (.inr (some (0, 0)))), some (.inr (.inr (some (44, 0)))), some (.inl (nI i))] [] (sk_mm d) := by
  obtain ⟨a, d1, d2, hq1, hq2, hR2⟩ := pz_simulate hR (xs (i + 1))
  refine sg_aload_n 1207 (sk_td o_law12 52 rfl) rfl rfl ?_
  refine sg_aload_n 1208 (sk_td o_law12 53 rfl) rfl rfl ?_
  refine sg_iload_n 1209 (sk_td o_law12 54 rfl) rfl rfl ?_
  refine sg_iconst (v := (1 : Int32)) 1210 (sk_td o_law12 55 rfl) rfl (by decide) ?_
  refine sg_iadd 1211 (sk_td o_law12 56 rfl) rfl ?_
  refine sg_sld (n := i + 1) 1212 (sk_td o_law12 57 rfl) rfl (nI_add i 1) (by omega) hL ?_
  refine sm_callL1i 1215 (s_X8_simulate hq1) (sk_td o_law12 58 rfl) rfl lv_L_163 rfl rfl rfl sz_0 ⟨Nat.le_of_ble_eq_true rfl, Nat.le_of_ble_eq_true rfl, Nat.le_of_ble_eq_true rfl, Nat.le_of_ble_eq_true rfl⟩ (Nat.le_of_ble_eq_true rfl) ?_
  refine sg_aload_n 1216 (sk_td o_law12 59 rfl) rfl rfl ?_
  refine sg_aload_n 1217 (sk_td o_law13 0 rfl) rfl rfl ?_
  refine sg_iload_n 1218 (sk_td o_law13 1 rfl) rfl rfl ?_
  refine sg_iconst (v := (1 : Int32)) 1219 (sk_td o_law13 2 rfl) rfl (by decide) ?_
  refine sg_iadd 1220 (sk_td o_law13 3 rfl) rfl ?_
  refine sg_sld (n := i + 1) 1221 (sk_td o_law13 4 rfl) rfl (nI_add i 1) (by omega) hL ?_
  refine sm_callL1i 1224 (s_X9_simulate hq2) (sk_td o_law13 5 rfl) rfl lv_L_166 rfl rfl rfl sz_44 ⟨Nat.le_of_ble_eq_true rfl, Nat.le_of_ble_eq_true rfl, Nat.le_of_ble_eq_true rfl, Nat.le_of_ble_eq_true rfl⟩ (Nat.le_of_ble_eq_true rfl) ?_
  refine sg_ic_eq 1417 1227 (sk_td o_law13 6 rfl) (by decide) rfl (fun _ => ?_) (fun hc => absurd rfl hc) ?_
  exact kk _ hR2
set_option maxRecDepth 100000 in
set_option maxHeartbeats 4000000 in
theorem law_c37 {l : Launch} {nm : String} {L i : Nat} {xs : Nat → Int32} {d : sk_D} (hL : L ≤ 2560) (hi : i + 5 ≤ L) (hR : sk_R d) (kk : ∀ d2, sk_R d2 → sk_G l room_1 (m_law nm) (sk_ExL L xs) sk_ZL 171 56719 1417 [some (.inr (.inr (some (9999, 0)))), some (.inr (.inr (some (0, 0)))), some (.inr (.inr (some (44, 0)))), some (.inl (nI i))] [] (sk_mm d2)) : sk_G l room_1 (m_law nm) (sk_ExL L xs) sk_ZL 171 56719 1229 [some (.inr (.inr (some (9999, 0)))), some (.inr (.inr (some (0, 0)))), some (.inr (.inr (some (44, 0)))), some (.inl (nI i))] [] (sk_mm d) := by
  obtain ⟨a, hq1, hq2⟩ := pz_waited hR (xs (i + 1))
  refine sg_aload_n 1230 (sk_td o_law13 9 rfl) rfl rfl ?_
  refine sg_aload_n 1231 (sk_td o_law13 10 rfl) rfl rfl ?_
  refine sg_iload_n 1232 (sk_td o_law13 11 rfl) rfl rfl ?_
  refine sg_iconst (v := (1 : Int32)) 1233 (sk_td o_law13 12 rfl) rfl (by decide) ?_
  refine sg_iadd 1234 (sk_td o_law13 13 rfl) rfl ?_
  refine sg_sld (n := i + 1) 1235 (sk_td o_law13 14 rfl) rfl (nI_add i 1) (by omega) hL ?_
  refine sm_callL1i 1238 (s_X8_waited hq1) (sk_td o_law13 15 rfl) rfl lv_L_167 rfl rfl rfl sz_0 ⟨Nat.le_of_ble_eq_true rfl, Nat.le_of_ble_eq_true rfl, Nat.le_of_ble_eq_true rfl, Nat.le_of_ble_eq_true rfl⟩ (Nat.le_of_ble_eq_true rfl) ?_
  refine sg_aload_n 1239 (sk_td o_law13 16 rfl) rfl rfl ?_
  refine sg_aload_n 1240 (sk_td o_law13 17 rfl) rfl rfl ?_
  refine sg_iload_n 1241 (sk_td o_law13 18 rfl) rfl rfl ?_
  refine sg_iconst (v := (1 : Int32)) 1242 (sk_td o_law13 19 rfl) rfl (by decide) ?_
  refine sg_iadd 1243 (sk_td o_law13 20 rfl) rfl ?_
  refine sg_sld (n := i + 1) 1244 (sk_td o_law13 21 rfl) rfl (nI_add i 1) (by omega) hL ?_
  refine sm_callL1i 1247 (s_X9_waited hq2) (sk_td o_law13 22 rfl) rfl lv_L_170 rfl rfl rfl sz_44 ⟨Nat.le_of_ble_eq_true rfl, Nat.le_of_ble_eq_true rfl, Nat.le_of_ble_eq_true rfl, Nat.le_of_ble_eq_true rfl⟩ (Nat.le_of_ble_eq_true rfl) ?_
  refine sg_ic_eq 1417 1250 (sk_td o_law13 23 rfl) (by decide) rfl (fun _ => ?_) (fun hc => absurd rfl hc) ?_
  exact kk _ hR
set_option maxRecDepth 100000 in
set_option maxHeartbeats 4000000 in
theorem law_c38 {l : Launch} {nm : String} {L i : Nat} {xs : Nat → Int32} {d : sk_D} (hL : L ≤ 2560) (hi : i + 5 ≤ L) (hR : sk_R d) (kk : ∀ d2, sk_R d2 → sk_G l room_1 (m_law nm) (sk_ExL L xs) sk_ZL 171 56719 1417 [some (.inr (.inr (some (9999, 0)))), some (.inr (.inr (some (0, 0)))), some (.inr (.inr (some (44, 0)))), some (.inl (nI i))] [] (sk_mm d2)) : sk_G l room_1 (m_law nm) (sk_ExL L xs) sk_ZL 171 56719 1252 [some (.inr (.inr (some (9999, 0)))), some (.inr (.inr (some (0, 0)))), some (.inr (.inr (some (44, 0)))), some (.inl (nI i))] [] (sk_mm d) := by
  obtain ⟨a, hq1, hq2⟩ := pz_rides hR (xs (i + 1))
  refine sg_aload_n 1253 (sk_td o_law13 26 rfl) rfl rfl ?_
  refine sg_aload_n 1254 (sk_td o_law13 27 rfl) rfl rfl ?_
  refine sg_iload_n 1255 (sk_td o_law13 28 rfl) rfl rfl ?_
  refine sg_iconst (v := (1 : Int32)) 1256 (sk_td o_law13 29 rfl) rfl (by decide) ?_
  refine sg_iadd 1257 (sk_td o_law13 30 rfl) rfl ?_
  refine sg_sld (n := i + 1) 1258 (sk_td o_law13 31 rfl) rfl (nI_add i 1) (by omega) hL ?_
  refine sm_callL1i 1261 (s_X8_rides hq1) (sk_td o_law13 32 rfl) rfl lv_L_171 rfl rfl rfl sz_0 ⟨Nat.le_of_ble_eq_true rfl, Nat.le_of_ble_eq_true rfl, Nat.le_of_ble_eq_true rfl, Nat.le_of_ble_eq_true rfl⟩ (Nat.le_of_ble_eq_true rfl) ?_
  refine sg_aload_n 1262 (sk_td o_law13 33 rfl) rfl rfl ?_
  refine sg_aload_n 1263 (sk_td o_law13 34 rfl) rfl rfl ?_
  refine sg_iload_n 1264 (sk_td o_law13 35 rfl) rfl rfl ?_
  refine sg_iconst (v := (1 : Int32)) 1265 (sk_td o_law13 36 rfl) rfl (by decide) ?_
  refine sg_iadd 1266 (sk_td o_law13 37 rfl) rfl ?_
  refine sg_sld (n := i + 1) 1267 (sk_td o_law13 38 rfl) rfl (nI_add i 1) (by omega) hL ?_
  refine sm_callL1i 1270 (s_X9_rides hq2) (sk_td o_law13 39 rfl) rfl lv_L_174 rfl rfl rfl sz_44 ⟨Nat.le_of_ble_eq_true rfl, Nat.le_of_ble_eq_true rfl, Nat.le_of_ble_eq_true rfl, Nat.le_of_ble_eq_true rfl⟩ (Nat.le_of_ble_eq_true rfl) ?_
  refine sg_ic_eq 1417 1273 (sk_td o_law13 40 rfl) (by decide) rfl (fun _ => ?_) (fun hc => absurd rfl hc) ?_
  exact kk _ hR
set_option maxRecDepth 100000 in
set_option maxHeartbeats 4000000 in
theorem law_c39 {l : Launch} {nm : String} {L i : Nat} {xs : Nat → Int32} {d : sk_D} (hL : L ≤ 2560) (hi : i + 5 ≤ L) (hR : sk_R d) (kk : ∀ d2, sk_R d2 → sk_G l room_1 (m_law nm) (sk_ExL L xs) sk_ZL 171 56719 1417 [some (.inr (.inr (some (9999, 0)))), some (.inr (.inr (some (0, 0)))), some (.inr (.inr (some (44, 0)))), some (.inl (nI i))] [] (sk_mm d2)) : sk_G l room_1 (m_law nm) (sk_ExL L xs) sk_ZL 171 56719 1275 [some (.inr (.inr (some (9999, 0)))), some (.inr (.inr (some (0, 0)))), some (.inr (.inr (some (44, 0)))), some (.inl (nI i))] [] (sk_mm d) := by
  obtain ⟨a, hq1, hq2⟩ := pz_longestQueue hR (xs (i + 1))
  refine sg_aload_n 1276 (sk_td o_law13 43 rfl) rfl rfl ?_
  refine sg_aload_n 1277 (sk_td o_law13 44 rfl) rfl rfl ?_
  refine sg_iload_n 1278 (sk_td o_law13 45 rfl) rfl rfl ?_
  refine sg_iconst (v := (1 : Int32)) 1279 (sk_td o_law13 46 rfl) rfl (by decide) ?_
  refine sg_iadd 1280 (sk_td o_law13 47 rfl) rfl ?_
  refine sg_sld (n := i + 1) 1281 (sk_td o_law13 48 rfl) rfl (nI_add i 1) (by omega) hL ?_
  refine sm_callL1i 1284 (s_X8_longestQueue hq1) (sk_td o_law13 49 rfl) rfl lv_L_175 rfl rfl rfl sz_0 ⟨Nat.le_of_ble_eq_true rfl, Nat.le_of_ble_eq_true rfl, Nat.le_of_ble_eq_true rfl, Nat.le_of_ble_eq_true rfl⟩ (Nat.le_of_ble_eq_true rfl) ?_
  refine sg_aload_n 1285 (sk_td o_law13 50 rfl) rfl rfl ?_
  refine sg_aload_n 1286 (sk_td o_law13 51 rfl) rfl rfl ?_
  refine sg_iload_n 1287 (sk_td o_law13 52 rfl) rfl rfl ?_
  refine sg_iconst (v := (1 : Int32)) 1288 (sk_td o_law13 53 rfl) rfl (by decide) ?_
  refine sg_iadd 1289 (sk_td o_law13 54 rfl) rfl ?_
  refine sg_sld (n := i + 1) 1290 (sk_td o_law13 55 rfl) rfl (nI_add i 1) (by omega) hL ?_
  refine sm_callL1i 1293 (s_X9_longestQueue hq2) (sk_td o_law13 56 rfl) rfl lv_L_178 rfl rfl rfl sz_44 ⟨Nat.le_of_ble_eq_true rfl, Nat.le_of_ble_eq_true rfl, Nat.le_of_ble_eq_true rfl, Nat.le_of_ble_eq_true rfl⟩ (Nat.le_of_ble_eq_true rfl) ?_
  refine sg_ic_eq 1417 1296 (sk_td o_law13 57 rfl) (by decide) rfl (fun _ => ?_) (fun hc => absurd rfl hc) ?_
  exact kk _ hR
set_option maxRecDepth 100000 in
set_option maxHeartbeats 4000000 in
theorem law_c40 {l : Launch} {nm : String} {L i : Nat} {xs : Nat → Int32} {d : sk_D} (hL : L ≤ 2560) (hi : i + 5 ≤ L) (hR : sk_R d) (kk : ∀ d2, sk_R d2 → sk_G l room_1 (m_law nm) (sk_ExL L xs) sk_ZL 171 56719 1417 [some (.inr (.inr (some (9999, 0)))), some (.inr (.inr (some (0, 0)))), some (.inr (.inr (some (44, 0)))), some (.inl (nI i))] [] (sk_mm d2)) : sk_G l room_1 (m_law nm) (sk_ExL L xs) sk_ZL 171 56719 1298 [some (.inr (.inr (some (9999, 0)))), some (.inr (.inr (some (0, 0)))), some (.inr (.inr (some (44, 0)))), some (.inl (nI i))] [] (sk_mm d) := by
  obtain ⟨a, hq1, hq2⟩ := pz_carried hR (xs (i + 1))
  refine sg_aload_n 1299 (sk_td o_law14 0 rfl) rfl rfl ?_
  refine sg_aload_n 1300 (sk_td o_law14 1 rfl) rfl rfl ?_
  refine sg_iload_n 1301 (sk_td o_law14 2 rfl) rfl rfl ?_
  refine sg_iconst (v := (1 : Int32)) 1302 (sk_td o_law14 3 rfl) rfl (by decide) ?_
  refine sg_iadd 1303 (sk_td o_law14 4 rfl) rfl ?_
  refine sg_sld (n := i + 1) 1304 (sk_td o_law14 5 rfl) rfl (nI_add i 1) (by omega) hL ?_
  refine sm_callL1i 1307 (s_X8_carried hq1) (sk_td o_law14 6 rfl) rfl lv_L_179 rfl rfl rfl sz_0 ⟨Nat.le_of_ble_eq_true rfl, Nat.le_of_ble_eq_true rfl, Nat.le_of_ble_eq_true rfl, Nat.le_of_ble_eq_true rfl⟩ (Nat.le_of_ble_eq_true rfl) ?_
  refine sg_aload_n 1308 (sk_td o_law14 7 rfl) rfl rfl ?_
  refine sg_aload_n 1309 (sk_td o_law14 8 rfl) rfl rfl ?_
  refine sg_iload_n 1310 (sk_td o_law14 9 rfl) rfl rfl ?_
  refine sg_iconst (v := (1 : Int32)) 1311 (sk_td o_law14 10 rfl) rfl (by decide) ?_
  refine sg_iadd 1312 (sk_td o_law14 11 rfl) rfl ?_
  refine sg_sld (n := i + 1) 1313 (sk_td o_law14 12 rfl) rfl (nI_add i 1) (by omega) hL ?_
  refine sm_callL1i 1316 (s_X9_carried hq2) (sk_td o_law14 13 rfl) rfl lv_L_182 rfl rfl rfl sz_44 ⟨Nat.le_of_ble_eq_true rfl, Nat.le_of_ble_eq_true rfl, Nat.le_of_ble_eq_true rfl, Nat.le_of_ble_eq_true rfl⟩ (Nat.le_of_ble_eq_true rfl) ?_
  refine sg_ic_eq 1417 1319 (sk_td o_law14 14 rfl) (by decide) rfl (fun _ => ?_) (fun hc => absurd rfl hc) ?_
  exact kk _ hR
set_option maxRecDepth 100000 in
set_option maxHeartbeats 4000000 in
theorem law_c41 {l : Launch} {nm : String} {L i : Nat} {xs : Nat → Int32} {d : sk_D} (hL : L ≤ 2560) (hi : i + 5 ≤ L) (hR : sk_R d) (kk : ∀ d2, sk_R d2 → sk_G l room_1 (m_law nm) (sk_ExL L xs) sk_ZL 171 56719 1417 [some (.inr (.inr (some (9999, 0)))), some (.inr (.inr (some (0, 0)))), some (.inr (.inr (some (44, 0)))), some (.inl (nI i))] [] (sk_mm d2)) : sk_G l room_1 (m_law nm) (sk_ExL L xs) sk_ZL 171 56719 1321 [some (.inr (.inr (some (9999, 0)))), some (.inr (.inr (some (0, 0)))), some (.inr (.inr (some (44, 0)))), some (.inl (nI i))] [] (sk_mm d) := by
  obtain ⟨a, d1, d2, hq1, hq2, hR2⟩ := pz_bestStart hR (xs (i + 1)) (xs (i + 2))
  refine sg_aload_n 1322 (sk_td o_law14 17 rfl) rfl rfl ?_
  refine sg_aload_n 1323 (sk_td o_law14 18 rfl) rfl rfl ?_
  refine sg_iload_n 1324 (sk_td o_law14 19 rfl) rfl rfl ?_
  refine sg_iconst (v := (1 : Int32)) 1325 (sk_td o_law14 20 rfl) rfl (by decide) ?_
  refine sg_iadd 1326 (sk_td o_law14 21 rfl) rfl ?_
  refine sg_sld (n := i + 1) 1327 (sk_td o_law14 22 rfl) rfl (nI_add i 1) (by omega) hL ?_
  refine sg_aload_n 1328 (sk_td o_law14 23 rfl) rfl rfl ?_
  refine sg_iload_n 1329 (sk_td o_law14 24 rfl) rfl rfl ?_
  refine sg_iconst (v := (2 : Int32)) 1330 (sk_td o_law14 25 rfl) rfl (by decide) ?_
  refine sg_iadd 1331 (sk_td o_law14 26 rfl) rfl ?_
  refine sg_sld (n := i + 2) 1332 (sk_td o_law14 27 rfl) rfl (nI_add i 2) (by omega) hL ?_
  refine sm_callL2i 1335 (s_X8_bestStart hq1) (sk_td o_law14 28 rfl) rfl lv_L_183 rfl rfl rfl sz_0 ⟨Nat.le_of_ble_eq_true rfl, Nat.le_of_ble_eq_true rfl, Nat.le_of_ble_eq_true rfl, Nat.le_of_ble_eq_true rfl⟩ (Nat.le_of_ble_eq_true rfl) ?_
  refine sg_aload_n 1336 (sk_td o_law14 29 rfl) rfl rfl ?_
  refine sg_aload_n 1337 (sk_td o_law14 30 rfl) rfl rfl ?_
  refine sg_iload_n 1338 (sk_td o_law14 31 rfl) rfl rfl ?_
  refine sg_iconst (v := (1 : Int32)) 1339 (sk_td o_law14 32 rfl) rfl (by decide) ?_
  refine sg_iadd 1340 (sk_td o_law14 33 rfl) rfl ?_
  refine sg_sld (n := i + 1) 1341 (sk_td o_law14 34 rfl) rfl (nI_add i 1) (by omega) hL ?_
  refine sg_aload_n 1342 (sk_td o_law14 35 rfl) rfl rfl ?_
  refine sg_iload_n 1343 (sk_td o_law14 36 rfl) rfl rfl ?_
  refine sg_iconst (v := (2 : Int32)) 1344 (sk_td o_law14 37 rfl) rfl (by decide) ?_
  refine sg_iadd 1345 (sk_td o_law14 38 rfl) rfl ?_
  refine sg_sld (n := i + 2) 1346 (sk_td o_law14 39 rfl) rfl (nI_add i 2) (by omega) hL ?_
  refine sm_callL2i 1349 (s_X9_bestStart hq2) (sk_td o_law14 40 rfl) rfl lv_L_186 rfl rfl rfl sz_44 ⟨Nat.le_of_ble_eq_true rfl, Nat.le_of_ble_eq_true rfl, Nat.le_of_ble_eq_true rfl, Nat.le_of_ble_eq_true rfl⟩ (Nat.le_of_ble_eq_true rfl) ?_
  refine sg_ic_eq 1417 1352 (sk_td o_law14 41 rfl) (by decide) rfl (fun _ => ?_) (fun hc => absurd rfl hc) ?_
  exact kk _ hR2
set_option maxRecDepth 100000 in
set_option maxHeartbeats 4000000 in
theorem law_c42 {l : Launch} {nm : String} {L i : Nat} {xs : Nat → Int32} {d : sk_D} (hL : L ≤ 2560) (hi : i + 5 ≤ L) (hR : sk_R d) (kk : ∀ d2, sk_R d2 → sk_G l room_1 (m_law nm) (sk_ExL L xs) sk_ZL 171 56719 1417 [some (.inr (.inr (some (9999, 0)))), some (.inr (.inr (some (0, 0)))), some (.inr (.inr (some (44, 0)))), some (.inl (nI i))] [] (sk_mm d2)) : sk_G l room_1 (m_law nm) (sk_ExL L xs) sk_ZL 171 56719 1354 [some (.inr (.inr (some (9999, 0)))), some (.inr (.inr (some (0, 0)))), some (.inr (.inr (some (44, 0)))), some (.inl (nI i))] [] (sk_mm d) := by
  obtain ⟨a, d1, d2, hq1, hq2, hR2⟩ := pz_type hR (xs (i + 1))
  refine sg_aload_n 1355 (sk_td o_law14 44 rfl) rfl rfl ?_
  refine sg_aload_n 1356 (sk_td o_law14 45 rfl) rfl rfl ?_
  refine sg_iload_n 1357 (sk_td o_law14 46 rfl) rfl rfl ?_
  refine sg_iconst (v := (1 : Int32)) 1358 (sk_td o_law14 47 rfl) rfl (by decide) ?_
  refine sg_iadd 1359 (sk_td o_law14 48 rfl) rfl ?_
  refine sg_sld (n := i + 1) 1360 (sk_td o_law14 49 rfl) rfl (nI_add i 1) (by omega) hL ?_
  refine sm_callL1i 1363 (s_X8_type hq1) (sk_td o_law14 50 rfl) rfl lv_L_187 rfl rfl rfl sz_0 ⟨Nat.le_of_ble_eq_true rfl, Nat.le_of_ble_eq_true rfl, Nat.le_of_ble_eq_true rfl, Nat.le_of_ble_eq_true rfl⟩ (Nat.le_of_ble_eq_true rfl) ?_
  refine sg_aload_n 1364 (sk_td o_law14 51 rfl) rfl rfl ?_
  refine sg_aload_n 1365 (sk_td o_law14 52 rfl) rfl rfl ?_
  refine sg_iload_n 1366 (sk_td o_law14 53 rfl) rfl rfl ?_
  refine sg_iconst (v := (1 : Int32)) 1367 (sk_td o_law14 54 rfl) rfl (by decide) ?_
  refine sg_iadd 1368 (sk_td o_law14 55 rfl) rfl ?_
  refine sg_sld (n := i + 1) 1369 (sk_td o_law14 56 rfl) rfl (nI_add i 1) (by omega) hL ?_
  refine sm_callL1i 1372 (s_X9_type hq2) (sk_td o_law14 57 rfl) rfl lv_L_190 rfl rfl rfl sz_44 ⟨Nat.le_of_ble_eq_true rfl, Nat.le_of_ble_eq_true rfl, Nat.le_of_ble_eq_true rfl, Nat.le_of_ble_eq_true rfl⟩ (Nat.le_of_ble_eq_true rfl) ?_
  refine sg_ic_eq 1417 1375 (sk_td o_law14 58 rfl) (by decide) rfl (fun _ => ?_) (fun hc => absurd rfl hc) ?_
  exact kk _ hR2
set_option maxRecDepth 100000 in
set_option maxHeartbeats 4000000 in
theorem law_c43 {l : Launch} {nm : String} {L i : Nat} {xs : Nat → Int32} {d : sk_D} (hL : L ≤ 2560) (hi : i + 5 ≤ L) (hR : sk_R d) (kk : ∀ d2, sk_R d2 → sk_G l room_1 (m_law nm) (sk_ExL L xs) sk_ZL 171 56719 1417 [some (.inr (.inr (some (9999, 0)))), some (.inr (.inr (some (0, 0)))), some (.inr (.inr (some (44, 0)))), some (.inl (nI i))] [] (sk_mm d2)) : sk_G l room_1 (m_law nm) (sk_ExL L xs) sk_ZL 171 56719 1377 [some (.inr (.inr (some (9999, 0)))), some (.inr (.inr (some (0, 0)))), some (.inr (.inr (some (44, 0)))), some (.inl (nI i))] [] (sk_mm d) := by
  obtain ⟨a, d1, d2, hq1, hq2, hR2⟩ := pz_clearText hR
  refine sg_aload_n 1378 (sk_td o_law15 1 rfl) rfl rfl ?_
  refine sm_callL0i 1381 (s_X8_clearText hq1) (sk_td o_law15 2 rfl) rfl lv_L_191 rfl rfl rfl sz_0 ⟨Nat.le_of_ble_eq_true rfl, Nat.le_of_ble_eq_true rfl, Nat.le_of_ble_eq_true rfl, Nat.le_of_ble_eq_true rfl⟩ (Nat.le_of_ble_eq_true rfl) ?_
  refine sg_aload_n 1382 (sk_td o_law15 3 rfl) rfl rfl ?_
  refine sm_callL0i 1385 (s_X9_clearText hq2) (sk_td o_law15 4 rfl) rfl lv_L_194 rfl rfl rfl sz_44 ⟨Nat.le_of_ble_eq_true rfl, Nat.le_of_ble_eq_true rfl, Nat.le_of_ble_eq_true rfl, Nat.le_of_ble_eq_true rfl⟩ (Nat.le_of_ble_eq_true rfl) ?_
  refine sg_ic_eq 1417 1388 (sk_td o_law15 5 rfl) (by decide) rfl (fun _ => ?_) (fun hc => absurd rfl hc) ?_
  exact kk _ hR2
set_option maxRecDepth 100000 in
set_option maxHeartbeats 4000000 in
theorem law_c44 {l : Launch} {nm : String} {L i : Nat} {xs : Nat → Int32} {d : sk_D} (hL : L ≤ 2560) (hi : i + 5 ≤ L) (hR : sk_R d) (kk : ∀ d2, sk_R d2 → sk_G l room_1 (m_law nm) (sk_ExL L xs) sk_ZL 171 56719 1417 [some (.inr (.inr (some (9999, 0)))), some (.inr (.inr (some (0, 0)))), some (.inr (.inr (some (44, 0)))), some (.inl (nI i))] [] (sk_mm d2)) : sk_G l room_1 (m_law nm) (sk_ExL L xs) sk_ZL 171 56719 1390 [some (.inr (.inr (some (9999, 0)))), some (.inr (.inr (some (0, 0)))), some (.inr (.inr (some (44, 0)))), some (.inl (nI i))] [] (sk_mm d) := by
  obtain ⟨a, d1, d2, hq1, hq2, hR2⟩ := pz_load hR
  refine sg_aload_n 1391 (sk_td o_law15 8 rfl) rfl rfl ?_
  refine sm_callL0i 1394 (s_X8_load hq1) (sk_td o_law15 9 rfl) rfl lv_L_195 rfl rfl rfl sz_0 ⟨Nat.le_of_ble_eq_true rfl, Nat.le_of_ble_eq_true rfl, Nat.le_of_ble_eq_true rfl, Nat.le_of_ble_eq_true rfl⟩ (Nat.le_of_ble_eq_true rfl) ?_
  refine sg_aload_n 1395 (sk_td o_law15 10 rfl) rfl rfl ?_
  refine sm_callL0i 1398 (s_X9_load hq2) (sk_td o_law15 11 rfl) rfl lv_L_198 rfl rfl rfl sz_44 ⟨Nat.le_of_ble_eq_true rfl, Nat.le_of_ble_eq_true rfl, Nat.le_of_ble_eq_true rfl, Nat.le_of_ble_eq_true rfl⟩ (Nat.le_of_ble_eq_true rfl) ?_
  refine sg_ic_eq 1417 1401 (sk_td o_law15 12 rfl) (by decide) rfl (fun _ => ?_) (fun hc => absurd rfl hc) ?_
  exact kk _ hR2
set_option maxRecDepth 100000 in
set_option maxHeartbeats 4000000 in
theorem law_c45 {l : Launch} {nm : String} {L i : Nat} {xs : Nat → Int32} {d : sk_D} (hL : L ≤ 2560) (hi : i + 5 ≤ L) (hR : sk_R d) (kk : ∀ d2, sk_R d2 → sk_G l room_1 (m_law nm) (sk_ExL L xs) sk_ZL 171 56719 1417 [some (.inr (.inr (some (9999, 0)))), some (.inr (.inr (some (0, 0)))), some (.inr (.inr (some (44, 0)))), some (.inl (nI i))] [] (sk_mm d2)) : sk_G l room_1 (m_law nm) (sk_ExL L xs) sk_ZL 171 56719 1403 [some (.inr (.inr (some (9999, 0)))), some (.inr (.inr (some (0, 0)))), some (.inr (.inr (some (44, 0)))), some (.inl (nI i))] [] (sk_mm d) := by
  obtain ⟨a, hq1, hq2⟩ := pz_digest hR
  refine sg_aload_n 1404 (sk_td o_law15 15 rfl) rfl rfl ?_
  refine sm_callL0l 1407 (s_X8_digest hq1) (sk_td o_law15 16 rfl) rfl lv_L_199 rfl rfl rfl sz_0 ⟨Nat.le_of_ble_eq_true rfl, Nat.le_of_ble_eq_true rfl, Nat.le_of_ble_eq_true rfl, Nat.le_of_ble_eq_true rfl⟩ (Nat.le_of_ble_eq_true rfl) ?_
  refine sg_aload_n 1408 (sk_td o_law15 17 rfl) rfl rfl ?_
  refine sm_callL0l 1411 (s_X9_digest hq2) (sk_td o_law15 18 rfl) rfl lv_L_203 rfl rfl rfl sz_44 ⟨Nat.le_of_ble_eq_true rfl, Nat.le_of_ble_eq_true rfl, Nat.le_of_ble_eq_true rfl, Nat.le_of_ble_eq_true rfl⟩ (Nat.le_of_ble_eq_true rfl) ?_
  refine sg_lcmp 1412 (sk_td o_law15 19 rfl) rfl ?_
  refine sg_if_eq 1417 1415 (sk_td o_law15 20 rfl) (by decide) rfl (fun _ => ?_) (fun hc => absurd (sk_lcm a) hc) ?_
  exact kk _ hR
theorem sk_lcm (a : Int64) : lg_cmp a a = 0 := by
  unfold lg_cmp
  simp
theorem law_len {L i : Nat} (hL : L ≤ 2560) (hi : i ≤ 2560) : (¬ nI L - 5 < nI i ↔ i + 5 ≤ L) := by
  have e : (nI L - 5).toInt = (L : Int) - 5 := by
    rw [Int32.toInt_sub, nI_toInt (by omega)]
    have : (5 : Int32).toInt = 5 := by decide
    rw [this]
    exact Int.bmod_eq_of_le (by omega) (by omega)
  rw [Int32.lt_iff_toInt_lt, e, nI_toInt (by omega)]
  omega
set_option maxRecDepth 100000 in
set_option maxHeartbeats 4000000 in
theorem law_disp {l : Launch} {nm : String} {L i : Nat} {xs : Nat → Int32} {d : sk_D} (hL : L ≤ 2560) (hi : i + 5 ≤ L) (hR : sk_R d) (v : Int32) (kk : ∀ d2, sk_R d2 → sk_G l room_1 (m_law nm) (sk_ExL L xs) sk_ZL 171 56719 1417 [some (.inr (.inr (some (9999, 0)))), some (.inr (.inr (some (0, 0)))), some (.inr (.inr (some (44, 0)))), some (.inl (nI i))] [] (sk_mm d2)) : sk_G l room_1 (m_law nm) (sk_ExL L xs) sk_ZL 171 56719 32 [some (.inr (.inr (some (9999, 0)))), some (.inr (.inr (some (0, 0)))), some (.inr (.inr (some (44, 0)))), some (.inl (nI i))] [.inl v] (sk_mm d) := by
  by_cases hv : v.toInt < 0 ∨ 45 < v.toInt
  · exact sg_tblO 1417 (sk_td o_law0 21 rfl) hv (by decide) (kk d hR)
  · have h1 : ¬ v.toInt < 0 := fun q => hv (.inl q)
    have h2 : ¬ 45 < v.toInt := fun q => hv (.inr q)
    obtain ⟨n, hn⟩ : ∃ n : Nat, v.toInt = n := ⟨v.toInt.toNat, by omega⟩
    have hn46 : n < 46 := by omega
    have key : ∀ (off : Int) (tgt : Nat), (#[200, 243, 266, 279, 302, 325, 348, 371, 420, 443, 486, 519, 562, 585, 598, 641, 664, 677, 700, 723, 746, 759, 772, 785, 828, 851, 904, 927, 940, 973, 986, 1009, 1032, 1075, 1118, 1141, 1174, 1197, 1220, 1243, 1266, 1289, 1322, 1345, 1358, 1371] : Array Int)[n]? = some off → (32 : Int) + off = (tgt : Int) → sk_G l room_1 (m_law nm) (sk_ExL L xs) sk_ZL 171 56719 tgt [some (.inr (.inr (some (9999, 0)))), some (.inr (.inr (some (0, 0)))), some (.inr (.inr (some (44, 0)))), some (.inl (nI i))] [] (sk_mm d) → sk_G l room_1 (m_law nm) (sk_ExL L xs) sk_ZL 171 56719 32 [some (.inr (.inr (some (9999, 0)))), some (.inr (.inr (some (0, 0)))), some (.inr (.inr (some (44, 0)))), some (.inl (nI i))] [.inl v] (sk_mm d) := fun off tgt ho ht k2 =>
      sg_tblI off tgt (sk_td o_law0 21 rfl) h1 h2 (by rw [hn, Int.sub_zero, Int.toNat_natCast]; exact ho) ht k2
    match n, hn46 with
    | 0, _ => exact key 200 232 rfl (by decide) (law_c0 hL hi hR kk)
    | 1, _ => exact key 243 275 rfl (by decide) (law_c1 hL hi hR kk)
    | 2, _ => exact key 266 298 rfl (by decide) (law_c2 hL hi hR kk)
    | 3, _ => exact key 279 311 rfl (by decide) (law_c3 hL hi hR kk)
    | 4, _ => exact key 302 334 rfl (by decide) (law_c4 hL hi hR kk)
    | 5, _ => exact key 325 357 rfl (by decide) (law_c5 hL hi hR kk)
    | 6, _ => exact key 348 380 rfl (by decide) (law_c6 hL hi hR kk)
    | 7, _ => exact key 371 403 rfl (by decide) (law_c7 hL hi hR kk)
    | 8, _ => exact key 420 452 rfl (by decide) (law_c8 hL hi hR kk)
    | 9, _ => exact key 443 475 rfl (by decide) (law_c9 hL hi hR kk)
    | 10, _ => exact key 486 518 rfl (by decide) (law_c10 hL hi hR kk)
    | 11, _ => exact key 519 551 rfl (by decide) (law_c11 hL hi hR kk)
    | 12, _ => exact key 562 594 rfl (by decide) (law_c12 hL hi hR kk)
    | 13, _ => exact key 585 617 rfl (by decide) (law_c13 hL hi hR kk)
    | 14, _ => exact key 598 630 rfl (by decide) (law_c14 hL hi hR kk)
    | 15, _ => exact key 641 673 rfl (by decide) (law_c15 hL hi hR kk)
    | 16, _ => exact key 664 696 rfl (by decide) (law_c16 hL hi hR kk)
    | 17, _ => exact key 677 709 rfl (by decide) (law_c17 hL hi hR kk)
    | 18, _ => exact key 700 732 rfl (by decide) (law_c18 hL hi hR kk)
    | 19, _ => exact key 723 755 rfl (by decide) (law_c19 hL hi hR kk)
    | 20, _ => exact key 746 778 rfl (by decide) (law_c20 hL hi hR kk)
    | 21, _ => exact key 759 791 rfl (by decide) (law_c21 hL hi hR kk)
    | 22, _ => exact key 772 804 rfl (by decide) (law_c22 hL hi hR kk)
    | 23, _ => exact key 785 817 rfl (by decide) (law_c23 hL hi hR kk)
    | 24, _ => exact key 828 860 rfl (by decide) (law_c24 hL hi hR kk)
    | 25, _ => exact key 851 883 rfl (by decide) (law_c25 hL hi hR kk)
    | 26, _ => exact key 904 936 rfl (by decide) (law_c26 hL hi hR kk)
    | 27, _ => exact key 927 959 rfl (by decide) (law_c27 hL hi hR kk)
    | 28, _ => exact key 940 972 rfl (by decide) (law_c28 hL hi hR kk)
    | 29, _ => exact key 973 1005 rfl (by decide) (law_c29 hL hi hR kk)
    | 30, _ => exact key 986 1018 rfl (by decide) (law_c30 hL hi hR kk)
    | 31, _ => exact key 1009 1041 rfl (by decide) (law_c31 hL hi hR kk)
    | 32, _ => exact key 1032 1064 rfl (by decide) (law_c32 hL hi hR kk)
    | 33, _ => exact key 1075 1107 rfl (by decide) (law_c33 hL hi hR kk)
    | 34, _ => exact key 1118 1150 rfl (by decide) (law_c34 hL hi hR kk)
    | 35, _ => exact key 1141 1173 rfl (by decide) (law_c35 hL hi hR kk)
    | 36, _ => exact key 1174 1206 rfl (by decide) (law_c36 hL hi hR kk)
    | 37, _ => exact key 1197 1229 rfl (by decide) (law_c37 hL hi hR kk)
    | 38, _ => exact key 1220 1252 rfl (by decide) (law_c38 hL hi hR kk)
    | 39, _ => exact key 1243 1275 rfl (by decide) (law_c39 hL hi hR kk)
    | 40, _ => exact key 1266 1298 rfl (by decide) (law_c40 hL hi hR kk)
    | 41, _ => exact key 1289 1321 rfl (by decide) (law_c41 hL hi hR kk)
    | 42, _ => exact key 1322 1354 rfl (by decide) (law_c42 hL hi hR kk)
    | 43, _ => exact key 1345 1377 rfl (by decide) (law_c43 hL hi hR kk)
    | 44, _ => exact key 1358 1390 rfl (by decide) (law_c44 hL hi hR kk)
    | 45, _ => exact key 1371 1403 rfl (by decide) (law_c45 hL hi hR kk)
    | n + 46, h => exact absurd h (by omega)
set_option maxRecDepth 100000 in
set_option maxHeartbeats 4000000 in
theorem law_end {l : Launch} {nm : String} {L : Nat} {xs : Nat → Int32} {ls : List (Option sk_AV)} {d : sk_D} : sk_G l room_1 (m_law nm) (sk_ExL L xs) sk_ZL 171 56719 1424 ls [.inl 1] (sk_mm d) := by
  intro p e s0 m args below meth c H locs bb D kc la hH hE hR hS hB hLR
  obtain ⟨hE1, hE2, hE3, hE4⟩ := hE
  subst hE1
  refine va_forget (fun q hq => by rw [← hE4]; exact hS.2.2 q hq) ?_
  refine W.widen (k := 600000) (n := 7302250) (Nat.le_of_ble_eq_true rfl) (Nat.le_of_ble_eq_true rfl) ?_
  exact lw_ret hH.1 hH.2.1 hH.2.2.1 hH.2.2.2.2.2.2.1 (sk_td o_law15 26 rfl)
set_option maxRecDepth 100000 in
set_option maxHeartbeats 4000000 in
theorem law_loop {l : Launch} {nm : String} {L : Nat} {xs : Nat → Int32} (hL : L ≤ 2560) : ∀ (m i : Nat) (d : sk_D), L ≤ i + 5 * m → i ≤ L → sk_R d → sk_G l room_1 (m_law nm) (sk_ExL L xs) sk_ZL 171 56719 18 [some (.inr (.inr (some (9999, 0)))), some (.inr (.inr (some (0, 0)))), some (.inr (.inr (some (44, 0)))), some (.inl (nI i))] [] (sk_mm d) := by
  intro m
  induction m with
  | zero =>
    intro i d h1 h2 hR
    refine sg_iload_n 19 (sk_td o_law0 10 rfl) rfl rfl ?_
    refine sg_aload_n 20 (sk_td o_law0 11 rfl) rfl rfl ?_
    refine sg_slen 21 (sk_td o_law0 12 rfl) rfl ?_
    refine sg_iconst (v := (5 : Int32)) 22 (sk_td o_law0 13 rfl) rfl (by decide) ?_
    refine sg_isub 23 (sk_td o_law0 14 rfl) rfl ?_
    refine sg_ic_gt 1423 26 (sk_td o_law0 15 rfl) (by decide) rfl (fun _ => ?_) (fun hc => absurd ((law_len hL (by omega)).mp hc) (by omega))
    refine sg_iconst (v := (1 : Int32)) 1424 (sk_td o_law15 25 rfl) rfl (by decide) ?_
    exact law_end
  | succ m ih =>
    intro i d h1 h2 hR
    refine sg_iload_n 19 (sk_td o_law0 10 rfl) rfl rfl ?_
    refine sg_aload_n 20 (sk_td o_law0 11 rfl) rfl rfl ?_
    refine sg_slen 21 (sk_td o_law0 12 rfl) rfl ?_
    refine sg_iconst (v := (5 : Int32)) 22 (sk_td o_law0 13 rfl) rfl (by decide) ?_
    refine sg_isub 23 (sk_td o_law0 14 rfl) rfl ?_
    refine sg_ic_gt 1423 26 (sk_td o_law0 15 rfl) (by decide) rfl (fun _ => ?_) (fun hc => ?_)
    · refine sg_iconst (v := (1 : Int32)) 1424 (sk_td o_law15 25 rfl) rfl (by decide) ?_
      exact law_end
    have hi := (law_len hL (by omega)).mp hc
    refine sg_aload_n 27 (sk_td o_law0 16 rfl) rfl rfl ?_
    refine sg_iload_n 28 (sk_td o_law0 17 rfl) rfl rfl ?_
    refine sg_sld (n := i) 29 (sk_td o_law0 18 rfl) rfl rfl (by omega) hL ?_
    refine sg_bipush (v := (63 : Int32)) 31 (sk_td o_law0 19 rfl) rfl (by decide) ?_
    refine sg_iand 32 (sk_td o_law0 20 rfl) rfl ?_
    refine law_disp hL hi hR _ (fun d2 hR2 => ?_)
    refine sg_iinc (nI (i + 5)) 1420 [some (.inr (.inr (some (9999, 0)))), some (.inr (.inr (some (0, 0)))), some (.inr (.inr (some (44, 0)))), some (.inl (nI (i + 5)))] (sk_td o_law15 23 rfl) rfl rfl (nI_add i 5) rfl (Nat.le_of_ble_eq_true rfl) rfl ?_
    refine sg_goto 18 (sk_td o_law15 24 rfl) (by decide) ?_
    exact ih (i + 5) d2 (by omega) hi hR2
