/-! the constructors *** by program (wip/whole/gen/ctors.py) -/
theorem sc_lw {A B : Prop} {o t : Nat} (n : Nat) (h : A ∧ o < t ∧ B) : A ∧ o < t + n ∧ B := ⟨h.1, Nat.lt_of_lt_of_le h.2.1 (Nat.le_add_right t n), h.2.2⟩
section SCQ
variable {l : Launch} {R : Room} {μ : sk_MI} {Ex : sk_EX} {Z : sk_ZZ} {cn sn pc : Nat} {ls : List (Option sk_AV)} {st : List sk_AV}
theorem sl_callIN {μ' : sk_MI} {dp idx s k t t1 : Nat} {host : String} {L L1 : List sc_T} (cn' sn' pc' : Nat) (hM : sk_M l dp μ' [.inr (.inr (some (s, k)))] (sk_mW t L) none (sk_mW t1 L1)) (hd : decode μ.2.1 pc = .ok (.invokespecial idx, 3)) (hp : pc + 3 = pc') (hk : sk_lkIN μ.1.cls idx host μ') (hr : sk_rmok dp μ' R cn sn) (h8 : sk_cat8 st ≤ 8) (h1 : cn + μ'.2.2.2.2.1 = cn') (h2 : sn + μ'.2.2.2.2.2 = sn')
    (kk : sk_G l R μ Ex Z cn' sn' pc' ls st (sk_mW t1 L1)) : sk_G l R μ Ex Z cn sn pc ls (.inr (.inr (some (s, k))) :: st) (sk_mW t L) := by
  subst h1; subst h2
  exact sg_callIN pc' hM hd hp hk hr h8 kk
end SCQ
theorem kar_int : Cond.arrayClass (newarray.typeOf .int) ∈ sk_tg := (sk_in 107 (by decide +kernel) (by decide +kernel))
theorem kar_boolean : Cond.arrayClass (newarray.typeOf .boolean) ∈ sk_tg := (sk_in 106 (by decide +kernel) (by decide +kernel))
theorem kar_char : Cond.arrayClass (newarray.typeOf .char) ∈ sk_tg := (sk_in 218 (by decide +kernel) (by decide +kernel))
theorem kar_long : Cond.arrayClass (newarray.typeOf .long) ∈ sk_tg := (sk_in 108 (by decide +kernel) (by decide +kernel))
theorem kov_Pupil : Cond.arrayOver (.object "SkiSchool$Pupil") ∈ tables_1 := List.mem_of_getElem? (i := 22) (by decide +kernel)
theorem kov_Group : Cond.arrayOver (.object "SkiSchool$Group") ∈ tables_1 := List.mem_of_getElem? (i := 24) (by decide +kernel)
theorem kov_Instructor : Cond.arrayOver (.object "SkiSchool$Instructor") ∈ tables_1 := List.mem_of_getElem? (i := 26) (by decide +kernel)
theorem kov_Lift : Cond.arrayOver (.object "SkiSchool$Lift") ∈ tables_1 := List.mem_of_getElem? (i := 28) (by decide +kernel)
theorem kov_int : Cond.arrayOver (.array .int) ∈ tables_1 := List.mem_of_getElem? (i := 36) (by decide +kernel)
def m_X4_init : sk_MI := (yX4_init, cX4_init, 1, none, 1, 4)
def tb_X4_init : List (Nat × Instr × Nat) := [(0, .aload_n 0, 1), (1, .invokespecial 3, 3), (4, .aload_n 0, 1), (5, .iconst 0, 1), (6, .putfield 9, 3), (9, .aload_n 0, 1), (10, .iconst 0, 1), (11, .putfield 15, 3), (14, .aload_n 0, 1), (15, .iconst 0, 1), (16, .putfield 19, 3), (19, .aload_n 0, 1), (20, .bipush (-9), 2), (22, .putfield 22, 3), (25, .aload_n 0, 1), (26, .bipush (-9), 2), (28, .putfield 25, 3), (31, .aload_n 0, 1), (32, .bipush (-9), 2), (34, .putfield 28, 3), (37, .aload_n 0, 1), (38, .iconst 4, 1), (39, .newarray .int, 2), (41, .putfield 31, 3), (44, .return_, 1)]
theorem o_X4_init : tb_X4_init.all (fun q => decide (decode cX4_init q.1 = .ok q.2)) = true := by decide +kernel
theorem kO_X4_3 : sk_lkO RX4 3 := ⟨(sk_in 223 (by decide +kernel) (by decide +kernel)), (sk_in 48 (by decide +kernel) (by decide +kernel)), (sk_in 49 (by decide +kernel) (by decide +kernel))⟩
theorem kq_X4_9 : sk_fp RX4 9 4 0 .boolean := sk_fp_of 224 (by decide +kernel)
theorem kq_X4_15 : sk_fp RX4 15 4 1 .int := sk_fp_of 227 (by decide +kernel)
theorem kq_X4_19 : sk_fp RX4 19 4 2 .int := sk_fp_of 231 (by decide +kernel)
theorem kq_X4_22 : sk_fp RX4 22 4 3 .int := sk_fp_of 233 (by decide +kernel)
theorem kq_X4_25 : sk_fp RX4 25 4 4 .int := sk_fp_of 235 (by decide +kernel)
theorem kq_X4_28 : sk_fp RX4 28 4 5 .int := sk_fp_of 237 (by decide +kernel)
theorem kr_X4_31 : sk_ff RX4 31 4 6 := sk_ff_of 238 (by decide +kernel)
def m_X0_init : sk_MI := (yX0_init, cX0_init, 1, none, 2, 8)
def tb_X0_init : List (Nat × Instr × Nat) := [(0, .aload_n 0, 1), (1, .invokespecial 3, 3), (4, .aload_n 0, 1), (5, .iconst 0, 1), (6, .putfield 9, 3), (9, .aload_n 0, 1), (10, .iconst 0, 1), (11, .putfield 15, 3), (14, .aload_n 0, 1), (15, .iconst 0, 1), (16, .putfield 19, 3), (19, .aload_n 0, 1), (20, .iconst 0, 1), (21, .putfield 22, 3), (24, .aload_n 0, 1), (25, .bipush (-9), 2), (27, .putfield 25, 3), (30, .aload_n 0, 1), (31, .iconst 0, 1), (32, .putfield 28, 3), (35, .aload_n 0, 1), (36, .iconst 0, 1), (37, .putfield 31, 3), (40, .aload_n 0, 1), (41, .iconst 4, 1), (42, .newarray .int, 2), (44, .putfield 34, 3), (47, .aload_n 0, 1), (48, .iconst 4, 1), (49, .newarray .int, 2), (51, .putfield 38, 3), (54, .aload_n 0, 1), (55, .iconst 0, 1), (56, .putfield 41, 3), (59, .aload_n 0, 1), (60, .iconst 0, 1), (61, .putfield 44, 3), (64, .return_, 1)]
theorem o_X0_init : tb_X0_init.all (fun q => decide (decode cX0_init q.1 = .ok q.2)) = true := by decide +kernel
theorem kO_X0_3 : sk_lkO RX0 3 := ⟨(sk_in 258 (by decide +kernel) (by decide +kernel)), (sk_in 48 (by decide +kernel) (by decide +kernel)), (sk_in 49 (by decide +kernel) (by decide +kernel))⟩
theorem kq_X0_9 : sk_fp RX0 9 0 0 .boolean := sk_fp_of 259 (by decide +kernel)
theorem kq_X0_15 : sk_fp RX0 15 0 1 .int := sk_fp_of 262 (by decide +kernel)
theorem kq_X0_19 : sk_fp RX0 19 0 2 .int := sk_fp_of 266 (by decide +kernel)
theorem kq_X0_22 : sk_fp RX0 22 0 3 .int := sk_fp_of 268 (by decide +kernel)
theorem kq_X0_25 : sk_fp RX0 25 0 4 .int := sk_fp_of 270 (by decide +kernel)
theorem kq_X0_28 : sk_fp RX0 28 0 5 .int := sk_fp_of 272 (by decide +kernel)
theorem kq_X0_31 : sk_fp RX0 31 0 6 .int := sk_fp_of 275 (by decide +kernel)
theorem kr_X0_34 : sk_ff RX0 34 0 7 := sk_ff_of 278 (by decide +kernel)
theorem kr_X0_38 : sk_ff RX0 38 0 8 := sk_ff_of 281 (by decide +kernel)
theorem kq_X0_41 : sk_fp RX0 41 0 9 .int := sk_fp_of 284 (by decide +kernel)
theorem kq_X0_44 : sk_fp RX0 44 0 10 .int := sk_fp_of 286 (by decide +kernel)
def m_X1_init : sk_MI := (yX1_init, cX1_init, 1, none, 0, 0)
def tb_X1_init : List (Nat × Instr × Nat) := [(0, .aload_n 0, 1), (1, .invokespecial 3, 3), (4, .aload_n 0, 1), (5, .iconst 0, 1), (6, .putfield 9, 3), (9, .aload_n 0, 1), (10, .iconst 0, 1), (11, .putfield 15, 3), (14, .aload_n 0, 1), (15, .iconst 0, 1), (16, .putfield 19, 3), (19, .aload_n 0, 1), (20, .iconst 0, 1), (21, .putfield 22, 3), (24, .aload_n 0, 1), (25, .iconst 0, 1), (26, .putfield 25, 3), (29, .aload_n 0, 1), (30, .iconst 0, 1), (31, .putfield 28, 3), (34, .return_, 1)]
theorem o_X1_init : tb_X1_init.all (fun q => decide (decode cX1_init q.1 = .ok q.2)) = true := by decide +kernel
theorem kO_X1_3 : sk_lkO RX1 3 := ⟨(sk_in 315 (by decide +kernel) (by decide +kernel)), (sk_in 48 (by decide +kernel) (by decide +kernel)), (sk_in 49 (by decide +kernel) (by decide +kernel))⟩
theorem kq_X1_9 : sk_fp RX1 9 1 0 .boolean := sk_fp_of 316 (by decide +kernel)
theorem kq_X1_15 : sk_fp RX1 15 1 1 .int := sk_fp_of 319 (by decide +kernel)
theorem kq_X1_19 : sk_fp RX1 19 1 2 .int := sk_fp_of 320 (by decide +kernel)
theorem kq_X1_22 : sk_fp RX1 22 1 3 .int := sk_fp_of 321 (by decide +kernel)
theorem kq_X1_25 : sk_fp RX1 25 1 4 .int := sk_fp_of 322 (by decide +kernel)
theorem kq_X1_28 : sk_fp RX1 28 1 5 .int := sk_fp_of 325 (by decide +kernel)
def m_X2_init : sk_MI := (yX2_init, cX2_init, 1, none, 0, 0)
def tb_X2_init : List (Nat × Instr × Nat) := [(0, .aload_n 0, 1), (1, .invokespecial 1, 3), (4, .aload_n 0, 1), (5, .iconst 0, 1), (6, .putfield 7, 3), (9, .aload_n 0, 1), (10, .iconst 0, 1), (11, .putfield 13, 3), (14, .aload_n 0, 1), (15, .iconst 0, 1), (16, .putfield 16, 3), (19, .aload_n 0, 1), (20, .iconst 0, 1), (21, .putfield 19, 3), (24, .aload_n 0, 1), (25, .iconst 0, 1), (26, .putfield 22, 3), (29, .return_, 1)]
theorem o_X2_init : tb_X2_init.all (fun q => decide (decode cX2_init q.1 = .ok q.2)) = true := by decide +kernel
theorem kO_X2_1 : sk_lkO RX2 1 := ⟨(sk_in 344 (by decide +kernel) (by decide +kernel)), (sk_in 48 (by decide +kernel) (by decide +kernel)), (sk_in 49 (by decide +kernel) (by decide +kernel))⟩
theorem kq_X2_7 : sk_fp RX2 7 2 0 .int := sk_fp_of 345 (by decide +kernel)
theorem kq_X2_13 : sk_fp RX2 13 2 1 .int := sk_fp_of 348 (by decide +kernel)
theorem kq_X2_16 : sk_fp RX2 16 2 2 .int := sk_fp_of 350 (by decide +kernel)
theorem kq_X2_19 : sk_fp RX2 19 2 3 .int := sk_fp_of 353 (by decide +kernel)
theorem kq_X2_22 : sk_fp RX2 22 2 4 .int := sk_fp_of 355 (by decide +kernel)
def m_X3_init : sk_MI := (yX3_init, cX3_init, 1, none, 31, 4986)
def tb_X3_init : List (Nat × Instr × Nat) := [(0, .aload_n 0, 1), (1, .invokespecial 3, 3), (4, .aload_n 0, 1), (5, .iconst 0, 1), (6, .putfield 9, 3), (9, .aload_n 0, 1), (10, .iconst 1, 1), (11, .putfield 15, 3), (14, .aload_n 0, 1), (15, .bipush 20, 2), (17, .newarray .int, 2), (19, .putfield 18, 3), (22, .aload_n 0, 1), (23, .bipush 20, 2), (25, .newarray .int, 2), (27, .putfield 22, 3), (30, .aload_n 0, 1), (31, .bipush 20, 2), (33, .iconst 4, 1), (34, .multianewarray 25 2, 4), (38, .putfield 27, 3), (41, .aload_n 0, 1), (42, .bipush 20, 2), (44, .newarray .int, 2), (46, .putfield 30, 3), (49, .aload_n 0, 1), (50, .bipush 8, 2), (52, .newarray .int, 2), (54, .putfield 33, 3), (57, .aload_n 0, 1), (58, .iconst 4, 1), (59, .newarray .int, 2), (61, .putfield 36, 3), (64, .aload_n 0, 1), (65, .iconst 4, 1), (66, .newarray .int, 2), (68, .putfield 39, 3), (71, .aload_n 0, 1), (72, .iconst 4, 1), (73, .newarray .int, 2), (75, .putfield 42, 3), (78, .aload_n 0, 1), (79, .iconst 4, 1), (80, .newarray .int, 2), (82, .putfield 45, 3), (85, .aload_n 0, 1), (86, .sipush 2401, 3), (89, .newarray .int, 2), (91, .putfield 48, 3), (94, .aload_n 0, 1), (95, .sipush 2401, 3), (98, .newarray .long, 2), (100, .putfield 51, 3), (103, .return_, 1)]
theorem o_X3_init : tb_X3_init.all (fun q => decide (decode cX3_init q.1 = .ok q.2)) = true := by decide +kernel
theorem kO_X3_3 : sk_lkO RX3 3 := ⟨(sk_in 63 (by decide +kernel) (by decide +kernel)), (sk_in 48 (by decide +kernel) (by decide +kernel)), (sk_in 49 (by decide +kernel) (by decide +kernel))⟩
theorem kq_X3_9 : sk_fp RX3 9 3 0 .int := sk_fp_of 66 (by decide +kernel)
theorem kq_X3_15 : sk_fp RX3 15 3 1 .int := sk_fp_of 67 (by decide +kernel)
theorem kr_X3_18 : sk_ff RX3 18 3 2 := sk_ff_of 68 (by decide +kernel)
theorem kr_X3_22 : sk_ff RX3 22 3 3 := sk_ff_of 69 (by decide +kernel)
theorem kcl_X3_25 : Cond.classLink RX3 25 "[[I" ∈ sk_tg := (sk_in 64 (by decide +kernel) (by decide +kernel))
theorem kr_X3_27 : sk_ff RX3 27 3 4 := sk_ff_of 70 (by decide +kernel)
theorem kr_X3_30 : sk_ff RX3 30 3 5 := sk_ff_of 71 (by decide +kernel)
theorem kr_X3_33 : sk_ff RX3 33 3 6 := sk_ff_of 72 (by decide +kernel)
theorem kr_X3_36 : sk_ff RX3 36 3 7 := sk_ff_of 73 (by decide +kernel)
theorem kr_X3_39 : sk_ff RX3 39 3 8 := sk_ff_of 74 (by decide +kernel)
theorem kr_X3_42 : sk_ff RX3 42 3 9 := sk_ff_of 75 (by decide +kernel)
theorem kr_X3_45 : sk_ff RX3 45 3 10 := sk_ff_of 76 (by decide +kernel)
theorem kr_X3_48 : sk_ff RX3 48 3 11 := sk_ff_of 77 (by decide +kernel)
theorem kr_X3_51 : sk_ff RX3 51 3 12 := sk_ff_of 78 (by decide +kernel)
def m_X7_init : sk_MI := (yX7_init, cX7_init, 1, none, 3, 12)
def tb_X7_init : List (Nat × Instr × Nat) := [(0, .aload_n 0, 1), (1, .invokespecial 3, 3), (4, .aload_n 0, 1), (5, .iconst 4, 1), (6, .newarray .boolean, 2), (8, .putfield 9, 3), (11, .aload_n 0, 1), (12, .iconst 4, 1), (13, .newarray .int, 2), (15, .putfield 15, 3), (18, .aload_n 0, 1), (19, .iconst 4, 1), (20, .newarray .int, 2), (22, .putfield 19, 3), (25, .aload_n 0, 1), (26, .ldc 22, 2), (28, .putfield 23, 3), (31, .return_, 1)]
theorem o_X7_init : tb_X7_init.all (fun q => decide (decode cX7_init q.1 = .ok q.2)) = true := by decide +kernel
theorem kO_X7_3 : sk_lkO RX7 3 := ⟨(sk_in 114 (by decide +kernel) (by decide +kernel)), (sk_in 48 (by decide +kernel) (by decide +kernel)), (sk_in 49 (by decide +kernel) (by decide +kernel))⟩
theorem kr_X7_9 : sk_ff RX7 9 7 0 := sk_ff_of 116 (by decide +kernel)
theorem kr_X7_15 : sk_ff RX7 15 7 1 := sk_ff_of 118 (by decide +kernel)
theorem kr_X7_19 : sk_ff RX7 19 7 2 := sk_ff_of 120 (by decide +kernel)
theorem kdc_X7_22 : Cond.constant RX7 22 (3999997 : Int32) ∈ sk_tg := (sk_in 115 (by decide +kernel) (by decide +kernel))
theorem kq_X7_23 : sk_fp RX7 23 7 3 .int := sk_fp_of 121 (by decide +kernel)
def m_X6_init : sk_MI := (yX6_init, cX6_init, 1, none, 13, 48)
def tb_X6_init : List (Nat × Instr × Nat) := [(0, .aload_n 0, 1), (1, .invokespecial 3, 3), (4, .aload_n 0, 1), (5, .iconst 4, 1), (6, .newarray .int, 2), (8, .putfield 9, 3), (11, .aload_n 0, 1), (12, .iconst 4, 1), (13, .newarray .int, 2), (15, .putfield 15, 3), (18, .aload_n 0, 1), (19, .iconst 4, 1), (20, .newarray .int, 2), (22, .putfield 18, 3), (25, .aload_n 0, 1), (26, .iconst 4, 1), (27, .newarray .int, 2), (29, .putfield 21, 3), (32, .aload_n 0, 1), (33, .iconst 3, 1), (34, .newarray .int, 2), (36, .putfield 24, 3), (39, .aload_n 0, 1), (40, .iconst 3, 1), (41, .newarray .int, 2), (43, .putfield 27, 3), (46, .aload_n 0, 1), (47, .iconst 4, 1), (48, .newarray .int, 2), (50, .putfield 30, 3), (53, .aload_n 0, 1), (54, .iconst 4, 1), (55, .newarray .int, 2), (57, .putfield 33, 3), (60, .aload_n 0, 1), (61, .iconst 3, 1), (62, .iconst 4, 1), (63, .multianewarray 36 2, 4), (67, .putfield 38, 3), (70, .aload_n 0, 1), (71, .iconst 3, 1), (72, .newarray .int, 2), (74, .putfield 41, 3), (77, .return_, 1)]
theorem o_X6_init : tb_X6_init.all (fun q => decide (decode cX6_init q.1 = .ok q.2)) = true := by decide +kernel
theorem kO_X6_3 : sk_lkO RX6 3 := ⟨(sk_in 136 (by decide +kernel) (by decide +kernel)), (sk_in 48 (by decide +kernel) (by decide +kernel)), (sk_in 49 (by decide +kernel) (by decide +kernel))⟩
theorem kr_X6_9 : sk_ff RX6 9 6 0 := sk_ff_of 138 (by decide +kernel)
theorem kr_X6_15 : sk_ff RX6 15 6 1 := sk_ff_of 140 (by decide +kernel)
theorem kr_X6_18 : sk_ff RX6 18 6 2 := sk_ff_of 142 (by decide +kernel)
theorem kr_X6_21 : sk_ff RX6 21 6 3 := sk_ff_of 144 (by decide +kernel)
theorem kr_X6_24 : sk_ff RX6 24 6 4 := sk_ff_of 146 (by decide +kernel)
theorem kr_X6_27 : sk_ff RX6 27 6 5 := sk_ff_of 148 (by decide +kernel)
theorem kr_X6_30 : sk_ff RX6 30 6 6 := sk_ff_of 150 (by decide +kernel)
theorem kr_X6_33 : sk_ff RX6 33 6 7 := sk_ff_of 151 (by decide +kernel)
theorem kcl_X6_36 : Cond.classLink RX6 36 "[[I" ∈ sk_tg := (sk_in 137 (by decide +kernel) (by decide +kernel))
theorem kr_X6_38 : sk_ff RX6 38 6 8 := sk_ff_of 152 (by decide +kernel)
theorem kr_X6_41 : sk_ff RX6 41 6 9 := sk_ff_of 153 (by decide +kernel)
def m_X5_init : sk_MI := (yX5_init, cX5_init, 1, none, 1, 100)
def tb_X5_init : List (Nat × Instr × Nat) := [(0, .aload_n 0, 1), (1, .invokespecial 3, 3), (4, .aload_n 0, 1), (5, .bipush 100, 2), (7, .newarray .char, 2), (9, .putfield 9, 3), (12, .aload_n 0, 1), (13, .iconst 0, 1), (14, .putfield 15, 3), (17, .aload_n 0, 1), (18, .iconst 0, 1), (19, .putfield 19, 3), (22, .aload_n 0, 1), (23, .bipush 112, 2), (25, .putfield 22, 3), (28, .aload_n 0, 1), (29, .iconst 0, 1), (30, .putfield 26, 3), (33, .aload_n 0, 1), (34, .iconst 0, 1), (35, .putfield 29, 3), (38, .aload_n 0, 1), (39, .bipush (-9), 2), (41, .putfield 32, 3), (44, .aload_n 0, 1), (45, .iconst 0, 1), (46, .putfield 35, 3), (49, .aload_n 0, 1), (50, .iconst 0, 1), (51, .putfield 38, 3), (54, .aload_n 0, 1), (55, .iconst 0, 1), (56, .putfield 41, 3), (59, .aload_n 0, 1), (60, .iconst 0, 1), (61, .putfield 44, 3), (64, .aload_n 0, 1), (65, .iconst 0, 1), (66, .putfield 47, 3), (69, .return_, 1)]
theorem o_X5_init : tb_X5_init.all (fun q => decide (decode cX5_init q.1 = .ok q.2)) = true := by decide +kernel
theorem kO_X5_3 : sk_lkO RX5 3 := ⟨(sk_in 180 (by decide +kernel) (by decide +kernel)), (sk_in 48 (by decide +kernel) (by decide +kernel)), (sk_in 49 (by decide +kernel) (by decide +kernel))⟩
theorem kr_X5_9 : sk_ff RX5 9 5 0 := sk_ff_of 181 (by decide +kernel)
theorem kq_X5_15 : sk_fp RX5 15 5 1 .int := sk_fp_of 182 (by decide +kernel)
theorem kq_X5_19 : sk_fp RX5 19 5 2 .int := sk_fp_of 183 (by decide +kernel)
theorem kq_X5_22 : sk_fp RX5 22 5 3 .char := sk_fp_of 184 (by decide +kernel)
theorem kq_X5_26 : sk_fp RX5 26 5 4 .int := sk_fp_of 185 (by decide +kernel)
theorem kq_X5_29 : sk_fp RX5 29 5 5 .int := sk_fp_of 186 (by decide +kernel)
theorem kq_X5_32 : sk_fp RX5 32 5 6 .int := sk_fp_of 187 (by decide +kernel)
theorem kq_X5_35 : sk_fp RX5 35 5 7 .int := sk_fp_of 188 (by decide +kernel)
theorem kq_X5_38 : sk_fp RX5 38 5 8 .int := sk_fp_of 189 (by decide +kernel)
theorem kq_X5_41 : sk_fp RX5 41 5 9 .int := sk_fp_of 190 (by decide +kernel)
theorem kq_X5_44 : sk_fp RX5 44 5 10 .int := sk_fp_of 191 (by decide +kernel)
theorem kq_X5_47 : sk_fp RX5 47 5 11 .int := sk_fp_of 192 (by decide +kernel)
def m_X8_init : sk_MI := (yX8_init, cX8_init, 2, none, 120, 5587)
def tb_X8_init : List (Nat × Instr × Nat) := [(0, .aload_n 0, 1), (1, .invokespecial 1, 3), (4, .aload_n 0, 1), (5, .bipush 20, 2), (7, .anewarray 9, 3), (10, .putfield 11, 3), (13, .aload_n 0, 1), (14, .iconst 4, 1), (15, .anewarray 15, 3), (18, .putfield 17, 3), (21, .aload_n 0, 1), (22, .bipush 8, 2), (24, .anewarray 21, 3), (27, .putfield 23, 3), (30, .aload_n 0, 1), (31, .iconst 3, 1), (32, .anewarray 27, 3), (35, .putfield 29, 3), (38, .aload_n 0, 1), (39, .bipush 8, 2), (41, .newarray .boolean, 2), (43, .putfield 33, 3), (46, .aload_n 0, 1), (47, .new 37, 3), (50, .dup, 1), (51, .invokespecial 39, 3), (54, .putfield 40, 3), (57, .aload_n 0, 1), (58, .new 44, 3), (61, .dup, 1), (62, .invokespecial 46, 3), (65, .putfield 47, 3), (68, .aload_n 0, 1), (69, .new 51, 3), (72, .dup, 1), (73, .invokespecial 53, 3), (76, .putfield 54, 3), (79, .aload_n 0, 1), (80, .new 58, 3), (83, .dup, 1), (84, .invokespecial 60, 3), (87, .putfield 61, 3), (90, .aload_n 0, 1), (91, .iconst 0, 1), (92, .putfield 65, 3), (95, .aload_n 0, 1), (96, .bipush 24, 2), (98, .putfield 69, 3), (101, .aload_n 0, 1), (102, .iconst 4, 1), (103, .putfield 72, 3), (106, .aload_n 0, 1), (107, .bipush 8, 2), (109, .putfield 75, 3), (112, .aload_n 0, 1), (113, .iconst 0, 1), (114, .putfield 78, 3), (117, .iconst 0, 1), (118, .istore_n 1, 1), (119, .iload_n 1, 1), (120, .bipush 20, 2), (122, .if_icmp .ge 22, 3), (125, .aload_n 0, 1), (126, .getfield 11, 3), (129, .iload_n 1, 1), (130, .new 9, 3), (133, .dup, 1), (134, .invokespecial 81, 3), (137, .aastore, 1), (138, .iinc 1 1, 3), (141, .goto (-22), 3), (144, .iconst 0, 1), (145, .istore_n 1, 1), (146, .iload_n 1, 1), (147, .iconst 4, 1), (148, .if_icmp .ge 22, 3), (151, .aload_n 0, 1), (152, .getfield 17, 3), (155, .iload_n 1, 1), (156, .new 15, 3), (159, .dup, 1), (160, .invokespecial 82, 3), (163, .aastore, 1), (164, .iinc 1 1, 3), (167, .goto (-21), 3), (170, .iconst 0, 1), (171, .istore_n 1, 1), (172, .iload_n 1, 1), (173, .bipush 8, 2), (175, .if_icmp .ge 22, 3), (178, .aload_n 0, 1), (179, .getfield 23, 3), (182, .iload_n 1, 1), (183, .new 21, 3), (186, .dup, 1), (187, .invokespecial 83, 3), (190, .aastore, 1), (191, .iinc 1 1, 3), (194, .goto (-22), 3), (197, .iconst 0, 1), (198, .istore_n 1, 1), (199, .iload_n 1, 1), (200, .iconst 3, 1), (201, .if_icmp .ge 22, 3), (204, .aload_n 0, 1), (205, .getfield 29, 3), (208, .iload_n 1, 1), (209, .new 27, 3), (212, .dup, 1), (213, .invokespecial 84, 3), (216, .aastore, 1), (217, .iinc 1 1, 3), (220, .goto (-21), 3), (223, .return_, 1)]
theorem o_X8_init : tb_X8_init.all (fun q => decide (decode cX8_init q.1 = .ok q.2)) = true := by decide +kernel
theorem kn_X8_9 : sk_lkC RX8 9 4 := ⟨_, rfl, (sk_in 50 (by decide +kernel) (by decide +kernel)), (sk_in 219 (by decide +kernel) (by decide +kernel)), (sk_in 35 (by decide +kernel) (by decide +kernel))⟩
theorem ki_X8_81 : sk_lkIN RX8 81 "SkiSchool" m_X4_init := ⟨⟨by decide, by decide, by decide +kernel⟩, rfl, rfl, List.mem_of_getElem? (i := 191) (by decide +kernel), (sk_in 221 (by decide +kernel) (by decide +kernel)), (sk_in 35 (by decide +kernel) (by decide +kernel)), (sk_in 222 (by decide +kernel) (by decide +kernel))⟩
theorem kn_X8_15 : sk_lkC RX8 15 0 := ⟨_, rfl, (sk_in 52 (by decide +kernel) (by decide +kernel)), (sk_in 254 (by decide +kernel) (by decide +kernel)), (sk_in 36 (by decide +kernel) (by decide +kernel))⟩
theorem ki_X8_82 : sk_lkIN RX8 82 "SkiSchool" m_X0_init := ⟨⟨by decide, by decide, by decide +kernel⟩, rfl, rfl, List.mem_of_getElem? (i := 226) (by decide +kernel), (sk_in 256 (by decide +kernel) (by decide +kernel)), (sk_in 36 (by decide +kernel) (by decide +kernel)), (sk_in 257 (by decide +kernel) (by decide +kernel))⟩
theorem kn_X8_21 : sk_lkC RX8 21 1 := ⟨_, rfl, (sk_in 54 (by decide +kernel) (by decide +kernel)), (sk_in 311 (by decide +kernel) (by decide +kernel)), (sk_in 37 (by decide +kernel) (by decide +kernel))⟩
theorem ki_X8_83 : sk_lkIN RX8 83 "SkiSchool" m_X1_init := ⟨⟨by decide, by decide, by decide +kernel⟩, rfl, rfl, List.mem_of_getElem? (i := 283) (by decide +kernel), (sk_in 313 (by decide +kernel) (by decide +kernel)), (sk_in 37 (by decide +kernel) (by decide +kernel)), (sk_in 314 (by decide +kernel) (by decide +kernel))⟩
theorem kn_X8_27 : sk_lkC RX8 27 2 := ⟨_, rfl, (sk_in 56 (by decide +kernel) (by decide +kernel)), (sk_in 340 (by decide +kernel) (by decide +kernel)), (sk_in 38 (by decide +kernel) (by decide +kernel))⟩
theorem ki_X8_84 : sk_lkIN RX8 84 "SkiSchool" m_X2_init := ⟨⟨by decide, by decide, by decide +kernel⟩, rfl, rfl, List.mem_of_getElem? (i := 312) (by decide +kernel), (sk_in 342 (by decide +kernel) (by decide +kernel)), (sk_in 38 (by decide +kernel) (by decide +kernel)), (sk_in 343 (by decide +kernel) (by decide +kernel))⟩
theorem kO_X8_1 : sk_lkO RX8 1 := ⟨(sk_in 47 (by decide +kernel) (by decide +kernel)), (sk_in 48 (by decide +kernel) (by decide +kernel)), (sk_in 49 (by decide +kernel) (by decide +kernel))⟩
theorem kcl_X8_9 : Cond.classLink RX8 9 "SkiSchool$Pupil" ∈ sk_tg := (sk_in 50 (by decide +kernel) (by decide +kernel))
theorem kr_X8_11 : sk_ff RX8 11 8 0 := sk_ff_of 368 (by decide +kernel)
theorem kcl_X8_15 : Cond.classLink RX8 15 "SkiSchool$Group" ∈ sk_tg := (sk_in 52 (by decide +kernel) (by decide +kernel))
theorem kr_X8_17 : sk_ff RX8 17 8 1 := sk_ff_of 369 (by decide +kernel)
theorem kcl_X8_21 : Cond.classLink RX8 21 "SkiSchool$Instructor" ∈ sk_tg := (sk_in 54 (by decide +kernel) (by decide +kernel))
theorem kr_X8_23 : sk_ff RX8 23 8 2 := sk_ff_of 370 (by decide +kernel)
theorem kcl_X8_27 : Cond.classLink RX8 27 "SkiSchool$Lift" ∈ sk_tg := (sk_in 56 (by decide +kernel) (by decide +kernel))
theorem kr_X8_29 : sk_ff RX8 29 8 3 := sk_ff_of 371 (by decide +kernel)
theorem kr_X8_33 : sk_ff RX8 33 8 4 := sk_ff_of 372 (by decide +kernel)
theorem kn_X8_37 : sk_lkC RX8 37 3 := ⟨_, rfl, (sk_in 58 (by decide +kernel) (by decide +kernel)), (sk_in 59 (by decide +kernel) (by decide +kernel)), (sk_in 31 (by decide +kernel) (by decide +kernel))⟩
theorem ki_X8_39 : sk_lkIN RX8 39 "SkiSchool" m_X3_init := ⟨⟨by decide, by decide, by decide +kernel⟩, rfl, rfl, List.mem_of_getElem? (i := 31) (by decide +kernel), (sk_in 61 (by decide +kernel) (by decide +kernel)), (sk_in 31 (by decide +kernel) (by decide +kernel)), (sk_in 62 (by decide +kernel) (by decide +kernel))⟩
theorem kr_X8_40 : sk_ff RX8 40 8 5 := sk_ff_of 373 (by decide +kernel)
theorem kn_X8_44 : sk_lkC RX8 44 7 := ⟨_, rfl, (sk_in 109 (by decide +kernel) (by decide +kernel)), (sk_in 110 (by decide +kernel) (by decide +kernel)), (sk_in 32 (by decide +kernel) (by decide +kernel))⟩
theorem ki_X8_46 : sk_lkIN RX8 46 "SkiSchool" m_X7_init := ⟨⟨by decide, by decide, by decide +kernel⟩, rfl, rfl, List.mem_of_getElem? (i := 82) (by decide +kernel), (sk_in 112 (by decide +kernel) (by decide +kernel)), (sk_in 32 (by decide +kernel) (by decide +kernel)), (sk_in 113 (by decide +kernel) (by decide +kernel))⟩
theorem kr_X8_47 : sk_ff RX8 47 8 6 := sk_ff_of 374 (by decide +kernel)
theorem kn_X8_51 : sk_lkC RX8 51 6 := ⟨_, rfl, (sk_in 131 (by decide +kernel) (by decide +kernel)), (sk_in 132 (by decide +kernel) (by decide +kernel)), (sk_in 33 (by decide +kernel) (by decide +kernel))⟩
theorem ki_X8_53 : sk_lkIN RX8 53 "SkiSchool" m_X6_init := ⟨⟨by decide, by decide, by decide +kernel⟩, rfl, rfl, List.mem_of_getElem? (i := 104) (by decide +kernel), (sk_in 134 (by decide +kernel) (by decide +kernel)), (sk_in 33 (by decide +kernel) (by decide +kernel)), (sk_in 135 (by decide +kernel) (by decide +kernel))⟩
theorem kr_X8_54 : sk_ff RX8 54 8 7 := sk_ff_of 375 (by decide +kernel)
theorem kn_X8_58 : sk_lkC RX8 58 5 := ⟨_, rfl, (sk_in 175 (by decide +kernel) (by decide +kernel)), (sk_in 176 (by decide +kernel) (by decide +kernel)), (sk_in 34 (by decide +kernel) (by decide +kernel))⟩
theorem ki_X8_60 : sk_lkIN RX8 60 "SkiSchool" m_X5_init := ⟨⟨by decide, by decide, by decide +kernel⟩, rfl, rfl, List.mem_of_getElem? (i := 148) (by decide +kernel), (sk_in 178 (by decide +kernel) (by decide +kernel)), (sk_in 34 (by decide +kernel) (by decide +kernel)), (sk_in 179 (by decide +kernel) (by decide +kernel))⟩
theorem kr_X8_61 : sk_ff RX8 61 8 8 := sk_ff_of 376 (by decide +kernel)
theorem kq_X8_65 : sk_fp RX8 65 8 9 .int := sk_fp_of 377 (by decide +kernel)
theorem kq_X8_69 : sk_fp RX8 69 8 10 .int := sk_fp_of 378 (by decide +kernel)
theorem kq_X8_72 : sk_fp RX8 72 8 11 .int := sk_fp_of 379 (by decide +kernel)
theorem kq_X8_75 : sk_fp RX8 75 8 12 .int := sk_fp_of 380 (by decide +kernel)
theorem kq_X8_78 : sk_fp RX8 78 8 13 .int := sk_fp_of 381 (by decide +kernel)
def w_X4 (k : Nat) (L : List sc_T) : List sc_T := (37, k, 6, .inr (some (38, k))) :: (37, k, 5, .inl (-9 : Int32)) :: (37, k, 4, .inl (-9 : Int32)) :: (37, k, 3, .inl (-9 : Int32)) :: (37, k, 2, .inl (0 : Int32)) :: (37, k, 1, .inl (0 : Int32)) :: (37, k, 0, .inl (0 : Int32)) :: L
set_option maxRecDepth 100000 in
set_option maxHeartbeats 4000000 in
theorem s_X4_init {l : Launch} {L : List sc_T} {t k : Nat} (ht : t < sk_N0) (hr0 : sk_ref t = (38, k)) (hl : sk_ref (sk_ord 37 k) = (37, k) ∧ sk_ord 37 k < t ∧ (37 : Nat) < 9000) (hn0 : sc_no L 38 k = true) : sk_M l 1 m_X4_init [.inr (.inr (some (37, k)))] (sk_mW t L) none (sk_mW (t + 1) (w_X4 k L)) := by
  refine sk_enter (by decide) (fun _ => Nat.le_of_ble_eq_true rfl) (Nat.le_of_ble_eq_true rfl) ?_
  show sk_G l (sk_rm 1 1 4) m_X4_init sk_Ex0 (sk_Zm m_X4_init none (sk_mW (t + 1) (w_X4 k L))) 0 0 0 [some (.inr (.inr (some (37, k))))] [] (sk_mW t L)
  refine sg_aload_n 1 (sk_td o_X4_init 0 rfl) rfl rfl ?_
  refine sg_objI 4 (sk_td o_X4_init 1 rfl) rfl kO_X4_3 (Nat.le_of_ble_eq_true rfl) (Nat.le_of_ble_eq_true rfl) (Nat.le_of_ble_eq_true rfl) ?_
  refine sg_aload_n 5 (sk_td o_X4_init 2 rfl) rfl rfl ?_
  refine sg_iconst (v := (0 : Int32)) 6 (sk_td o_X4_init 3 rfl) rfl (by decide) ?_
  refine sl_putI _ 9 rfl (sk_td o_X4_init 4 rfl) rfl kq_X4_9 rfl rfl (sc_lw 0 hl) (by decide) (by decide) ?_
  refine sg_aload_n 10 (sk_td o_X4_init 5 rfl) rfl rfl ?_
  refine sg_iconst (v := (0 : Int32)) 11 (sk_td o_X4_init 6 rfl) rfl (by decide) ?_
  refine sl_putI _ 14 rfl (sk_td o_X4_init 7 rfl) rfl kq_X4_15 rfl rfl (sc_lw 0 hl) rfl rfl ?_
  refine sg_aload_n 15 (sk_td o_X4_init 8 rfl) rfl rfl ?_
  refine sg_iconst (v := (0 : Int32)) 16 (sk_td o_X4_init 9 rfl) rfl (by decide) ?_
  refine sl_putI _ 19 rfl (sk_td o_X4_init 10 rfl) rfl kq_X4_19 rfl rfl (sc_lw 0 hl) rfl rfl ?_
  refine sg_aload_n 20 (sk_td o_X4_init 11 rfl) rfl rfl ?_
  refine sg_bipush (v := (-9 : Int32)) 22 (sk_td o_X4_init 12 rfl) rfl (by decide) ?_
  refine sl_putI _ 25 rfl (sk_td o_X4_init 13 rfl) rfl kq_X4_22 rfl rfl (sc_lw 0 hl) rfl rfl ?_
  refine sg_aload_n 26 (sk_td o_X4_init 14 rfl) rfl rfl ?_
  refine sg_bipush (v := (-9 : Int32)) 28 (sk_td o_X4_init 15 rfl) rfl (by decide) ?_
  refine sl_putI _ 31 rfl (sk_td o_X4_init 16 rfl) rfl kq_X4_25 rfl rfl (sc_lw 0 hl) rfl rfl ?_
  refine sg_aload_n 32 (sk_td o_X4_init 17 rfl) rfl rfl ?_
  refine sg_bipush (v := (-9 : Int32)) 34 (sk_td o_X4_init 18 rfl) rfl (by decide) ?_
  refine sl_putI _ 37 rfl (sk_td o_X4_init 19 rfl) rfl kq_X4_28 rfl rfl (sc_lw 0 hl) rfl rfl ?_
  refine sg_aload_n 38 (sk_td o_X4_init 20 rfl) rfl rfl ?_
  refine sg_iconst (v := (4 : Int32)) 39 (sk_td o_X4_init 21 rfl) rfl (by decide) ?_
  refine sl_newa (kd := 0) (N := 4) (s := 38) (k := k) (t + 1) 1 4 41 (sk_td o_X4_init 22 rfl) rfl kar_int rfl (by decide) (by omega) hr0 rfl hn0 (by decide) (by decide) (Nat.le_of_ble_eq_true rfl) rfl rfl rfl (Nat.le_of_ble_eq_true rfl) (Nat.le_of_ble_eq_true rfl) ?_
  refine sl_putF _ 44 rfl (sk_td o_X4_init 23 rfl) rfl kr_X4_31 rfl rfl rfl (sc_lw 1 hl) ?_
  exact sg_vret (sk_td o_X4_init 24 rfl) rfl
def w_X0 (k : Nat) (L : List sc_T) : List sc_T := (39, k, 10, .inl (0 : Int32)) :: (39, k, 9, .inl (0 : Int32)) :: (39, k, 8, .inr (some (41, k))) :: (39, k, 7, .inr (some (40, k))) :: (39, k, 6, .inl (0 : Int32)) :: (39, k, 5, .inl (0 : Int32)) :: (39, k, 4, .inl (-9 : Int32)) :: (39, k, 3, .inl (0 : Int32)) :: (39, k, 2, .inl (0 : Int32)) :: (39, k, 1, .inl (0 : Int32)) :: (39, k, 0, .inl (0 : Int32)) :: L
set_option maxRecDepth 100000 in
set_option maxHeartbeats 4000000 in
theorem s_X0_init {l : Launch} {L : List sc_T} {t k : Nat} (ht : t + 1 < sk_N0) (hr0 : sk_ref t = (40, k)) (hr1 : sk_ref (t + 1) = (41, k)) (hl : sk_ref (sk_ord 39 k) = (39, k) ∧ sk_ord 39 k < t ∧ (39 : Nat) < 9000) (hn0 : sc_no L 40 k = true) (hn1 : sc_no L 41 k = true) : sk_M l 1 m_X0_init [.inr (.inr (some (39, k)))] (sk_mW t L) none (sk_mW (t + 2) (w_X0 k L)) := by
  refine sk_enter (by decide) (fun _ => Nat.le_of_ble_eq_true rfl) (Nat.le_of_ble_eq_true rfl) ?_
  show sk_G l (sk_rm 1 2 8) m_X0_init sk_Ex0 (sk_Zm m_X0_init none (sk_mW (t + 2) (w_X0 k L))) 0 0 0 [some (.inr (.inr (some (39, k))))] [] (sk_mW t L)
  refine sg_aload_n 1 (sk_td o_X0_init 0 rfl) rfl rfl ?_
  refine sg_objI 4 (sk_td o_X0_init 1 rfl) rfl kO_X0_3 (Nat.le_of_ble_eq_true rfl) (Nat.le_of_ble_eq_true rfl) (Nat.le_of_ble_eq_true rfl) ?_
  refine sg_aload_n 5 (sk_td o_X0_init 2 rfl) rfl rfl ?_
  refine sg_iconst (v := (0 : Int32)) 6 (sk_td o_X0_init 3 rfl) rfl (by decide) ?_
  refine sl_putI _ 9 rfl (sk_td o_X0_init 4 rfl) rfl kq_X0_9 rfl rfl (sc_lw 0 hl) (by decide) (by decide) ?_
  refine sg_aload_n 10 (sk_td o_X0_init 5 rfl) rfl rfl ?_
  refine sg_iconst (v := (0 : Int32)) 11 (sk_td o_X0_init 6 rfl) rfl (by decide) ?_
  refine sl_putI _ 14 rfl (sk_td o_X0_init 7 rfl) rfl kq_X0_15 rfl rfl (sc_lw 0 hl) rfl rfl ?_
  refine sg_aload_n 15 (sk_td o_X0_init 8 rfl) rfl rfl ?_
  refine sg_iconst (v := (0 : Int32)) 16 (sk_td o_X0_init 9 rfl) rfl (by decide) ?_
  refine sl_putI _ 19 rfl (sk_td o_X0_init 10 rfl) rfl kq_X0_19 rfl rfl (sc_lw 0 hl) rfl rfl ?_
  refine sg_aload_n 20 (sk_td o_X0_init 11 rfl) rfl rfl ?_
  refine sg_iconst (v := (0 : Int32)) 21 (sk_td o_X0_init 12 rfl) rfl (by decide) ?_
  refine sl_putI _ 24 rfl (sk_td o_X0_init 13 rfl) rfl kq_X0_22 rfl rfl (sc_lw 0 hl) rfl rfl ?_
  refine sg_aload_n 25 (sk_td o_X0_init 14 rfl) rfl rfl ?_
  refine sg_bipush (v := (-9 : Int32)) 27 (sk_td o_X0_init 15 rfl) rfl (by decide) ?_
  refine sl_putI _ 30 rfl (sk_td o_X0_init 16 rfl) rfl kq_X0_25 rfl rfl (sc_lw 0 hl) rfl rfl ?_
  refine sg_aload_n 31 (sk_td o_X0_init 17 rfl) rfl rfl ?_
  refine sg_iconst (v := (0 : Int32)) 32 (sk_td o_X0_init 18 rfl) rfl (by decide) ?_
  refine sl_putI _ 35 rfl (sk_td o_X0_init 19 rfl) rfl kq_X0_28 rfl rfl (sc_lw 0 hl) rfl rfl ?_
  refine sg_aload_n 36 (sk_td o_X0_init 20 rfl) rfl rfl ?_
  refine sg_iconst (v := (0 : Int32)) 37 (sk_td o_X0_init 21 rfl) rfl (by decide) ?_
  refine sl_putI _ 40 rfl (sk_td o_X0_init 22 rfl) rfl kq_X0_31 rfl rfl (sc_lw 0 hl) rfl rfl ?_
  refine sg_aload_n 41 (sk_td o_X0_init 23 rfl) rfl rfl ?_
  refine sg_iconst (v := (4 : Int32)) 42 (sk_td o_X0_init 24 rfl) rfl (by decide) ?_
  refine sl_newa (kd := 0) (N := 4) (s := 40) (k := k) (t + 1) 1 4 44 (sk_td o_X0_init 25 rfl) rfl kar_int rfl (by decide) (by omega) hr0 rfl hn0 (by decide) (by decide) (Nat.le_of_ble_eq_true rfl) rfl rfl rfl (Nat.le_of_ble_eq_true rfl) (Nat.le_of_ble_eq_true rfl) ?_
  refine sl_putF _ 47 rfl (sk_td o_X0_init 26 rfl) rfl kr_X0_34 rfl rfl rfl (sc_lw 1 hl) ?_
  refine sg_aload_n 48 (sk_td o_X0_init 27 rfl) rfl rfl ?_
  refine sg_iconst (v := (4 : Int32)) 49 (sk_td o_X0_init 28 rfl) rfl (by decide) ?_
  refine sl_newa (kd := 0) (N := 4) (s := 41) (k := k) (t + 2) 2 8 51 (sk_td o_X0_init 29 rfl) rfl kar_int rfl (by decide) (by omega) hr1 rfl hn1 (by decide) (by decide) (Nat.le_of_ble_eq_true rfl) rfl rfl rfl (Nat.le_of_ble_eq_true rfl) (Nat.le_of_ble_eq_true rfl) ?_
  refine sl_putF _ 54 rfl (sk_td o_X0_init 30 rfl) rfl kr_X0_38 rfl rfl rfl (sc_lw 2 hl) ?_
  refine sg_aload_n 55 (sk_td o_X0_init 31 rfl) rfl rfl ?_
  refine sg_iconst (v := (0 : Int32)) 56 (sk_td o_X0_init 32 rfl) rfl (by decide) ?_
  refine sl_putI _ 59 rfl (sk_td o_X0_init 33 rfl) rfl kq_X0_41 rfl rfl (sc_lw 2 hl) rfl rfl ?_
  refine sg_aload_n 60 (sk_td o_X0_init 34 rfl) rfl rfl ?_
  refine sg_iconst (v := (0 : Int32)) 61 (sk_td o_X0_init 35 rfl) rfl (by decide) ?_
  refine sl_putI _ 64 rfl (sk_td o_X0_init 36 rfl) rfl kq_X0_44 rfl rfl (sc_lw 2 hl) rfl rfl ?_
  exact sg_vret (sk_td o_X0_init 37 rfl) rfl
def w_X1 (k : Nat) (L : List sc_T) : List sc_T := (42, k, 5, .inl (0 : Int32)) :: (42, k, 4, .inl (0 : Int32)) :: (42, k, 3, .inl (0 : Int32)) :: (42, k, 2, .inl (0 : Int32)) :: (42, k, 1, .inl (0 : Int32)) :: (42, k, 0, .inl (0 : Int32)) :: L
set_option maxRecDepth 100000 in
set_option maxHeartbeats 4000000 in
theorem s_X1_init {l : Launch} {L : List sc_T} {t k : Nat}   (hl : sk_ref (sk_ord 42 k) = (42, k) ∧ sk_ord 42 k < t ∧ (42 : Nat) < 9000)  : sk_M l 1 m_X1_init [.inr (.inr (some (42, k)))] (sk_mW t L) none (sk_mW t (w_X1 k L)) := by
  refine sk_enter (by decide) (fun _ => Nat.le_of_ble_eq_true rfl) (Nat.le_of_ble_eq_true rfl) ?_
  show sk_G l (sk_rm 1 0 0) m_X1_init sk_Ex0 (sk_Zm m_X1_init none (sk_mW t (w_X1 k L))) 0 0 0 [some (.inr (.inr (some (42, k))))] [] (sk_mW t L)
  refine sg_aload_n 1 (sk_td o_X1_init 0 rfl) rfl rfl ?_
  refine sg_objI 4 (sk_td o_X1_init 1 rfl) rfl kO_X1_3 (Nat.le_of_ble_eq_true rfl) (Nat.le_of_ble_eq_true rfl) (Nat.le_of_ble_eq_true rfl) ?_
  refine sg_aload_n 5 (sk_td o_X1_init 2 rfl) rfl rfl ?_
  refine sg_iconst (v := (0 : Int32)) 6 (sk_td o_X1_init 3 rfl) rfl (by decide) ?_
  refine sl_putI _ 9 rfl (sk_td o_X1_init 4 rfl) rfl kq_X1_9 rfl rfl (sc_lw 0 hl) (by decide) (by decide) ?_
  refine sg_aload_n 10 (sk_td o_X1_init 5 rfl) rfl rfl ?_
  refine sg_iconst (v := (0 : Int32)) 11 (sk_td o_X1_init 6 rfl) rfl (by decide) ?_
  refine sl_putI _ 14 rfl (sk_td o_X1_init 7 rfl) rfl kq_X1_15 rfl rfl (sc_lw 0 hl) rfl rfl ?_
  refine sg_aload_n 15 (sk_td o_X1_init 8 rfl) rfl rfl ?_
  refine sg_iconst (v := (0 : Int32)) 16 (sk_td o_X1_init 9 rfl) rfl (by decide) ?_
  refine sl_putI _ 19 rfl (sk_td o_X1_init 10 rfl) rfl kq_X1_19 rfl rfl (sc_lw 0 hl) rfl rfl ?_
  refine sg_aload_n 20 (sk_td o_X1_init 11 rfl) rfl rfl ?_
  refine sg_iconst (v := (0 : Int32)) 21 (sk_td o_X1_init 12 rfl) rfl (by decide) ?_
  refine sl_putI _ 24 rfl (sk_td o_X1_init 13 rfl) rfl kq_X1_22 rfl rfl (sc_lw 0 hl) rfl rfl ?_
  refine sg_aload_n 25 (sk_td o_X1_init 14 rfl) rfl rfl ?_
  refine sg_iconst (v := (0 : Int32)) 26 (sk_td o_X1_init 15 rfl) rfl (by decide) ?_
  refine sl_putI _ 29 rfl (sk_td o_X1_init 16 rfl) rfl kq_X1_25 rfl rfl (sc_lw 0 hl) rfl rfl ?_
  refine sg_aload_n 30 (sk_td o_X1_init 17 rfl) rfl rfl ?_
  refine sg_iconst (v := (0 : Int32)) 31 (sk_td o_X1_init 18 rfl) rfl (by decide) ?_
  refine sl_putI _ 34 rfl (sk_td o_X1_init 19 rfl) rfl kq_X1_28 rfl rfl (sc_lw 0 hl) rfl rfl ?_
  exact sg_vret (sk_td o_X1_init 20 rfl) rfl
def w_X2 (k : Nat) (L : List sc_T) : List sc_T := (43, k, 4, .inl (0 : Int32)) :: (43, k, 3, .inl (0 : Int32)) :: (43, k, 2, .inl (0 : Int32)) :: (43, k, 1, .inl (0 : Int32)) :: (43, k, 0, .inl (0 : Int32)) :: L
set_option maxRecDepth 100000 in
set_option maxHeartbeats 4000000 in
theorem s_X2_init {l : Launch} {L : List sc_T} {t k : Nat}   (hl : sk_ref (sk_ord 43 k) = (43, k) ∧ sk_ord 43 k < t ∧ (43 : Nat) < 9000)  : sk_M l 1 m_X2_init [.inr (.inr (some (43, k)))] (sk_mW t L) none (sk_mW t (w_X2 k L)) := by
  refine sk_enter (by decide) (fun _ => Nat.le_of_ble_eq_true rfl) (Nat.le_of_ble_eq_true rfl) ?_
  show sk_G l (sk_rm 1 0 0) m_X2_init sk_Ex0 (sk_Zm m_X2_init none (sk_mW t (w_X2 k L))) 0 0 0 [some (.inr (.inr (some (43, k))))] [] (sk_mW t L)
  refine sg_aload_n 1 (sk_td o_X2_init 0 rfl) rfl rfl ?_
  refine sg_objI 4 (sk_td o_X2_init 1 rfl) rfl kO_X2_1 (Nat.le_of_ble_eq_true rfl) (Nat.le_of_ble_eq_true rfl) (Nat.le_of_ble_eq_true rfl) ?_
  refine sg_aload_n 5 (sk_td o_X2_init 2 rfl) rfl rfl ?_
  refine sg_iconst (v := (0 : Int32)) 6 (sk_td o_X2_init 3 rfl) rfl (by decide) ?_
  refine sl_putI _ 9 rfl (sk_td o_X2_init 4 rfl) rfl kq_X2_7 rfl rfl (sc_lw 0 hl) rfl rfl ?_
  refine sg_aload_n 10 (sk_td o_X2_init 5 rfl) rfl rfl ?_
  refine sg_iconst (v := (0 : Int32)) 11 (sk_td o_X2_init 6 rfl) rfl (by decide) ?_
  refine sl_putI _ 14 rfl (sk_td o_X2_init 7 rfl) rfl kq_X2_13 rfl rfl (sc_lw 0 hl) rfl rfl ?_
  refine sg_aload_n 15 (sk_td o_X2_init 8 rfl) rfl rfl ?_
  refine sg_iconst (v := (0 : Int32)) 16 (sk_td o_X2_init 9 rfl) rfl (by decide) ?_
  refine sl_putI _ 19 rfl (sk_td o_X2_init 10 rfl) rfl kq_X2_16 rfl rfl (sc_lw 0 hl) rfl rfl ?_
  refine sg_aload_n 20 (sk_td o_X2_init 11 rfl) rfl rfl ?_
  refine sg_iconst (v := (0 : Int32)) 21 (sk_td o_X2_init 12 rfl) rfl (by decide) ?_
  refine sl_putI _ 24 rfl (sk_td o_X2_init 13 rfl) rfl kq_X2_19 rfl rfl (sc_lw 0 hl) rfl rfl ?_
  refine sg_aload_n 25 (sk_td o_X2_init 14 rfl) rfl rfl ?_
  refine sg_iconst (v := (0 : Int32)) 26 (sk_td o_X2_init 15 rfl) rfl (by decide) ?_
  refine sl_putI _ 29 rfl (sk_td o_X2_init 16 rfl) rfl kq_X2_22 rfl rfl (sc_lw 0 hl) rfl rfl ?_
  exact sg_vret (sk_td o_X2_init 17 rfl) rfl
def sc_A0 : List sc_T := (0, 0, 4, .inr (some (5, 0))) :: (0, 0, 3, .inr (some (4, 0))) :: (0, 0, 2, .inr (some (3, 0))) :: (0, 0, 1, .inr (some (2, 0))) :: (0, 0, 0, .inr (some (1, 0))) :: []
def w_X3 : List sc_T := (6, 0, 12, .inr (some (18, 0))) :: (6, 0, 11, .inr (some (17, 0))) :: (6, 0, 10, .inr (some (16, 0))) :: (6, 0, 9, .inr (some (15, 0))) :: (6, 0, 8, .inr (some (14, 0))) :: (6, 0, 7, .inr (some (13, 0))) :: (6, 0, 6, .inr (some (12, 0))) :: (6, 0, 5, .inr (some (11, 0))) :: (6, 0, 4, .inr (some (9, 0))) :: sc_mw 9 10 20 ((6, 0, 3, .inr (some (8, 0))) :: (6, 0, 2, .inr (some (7, 0))) :: (6, 0, 1, .inl (1 : Int32)) :: (6, 0, 0, .inl (0 : Int32)) :: sc_A0)
set_option maxRecDepth 100000 in
set_option maxHeartbeats 4000000 in
theorem s_X3_init (hmn : sc_MN) {l : Launch} : sk_M l 1 m_X3_init [.inr (.inr (some (6, 0)))] (sk_mW 7 sc_A0) none (sk_mW 38 w_X3) := by
  refine sk_enter (by decide) (fun _ => Nat.le_of_ble_eq_true rfl) (Nat.le_of_ble_eq_true rfl) ?_
  show sk_G l (sk_rm 1 31 4986) m_X3_init sk_Ex0 (sk_Zm m_X3_init none (sk_mW 38 w_X3)) 0 0 0 [some (.inr (.inr (some (6, 0))))] [] (sk_mW 7 sc_A0)
  refine sg_aload_n 1 (sk_td o_X3_init 0 rfl) rfl rfl ?_
  refine sg_objI 4 (sk_td o_X3_init 1 rfl) rfl kO_X3_3 (Nat.le_of_ble_eq_true rfl) (Nat.le_of_ble_eq_true rfl) (Nat.le_of_ble_eq_true rfl) ?_
  refine sg_aload_n 5 (sk_td o_X3_init 2 rfl) rfl rfl ?_
  refine sg_iconst (v := (0 : Int32)) 6 (sk_td o_X3_init 3 rfl) rfl (by decide) ?_
  refine sl_putI _ 9 rfl (sk_td o_X3_init 4 rfl) rfl kq_X3_9 rfl rfl (by decide +kernel) rfl rfl ?_
  refine sg_aload_n 10 (sk_td o_X3_init 5 rfl) rfl rfl ?_
  refine sg_iconst (v := (1 : Int32)) 11 (sk_td o_X3_init 6 rfl) rfl (by decide) ?_
  refine sl_putI _ 14 rfl (sk_td o_X3_init 7 rfl) rfl kq_X3_15 rfl rfl (by decide +kernel) rfl rfl ?_
  refine sg_aload_n 15 (sk_td o_X3_init 8 rfl) rfl rfl ?_
  refine sg_bipush (v := (20 : Int32)) 17 (sk_td o_X3_init 9 rfl) rfl (by decide) ?_
  refine sl_newa (kd := 0) (N := 20) (s := 7) (k := 0) 8 1 20 19 (sk_td o_X3_init 10 rfl) rfl kar_int rfl (by decide) (by decide) (by decide +kernel) rfl (by decide +kernel) (by decide) (by decide) (Nat.le_of_ble_eq_true rfl) rfl rfl rfl (Nat.le_of_ble_eq_true rfl) (Nat.le_of_ble_eq_true rfl) ?_
  refine sl_putF _ 22 rfl (sk_td o_X3_init 11 rfl) rfl kr_X3_18 rfl rfl rfl (by decide +kernel) ?_
  refine sg_aload_n 23 (sk_td o_X3_init 12 rfl) rfl rfl ?_
  refine sg_bipush (v := (20 : Int32)) 25 (sk_td o_X3_init 13 rfl) rfl (by decide) ?_
  refine sl_newa (kd := 0) (N := 20) (s := 8) (k := 0) 9 2 40 27 (sk_td o_X3_init 14 rfl) rfl kar_int rfl (by decide) (by decide) (by decide +kernel) rfl (by decide +kernel) (by decide) (by decide) (Nat.le_of_ble_eq_true rfl) rfl rfl rfl (Nat.le_of_ble_eq_true rfl) (Nat.le_of_ble_eq_true rfl) ?_
  refine sl_putF _ 30 rfl (sk_td o_X3_init 15 rfl) rfl kr_X3_22 rfl rfl rfl (by decide +kernel) ?_
  refine sg_aload_n 31 (sk_td o_X3_init 16 rfl) rfl rfl ?_
  refine sg_bipush (v := (20 : Int32)) 33 (sk_td o_X3_init 17 rfl) rfl (by decide) ?_
  refine sg_iconst (v := (4 : Int32)) 34 (sk_td o_X3_init 18 rfl) rfl (by decide) ?_
  refine sl_mna hmn (N := 20) (so := 9) (sr := 10) 30 23 140 38 (sk_td o_X3_init 19 rfl) rfl kcl_X3_25 kov_int kar_int rfl rfl rfl (Nat.le_of_ble_eq_true rfl) (by decide +kernel) (by decide +kernel) (by decide) rfl rfl (by decide +kernel) (by decide +kernel) (by decide) (by decide) (by decide) (Nat.le_of_ble_eq_true rfl) (Nat.le_of_ble_eq_true rfl) ?_
  refine sl_putF _ 41 rfl (sk_td o_X3_init 20 rfl) rfl kr_X3_27 rfl rfl rfl (by decide +kernel) ?_
  refine sg_aload_n 42 (sk_td o_X3_init 21 rfl) rfl rfl ?_
  refine sg_bipush (v := (20 : Int32)) 44 (sk_td o_X3_init 22 rfl) rfl (by decide) ?_
  refine sl_newa (kd := 0) (N := 20) (s := 11) (k := 0) 31 24 160 46 (sk_td o_X3_init 23 rfl) rfl kar_int rfl (by decide) (by decide) (by decide +kernel) rfl (by decide +kernel) (by decide) (by decide) (Nat.le_of_ble_eq_true rfl) rfl rfl rfl (Nat.le_of_ble_eq_true rfl) (Nat.le_of_ble_eq_true rfl) ?_
  refine sl_putF _ 49 rfl (sk_td o_X3_init 24 rfl) rfl kr_X3_30 rfl rfl rfl (by decide +kernel) ?_
  refine sg_aload_n 50 (sk_td o_X3_init 25 rfl) rfl rfl ?_
  refine sg_bipush (v := (8 : Int32)) 52 (sk_td o_X3_init 26 rfl) rfl (by decide) ?_
  refine sl_newa (kd := 0) (N := 8) (s := 12) (k := 0) 32 25 168 54 (sk_td o_X3_init 27 rfl) rfl kar_int rfl (by decide) (by decide) (by decide +kernel) rfl (by decide +kernel) (by decide) (by decide) (Nat.le_of_ble_eq_true rfl) rfl rfl rfl (Nat.le_of_ble_eq_true rfl) (Nat.le_of_ble_eq_true rfl) ?_
  refine sl_putF _ 57 rfl (sk_td o_X3_init 28 rfl) rfl kr_X3_33 rfl rfl rfl (by decide +kernel) ?_
  refine sg_aload_n 58 (sk_td o_X3_init 29 rfl) rfl rfl ?_
  refine sg_iconst (v := (4 : Int32)) 59 (sk_td o_X3_init 30 rfl) rfl (by decide) ?_
  refine sl_newa (kd := 0) (N := 4) (s := 13) (k := 0) 33 26 172 61 (sk_td o_X3_init 31 rfl) rfl kar_int rfl (by decide) (by decide) (by decide +kernel) rfl (by decide +kernel) (by decide) (by decide) (Nat.le_of_ble_eq_true rfl) rfl rfl rfl (Nat.le_of_ble_eq_true rfl) (Nat.le_of_ble_eq_true rfl) ?_
  refine sl_putF _ 64 rfl (sk_td o_X3_init 32 rfl) rfl kr_X3_36 rfl rfl rfl (by decide +kernel) ?_
  refine sg_aload_n 65 (sk_td o_X3_init 33 rfl) rfl rfl ?_
  refine sg_iconst (v := (4 : Int32)) 66 (sk_td o_X3_init 34 rfl) rfl (by decide) ?_
  refine sl_newa (kd := 0) (N := 4) (s := 14) (k := 0) 34 27 176 68 (sk_td o_X3_init 35 rfl) rfl kar_int rfl (by decide) (by decide) (by decide +kernel) rfl (by decide +kernel) (by decide) (by decide) (Nat.le_of_ble_eq_true rfl) rfl rfl rfl (Nat.le_of_ble_eq_true rfl) (Nat.le_of_ble_eq_true rfl) ?_
  refine sl_putF _ 71 rfl (sk_td o_X3_init 36 rfl) rfl kr_X3_39 rfl rfl rfl (by decide +kernel) ?_
  refine sg_aload_n 72 (sk_td o_X3_init 37 rfl) rfl rfl ?_
  refine sg_iconst (v := (4 : Int32)) 73 (sk_td o_X3_init 38 rfl) rfl (by decide) ?_
  refine sl_newa (kd := 0) (N := 4) (s := 15) (k := 0) 35 28 180 75 (sk_td o_X3_init 39 rfl) rfl kar_int rfl (by decide) (by decide) (by decide +kernel) rfl (by decide +kernel) (by decide) (by decide) (Nat.le_of_ble_eq_true rfl) rfl rfl rfl (Nat.le_of_ble_eq_true rfl) (Nat.le_of_ble_eq_true rfl) ?_
  refine sl_putF _ 78 rfl (sk_td o_X3_init 40 rfl) rfl kr_X3_42 rfl rfl rfl (by decide +kernel) ?_
  refine sg_aload_n 79 (sk_td o_X3_init 41 rfl) rfl rfl ?_
  refine sg_iconst (v := (4 : Int32)) 80 (sk_td o_X3_init 42 rfl) rfl (by decide) ?_
  refine sl_newa (kd := 0) (N := 4) (s := 16) (k := 0) 36 29 184 82 (sk_td o_X3_init 43 rfl) rfl kar_int rfl (by decide) (by decide) (by decide +kernel) rfl (by decide +kernel) (by decide) (by decide) (Nat.le_of_ble_eq_true rfl) rfl rfl rfl (Nat.le_of_ble_eq_true rfl) (Nat.le_of_ble_eq_true rfl) ?_
  refine sl_putF _ 85 rfl (sk_td o_X3_init 44 rfl) rfl kr_X3_45 rfl rfl rfl (by decide +kernel) ?_
  refine sg_aload_n 86 (sk_td o_X3_init 45 rfl) rfl rfl ?_
  refine sg_sipush (v := (2401 : Int32)) 89 (sk_td o_X3_init 46 rfl) rfl (by decide) ?_
  refine sl_newa (kd := 0) (N := 2401) (s := 17) (k := 0) 37 30 2585 91 (sk_td o_X3_init 47 rfl) rfl kar_int rfl (by decide) (by decide) (by decide +kernel) rfl (by decide +kernel) (by decide) (by decide) (Nat.le_of_ble_eq_true rfl) rfl rfl rfl (Nat.le_of_ble_eq_true rfl) (Nat.le_of_ble_eq_true rfl) ?_
  refine sl_putF _ 94 rfl (sk_td o_X3_init 48 rfl) rfl kr_X3_48 rfl rfl rfl (by decide +kernel) ?_
  refine sg_aload_n 95 (sk_td o_X3_init 49 rfl) rfl rfl ?_
  refine sg_sipush (v := (2401 : Int32)) 98 (sk_td o_X3_init 50 rfl) rfl (by decide) ?_
  refine sl_newa (kd := 1) (N := 2401) (s := 18) (k := 0) 38 31 4986 100 (sk_td o_X3_init 51 rfl) rfl kar_long rfl (by decide) (by decide) (by decide +kernel) rfl (by decide +kernel) (by decide) (by decide) (Nat.le_of_ble_eq_true rfl) rfl rfl rfl (Nat.le_of_ble_eq_true rfl) (Nat.le_of_ble_eq_true rfl) ?_
  refine sl_putF _ 103 rfl (sk_td o_X3_init 52 rfl) rfl kr_X3_51 rfl rfl rfl (by decide +kernel) ?_
  exact sg_vret (sk_td o_X3_init 53 rfl) rfl
def sc_A1 : List sc_T := (0, 0, 5, .inr (some (6, 0))) :: w_X3
def w_X7 : List sc_T := (19, 0, 3, .inl (3999997 : Int32)) :: (19, 0, 2, .inr (some (22, 0))) :: (19, 0, 1, .inr (some (21, 0))) :: (19, 0, 0, .inr (some (20, 0))) :: sc_A1
set_option maxRecDepth 100000 in
set_option maxHeartbeats 4000000 in
theorem s_X7_init (hmn : sc_MN) {l : Launch} : sk_M l 1 m_X7_init [.inr (.inr (some (19, 0)))] (sk_mW 39 sc_A1) none (sk_mW 42 w_X7) := by
  refine sk_enter (by decide) (fun _ => Nat.le_of_ble_eq_true rfl) (Nat.le_of_ble_eq_true rfl) ?_
  show sk_G l (sk_rm 1 3 12) m_X7_init sk_Ex0 (sk_Zm m_X7_init none (sk_mW 42 w_X7)) 0 0 0 [some (.inr (.inr (some (19, 0))))] [] (sk_mW 39 sc_A1)
  refine sg_aload_n 1 (sk_td o_X7_init 0 rfl) rfl rfl ?_
  refine sg_objI 4 (sk_td o_X7_init 1 rfl) rfl kO_X7_3 (Nat.le_of_ble_eq_true rfl) (Nat.le_of_ble_eq_true rfl) (Nat.le_of_ble_eq_true rfl) ?_
  refine sg_aload_n 5 (sk_td o_X7_init 2 rfl) rfl rfl ?_
  refine sg_iconst (v := (4 : Int32)) 6 (sk_td o_X7_init 3 rfl) rfl (by decide) ?_
  refine sl_newa (kd := 2) (N := 4) (s := 20) (k := 0) 40 1 4 8 (sk_td o_X7_init 4 rfl) rfl kar_boolean rfl (by decide) (by decide) (by decide +kernel) rfl (by decide +kernel) (by decide) (by decide) (Nat.le_of_ble_eq_true rfl) rfl rfl rfl (Nat.le_of_ble_eq_true rfl) (Nat.le_of_ble_eq_true rfl) ?_
  refine sl_putF _ 11 rfl (sk_td o_X7_init 5 rfl) rfl kr_X7_9 rfl rfl rfl (by decide +kernel) ?_
  refine sg_aload_n 12 (sk_td o_X7_init 6 rfl) rfl rfl ?_
  refine sg_iconst (v := (4 : Int32)) 13 (sk_td o_X7_init 7 rfl) rfl (by decide) ?_
  refine sl_newa (kd := 0) (N := 4) (s := 21) (k := 0) 41 2 8 15 (sk_td o_X7_init 8 rfl) rfl kar_int rfl (by decide) (by decide) (by decide +kernel) rfl (by decide +kernel) (by decide) (by decide) (Nat.le_of_ble_eq_true rfl) rfl rfl rfl (Nat.le_of_ble_eq_true rfl) (Nat.le_of_ble_eq_true rfl) ?_
  refine sl_putF _ 18 rfl (sk_td o_X7_init 9 rfl) rfl kr_X7_15 rfl rfl rfl (by decide +kernel) ?_
  refine sg_aload_n 19 (sk_td o_X7_init 10 rfl) rfl rfl ?_
  refine sg_iconst (v := (4 : Int32)) 20 (sk_td o_X7_init 11 rfl) rfl (by decide) ?_
  refine sl_newa (kd := 0) (N := 4) (s := 22) (k := 0) 42 3 12 22 (sk_td o_X7_init 12 rfl) rfl kar_int rfl (by decide) (by decide) (by decide +kernel) rfl (by decide +kernel) (by decide) (by decide) (Nat.le_of_ble_eq_true rfl) rfl rfl rfl (Nat.le_of_ble_eq_true rfl) (Nat.le_of_ble_eq_true rfl) ?_
  refine sl_putF _ 25 rfl (sk_td o_X7_init 13 rfl) rfl kr_X7_19 rfl rfl rfl (by decide +kernel) ?_
  refine sg_aload_n 26 (sk_td o_X7_init 14 rfl) rfl rfl ?_
  refine sg_ldc (v := (3999997 : Int32)) 28 (sk_td o_X7_init 15 rfl) rfl kdc_X7_22 ?_
  refine sl_putI _ 31 rfl (sk_td o_X7_init 16 rfl) rfl kq_X7_23 rfl rfl (by decide +kernel) rfl rfl ?_
  exact sg_vret (sk_td o_X7_init 17 rfl) rfl
def sc_A2 : List sc_T := (0, 0, 6, .inr (some (19, 0))) :: w_X7
def w_X6 : List sc_T := (23, 0, 9, .inr (some (34, 0))) :: (23, 0, 8, .inr (some (32, 0))) :: sc_mw 32 33 3 ((23, 0, 7, .inr (some (31, 0))) :: (23, 0, 6, .inr (some (30, 0))) :: (23, 0, 5, .inr (some (29, 0))) :: (23, 0, 4, .inr (some (28, 0))) :: (23, 0, 3, .inr (some (27, 0))) :: (23, 0, 2, .inr (some (26, 0))) :: (23, 0, 1, .inr (some (25, 0))) :: (23, 0, 0, .inr (some (24, 0))) :: sc_A2)
set_option maxRecDepth 100000 in
set_option maxHeartbeats 4000000 in
theorem s_X6_init (hmn : sc_MN) {l : Launch} : sk_M l 1 m_X6_init [.inr (.inr (some (23, 0)))] (sk_mW 43 sc_A2) none (sk_mW 56 w_X6) := by
  refine sk_enter (by decide) (fun _ => Nat.le_of_ble_eq_true rfl) (Nat.le_of_ble_eq_true rfl) ?_
  show sk_G l (sk_rm 1 13 48) m_X6_init sk_Ex0 (sk_Zm m_X6_init none (sk_mW 56 w_X6)) 0 0 0 [some (.inr (.inr (some (23, 0))))] [] (sk_mW 43 sc_A2)
  refine sg_aload_n 1 (sk_td o_X6_init 0 rfl) rfl rfl ?_
  refine sg_objI 4 (sk_td o_X6_init 1 rfl) rfl kO_X6_3 (Nat.le_of_ble_eq_true rfl) (Nat.le_of_ble_eq_true rfl) (Nat.le_of_ble_eq_true rfl) ?_
  refine sg_aload_n 5 (sk_td o_X6_init 2 rfl) rfl rfl ?_
  refine sg_iconst (v := (4 : Int32)) 6 (sk_td o_X6_init 3 rfl) rfl (by decide) ?_
  refine sl_newa (kd := 0) (N := 4) (s := 24) (k := 0) 44 1 4 8 (sk_td o_X6_init 4 rfl) rfl kar_int rfl (by decide) (by decide) (by decide +kernel) rfl (by decide +kernel) (by decide) (by decide) (Nat.le_of_ble_eq_true rfl) rfl rfl rfl (Nat.le_of_ble_eq_true rfl) (Nat.le_of_ble_eq_true rfl) ?_
  refine sl_putF _ 11 rfl (sk_td o_X6_init 5 rfl) rfl kr_X6_9 rfl rfl rfl (by decide +kernel) ?_
  refine sg_aload_n 12 (sk_td o_X6_init 6 rfl) rfl rfl ?_
  refine sg_iconst (v := (4 : Int32)) 13 (sk_td o_X6_init 7 rfl) rfl (by decide) ?_
  refine sl_newa (kd := 0) (N := 4) (s := 25) (k := 0) 45 2 8 15 (sk_td o_X6_init 8 rfl) rfl kar_int rfl (by decide) (by decide) (by decide +kernel) rfl (by decide +kernel) (by decide) (by decide) (Nat.le_of_ble_eq_true rfl) rfl rfl rfl (Nat.le_of_ble_eq_true rfl) (Nat.le_of_ble_eq_true rfl) ?_
  refine sl_putF _ 18 rfl (sk_td o_X6_init 9 rfl) rfl kr_X6_15 rfl rfl rfl (by decide +kernel) ?_
  refine sg_aload_n 19 (sk_td o_X6_init 10 rfl) rfl rfl ?_
  refine sg_iconst (v := (4 : Int32)) 20 (sk_td o_X6_init 11 rfl) rfl (by decide) ?_
  refine sl_newa (kd := 0) (N := 4) (s := 26) (k := 0) 46 3 12 22 (sk_td o_X6_init 12 rfl) rfl kar_int rfl (by decide) (by decide) (by decide +kernel) rfl (by decide +kernel) (by decide) (by decide) (Nat.le_of_ble_eq_true rfl) rfl rfl rfl (Nat.le_of_ble_eq_true rfl) (Nat.le_of_ble_eq_true rfl) ?_
  refine sl_putF _ 25 rfl (sk_td o_X6_init 13 rfl) rfl kr_X6_18 rfl rfl rfl (by decide +kernel) ?_
  refine sg_aload_n 26 (sk_td o_X6_init 14 rfl) rfl rfl ?_
  refine sg_iconst (v := (4 : Int32)) 27 (sk_td o_X6_init 15 rfl) rfl (by decide) ?_
  refine sl_newa (kd := 0) (N := 4) (s := 27) (k := 0) 47 4 16 29 (sk_td o_X6_init 16 rfl) rfl kar_int rfl (by decide) (by decide) (by decide +kernel) rfl (by decide +kernel) (by decide) (by decide) (Nat.le_of_ble_eq_true rfl) rfl rfl rfl (Nat.le_of_ble_eq_true rfl) (Nat.le_of_ble_eq_true rfl) ?_
  refine sl_putF _ 32 rfl (sk_td o_X6_init 17 rfl) rfl kr_X6_21 rfl rfl rfl (by decide +kernel) ?_
  refine sg_aload_n 33 (sk_td o_X6_init 18 rfl) rfl rfl ?_
  refine sg_iconst (v := (3 : Int32)) 34 (sk_td o_X6_init 19 rfl) rfl (by decide) ?_
  refine sl_newa (kd := 0) (N := 3) (s := 28) (k := 0) 48 5 19 36 (sk_td o_X6_init 20 rfl) rfl kar_int rfl (by decide) (by decide) (by decide +kernel) rfl (by decide +kernel) (by decide) (by decide) (Nat.le_of_ble_eq_true rfl) rfl rfl rfl (Nat.le_of_ble_eq_true rfl) (Nat.le_of_ble_eq_true rfl) ?_
  refine sl_putF _ 39 rfl (sk_td o_X6_init 21 rfl) rfl kr_X6_24 rfl rfl rfl (by decide +kernel) ?_
  refine sg_aload_n 40 (sk_td o_X6_init 22 rfl) rfl rfl ?_
  refine sg_iconst (v := (3 : Int32)) 41 (sk_td o_X6_init 23 rfl) rfl (by decide) ?_
  refine sl_newa (kd := 0) (N := 3) (s := 29) (k := 0) 49 6 22 43 (sk_td o_X6_init 24 rfl) rfl kar_int rfl (by decide) (by decide) (by decide +kernel) rfl (by decide +kernel) (by decide) (by decide) (Nat.le_of_ble_eq_true rfl) rfl rfl rfl (Nat.le_of_ble_eq_true rfl) (Nat.le_of_ble_eq_true rfl) ?_
  refine sl_putF _ 46 rfl (sk_td o_X6_init 25 rfl) rfl kr_X6_27 rfl rfl rfl (by decide +kernel) ?_
  refine sg_aload_n 47 (sk_td o_X6_init 26 rfl) rfl rfl ?_
  refine sg_iconst (v := (4 : Int32)) 48 (sk_td o_X6_init 27 rfl) rfl (by decide) ?_
  refine sl_newa (kd := 0) (N := 4) (s := 30) (k := 0) 50 7 26 50 (sk_td o_X6_init 28 rfl) rfl kar_int rfl (by decide) (by decide) (by decide +kernel) rfl (by decide +kernel) (by decide) (by decide) (Nat.le_of_ble_eq_true rfl) rfl rfl rfl (Nat.le_of_ble_eq_true rfl) (Nat.le_of_ble_eq_true rfl) ?_
  refine sl_putF _ 53 rfl (sk_td o_X6_init 29 rfl) rfl kr_X6_30 rfl rfl rfl (by decide +kernel) ?_
  refine sg_aload_n 54 (sk_td o_X6_init 30 rfl) rfl rfl ?_
  refine sg_iconst (v := (4 : Int32)) 55 (sk_td o_X6_init 31 rfl) rfl (by decide) ?_
  refine sl_newa (kd := 0) (N := 4) (s := 31) (k := 0) 51 8 30 57 (sk_td o_X6_init 32 rfl) rfl kar_int rfl (by decide) (by decide) (by decide +kernel) rfl (by decide +kernel) (by decide) (by decide) (Nat.le_of_ble_eq_true rfl) rfl rfl rfl (Nat.le_of_ble_eq_true rfl) (Nat.le_of_ble_eq_true rfl) ?_
  refine sl_putF _ 60 rfl (sk_td o_X6_init 33 rfl) rfl kr_X6_33 rfl rfl rfl (by decide +kernel) ?_
  refine sg_aload_n 61 (sk_td o_X6_init 34 rfl) rfl rfl ?_
  refine sg_iconst (v := (3 : Int32)) 62 (sk_td o_X6_init 35 rfl) rfl (by decide) ?_
  refine sg_iconst (v := (4 : Int32)) 63 (sk_td o_X6_init 36 rfl) rfl (by decide) ?_
  refine sl_mna hmn (N := 3) (so := 32) (sr := 33) 55 12 45 67 (sk_td o_X6_init 37 rfl) rfl kcl_X6_36 kov_int kar_int rfl rfl rfl (Nat.le_of_ble_eq_true rfl) (by decide +kernel) (by decide +kernel) (by decide) rfl rfl (by decide +kernel) (by decide +kernel) (by decide) (by decide) (by decide) (Nat.le_of_ble_eq_true rfl) (Nat.le_of_ble_eq_true rfl) ?_
  refine sl_putF _ 70 rfl (sk_td o_X6_init 38 rfl) rfl kr_X6_38 rfl rfl rfl (by decide +kernel) ?_
  refine sg_aload_n 71 (sk_td o_X6_init 39 rfl) rfl rfl ?_
  refine sg_iconst (v := (3 : Int32)) 72 (sk_td o_X6_init 40 rfl) rfl (by decide) ?_
  refine sl_newa (kd := 0) (N := 3) (s := 34) (k := 0) 56 13 48 74 (sk_td o_X6_init 41 rfl) rfl kar_int rfl (by decide) (by decide) (by decide +kernel) rfl (by decide +kernel) (by decide) (by decide) (Nat.le_of_ble_eq_true rfl) rfl rfl rfl (Nat.le_of_ble_eq_true rfl) (Nat.le_of_ble_eq_true rfl) ?_
  refine sl_putF _ 77 rfl (sk_td o_X6_init 42 rfl) rfl kr_X6_41 rfl rfl rfl (by decide +kernel) ?_
  exact sg_vret (sk_td o_X6_init 43 rfl) rfl
def sc_A3 : List sc_T := (0, 0, 7, .inr (some (23, 0))) :: w_X6
def w_X5 : List sc_T := (35, 0, 11, .inl (0 : Int32)) :: (35, 0, 10, .inl (0 : Int32)) :: (35, 0, 9, .inl (0 : Int32)) :: (35, 0, 8, .inl (0 : Int32)) :: (35, 0, 7, .inl (0 : Int32)) :: (35, 0, 6, .inl (-9 : Int32)) :: (35, 0, 5, .inl (0 : Int32)) :: (35, 0, 4, .inl (0 : Int32)) :: (35, 0, 3, .inl (112 : Int32)) :: (35, 0, 2, .inl (0 : Int32)) :: (35, 0, 1, .inl (0 : Int32)) :: (35, 0, 0, .inr (some (36, 0))) :: sc_A3
set_option maxRecDepth 100000 in
set_option maxHeartbeats 4000000 in
theorem s_X5_init (hmn : sc_MN) {l : Launch} : sk_M l 1 m_X5_init [.inr (.inr (some (35, 0)))] (sk_mW 57 sc_A3) none (sk_mW 58 w_X5) := by
  refine sk_enter (by decide) (fun _ => Nat.le_of_ble_eq_true rfl) (Nat.le_of_ble_eq_true rfl) ?_
  show sk_G l (sk_rm 1 1 100) m_X5_init sk_Ex0 (sk_Zm m_X5_init none (sk_mW 58 w_X5)) 0 0 0 [some (.inr (.inr (some (35, 0))))] [] (sk_mW 57 sc_A3)
  refine sg_aload_n 1 (sk_td o_X5_init 0 rfl) rfl rfl ?_
  refine sg_objI 4 (sk_td o_X5_init 1 rfl) rfl kO_X5_3 (Nat.le_of_ble_eq_true rfl) (Nat.le_of_ble_eq_true rfl) (Nat.le_of_ble_eq_true rfl) ?_
  refine sg_aload_n 5 (sk_td o_X5_init 2 rfl) rfl rfl ?_
  refine sg_bipush (v := (100 : Int32)) 7 (sk_td o_X5_init 3 rfl) rfl (by decide) ?_
  refine sl_newa (kd := 3) (N := 100) (s := 36) (k := 0) 58 1 100 9 (sk_td o_X5_init 4 rfl) rfl kar_char rfl (by decide) (by decide) (by decide +kernel) rfl (by decide +kernel) (by decide) (by decide) (Nat.le_of_ble_eq_true rfl) rfl rfl rfl (Nat.le_of_ble_eq_true rfl) (Nat.le_of_ble_eq_true rfl) ?_
  refine sl_putF _ 12 rfl (sk_td o_X5_init 5 rfl) rfl kr_X5_9 rfl rfl rfl (by decide +kernel) ?_
  refine sg_aload_n 13 (sk_td o_X5_init 6 rfl) rfl rfl ?_
  refine sg_iconst (v := (0 : Int32)) 14 (sk_td o_X5_init 7 rfl) rfl (by decide) ?_
  refine sl_putI _ 17 rfl (sk_td o_X5_init 8 rfl) rfl kq_X5_15 rfl rfl (by decide +kernel) rfl rfl ?_
  refine sg_aload_n 18 (sk_td o_X5_init 9 rfl) rfl rfl ?_
  refine sg_iconst (v := (0 : Int32)) 19 (sk_td o_X5_init 10 rfl) rfl (by decide) ?_
  refine sl_putI _ 22 rfl (sk_td o_X5_init 11 rfl) rfl kq_X5_19 rfl rfl (by decide +kernel) rfl rfl ?_
  refine sg_aload_n 23 (sk_td o_X5_init 12 rfl) rfl rfl ?_
  refine sg_bipush (v := (112 : Int32)) 25 (sk_td o_X5_init 13 rfl) rfl (by decide) ?_
  refine sl_putI _ 28 rfl (sk_td o_X5_init 14 rfl) rfl kq_X5_22 rfl rfl (by decide +kernel) (by decide) (by decide) ?_
  refine sg_aload_n 29 (sk_td o_X5_init 15 rfl) rfl rfl ?_
  refine sg_iconst (v := (0 : Int32)) 30 (sk_td o_X5_init 16 rfl) rfl (by decide) ?_
  refine sl_putI _ 33 rfl (sk_td o_X5_init 17 rfl) rfl kq_X5_26 rfl rfl (by decide +kernel) rfl rfl ?_
  refine sg_aload_n 34 (sk_td o_X5_init 18 rfl) rfl rfl ?_
  refine sg_iconst (v := (0 : Int32)) 35 (sk_td o_X5_init 19 rfl) rfl (by decide) ?_
  refine sl_putI _ 38 rfl (sk_td o_X5_init 20 rfl) rfl kq_X5_29 rfl rfl (by decide +kernel) rfl rfl ?_
  refine sg_aload_n 39 (sk_td o_X5_init 21 rfl) rfl rfl ?_
  refine sg_bipush (v := (-9 : Int32)) 41 (sk_td o_X5_init 22 rfl) rfl (by decide) ?_
  refine sl_putI _ 44 rfl (sk_td o_X5_init 23 rfl) rfl kq_X5_32 rfl rfl (by decide +kernel) rfl rfl ?_
  refine sg_aload_n 45 (sk_td o_X5_init 24 rfl) rfl rfl ?_
  refine sg_iconst (v := (0 : Int32)) 46 (sk_td o_X5_init 25 rfl) rfl (by decide) ?_
  refine sl_putI _ 49 rfl (sk_td o_X5_init 26 rfl) rfl kq_X5_35 rfl rfl (by decide +kernel) rfl rfl ?_
  refine sg_aload_n 50 (sk_td o_X5_init 27 rfl) rfl rfl ?_
  refine sg_iconst (v := (0 : Int32)) 51 (sk_td o_X5_init 28 rfl) rfl (by decide) ?_
  refine sl_putI _ 54 rfl (sk_td o_X5_init 29 rfl) rfl kq_X5_38 rfl rfl (by decide +kernel) rfl rfl ?_
  refine sg_aload_n 55 (sk_td o_X5_init 30 rfl) rfl rfl ?_
  refine sg_iconst (v := (0 : Int32)) 56 (sk_td o_X5_init 31 rfl) rfl (by decide) ?_
  refine sl_putI _ 59 rfl (sk_td o_X5_init 32 rfl) rfl kq_X5_41 rfl rfl (by decide +kernel) rfl rfl ?_
  refine sg_aload_n 60 (sk_td o_X5_init 33 rfl) rfl rfl ?_
  refine sg_iconst (v := (0 : Int32)) 61 (sk_td o_X5_init 34 rfl) rfl (by decide) ?_
  refine sl_putI _ 64 rfl (sk_td o_X5_init 35 rfl) rfl kq_X5_44 rfl rfl (by decide +kernel) rfl rfl ?_
  refine sg_aload_n 65 (sk_td o_X5_init 36 rfl) rfl rfl ?_
  refine sg_iconst (v := (0 : Int32)) 66 (sk_td o_X5_init 37 rfl) rfl (by decide) ?_
  refine sl_putI _ 69 rfl (sk_td o_X5_init 38 rfl) rfl kq_X5_47 rfl rfl (by decide +kernel) rfl rfl ?_
  exact sg_vret (sk_td o_X5_init 39 rfl) rfl
def sc_A4 : List sc_T := (0, 0, 12, .inl (8 : Int32)) :: (0, 0, 11, .inl (4 : Int32)) :: (0, 0, 10, .inl (24 : Int32)) :: (0, 0, 9, .inl (0 : Int32)) :: (0, 0, 8, .inr (some (35, 0))) :: w_X5
def sc_P0 : List sc_T := (0, 0, 13, .inl (0 : Int32)) :: sc_A4
def sc_P1 : List sc_T := (1, 0, 0, .inr (some (37, 0))) :: w_X4 0 sc_P0
def sc_P2 : List sc_T := (1, 0, 1, .inr (some (37, 1))) :: w_X4 1 sc_P1
def sc_P3 : List sc_T := (1, 0, 2, .inr (some (37, 2))) :: w_X4 2 sc_P2
def sc_P4 : List sc_T := (1, 0, 3, .inr (some (37, 3))) :: w_X4 3 sc_P3
def sc_P5 : List sc_T := (1, 0, 4, .inr (some (37, 4))) :: w_X4 4 sc_P4
def sc_P6 : List sc_T := (1, 0, 5, .inr (some (37, 5))) :: w_X4 5 sc_P5
def sc_P7 : List sc_T := (1, 0, 6, .inr (some (37, 6))) :: w_X4 6 sc_P6
def sc_P8 : List sc_T := (1, 0, 7, .inr (some (37, 7))) :: w_X4 7 sc_P7
def sc_P9 : List sc_T := (1, 0, 8, .inr (some (37, 8))) :: w_X4 8 sc_P8
def sc_P10 : List sc_T := (1, 0, 9, .inr (some (37, 9))) :: w_X4 9 sc_P9
def sc_P11 : List sc_T := (1, 0, 10, .inr (some (37, 10))) :: w_X4 10 sc_P10
def sc_P12 : List sc_T := (1, 0, 11, .inr (some (37, 11))) :: w_X4 11 sc_P11
def sc_P13 : List sc_T := (1, 0, 12, .inr (some (37, 12))) :: w_X4 12 sc_P12
def sc_P14 : List sc_T := (1, 0, 13, .inr (some (37, 13))) :: w_X4 13 sc_P13
def sc_P15 : List sc_T := (1, 0, 14, .inr (some (37, 14))) :: w_X4 14 sc_P14
def sc_P16 : List sc_T := (1, 0, 15, .inr (some (37, 15))) :: w_X4 15 sc_P15
def sc_P17 : List sc_T := (1, 0, 16, .inr (some (37, 16))) :: w_X4 16 sc_P16
def sc_P18 : List sc_T := (1, 0, 17, .inr (some (37, 17))) :: w_X4 17 sc_P17
def sc_P19 : List sc_T := (1, 0, 18, .inr (some (37, 18))) :: w_X4 18 sc_P18
def sc_P20 : List sc_T := (1, 0, 19, .inr (some (37, 19))) :: w_X4 19 sc_P19
def sc_G1 : List sc_T := (2, 0, 0, .inr (some (39, 0))) :: w_X0 0 sc_P20
def sc_G2 : List sc_T := (2, 0, 1, .inr (some (39, 1))) :: w_X0 1 sc_G1
def sc_G3 : List sc_T := (2, 0, 2, .inr (some (39, 2))) :: w_X0 2 sc_G2
def sc_G4 : List sc_T := (2, 0, 3, .inr (some (39, 3))) :: w_X0 3 sc_G3
def sc_I1 : List sc_T := (3, 0, 0, .inr (some (42, 0))) :: w_X1 0 sc_G4
def sc_I2 : List sc_T := (3, 0, 1, .inr (some (42, 1))) :: w_X1 1 sc_I1
def sc_I3 : List sc_T := (3, 0, 2, .inr (some (42, 2))) :: w_X1 2 sc_I2
def sc_I4 : List sc_T := (3, 0, 3, .inr (some (42, 3))) :: w_X1 3 sc_I3
def sc_I5 : List sc_T := (3, 0, 4, .inr (some (42, 4))) :: w_X1 4 sc_I4
def sc_I6 : List sc_T := (3, 0, 5, .inr (some (42, 5))) :: w_X1 5 sc_I5
def sc_I7 : List sc_T := (3, 0, 6, .inr (some (42, 6))) :: w_X1 6 sc_I6
def sc_I8 : List sc_T := (3, 0, 7, .inr (some (42, 7))) :: w_X1 7 sc_I7
def sc_L1 : List sc_T := (4, 0, 0, .inr (some (43, 0))) :: w_X2 0 sc_I8
def sc_L2 : List sc_T := (4, 0, 1, .inr (some (43, 1))) :: w_X2 1 sc_L1
def sc_Q : List sc_T := (4, 0, 2, .inr (some (43, 2))) :: w_X2 2 sc_L2
set_option maxRecDepth 100000 in
set_option maxHeartbeats 4000000 in
theorem x8_P0 {l : Launch} (kk : sk_G l (sk_rm 2 120 5587) m_X8_init sk_Ex0 (sk_Zm m_X8_init none (sk_mW 121 sc_Q)) 59 5239 119 [some (.inr (.inr (some (0, 0)))), some (.inl (1 : Int32))] [] (sk_mW 60 sc_P1)) : sk_G l (sk_rm 2 120 5587) m_X8_init sk_Ex0 (sk_Zm m_X8_init none (sk_mW 121 sc_Q)) 57 5228 119 [some (.inr (.inr (some (0, 0)))), some (.inl (0 : Int32))] [] (sk_mW 58 sc_P0) := by
  refine sg_iload_n 120 (sk_td o_X8_init 59 rfl) rfl rfl ?_
  refine sg_bipush (v := (20 : Int32)) 122 (sk_td o_X8_init 60 rfl) rfl (by decide) ?_
  refine sg_ic_ge 144 125 (sk_td o_X8_init 61 rfl) (by decide) rfl (fun hc => absurd hc (by decide)) (fun _ => ?_)
  refine sg_aload_n 126 (sk_td o_X8_init 62 rfl) rfl rfl ?_
  refine sl_getR (a := (1, 0)) 129 (sk_td o_X8_init 63 rfl) rfl kf_X8_11 rfl rfl (by decide +kernel) (by decide +kernel) ?_
  refine sg_iload_n 130 (sk_td o_X8_init 64 rfl) rfl rfl ?_
  refine sl_new (ci := 4) (s := 37) (k := 0) 59 58 5235 133 (sk_td o_X8_init 65 rfl) rfl kn_X8_9 (by decide) (by decide +kernel) rfl (by decide +kernel) rfl rfl rfl (Nat.le_of_ble_eq_true rfl) (Nat.le_of_ble_eq_true rfl) ?_
  refine sg_dupR 134 (sk_td o_X8_init 66 rfl) rfl ?_
  refine sl_callIN 59 5239 137 (s_X4_init (k := 0) (by decide) (by decide +kernel) (by decide +kernel) (by decide +kernel)) (sk_td o_X8_init 67 rfl) rfl ki_X8_81 ⟨Nat.le_of_ble_eq_true rfl, Nat.le_of_ble_eq_true rfl, Nat.le_of_ble_eq_true rfl, Nat.le_of_ble_eq_true rfl⟩ (Nat.le_of_ble_eq_true rfl) rfl rfl ?_
  refine sl_aast (ci := 4) sc_P1 0 138 rfl (by decide) (sk_td o_X8_init 68 rfl) rfl rfl rfl rfl (by decide) (by decide +kernel) rfl (by decide +kernel) (by decide) ?_
  refine sg_iinc (1 : Int32) 141 [some (.inr (.inr (some (0, 0)))), some (.inl (1 : Int32))] (sk_td o_X8_init 69 rfl) rfl rfl (by decide) rfl (Nat.le_of_ble_eq_true rfl) rfl ?_
  refine sg_goto 119 (sk_td o_X8_init 70 rfl) (by decide) ?_
  exact kk
set_option maxRecDepth 100000 in
set_option maxHeartbeats 4000000 in
theorem x8_P1 {l : Launch} (kk : sk_G l (sk_rm 2 120 5587) m_X8_init sk_Ex0 (sk_Zm m_X8_init none (sk_mW 121 sc_Q)) 61 5250 119 [some (.inr (.inr (some (0, 0)))), some (.inl (2 : Int32))] [] (sk_mW 62 sc_P2)) : sk_G l (sk_rm 2 120 5587) m_X8_init sk_Ex0 (sk_Zm m_X8_init none (sk_mW 121 sc_Q)) 59 5239 119 [some (.inr (.inr (some (0, 0)))), some (.inl (1 : Int32))] [] (sk_mW 60 sc_P1) := by
  refine sg_iload_n 120 (sk_td o_X8_init 59 rfl) rfl rfl ?_
  refine sg_bipush (v := (20 : Int32)) 122 (sk_td o_X8_init 60 rfl) rfl (by decide) ?_
  refine sg_ic_ge 144 125 (sk_td o_X8_init 61 rfl) (by decide) rfl (fun hc => absurd hc (by decide)) (fun _ => ?_)
  refine sg_aload_n 126 (sk_td o_X8_init 62 rfl) rfl rfl ?_
  refine sl_getR (a := (1, 0)) 129 (sk_td o_X8_init 63 rfl) rfl kf_X8_11 rfl rfl (by decide +kernel) (by decide +kernel) ?_
  refine sg_iload_n 130 (sk_td o_X8_init 64 rfl) rfl rfl ?_
  refine sl_new (ci := 4) (s := 37) (k := 1) 61 60 5246 133 (sk_td o_X8_init 65 rfl) rfl kn_X8_9 (by decide) (by decide +kernel) rfl (by decide +kernel) rfl rfl rfl (Nat.le_of_ble_eq_true rfl) (Nat.le_of_ble_eq_true rfl) ?_
  refine sg_dupR 134 (sk_td o_X8_init 66 rfl) rfl ?_
  refine sl_callIN 61 5250 137 (s_X4_init (k := 1) (by decide) (by decide +kernel) (by decide +kernel) (by decide +kernel)) (sk_td o_X8_init 67 rfl) rfl ki_X8_81 ⟨Nat.le_of_ble_eq_true rfl, Nat.le_of_ble_eq_true rfl, Nat.le_of_ble_eq_true rfl, Nat.le_of_ble_eq_true rfl⟩ (Nat.le_of_ble_eq_true rfl) rfl rfl ?_
  refine sl_aast (ci := 4) sc_P2 1 138 rfl (by decide) (sk_td o_X8_init 68 rfl) rfl rfl rfl rfl (by decide) (by decide +kernel) rfl (by decide +kernel) (by decide) ?_
  refine sg_iinc (2 : Int32) 141 [some (.inr (.inr (some (0, 0)))), some (.inl (2 : Int32))] (sk_td o_X8_init 69 rfl) rfl rfl (by decide) rfl (Nat.le_of_ble_eq_true rfl) rfl ?_
  refine sg_goto 119 (sk_td o_X8_init 70 rfl) (by decide) ?_
  exact kk
set_option maxRecDepth 100000 in
set_option maxHeartbeats 4000000 in
theorem x8_P2 {l : Launch} (kk : sk_G l (sk_rm 2 120 5587) m_X8_init sk_Ex0 (sk_Zm m_X8_init none (sk_mW 121 sc_Q)) 63 5261 119 [some (.inr (.inr (some (0, 0)))), some (.inl (3 : Int32))] [] (sk_mW 64 sc_P3)) : sk_G l (sk_rm 2 120 5587) m_X8_init sk_Ex0 (sk_Zm m_X8_init none (sk_mW 121 sc_Q)) 61 5250 119 [some (.inr (.inr (some (0, 0)))), some (.inl (2 : Int32))] [] (sk_mW 62 sc_P2) := by
  refine sg_iload_n 120 (sk_td o_X8_init 59 rfl) rfl rfl ?_
  refine sg_bipush (v := (20 : Int32)) 122 (sk_td o_X8_init 60 rfl) rfl (by decide) ?_
  refine sg_ic_ge 144 125 (sk_td o_X8_init 61 rfl) (by decide) rfl (fun hc => absurd hc (by decide)) (fun _ => ?_)
  refine sg_aload_n 126 (sk_td o_X8_init 62 rfl) rfl rfl ?_
  refine sl_getR (a := (1, 0)) 129 (sk_td o_X8_init 63 rfl) rfl kf_X8_11 rfl rfl (by decide +kernel) (by decide +kernel) ?_
  refine sg_iload_n 130 (sk_td o_X8_init 64 rfl) rfl rfl ?_
  refine sl_new (ci := 4) (s := 37) (k := 2) 63 62 5257 133 (sk_td o_X8_init 65 rfl) rfl kn_X8_9 (by decide) (by decide +kernel) rfl (by decide +kernel) rfl rfl rfl (Nat.le_of_ble_eq_true rfl) (Nat.le_of_ble_eq_true rfl) ?_
  refine sg_dupR 134 (sk_td o_X8_init 66 rfl) rfl ?_
  refine sl_callIN 63 5261 137 (s_X4_init (k := 2) (by decide) (by decide +kernel) (by decide +kernel) (by decide +kernel)) (sk_td o_X8_init 67 rfl) rfl ki_X8_81 ⟨Nat.le_of_ble_eq_true rfl, Nat.le_of_ble_eq_true rfl, Nat.le_of_ble_eq_true rfl, Nat.le_of_ble_eq_true rfl⟩ (Nat.le_of_ble_eq_true rfl) rfl rfl ?_
  refine sl_aast (ci := 4) sc_P3 2 138 rfl (by decide) (sk_td o_X8_init 68 rfl) rfl rfl rfl rfl (by decide) (by decide +kernel) rfl (by decide +kernel) (by decide) ?_
  refine sg_iinc (3 : Int32) 141 [some (.inr (.inr (some (0, 0)))), some (.inl (3 : Int32))] (sk_td o_X8_init 69 rfl) rfl rfl (by decide) rfl (Nat.le_of_ble_eq_true rfl) rfl ?_
  refine sg_goto 119 (sk_td o_X8_init 70 rfl) (by decide) ?_
  exact kk
set_option maxRecDepth 100000 in
set_option maxHeartbeats 4000000 in
theorem x8_P3 {l : Launch} (kk : sk_G l (sk_rm 2 120 5587) m_X8_init sk_Ex0 (sk_Zm m_X8_init none (sk_mW 121 sc_Q)) 65 5272 119 [some (.inr (.inr (some (0, 0)))), some (.inl (4 : Int32))] [] (sk_mW 66 sc_P4)) : sk_G l (sk_rm 2 120 5587) m_X8_init sk_Ex0 (sk_Zm m_X8_init none (sk_mW 121 sc_Q)) 63 5261 119 [some (.inr (.inr (some (0, 0)))), some (.inl (3 : Int32))] [] (sk_mW 64 sc_P3) := by
  refine sg_iload_n 120 (sk_td o_X8_init 59 rfl) rfl rfl ?_
  refine sg_bipush (v := (20 : Int32)) 122 (sk_td o_X8_init 60 rfl) rfl (by decide) ?_
  refine sg_ic_ge 144 125 (sk_td o_X8_init 61 rfl) (by decide) rfl (fun hc => absurd hc (by decide)) (fun _ => ?_)
  refine sg_aload_n 126 (sk_td o_X8_init 62 rfl) rfl rfl ?_
  refine sl_getR (a := (1, 0)) 129 (sk_td o_X8_init 63 rfl) rfl kf_X8_11 rfl rfl (by decide +kernel) (by decide +kernel) ?_
  refine sg_iload_n 130 (sk_td o_X8_init 64 rfl) rfl rfl ?_
  refine sl_new (ci := 4) (s := 37) (k := 3) 65 64 5268 133 (sk_td o_X8_init 65 rfl) rfl kn_X8_9 (by decide) (by decide +kernel) rfl (by decide +kernel) rfl rfl rfl (Nat.le_of_ble_eq_true rfl) (Nat.le_of_ble_eq_true rfl) ?_
  refine sg_dupR 134 (sk_td o_X8_init 66 rfl) rfl ?_
  refine sl_callIN 65 5272 137 (s_X4_init (k := 3) (by decide) (by decide +kernel) (by decide +kernel) (by decide +kernel)) (sk_td o_X8_init 67 rfl) rfl ki_X8_81 ⟨Nat.le_of_ble_eq_true rfl, Nat.le_of_ble_eq_true rfl, Nat.le_of_ble_eq_true rfl, Nat.le_of_ble_eq_true rfl⟩ (Nat.le_of_ble_eq_true rfl) rfl rfl ?_
  refine sl_aast (ci := 4) sc_P4 3 138 rfl (by decide) (sk_td o_X8_init 68 rfl) rfl rfl rfl rfl (by decide) (by decide +kernel) rfl (by decide +kernel) (by decide) ?_
  refine sg_iinc (4 : Int32) 141 [some (.inr (.inr (some (0, 0)))), some (.inl (4 : Int32))] (sk_td o_X8_init 69 rfl) rfl rfl (by decide) rfl (Nat.le_of_ble_eq_true rfl) rfl ?_
  refine sg_goto 119 (sk_td o_X8_init 70 rfl) (by decide) ?_
  exact kk
set_option maxRecDepth 100000 in
set_option maxHeartbeats 4000000 in
theorem x8_P4 {l : Launch} (kk : sk_G l (sk_rm 2 120 5587) m_X8_init sk_Ex0 (sk_Zm m_X8_init none (sk_mW 121 sc_Q)) 67 5283 119 [some (.inr (.inr (some (0, 0)))), some (.inl (5 : Int32))] [] (sk_mW 68 sc_P5)) : sk_G l (sk_rm 2 120 5587) m_X8_init sk_Ex0 (sk_Zm m_X8_init none (sk_mW 121 sc_Q)) 65 5272 119 [some (.inr (.inr (some (0, 0)))), some (.inl (4 : Int32))] [] (sk_mW 66 sc_P4) := by
  refine sg_iload_n 120 (sk_td o_X8_init 59 rfl) rfl rfl ?_
  refine sg_bipush (v := (20 : Int32)) 122 (sk_td o_X8_init 60 rfl) rfl (by decide) ?_
  refine sg_ic_ge 144 125 (sk_td o_X8_init 61 rfl) (by decide) rfl (fun hc => absurd hc (by decide)) (fun _ => ?_)
  refine sg_aload_n 126 (sk_td o_X8_init 62 rfl) rfl rfl ?_
  refine sl_getR (a := (1, 0)) 129 (sk_td o_X8_init 63 rfl) rfl kf_X8_11 rfl rfl (by decide +kernel) (by decide +kernel) ?_
  refine sg_iload_n 130 (sk_td o_X8_init 64 rfl) rfl rfl ?_
  refine sl_new (ci := 4) (s := 37) (k := 4) 67 66 5279 133 (sk_td o_X8_init 65 rfl) rfl kn_X8_9 (by decide) (by decide +kernel) rfl (by decide +kernel) rfl rfl rfl (Nat.le_of_ble_eq_true rfl) (Nat.le_of_ble_eq_true rfl) ?_
  refine sg_dupR 134 (sk_td o_X8_init 66 rfl) rfl ?_
  refine sl_callIN 67 5283 137 (s_X4_init (k := 4) (by decide) (by decide +kernel) (by decide +kernel) (by decide +kernel)) (sk_td o_X8_init 67 rfl) rfl ki_X8_81 ⟨Nat.le_of_ble_eq_true rfl, Nat.le_of_ble_eq_true rfl, Nat.le_of_ble_eq_true rfl, Nat.le_of_ble_eq_true rfl⟩ (Nat.le_of_ble_eq_true rfl) rfl rfl ?_
  refine sl_aast (ci := 4) sc_P5 4 138 rfl (by decide) (sk_td o_X8_init 68 rfl) rfl rfl rfl rfl (by decide) (by decide +kernel) rfl (by decide +kernel) (by decide) ?_
  refine sg_iinc (5 : Int32) 141 [some (.inr (.inr (some (0, 0)))), some (.inl (5 : Int32))] (sk_td o_X8_init 69 rfl) rfl rfl (by decide) rfl (Nat.le_of_ble_eq_true rfl) rfl ?_
  refine sg_goto 119 (sk_td o_X8_init 70 rfl) (by decide) ?_
  exact kk
set_option maxRecDepth 100000 in
set_option maxHeartbeats 4000000 in
theorem x8_P5 {l : Launch} (kk : sk_G l (sk_rm 2 120 5587) m_X8_init sk_Ex0 (sk_Zm m_X8_init none (sk_mW 121 sc_Q)) 69 5294 119 [some (.inr (.inr (some (0, 0)))), some (.inl (6 : Int32))] [] (sk_mW 70 sc_P6)) : sk_G l (sk_rm 2 120 5587) m_X8_init sk_Ex0 (sk_Zm m_X8_init none (sk_mW 121 sc_Q)) 67 5283 119 [some (.inr (.inr (some (0, 0)))), some (.inl (5 : Int32))] [] (sk_mW 68 sc_P5) := by
  refine sg_iload_n 120 (sk_td o_X8_init 59 rfl) rfl rfl ?_
  refine sg_bipush (v := (20 : Int32)) 122 (sk_td o_X8_init 60 rfl) rfl (by decide) ?_
  refine sg_ic_ge 144 125 (sk_td o_X8_init 61 rfl) (by decide) rfl (fun hc => absurd hc (by decide)) (fun _ => ?_)
  refine sg_aload_n 126 (sk_td o_X8_init 62 rfl) rfl rfl ?_
  refine sl_getR (a := (1, 0)) 129 (sk_td o_X8_init 63 rfl) rfl kf_X8_11 rfl rfl (by decide +kernel) (by decide +kernel) ?_
  refine sg_iload_n 130 (sk_td o_X8_init 64 rfl) rfl rfl ?_
  refine sl_new (ci := 4) (s := 37) (k := 5) 69 68 5290 133 (sk_td o_X8_init 65 rfl) rfl kn_X8_9 (by decide) (by decide +kernel) rfl (by decide +kernel) rfl rfl rfl (Nat.le_of_ble_eq_true rfl) (Nat.le_of_ble_eq_true rfl) ?_
  refine sg_dupR 134 (sk_td o_X8_init 66 rfl) rfl ?_
  refine sl_callIN 69 5294 137 (s_X4_init (k := 5) (by decide) (by decide +kernel) (by decide +kernel) (by decide +kernel)) (sk_td o_X8_init 67 rfl) rfl ki_X8_81 ⟨Nat.le_of_ble_eq_true rfl, Nat.le_of_ble_eq_true rfl, Nat.le_of_ble_eq_true rfl, Nat.le_of_ble_eq_true rfl⟩ (Nat.le_of_ble_eq_true rfl) rfl rfl ?_
  refine sl_aast (ci := 4) sc_P6 5 138 rfl (by decide) (sk_td o_X8_init 68 rfl) rfl rfl rfl rfl (by decide) (by decide +kernel) rfl (by decide +kernel) (by decide) ?_
  refine sg_iinc (6 : Int32) 141 [some (.inr (.inr (some (0, 0)))), some (.inl (6 : Int32))] (sk_td o_X8_init 69 rfl) rfl rfl (by decide) rfl (Nat.le_of_ble_eq_true rfl) rfl ?_
  refine sg_goto 119 (sk_td o_X8_init 70 rfl) (by decide) ?_
  exact kk
set_option maxRecDepth 100000 in
set_option maxHeartbeats 4000000 in
theorem x8_P6 {l : Launch} (kk : sk_G l (sk_rm 2 120 5587) m_X8_init sk_Ex0 (sk_Zm m_X8_init none (sk_mW 121 sc_Q)) 71 5305 119 [some (.inr (.inr (some (0, 0)))), some (.inl (7 : Int32))] [] (sk_mW 72 sc_P7)) : sk_G l (sk_rm 2 120 5587) m_X8_init sk_Ex0 (sk_Zm m_X8_init none (sk_mW 121 sc_Q)) 69 5294 119 [some (.inr (.inr (some (0, 0)))), some (.inl (6 : Int32))] [] (sk_mW 70 sc_P6) := by
  refine sg_iload_n 120 (sk_td o_X8_init 59 rfl) rfl rfl ?_
  refine sg_bipush (v := (20 : Int32)) 122 (sk_td o_X8_init 60 rfl) rfl (by decide) ?_
  refine sg_ic_ge 144 125 (sk_td o_X8_init 61 rfl) (by decide) rfl (fun hc => absurd hc (by decide)) (fun _ => ?_)
  refine sg_aload_n 126 (sk_td o_X8_init 62 rfl) rfl rfl ?_
  refine sl_getR (a := (1, 0)) 129 (sk_td o_X8_init 63 rfl) rfl kf_X8_11 rfl rfl (by decide +kernel) (by decide +kernel) ?_
  refine sg_iload_n 130 (sk_td o_X8_init 64 rfl) rfl rfl ?_
  refine sl_new (ci := 4) (s := 37) (k := 6) 71 70 5301 133 (sk_td o_X8_init 65 rfl) rfl kn_X8_9 (by decide) (by decide +kernel) rfl (by decide +kernel) rfl rfl rfl (Nat.le_of_ble_eq_true rfl) (Nat.le_of_ble_eq_true rfl) ?_
  refine sg_dupR 134 (sk_td o_X8_init 66 rfl) rfl ?_
  refine sl_callIN 71 5305 137 (s_X4_init (k := 6) (by decide) (by decide +kernel) (by decide +kernel) (by decide +kernel)) (sk_td o_X8_init 67 rfl) rfl ki_X8_81 ⟨Nat.le_of_ble_eq_true rfl, Nat.le_of_ble_eq_true rfl, Nat.le_of_ble_eq_true rfl, Nat.le_of_ble_eq_true rfl⟩ (Nat.le_of_ble_eq_true rfl) rfl rfl ?_
  refine sl_aast (ci := 4) sc_P7 6 138 rfl (by decide) (sk_td o_X8_init 68 rfl) rfl rfl rfl rfl (by decide) (by decide +kernel) rfl (by decide +kernel) (by decide) ?_
  refine sg_iinc (7 : Int32) 141 [some (.inr (.inr (some (0, 0)))), some (.inl (7 : Int32))] (sk_td o_X8_init 69 rfl) rfl rfl (by decide) rfl (Nat.le_of_ble_eq_true rfl) rfl ?_
  refine sg_goto 119 (sk_td o_X8_init 70 rfl) (by decide) ?_
  exact kk
set_option maxRecDepth 100000 in
set_option maxHeartbeats 4000000 in
theorem x8_P7 {l : Launch} (kk : sk_G l (sk_rm 2 120 5587) m_X8_init sk_Ex0 (sk_Zm m_X8_init none (sk_mW 121 sc_Q)) 73 5316 119 [some (.inr (.inr (some (0, 0)))), some (.inl (8 : Int32))] [] (sk_mW 74 sc_P8)) : sk_G l (sk_rm 2 120 5587) m_X8_init sk_Ex0 (sk_Zm m_X8_init none (sk_mW 121 sc_Q)) 71 5305 119 [some (.inr (.inr (some (0, 0)))), some (.inl (7 : Int32))] [] (sk_mW 72 sc_P7) := by
  refine sg_iload_n 120 (sk_td o_X8_init 59 rfl) rfl rfl ?_
  refine sg_bipush (v := (20 : Int32)) 122 (sk_td o_X8_init 60 rfl) rfl (by decide) ?_
  refine sg_ic_ge 144 125 (sk_td o_X8_init 61 rfl) (by decide) rfl (fun hc => absurd hc (by decide)) (fun _ => ?_)
  refine sg_aload_n 126 (sk_td o_X8_init 62 rfl) rfl rfl ?_
  refine sl_getR (a := (1, 0)) 129 (sk_td o_X8_init 63 rfl) rfl kf_X8_11 rfl rfl (by decide +kernel) (by decide +kernel) ?_
  refine sg_iload_n 130 (sk_td o_X8_init 64 rfl) rfl rfl ?_
  refine sl_new (ci := 4) (s := 37) (k := 7) 73 72 5312 133 (sk_td o_X8_init 65 rfl) rfl kn_X8_9 (by decide) (by decide +kernel) rfl (by decide +kernel) rfl rfl rfl (Nat.le_of_ble_eq_true rfl) (Nat.le_of_ble_eq_true rfl) ?_
  refine sg_dupR 134 (sk_td o_X8_init 66 rfl) rfl ?_
  refine sl_callIN 73 5316 137 (s_X4_init (k := 7) (by decide) (by decide +kernel) (by decide +kernel) (by decide +kernel)) (sk_td o_X8_init 67 rfl) rfl ki_X8_81 ⟨Nat.le_of_ble_eq_true rfl, Nat.le_of_ble_eq_true rfl, Nat.le_of_ble_eq_true rfl, Nat.le_of_ble_eq_true rfl⟩ (Nat.le_of_ble_eq_true rfl) rfl rfl ?_
  refine sl_aast (ci := 4) sc_P8 7 138 rfl (by decide) (sk_td o_X8_init 68 rfl) rfl rfl rfl rfl (by decide) (by decide +kernel) rfl (by decide +kernel) (by decide) ?_
  refine sg_iinc (8 : Int32) 141 [some (.inr (.inr (some (0, 0)))), some (.inl (8 : Int32))] (sk_td o_X8_init 69 rfl) rfl rfl (by decide) rfl (Nat.le_of_ble_eq_true rfl) rfl ?_
  refine sg_goto 119 (sk_td o_X8_init 70 rfl) (by decide) ?_
  exact kk
set_option maxRecDepth 100000 in
set_option maxHeartbeats 4000000 in
theorem x8_P8 {l : Launch} (kk : sk_G l (sk_rm 2 120 5587) m_X8_init sk_Ex0 (sk_Zm m_X8_init none (sk_mW 121 sc_Q)) 75 5327 119 [some (.inr (.inr (some (0, 0)))), some (.inl (9 : Int32))] [] (sk_mW 76 sc_P9)) : sk_G l (sk_rm 2 120 5587) m_X8_init sk_Ex0 (sk_Zm m_X8_init none (sk_mW 121 sc_Q)) 73 5316 119 [some (.inr (.inr (some (0, 0)))), some (.inl (8 : Int32))] [] (sk_mW 74 sc_P8) := by
  refine sg_iload_n 120 (sk_td o_X8_init 59 rfl) rfl rfl ?_
  refine sg_bipush (v := (20 : Int32)) 122 (sk_td o_X8_init 60 rfl) rfl (by decide) ?_
  refine sg_ic_ge 144 125 (sk_td o_X8_init 61 rfl) (by decide) rfl (fun hc => absurd hc (by decide)) (fun _ => ?_)
  refine sg_aload_n 126 (sk_td o_X8_init 62 rfl) rfl rfl ?_
  refine sl_getR (a := (1, 0)) 129 (sk_td o_X8_init 63 rfl) rfl kf_X8_11 rfl rfl (by decide +kernel) (by decide +kernel) ?_
  refine sg_iload_n 130 (sk_td o_X8_init 64 rfl) rfl rfl ?_
  refine sl_new (ci := 4) (s := 37) (k := 8) 75 74 5323 133 (sk_td o_X8_init 65 rfl) rfl kn_X8_9 (by decide) (by decide +kernel) rfl (by decide +kernel) rfl rfl rfl (Nat.le_of_ble_eq_true rfl) (Nat.le_of_ble_eq_true rfl) ?_
  refine sg_dupR 134 (sk_td o_X8_init 66 rfl) rfl ?_
  refine sl_callIN 75 5327 137 (s_X4_init (k := 8) (by decide) (by decide +kernel) (by decide +kernel) (by decide +kernel)) (sk_td o_X8_init 67 rfl) rfl ki_X8_81 ⟨Nat.le_of_ble_eq_true rfl, Nat.le_of_ble_eq_true rfl, Nat.le_of_ble_eq_true rfl, Nat.le_of_ble_eq_true rfl⟩ (Nat.le_of_ble_eq_true rfl) rfl rfl ?_
  refine sl_aast (ci := 4) sc_P9 8 138 rfl (by decide) (sk_td o_X8_init 68 rfl) rfl rfl rfl rfl (by decide) (by decide +kernel) rfl (by decide +kernel) (by decide) ?_
  refine sg_iinc (9 : Int32) 141 [some (.inr (.inr (some (0, 0)))), some (.inl (9 : Int32))] (sk_td o_X8_init 69 rfl) rfl rfl (by decide) rfl (Nat.le_of_ble_eq_true rfl) rfl ?_
  refine sg_goto 119 (sk_td o_X8_init 70 rfl) (by decide) ?_
  exact kk
set_option maxRecDepth 100000 in
set_option maxHeartbeats 4000000 in
theorem x8_P9 {l : Launch} (kk : sk_G l (sk_rm 2 120 5587) m_X8_init sk_Ex0 (sk_Zm m_X8_init none (sk_mW 121 sc_Q)) 77 5338 119 [some (.inr (.inr (some (0, 0)))), some (.inl (10 : Int32))] [] (sk_mW 78 sc_P10)) : sk_G l (sk_rm 2 120 5587) m_X8_init sk_Ex0 (sk_Zm m_X8_init none (sk_mW 121 sc_Q)) 75 5327 119 [some (.inr (.inr (some (0, 0)))), some (.inl (9 : Int32))] [] (sk_mW 76 sc_P9) := by
  refine sg_iload_n 120 (sk_td o_X8_init 59 rfl) rfl rfl ?_
  refine sg_bipush (v := (20 : Int32)) 122 (sk_td o_X8_init 60 rfl) rfl (by decide) ?_
  refine sg_ic_ge 144 125 (sk_td o_X8_init 61 rfl) (by decide) rfl (fun hc => absurd hc (by decide)) (fun _ => ?_)
  refine sg_aload_n 126 (sk_td o_X8_init 62 rfl) rfl rfl ?_
  refine sl_getR (a := (1, 0)) 129 (sk_td o_X8_init 63 rfl) rfl kf_X8_11 rfl rfl (by decide +kernel) (by decide +kernel) ?_
  refine sg_iload_n 130 (sk_td o_X8_init 64 rfl) rfl rfl ?_
  refine sl_new (ci := 4) (s := 37) (k := 9) 77 76 5334 133 (sk_td o_X8_init 65 rfl) rfl kn_X8_9 (by decide) (by decide +kernel) rfl (by decide +kernel) rfl rfl rfl (Nat.le_of_ble_eq_true rfl) (Nat.le_of_ble_eq_true rfl) ?_
  refine sg_dupR 134 (sk_td o_X8_init 66 rfl) rfl ?_
  refine sl_callIN 77 5338 137 (s_X4_init (k := 9) (by decide) (by decide +kernel) (by decide +kernel) (by decide +kernel)) (sk_td o_X8_init 67 rfl) rfl ki_X8_81 ⟨Nat.le_of_ble_eq_true rfl, Nat.le_of_ble_eq_true rfl, Nat.le_of_ble_eq_true rfl, Nat.le_of_ble_eq_true rfl⟩ (Nat.le_of_ble_eq_true rfl) rfl rfl ?_
  refine sl_aast (ci := 4) sc_P10 9 138 rfl (by decide) (sk_td o_X8_init 68 rfl) rfl rfl rfl rfl (by decide) (by decide +kernel) rfl (by decide +kernel) (by decide) ?_
  refine sg_iinc (10 : Int32) 141 [some (.inr (.inr (some (0, 0)))), some (.inl (10 : Int32))] (sk_td o_X8_init 69 rfl) rfl rfl (by decide) rfl (Nat.le_of_ble_eq_true rfl) rfl ?_
  refine sg_goto 119 (sk_td o_X8_init 70 rfl) (by decide) ?_
  exact kk
set_option maxRecDepth 100000 in
set_option maxHeartbeats 4000000 in
theorem x8_P10 {l : Launch} (kk : sk_G l (sk_rm 2 120 5587) m_X8_init sk_Ex0 (sk_Zm m_X8_init none (sk_mW 121 sc_Q)) 79 5349 119 [some (.inr (.inr (some (0, 0)))), some (.inl (11 : Int32))] [] (sk_mW 80 sc_P11)) : sk_G l (sk_rm 2 120 5587) m_X8_init sk_Ex0 (sk_Zm m_X8_init none (sk_mW 121 sc_Q)) 77 5338 119 [some (.inr (.inr (some (0, 0)))), some (.inl (10 : Int32))] [] (sk_mW 78 sc_P10) := by
  refine sg_iload_n 120 (sk_td o_X8_init 59 rfl) rfl rfl ?_
  refine sg_bipush (v := (20 : Int32)) 122 (sk_td o_X8_init 60 rfl) rfl (by decide) ?_
  refine sg_ic_ge 144 125 (sk_td o_X8_init 61 rfl) (by decide) rfl (fun hc => absurd hc (by decide)) (fun _ => ?_)
  refine sg_aload_n 126 (sk_td o_X8_init 62 rfl) rfl rfl ?_
  refine sl_getR (a := (1, 0)) 129 (sk_td o_X8_init 63 rfl) rfl kf_X8_11 rfl rfl (by decide +kernel) (by decide +kernel) ?_
  refine sg_iload_n 130 (sk_td o_X8_init 64 rfl) rfl rfl ?_
  refine sl_new (ci := 4) (s := 37) (k := 10) 79 78 5345 133 (sk_td o_X8_init 65 rfl) rfl kn_X8_9 (by decide) (by decide +kernel) rfl (by decide +kernel) rfl rfl rfl (Nat.le_of_ble_eq_true rfl) (Nat.le_of_ble_eq_true rfl) ?_
  refine sg_dupR 134 (sk_td o_X8_init 66 rfl) rfl ?_
  refine sl_callIN 79 5349 137 (s_X4_init (k := 10) (by decide) (by decide +kernel) (by decide +kernel) (by decide +kernel)) (sk_td o_X8_init 67 rfl) rfl ki_X8_81 ⟨Nat.le_of_ble_eq_true rfl, Nat.le_of_ble_eq_true rfl, Nat.le_of_ble_eq_true rfl, Nat.le_of_ble_eq_true rfl⟩ (Nat.le_of_ble_eq_true rfl) rfl rfl ?_
  refine sl_aast (ci := 4) sc_P11 10 138 rfl (by decide) (sk_td o_X8_init 68 rfl) rfl rfl rfl rfl (by decide) (by decide +kernel) rfl (by decide +kernel) (by decide) ?_
  refine sg_iinc (11 : Int32) 141 [some (.inr (.inr (some (0, 0)))), some (.inl (11 : Int32))] (sk_td o_X8_init 69 rfl) rfl rfl (by decide) rfl (Nat.le_of_ble_eq_true rfl) rfl ?_
  refine sg_goto 119 (sk_td o_X8_init 70 rfl) (by decide) ?_
  exact kk
set_option maxRecDepth 100000 in
set_option maxHeartbeats 4000000 in
theorem x8_P11 {l : Launch} (kk : sk_G l (sk_rm 2 120 5587) m_X8_init sk_Ex0 (sk_Zm m_X8_init none (sk_mW 121 sc_Q)) 81 5360 119 [some (.inr (.inr (some (0, 0)))), some (.inl (12 : Int32))] [] (sk_mW 82 sc_P12)) : sk_G l (sk_rm 2 120 5587) m_X8_init sk_Ex0 (sk_Zm m_X8_init none (sk_mW 121 sc_Q)) 79 5349 119 [some (.inr (.inr (some (0, 0)))), some (.inl (11 : Int32))] [] (sk_mW 80 sc_P11) := by
  refine sg_iload_n 120 (sk_td o_X8_init 59 rfl) rfl rfl ?_
  refine sg_bipush (v := (20 : Int32)) 122 (sk_td o_X8_init 60 rfl) rfl (by decide) ?_
  refine sg_ic_ge 144 125 (sk_td o_X8_init 61 rfl) (by decide) rfl (fun hc => absurd hc (by decide)) (fun _ => ?_)
  refine sg_aload_n 126 (sk_td o_X8_init 62 rfl) rfl rfl ?_
  refine sl_getR (a := (1, 0)) 129 (sk_td o_X8_init 63 rfl) rfl kf_X8_11 rfl rfl (by decide +kernel) (by decide +kernel) ?_
  refine sg_iload_n 130 (sk_td o_X8_init 64 rfl) rfl rfl ?_
  refine sl_new (ci := 4) (s := 37) (k := 11) 81 80 5356 133 (sk_td o_X8_init 65 rfl) rfl kn_X8_9 (by decide) (by decide +kernel) rfl (by decide +kernel) rfl rfl rfl (Nat.le_of_ble_eq_true rfl) (Nat.le_of_ble_eq_true rfl) ?_
  refine sg_dupR 134 (sk_td o_X8_init 66 rfl) rfl ?_
  refine sl_callIN 81 5360 137 (s_X4_init (k := 11) (by decide) (by decide +kernel) (by decide +kernel) (by decide +kernel)) (sk_td o_X8_init 67 rfl) rfl ki_X8_81 ⟨Nat.le_of_ble_eq_true rfl, Nat.le_of_ble_eq_true rfl, Nat.le_of_ble_eq_true rfl, Nat.le_of_ble_eq_true rfl⟩ (Nat.le_of_ble_eq_true rfl) rfl rfl ?_
  refine sl_aast (ci := 4) sc_P12 11 138 rfl (by decide) (sk_td o_X8_init 68 rfl) rfl rfl rfl rfl (by decide) (by decide +kernel) rfl (by decide +kernel) (by decide) ?_
  refine sg_iinc (12 : Int32) 141 [some (.inr (.inr (some (0, 0)))), some (.inl (12 : Int32))] (sk_td o_X8_init 69 rfl) rfl rfl (by decide) rfl (Nat.le_of_ble_eq_true rfl) rfl ?_
  refine sg_goto 119 (sk_td o_X8_init 70 rfl) (by decide) ?_
  exact kk
set_option maxRecDepth 100000 in
set_option maxHeartbeats 4000000 in
theorem x8_P12 {l : Launch} (kk : sk_G l (sk_rm 2 120 5587) m_X8_init sk_Ex0 (sk_Zm m_X8_init none (sk_mW 121 sc_Q)) 83 5371 119 [some (.inr (.inr (some (0, 0)))), some (.inl (13 : Int32))] [] (sk_mW 84 sc_P13)) : sk_G l (sk_rm 2 120 5587) m_X8_init sk_Ex0 (sk_Zm m_X8_init none (sk_mW 121 sc_Q)) 81 5360 119 [some (.inr (.inr (some (0, 0)))), some (.inl (12 : Int32))] [] (sk_mW 82 sc_P12) := by
  refine sg_iload_n 120 (sk_td o_X8_init 59 rfl) rfl rfl ?_
  refine sg_bipush (v := (20 : Int32)) 122 (sk_td o_X8_init 60 rfl) rfl (by decide) ?_
  refine sg_ic_ge 144 125 (sk_td o_X8_init 61 rfl) (by decide) rfl (fun hc => absurd hc (by decide)) (fun _ => ?_)
  refine sg_aload_n 126 (sk_td o_X8_init 62 rfl) rfl rfl ?_
  refine sl_getR (a := (1, 0)) 129 (sk_td o_X8_init 63 rfl) rfl kf_X8_11 rfl rfl (by decide +kernel) (by decide +kernel) ?_
  refine sg_iload_n 130 (sk_td o_X8_init 64 rfl) rfl rfl ?_
  refine sl_new (ci := 4) (s := 37) (k := 12) 83 82 5367 133 (sk_td o_X8_init 65 rfl) rfl kn_X8_9 (by decide) (by decide +kernel) rfl (by decide +kernel) rfl rfl rfl (Nat.le_of_ble_eq_true rfl) (Nat.le_of_ble_eq_true rfl) ?_
  refine sg_dupR 134 (sk_td o_X8_init 66 rfl) rfl ?_
  refine sl_callIN 83 5371 137 (s_X4_init (k := 12) (by decide) (by decide +kernel) (by decide +kernel) (by decide +kernel)) (sk_td o_X8_init 67 rfl) rfl ki_X8_81 ⟨Nat.le_of_ble_eq_true rfl, Nat.le_of_ble_eq_true rfl, Nat.le_of_ble_eq_true rfl, Nat.le_of_ble_eq_true rfl⟩ (Nat.le_of_ble_eq_true rfl) rfl rfl ?_
  refine sl_aast (ci := 4) sc_P13 12 138 rfl (by decide) (sk_td o_X8_init 68 rfl) rfl rfl rfl rfl (by decide) (by decide +kernel) rfl (by decide +kernel) (by decide) ?_
  refine sg_iinc (13 : Int32) 141 [some (.inr (.inr (some (0, 0)))), some (.inl (13 : Int32))] (sk_td o_X8_init 69 rfl) rfl rfl (by decide) rfl (Nat.le_of_ble_eq_true rfl) rfl ?_
  refine sg_goto 119 (sk_td o_X8_init 70 rfl) (by decide) ?_
  exact kk
set_option maxRecDepth 100000 in
set_option maxHeartbeats 4000000 in
theorem x8_P13 {l : Launch} (kk : sk_G l (sk_rm 2 120 5587) m_X8_init sk_Ex0 (sk_Zm m_X8_init none (sk_mW 121 sc_Q)) 85 5382 119 [some (.inr (.inr (some (0, 0)))), some (.inl (14 : Int32))] [] (sk_mW 86 sc_P14)) : sk_G l (sk_rm 2 120 5587) m_X8_init sk_Ex0 (sk_Zm m_X8_init none (sk_mW 121 sc_Q)) 83 5371 119 [some (.inr (.inr (some (0, 0)))), some (.inl (13 : Int32))] [] (sk_mW 84 sc_P13) := by
  refine sg_iload_n 120 (sk_td o_X8_init 59 rfl) rfl rfl ?_
  refine sg_bipush (v := (20 : Int32)) 122 (sk_td o_X8_init 60 rfl) rfl (by decide) ?_
  refine sg_ic_ge 144 125 (sk_td o_X8_init 61 rfl) (by decide) rfl (fun hc => absurd hc (by decide)) (fun _ => ?_)
  refine sg_aload_n 126 (sk_td o_X8_init 62 rfl) rfl rfl ?_
  refine sl_getR (a := (1, 0)) 129 (sk_td o_X8_init 63 rfl) rfl kf_X8_11 rfl rfl (by decide +kernel) (by decide +kernel) ?_
  refine sg_iload_n 130 (sk_td o_X8_init 64 rfl) rfl rfl ?_
  refine sl_new (ci := 4) (s := 37) (k := 13) 85 84 5378 133 (sk_td o_X8_init 65 rfl) rfl kn_X8_9 (by decide) (by decide +kernel) rfl (by decide +kernel) rfl rfl rfl (Nat.le_of_ble_eq_true rfl) (Nat.le_of_ble_eq_true rfl) ?_
  refine sg_dupR 134 (sk_td o_X8_init 66 rfl) rfl ?_
  refine sl_callIN 85 5382 137 (s_X4_init (k := 13) (by decide) (by decide +kernel) (by decide +kernel) (by decide +kernel)) (sk_td o_X8_init 67 rfl) rfl ki_X8_81 ⟨Nat.le_of_ble_eq_true rfl, Nat.le_of_ble_eq_true rfl, Nat.le_of_ble_eq_true rfl, Nat.le_of_ble_eq_true rfl⟩ (Nat.le_of_ble_eq_true rfl) rfl rfl ?_
  refine sl_aast (ci := 4) sc_P14 13 138 rfl (by decide) (sk_td o_X8_init 68 rfl) rfl rfl rfl rfl (by decide) (by decide +kernel) rfl (by decide +kernel) (by decide) ?_
  refine sg_iinc (14 : Int32) 141 [some (.inr (.inr (some (0, 0)))), some (.inl (14 : Int32))] (sk_td o_X8_init 69 rfl) rfl rfl (by decide) rfl (Nat.le_of_ble_eq_true rfl) rfl ?_
  refine sg_goto 119 (sk_td o_X8_init 70 rfl) (by decide) ?_
  exact kk
set_option maxRecDepth 100000 in
set_option maxHeartbeats 4000000 in
theorem x8_P14 {l : Launch} (kk : sk_G l (sk_rm 2 120 5587) m_X8_init sk_Ex0 (sk_Zm m_X8_init none (sk_mW 121 sc_Q)) 87 5393 119 [some (.inr (.inr (some (0, 0)))), some (.inl (15 : Int32))] [] (sk_mW 88 sc_P15)) : sk_G l (sk_rm 2 120 5587) m_X8_init sk_Ex0 (sk_Zm m_X8_init none (sk_mW 121 sc_Q)) 85 5382 119 [some (.inr (.inr (some (0, 0)))), some (.inl (14 : Int32))] [] (sk_mW 86 sc_P14) := by
  refine sg_iload_n 120 (sk_td o_X8_init 59 rfl) rfl rfl ?_
  refine sg_bipush (v := (20 : Int32)) 122 (sk_td o_X8_init 60 rfl) rfl (by decide) ?_
  refine sg_ic_ge 144 125 (sk_td o_X8_init 61 rfl) (by decide) rfl (fun hc => absurd hc (by decide)) (fun _ => ?_)
  refine sg_aload_n 126 (sk_td o_X8_init 62 rfl) rfl rfl ?_
  refine sl_getR (a := (1, 0)) 129 (sk_td o_X8_init 63 rfl) rfl kf_X8_11 rfl rfl (by decide +kernel) (by decide +kernel) ?_
  refine sg_iload_n 130 (sk_td o_X8_init 64 rfl) rfl rfl ?_
  refine sl_new (ci := 4) (s := 37) (k := 14) 87 86 5389 133 (sk_td o_X8_init 65 rfl) rfl kn_X8_9 (by decide) (by decide +kernel) rfl (by decide +kernel) rfl rfl rfl (Nat.le_of_ble_eq_true rfl) (Nat.le_of_ble_eq_true rfl) ?_
  refine sg_dupR 134 (sk_td o_X8_init 66 rfl) rfl ?_
  refine sl_callIN 87 5393 137 (s_X4_init (k := 14) (by decide) (by decide +kernel) (by decide +kernel) (by decide +kernel)) (sk_td o_X8_init 67 rfl) rfl ki_X8_81 ⟨Nat.le_of_ble_eq_true rfl, Nat.le_of_ble_eq_true rfl, Nat.le_of_ble_eq_true rfl, Nat.le_of_ble_eq_true rfl⟩ (Nat.le_of_ble_eq_true rfl) rfl rfl ?_
  refine sl_aast (ci := 4) sc_P15 14 138 rfl (by decide) (sk_td o_X8_init 68 rfl) rfl rfl rfl rfl (by decide) (by decide +kernel) rfl (by decide +kernel) (by decide) ?_
  refine sg_iinc (15 : Int32) 141 [some (.inr (.inr (some (0, 0)))), some (.inl (15 : Int32))] (sk_td o_X8_init 69 rfl) rfl rfl (by decide) rfl (Nat.le_of_ble_eq_true rfl) rfl ?_
  refine sg_goto 119 (sk_td o_X8_init 70 rfl) (by decide) ?_
  exact kk
set_option maxRecDepth 100000 in
set_option maxHeartbeats 4000000 in
theorem x8_P15 {l : Launch} (kk : sk_G l (sk_rm 2 120 5587) m_X8_init sk_Ex0 (sk_Zm m_X8_init none (sk_mW 121 sc_Q)) 89 5404 119 [some (.inr (.inr (some (0, 0)))), some (.inl (16 : Int32))] [] (sk_mW 90 sc_P16)) : sk_G l (sk_rm 2 120 5587) m_X8_init sk_Ex0 (sk_Zm m_X8_init none (sk_mW 121 sc_Q)) 87 5393 119 [some (.inr (.inr (some (0, 0)))), some (.inl (15 : Int32))] [] (sk_mW 88 sc_P15) := by
  refine sg_iload_n 120 (sk_td o_X8_init 59 rfl) rfl rfl ?_
  refine sg_bipush (v := (20 : Int32)) 122 (sk_td o_X8_init 60 rfl) rfl (by decide) ?_
  refine sg_ic_ge 144 125 (sk_td o_X8_init 61 rfl) (by decide) rfl (fun hc => absurd hc (by decide)) (fun _ => ?_)
  refine sg_aload_n 126 (sk_td o_X8_init 62 rfl) rfl rfl ?_
  refine sl_getR (a := (1, 0)) 129 (sk_td o_X8_init 63 rfl) rfl kf_X8_11 rfl rfl (by decide +kernel) (by decide +kernel) ?_
  refine sg_iload_n 130 (sk_td o_X8_init 64 rfl) rfl rfl ?_
  refine sl_new (ci := 4) (s := 37) (k := 15) 89 88 5400 133 (sk_td o_X8_init 65 rfl) rfl kn_X8_9 (by decide) (by decide +kernel) rfl (by decide +kernel) rfl rfl rfl (Nat.le_of_ble_eq_true rfl) (Nat.le_of_ble_eq_true rfl) ?_
  refine sg_dupR 134 (sk_td o_X8_init 66 rfl) rfl ?_
  refine sl_callIN 89 5404 137 (s_X4_init (k := 15) (by decide) (by decide +kernel) (by decide +kernel) (by decide +kernel)) (sk_td o_X8_init 67 rfl) rfl ki_X8_81 ⟨Nat.le_of_ble_eq_true rfl, Nat.le_of_ble_eq_true rfl, Nat.le_of_ble_eq_true rfl, Nat.le_of_ble_eq_true rfl⟩ (Nat.le_of_ble_eq_true rfl) rfl rfl ?_
  refine sl_aast (ci := 4) sc_P16 15 138 rfl (by decide) (sk_td o_X8_init 68 rfl) rfl rfl rfl rfl (by decide) (by decide +kernel) rfl (by decide +kernel) (by decide) ?_
  refine sg_iinc (16 : Int32) 141 [some (.inr (.inr (some (0, 0)))), some (.inl (16 : Int32))] (sk_td o_X8_init 69 rfl) rfl rfl (by decide) rfl (Nat.le_of_ble_eq_true rfl) rfl ?_
  refine sg_goto 119 (sk_td o_X8_init 70 rfl) (by decide) ?_
  exact kk
set_option maxRecDepth 100000 in
set_option maxHeartbeats 4000000 in
theorem x8_P16 {l : Launch} (kk : sk_G l (sk_rm 2 120 5587) m_X8_init sk_Ex0 (sk_Zm m_X8_init none (sk_mW 121 sc_Q)) 91 5415 119 [some (.inr (.inr (some (0, 0)))), some (.inl (17 : Int32))] [] (sk_mW 92 sc_P17)) : sk_G l (sk_rm 2 120 5587) m_X8_init sk_Ex0 (sk_Zm m_X8_init none (sk_mW 121 sc_Q)) 89 5404 119 [some (.inr (.inr (some (0, 0)))), some (.inl (16 : Int32))] [] (sk_mW 90 sc_P16) := by
  refine sg_iload_n 120 (sk_td o_X8_init 59 rfl) rfl rfl ?_
  refine sg_bipush (v := (20 : Int32)) 122 (sk_td o_X8_init 60 rfl) rfl (by decide) ?_
  refine sg_ic_ge 144 125 (sk_td o_X8_init 61 rfl) (by decide) rfl (fun hc => absurd hc (by decide)) (fun _ => ?_)
  refine sg_aload_n 126 (sk_td o_X8_init 62 rfl) rfl rfl ?_
  refine sl_getR (a := (1, 0)) 129 (sk_td o_X8_init 63 rfl) rfl kf_X8_11 rfl rfl (by decide +kernel) (by decide +kernel) ?_
  refine sg_iload_n 130 (sk_td o_X8_init 64 rfl) rfl rfl ?_
  refine sl_new (ci := 4) (s := 37) (k := 16) 91 90 5411 133 (sk_td o_X8_init 65 rfl) rfl kn_X8_9 (by decide) (by decide +kernel) rfl (by decide +kernel) rfl rfl rfl (Nat.le_of_ble_eq_true rfl) (Nat.le_of_ble_eq_true rfl) ?_
  refine sg_dupR 134 (sk_td o_X8_init 66 rfl) rfl ?_
  refine sl_callIN 91 5415 137 (s_X4_init (k := 16) (by decide) (by decide +kernel) (by decide +kernel) (by decide +kernel)) (sk_td o_X8_init 67 rfl) rfl ki_X8_81 ⟨Nat.le_of_ble_eq_true rfl, Nat.le_of_ble_eq_true rfl, Nat.le_of_ble_eq_true rfl, Nat.le_of_ble_eq_true rfl⟩ (Nat.le_of_ble_eq_true rfl) rfl rfl ?_
  refine sl_aast (ci := 4) sc_P17 16 138 rfl (by decide) (sk_td o_X8_init 68 rfl) rfl rfl rfl rfl (by decide) (by decide +kernel) rfl (by decide +kernel) (by decide) ?_
  refine sg_iinc (17 : Int32) 141 [some (.inr (.inr (some (0, 0)))), some (.inl (17 : Int32))] (sk_td o_X8_init 69 rfl) rfl rfl (by decide) rfl (Nat.le_of_ble_eq_true rfl) rfl ?_
  refine sg_goto 119 (sk_td o_X8_init 70 rfl) (by decide) ?_
  exact kk
set_option maxRecDepth 100000 in
set_option maxHeartbeats 4000000 in
theorem x8_P17 {l : Launch} (kk : sk_G l (sk_rm 2 120 5587) m_X8_init sk_Ex0 (sk_Zm m_X8_init none (sk_mW 121 sc_Q)) 93 5426 119 [some (.inr (.inr (some (0, 0)))), some (.inl (18 : Int32))] [] (sk_mW 94 sc_P18)) : sk_G l (sk_rm 2 120 5587) m_X8_init sk_Ex0 (sk_Zm m_X8_init none (sk_mW 121 sc_Q)) 91 5415 119 [some (.inr (.inr (some (0, 0)))), some (.inl (17 : Int32))] [] (sk_mW 92 sc_P17) := by
  refine sg_iload_n 120 (sk_td o_X8_init 59 rfl) rfl rfl ?_
  refine sg_bipush (v := (20 : Int32)) 122 (sk_td o_X8_init 60 rfl) rfl (by decide) ?_
  refine sg_ic_ge 144 125 (sk_td o_X8_init 61 rfl) (by decide) rfl (fun hc => absurd hc (by decide)) (fun _ => ?_)
  refine sg_aload_n 126 (sk_td o_X8_init 62 rfl) rfl rfl ?_
  refine sl_getR (a := (1, 0)) 129 (sk_td o_X8_init 63 rfl) rfl kf_X8_11 rfl rfl (by decide +kernel) (by decide +kernel) ?_
  refine sg_iload_n 130 (sk_td o_X8_init 64 rfl) rfl rfl ?_
  refine sl_new (ci := 4) (s := 37) (k := 17) 93 92 5422 133 (sk_td o_X8_init 65 rfl) rfl kn_X8_9 (by decide) (by decide +kernel) rfl (by decide +kernel) rfl rfl rfl (Nat.le_of_ble_eq_true rfl) (Nat.le_of_ble_eq_true rfl) ?_
  refine sg_dupR 134 (sk_td o_X8_init 66 rfl) rfl ?_
  refine sl_callIN 93 5426 137 (s_X4_init (k := 17) (by decide) (by decide +kernel) (by decide +kernel) (by decide +kernel)) (sk_td o_X8_init 67 rfl) rfl ki_X8_81 ⟨Nat.le_of_ble_eq_true rfl, Nat.le_of_ble_eq_true rfl, Nat.le_of_ble_eq_true rfl, Nat.le_of_ble_eq_true rfl⟩ (Nat.le_of_ble_eq_true rfl) rfl rfl ?_
  refine sl_aast (ci := 4) sc_P18 17 138 rfl (by decide) (sk_td o_X8_init 68 rfl) rfl rfl rfl rfl (by decide) (by decide +kernel) rfl (by decide +kernel) (by decide) ?_
  refine sg_iinc (18 : Int32) 141 [some (.inr (.inr (some (0, 0)))), some (.inl (18 : Int32))] (sk_td o_X8_init 69 rfl) rfl rfl (by decide) rfl (Nat.le_of_ble_eq_true rfl) rfl ?_
  refine sg_goto 119 (sk_td o_X8_init 70 rfl) (by decide) ?_
  exact kk
set_option maxRecDepth 100000 in
set_option maxHeartbeats 4000000 in
theorem x8_P18 {l : Launch} (kk : sk_G l (sk_rm 2 120 5587) m_X8_init sk_Ex0 (sk_Zm m_X8_init none (sk_mW 121 sc_Q)) 95 5437 119 [some (.inr (.inr (some (0, 0)))), some (.inl (19 : Int32))] [] (sk_mW 96 sc_P19)) : sk_G l (sk_rm 2 120 5587) m_X8_init sk_Ex0 (sk_Zm m_X8_init none (sk_mW 121 sc_Q)) 93 5426 119 [some (.inr (.inr (some (0, 0)))), some (.inl (18 : Int32))] [] (sk_mW 94 sc_P18) := by
  refine sg_iload_n 120 (sk_td o_X8_init 59 rfl) rfl rfl ?_
  refine sg_bipush (v := (20 : Int32)) 122 (sk_td o_X8_init 60 rfl) rfl (by decide) ?_
  refine sg_ic_ge 144 125 (sk_td o_X8_init 61 rfl) (by decide) rfl (fun hc => absurd hc (by decide)) (fun _ => ?_)
  refine sg_aload_n 126 (sk_td o_X8_init 62 rfl) rfl rfl ?_
  refine sl_getR (a := (1, 0)) 129 (sk_td o_X8_init 63 rfl) rfl kf_X8_11 rfl rfl (by decide +kernel) (by decide +kernel) ?_
  refine sg_iload_n 130 (sk_td o_X8_init 64 rfl) rfl rfl ?_
  refine sl_new (ci := 4) (s := 37) (k := 18) 95 94 5433 133 (sk_td o_X8_init 65 rfl) rfl kn_X8_9 (by decide) (by decide +kernel) rfl (by decide +kernel) rfl rfl rfl (Nat.le_of_ble_eq_true rfl) (Nat.le_of_ble_eq_true rfl) ?_
  refine sg_dupR 134 (sk_td o_X8_init 66 rfl) rfl ?_
  refine sl_callIN 95 5437 137 (s_X4_init (k := 18) (by decide) (by decide +kernel) (by decide +kernel) (by decide +kernel)) (sk_td o_X8_init 67 rfl) rfl ki_X8_81 ⟨Nat.le_of_ble_eq_true rfl, Nat.le_of_ble_eq_true rfl, Nat.le_of_ble_eq_true rfl, Nat.le_of_ble_eq_true rfl⟩ (Nat.le_of_ble_eq_true rfl) rfl rfl ?_
  refine sl_aast (ci := 4) sc_P19 18 138 rfl (by decide) (sk_td o_X8_init 68 rfl) rfl rfl rfl rfl (by decide) (by decide +kernel) rfl (by decide +kernel) (by decide) ?_
  refine sg_iinc (19 : Int32) 141 [some (.inr (.inr (some (0, 0)))), some (.inl (19 : Int32))] (sk_td o_X8_init 69 rfl) rfl rfl (by decide) rfl (Nat.le_of_ble_eq_true rfl) rfl ?_
  refine sg_goto 119 (sk_td o_X8_init 70 rfl) (by decide) ?_
  exact kk
set_option maxRecDepth 100000 in
set_option maxHeartbeats 4000000 in
theorem x8_P19 {l : Launch} (kk : sk_G l (sk_rm 2 120 5587) m_X8_init sk_Ex0 (sk_Zm m_X8_init none (sk_mW 121 sc_Q)) 97 5448 119 [some (.inr (.inr (some (0, 0)))), some (.inl (20 : Int32))] [] (sk_mW 98 sc_P20)) : sk_G l (sk_rm 2 120 5587) m_X8_init sk_Ex0 (sk_Zm m_X8_init none (sk_mW 121 sc_Q)) 95 5437 119 [some (.inr (.inr (some (0, 0)))), some (.inl (19 : Int32))] [] (sk_mW 96 sc_P19) := by
  refine sg_iload_n 120 (sk_td o_X8_init 59 rfl) rfl rfl ?_
  refine sg_bipush (v := (20 : Int32)) 122 (sk_td o_X8_init 60 rfl) rfl (by decide) ?_
  refine sg_ic_ge 144 125 (sk_td o_X8_init 61 rfl) (by decide) rfl (fun hc => absurd hc (by decide)) (fun _ => ?_)
  refine sg_aload_n 126 (sk_td o_X8_init 62 rfl) rfl rfl ?_
  refine sl_getR (a := (1, 0)) 129 (sk_td o_X8_init 63 rfl) rfl kf_X8_11 rfl rfl (by decide +kernel) (by decide +kernel) ?_
  refine sg_iload_n 130 (sk_td o_X8_init 64 rfl) rfl rfl ?_
  refine sl_new (ci := 4) (s := 37) (k := 19) 97 96 5444 133 (sk_td o_X8_init 65 rfl) rfl kn_X8_9 (by decide) (by decide +kernel) rfl (by decide +kernel) rfl rfl rfl (Nat.le_of_ble_eq_true rfl) (Nat.le_of_ble_eq_true rfl) ?_
  refine sg_dupR 134 (sk_td o_X8_init 66 rfl) rfl ?_
  refine sl_callIN 97 5448 137 (s_X4_init (k := 19) (by decide) (by decide +kernel) (by decide +kernel) (by decide +kernel)) (sk_td o_X8_init 67 rfl) rfl ki_X8_81 ⟨Nat.le_of_ble_eq_true rfl, Nat.le_of_ble_eq_true rfl, Nat.le_of_ble_eq_true rfl, Nat.le_of_ble_eq_true rfl⟩ (Nat.le_of_ble_eq_true rfl) rfl rfl ?_
  refine sl_aast (ci := 4) sc_P20 19 138 rfl (by decide) (sk_td o_X8_init 68 rfl) rfl rfl rfl rfl (by decide) (by decide +kernel) rfl (by decide +kernel) (by decide) ?_
  refine sg_iinc (20 : Int32) 141 [some (.inr (.inr (some (0, 0)))), some (.inl (20 : Int32))] (sk_td o_X8_init 69 rfl) rfl rfl (by decide) rfl (Nat.le_of_ble_eq_true rfl) rfl ?_
  refine sg_goto 119 (sk_td o_X8_init 70 rfl) (by decide) ?_
  exact kk
set_option maxRecDepth 100000 in
set_option maxHeartbeats 4000000 in
theorem x8_G0 {l : Launch} (kk : sk_G l (sk_rm 2 120 5587) m_X8_init sk_Ex0 (sk_Zm m_X8_init none (sk_mW 121 sc_Q)) 100 5467 146 [some (.inr (.inr (some (0, 0)))), some (.inl (1 : Int32))] [] (sk_mW 101 sc_G1)) : sk_G l (sk_rm 2 120 5587) m_X8_init sk_Ex0 (sk_Zm m_X8_init none (sk_mW 121 sc_Q)) 97 5448 146 [some (.inr (.inr (some (0, 0)))), some (.inl (0 : Int32))] [] (sk_mW 98 sc_P20) := by
  refine sg_iload_n 147 (sk_td o_X8_init 73 rfl) rfl rfl ?_
  refine sg_iconst (v := (4 : Int32)) 148 (sk_td o_X8_init 74 rfl) rfl (by decide) ?_
  refine sg_ic_ge 170 151 (sk_td o_X8_init 75 rfl) (by decide) rfl (fun hc => absurd hc (by decide)) (fun _ => ?_)
  refine sg_aload_n 152 (sk_td o_X8_init 76 rfl) rfl rfl ?_
  refine sl_getR (a := (2, 0)) 155 (sk_td o_X8_init 77 rfl) rfl kf_X8_17 rfl rfl (by decide +kernel) (by decide +kernel) ?_
  refine sg_iload_n 156 (sk_td o_X8_init 78 rfl) rfl rfl ?_
  refine sl_new (ci := 0) (s := 39) (k := 0) 99 98 5459 159 (sk_td o_X8_init 79 rfl) rfl kn_X8_15 (by decide) (by decide +kernel) rfl (by decide +kernel) rfl rfl rfl (Nat.le_of_ble_eq_true rfl) (Nat.le_of_ble_eq_true rfl) ?_
  refine sg_dupR 160 (sk_td o_X8_init 80 rfl) rfl ?_
  refine sl_callIN 100 5467 163 (s_X0_init (k := 0) (by decide) (by decide +kernel) (by decide +kernel) (by decide +kernel) (by decide +kernel) (by decide +kernel)) (sk_td o_X8_init 81 rfl) rfl ki_X8_82 ⟨Nat.le_of_ble_eq_true rfl, Nat.le_of_ble_eq_true rfl, Nat.le_of_ble_eq_true rfl, Nat.le_of_ble_eq_true rfl⟩ (Nat.le_of_ble_eq_true rfl) rfl rfl ?_
  refine sl_aast (ci := 0) sc_G1 0 164 rfl (by decide) (sk_td o_X8_init 82 rfl) rfl rfl rfl rfl (by decide) (by decide +kernel) rfl (by decide +kernel) (by decide) ?_
  refine sg_iinc (1 : Int32) 167 [some (.inr (.inr (some (0, 0)))), some (.inl (1 : Int32))] (sk_td o_X8_init 83 rfl) rfl rfl (by decide) rfl (Nat.le_of_ble_eq_true rfl) rfl ?_
  refine sg_goto 146 (sk_td o_X8_init 84 rfl) (by decide) ?_
  exact kk
set_option maxRecDepth 100000 in
set_option maxHeartbeats 4000000 in
theorem x8_G1 {l : Launch} (kk : sk_G l (sk_rm 2 120 5587) m_X8_init sk_Ex0 (sk_Zm m_X8_init none (sk_mW 121 sc_Q)) 103 5486 146 [some (.inr (.inr (some (0, 0)))), some (.inl (2 : Int32))] [] (sk_mW 104 sc_G2)) : sk_G l (sk_rm 2 120 5587) m_X8_init sk_Ex0 (sk_Zm m_X8_init none (sk_mW 121 sc_Q)) 100 5467 146 [some (.inr (.inr (some (0, 0)))), some (.inl (1 : Int32))] [] (sk_mW 101 sc_G1) := by
  refine sg_iload_n 147 (sk_td o_X8_init 73 rfl) rfl rfl ?_
  refine sg_iconst (v := (4 : Int32)) 148 (sk_td o_X8_init 74 rfl) rfl (by decide) ?_
  refine sg_ic_ge 170 151 (sk_td o_X8_init 75 rfl) (by decide) rfl (fun hc => absurd hc (by decide)) (fun _ => ?_)
  refine sg_aload_n 152 (sk_td o_X8_init 76 rfl) rfl rfl ?_
  refine sl_getR (a := (2, 0)) 155 (sk_td o_X8_init 77 rfl) rfl kf_X8_17 rfl rfl (by decide +kernel) (by decide +kernel) ?_
  refine sg_iload_n 156 (sk_td o_X8_init 78 rfl) rfl rfl ?_
  refine sl_new (ci := 0) (s := 39) (k := 1) 102 101 5478 159 (sk_td o_X8_init 79 rfl) rfl kn_X8_15 (by decide) (by decide +kernel) rfl (by decide +kernel) rfl rfl rfl (Nat.le_of_ble_eq_true rfl) (Nat.le_of_ble_eq_true rfl) ?_
  refine sg_dupR 160 (sk_td o_X8_init 80 rfl) rfl ?_
  refine sl_callIN 103 5486 163 (s_X0_init (k := 1) (by decide) (by decide +kernel) (by decide +kernel) (by decide +kernel) (by decide +kernel) (by decide +kernel)) (sk_td o_X8_init 81 rfl) rfl ki_X8_82 ⟨Nat.le_of_ble_eq_true rfl, Nat.le_of_ble_eq_true rfl, Nat.le_of_ble_eq_true rfl, Nat.le_of_ble_eq_true rfl⟩ (Nat.le_of_ble_eq_true rfl) rfl rfl ?_
  refine sl_aast (ci := 0) sc_G2 1 164 rfl (by decide) (sk_td o_X8_init 82 rfl) rfl rfl rfl rfl (by decide) (by decide +kernel) rfl (by decide +kernel) (by decide) ?_
  refine sg_iinc (2 : Int32) 167 [some (.inr (.inr (some (0, 0)))), some (.inl (2 : Int32))] (sk_td o_X8_init 83 rfl) rfl rfl (by decide) rfl (Nat.le_of_ble_eq_true rfl) rfl ?_
  refine sg_goto 146 (sk_td o_X8_init 84 rfl) (by decide) ?_
  exact kk
set_option maxRecDepth 100000 in
set_option maxHeartbeats 4000000 in
theorem x8_G2 {l : Launch} (kk : sk_G l (sk_rm 2 120 5587) m_X8_init sk_Ex0 (sk_Zm m_X8_init none (sk_mW 121 sc_Q)) 106 5505 146 [some (.inr (.inr (some (0, 0)))), some (.inl (3 : Int32))] [] (sk_mW 107 sc_G3)) : sk_G l (sk_rm 2 120 5587) m_X8_init sk_Ex0 (sk_Zm m_X8_init none (sk_mW 121 sc_Q)) 103 5486 146 [some (.inr (.inr (some (0, 0)))), some (.inl (2 : Int32))] [] (sk_mW 104 sc_G2) := by
  refine sg_iload_n 147 (sk_td o_X8_init 73 rfl) rfl rfl ?_
  refine sg_iconst (v := (4 : Int32)) 148 (sk_td o_X8_init 74 rfl) rfl (by decide) ?_
  refine sg_ic_ge 170 151 (sk_td o_X8_init 75 rfl) (by decide) rfl (fun hc => absurd hc (by decide)) (fun _ => ?_)
  refine sg_aload_n 152 (sk_td o_X8_init 76 rfl) rfl rfl ?_
  refine sl_getR (a := (2, 0)) 155 (sk_td o_X8_init 77 rfl) rfl kf_X8_17 rfl rfl (by decide +kernel) (by decide +kernel) ?_
  refine sg_iload_n 156 (sk_td o_X8_init 78 rfl) rfl rfl ?_
  refine sl_new (ci := 0) (s := 39) (k := 2) 105 104 5497 159 (sk_td o_X8_init 79 rfl) rfl kn_X8_15 (by decide) (by decide +kernel) rfl (by decide +kernel) rfl rfl rfl (Nat.le_of_ble_eq_true rfl) (Nat.le_of_ble_eq_true rfl) ?_
  refine sg_dupR 160 (sk_td o_X8_init 80 rfl) rfl ?_
  refine sl_callIN 106 5505 163 (s_X0_init (k := 2) (by decide) (by decide +kernel) (by decide +kernel) (by decide +kernel) (by decide +kernel) (by decide +kernel)) (sk_td o_X8_init 81 rfl) rfl ki_X8_82 ⟨Nat.le_of_ble_eq_true rfl, Nat.le_of_ble_eq_true rfl, Nat.le_of_ble_eq_true rfl, Nat.le_of_ble_eq_true rfl⟩ (Nat.le_of_ble_eq_true rfl) rfl rfl ?_
  refine sl_aast (ci := 0) sc_G3 2 164 rfl (by decide) (sk_td o_X8_init 82 rfl) rfl rfl rfl rfl (by decide) (by decide +kernel) rfl (by decide +kernel) (by decide) ?_
  refine sg_iinc (3 : Int32) 167 [some (.inr (.inr (some (0, 0)))), some (.inl (3 : Int32))] (sk_td o_X8_init 83 rfl) rfl rfl (by decide) rfl (Nat.le_of_ble_eq_true rfl) rfl ?_
  refine sg_goto 146 (sk_td o_X8_init 84 rfl) (by decide) ?_
  exact kk
set_option maxRecDepth 100000 in
set_option maxHeartbeats 4000000 in
theorem x8_G3 {l : Launch} (kk : sk_G l (sk_rm 2 120 5587) m_X8_init sk_Ex0 (sk_Zm m_X8_init none (sk_mW 121 sc_Q)) 109 5524 146 [some (.inr (.inr (some (0, 0)))), some (.inl (4 : Int32))] [] (sk_mW 110 sc_G4)) : sk_G l (sk_rm 2 120 5587) m_X8_init sk_Ex0 (sk_Zm m_X8_init none (sk_mW 121 sc_Q)) 106 5505 146 [some (.inr (.inr (some (0, 0)))), some (.inl (3 : Int32))] [] (sk_mW 107 sc_G3) := by
  refine sg_iload_n 147 (sk_td o_X8_init 73 rfl) rfl rfl ?_
  refine sg_iconst (v := (4 : Int32)) 148 (sk_td o_X8_init 74 rfl) rfl (by decide) ?_
  refine sg_ic_ge 170 151 (sk_td o_X8_init 75 rfl) (by decide) rfl (fun hc => absurd hc (by decide)) (fun _ => ?_)
  refine sg_aload_n 152 (sk_td o_X8_init 76 rfl) rfl rfl ?_
  refine sl_getR (a := (2, 0)) 155 (sk_td o_X8_init 77 rfl) rfl kf_X8_17 rfl rfl (by decide +kernel) (by decide +kernel) ?_
  refine sg_iload_n 156 (sk_td o_X8_init 78 rfl) rfl rfl ?_
  refine sl_new (ci := 0) (s := 39) (k := 3) 108 107 5516 159 (sk_td o_X8_init 79 rfl) rfl kn_X8_15 (by decide) (by decide +kernel) rfl (by decide +kernel) rfl rfl rfl (Nat.le_of_ble_eq_true rfl) (Nat.le_of_ble_eq_true rfl) ?_
  refine sg_dupR 160 (sk_td o_X8_init 80 rfl) rfl ?_
  refine sl_callIN 109 5524 163 (s_X0_init (k := 3) (by decide) (by decide +kernel) (by decide +kernel) (by decide +kernel) (by decide +kernel) (by decide +kernel)) (sk_td o_X8_init 81 rfl) rfl ki_X8_82 ⟨Nat.le_of_ble_eq_true rfl, Nat.le_of_ble_eq_true rfl, Nat.le_of_ble_eq_true rfl, Nat.le_of_ble_eq_true rfl⟩ (Nat.le_of_ble_eq_true rfl) rfl rfl ?_
  refine sl_aast (ci := 0) sc_G4 3 164 rfl (by decide) (sk_td o_X8_init 82 rfl) rfl rfl rfl rfl (by decide) (by decide +kernel) rfl (by decide +kernel) (by decide) ?_
  refine sg_iinc (4 : Int32) 167 [some (.inr (.inr (some (0, 0)))), some (.inl (4 : Int32))] (sk_td o_X8_init 83 rfl) rfl rfl (by decide) rfl (Nat.le_of_ble_eq_true rfl) rfl ?_
  refine sg_goto 146 (sk_td o_X8_init 84 rfl) (by decide) ?_
  exact kk
set_option maxRecDepth 100000 in
set_option maxHeartbeats 4000000 in
theorem x8_I0 {l : Launch} (kk : sk_G l (sk_rm 2 120 5587) m_X8_init sk_Ex0 (sk_Zm m_X8_init none (sk_mW 121 sc_Q)) 110 5530 172 [some (.inr (.inr (some (0, 0)))), some (.inl (1 : Int32))] [] (sk_mW 111 sc_I1)) : sk_G l (sk_rm 2 120 5587) m_X8_init sk_Ex0 (sk_Zm m_X8_init none (sk_mW 121 sc_Q)) 109 5524 172 [some (.inr (.inr (some (0, 0)))), some (.inl (0 : Int32))] [] (sk_mW 110 sc_G4) := by
  refine sg_iload_n 173 (sk_td o_X8_init 87 rfl) rfl rfl ?_
  refine sg_bipush (v := (8 : Int32)) 175 (sk_td o_X8_init 88 rfl) rfl (by decide) ?_
  refine sg_ic_ge 197 178 (sk_td o_X8_init 89 rfl) (by decide) rfl (fun hc => absurd hc (by decide)) (fun _ => ?_)
  refine sg_aload_n 179 (sk_td o_X8_init 90 rfl) rfl rfl ?_
  refine sl_getR (a := (3, 0)) 182 (sk_td o_X8_init 91 rfl) rfl kf_X8_23 rfl rfl (by decide +kernel) (by decide +kernel) ?_
  refine sg_iload_n 183 (sk_td o_X8_init 92 rfl) rfl rfl ?_
  refine sl_new (ci := 1) (s := 42) (k := 0) 111 110 5530 186 (sk_td o_X8_init 93 rfl) rfl kn_X8_21 (by decide) (by decide +kernel) rfl (by decide +kernel) rfl rfl rfl (Nat.le_of_ble_eq_true rfl) (Nat.le_of_ble_eq_true rfl) ?_
  refine sg_dupR 187 (sk_td o_X8_init 94 rfl) rfl ?_
  refine sl_callIN 110 5530 190 (s_X1_init (k := 0)  (by decide +kernel) ) (sk_td o_X8_init 95 rfl) rfl ki_X8_83 ⟨Nat.le_of_ble_eq_true rfl, Nat.le_of_ble_eq_true rfl, Nat.le_of_ble_eq_true rfl, Nat.le_of_ble_eq_true rfl⟩ (Nat.le_of_ble_eq_true rfl) rfl rfl ?_
  refine sl_aast (ci := 1) sc_I1 0 191 rfl (by decide) (sk_td o_X8_init 96 rfl) rfl rfl rfl rfl (by decide) (by decide +kernel) rfl (by decide +kernel) (by decide) ?_
  refine sg_iinc (1 : Int32) 194 [some (.inr (.inr (some (0, 0)))), some (.inl (1 : Int32))] (sk_td o_X8_init 97 rfl) rfl rfl (by decide) rfl (Nat.le_of_ble_eq_true rfl) rfl ?_
  refine sg_goto 172 (sk_td o_X8_init 98 rfl) (by decide) ?_
  exact kk
set_option maxRecDepth 100000 in
set_option maxHeartbeats 4000000 in
theorem x8_I1 {l : Launch} (kk : sk_G l (sk_rm 2 120 5587) m_X8_init sk_Ex0 (sk_Zm m_X8_init none (sk_mW 121 sc_Q)) 111 5536 172 [some (.inr (.inr (some (0, 0)))), some (.inl (2 : Int32))] [] (sk_mW 112 sc_I2)) : sk_G l (sk_rm 2 120 5587) m_X8_init sk_Ex0 (sk_Zm m_X8_init none (sk_mW 121 sc_Q)) 110 5530 172 [some (.inr (.inr (some (0, 0)))), some (.inl (1 : Int32))] [] (sk_mW 111 sc_I1) := by
  refine sg_iload_n 173 (sk_td o_X8_init 87 rfl) rfl rfl ?_
  refine sg_bipush (v := (8 : Int32)) 175 (sk_td o_X8_init 88 rfl) rfl (by decide) ?_
  refine sg_ic_ge 197 178 (sk_td o_X8_init 89 rfl) (by decide) rfl (fun hc => absurd hc (by decide)) (fun _ => ?_)
  refine sg_aload_n 179 (sk_td o_X8_init 90 rfl) rfl rfl ?_
  refine sl_getR (a := (3, 0)) 182 (sk_td o_X8_init 91 rfl) rfl kf_X8_23 rfl rfl (by decide +kernel) (by decide +kernel) ?_
  refine sg_iload_n 183 (sk_td o_X8_init 92 rfl) rfl rfl ?_
  refine sl_new (ci := 1) (s := 42) (k := 1) 112 111 5536 186 (sk_td o_X8_init 93 rfl) rfl kn_X8_21 (by decide) (by decide +kernel) rfl (by decide +kernel) rfl rfl rfl (Nat.le_of_ble_eq_true rfl) (Nat.le_of_ble_eq_true rfl) ?_
  refine sg_dupR 187 (sk_td o_X8_init 94 rfl) rfl ?_
  refine sl_callIN 111 5536 190 (s_X1_init (k := 1)  (by decide +kernel) ) (sk_td o_X8_init 95 rfl) rfl ki_X8_83 ⟨Nat.le_of_ble_eq_true rfl, Nat.le_of_ble_eq_true rfl, Nat.le_of_ble_eq_true rfl, Nat.le_of_ble_eq_true rfl⟩ (Nat.le_of_ble_eq_true rfl) rfl rfl ?_
  refine sl_aast (ci := 1) sc_I2 1 191 rfl (by decide) (sk_td o_X8_init 96 rfl) rfl rfl rfl rfl (by decide) (by decide +kernel) rfl (by decide +kernel) (by decide) ?_
  refine sg_iinc (2 : Int32) 194 [some (.inr (.inr (some (0, 0)))), some (.inl (2 : Int32))] (sk_td o_X8_init 97 rfl) rfl rfl (by decide) rfl (Nat.le_of_ble_eq_true rfl) rfl ?_
  refine sg_goto 172 (sk_td o_X8_init 98 rfl) (by decide) ?_
  exact kk
set_option maxRecDepth 100000 in
set_option maxHeartbeats 4000000 in
theorem x8_I2 {l : Launch} (kk : sk_G l (sk_rm 2 120 5587) m_X8_init sk_Ex0 (sk_Zm m_X8_init none (sk_mW 121 sc_Q)) 112 5542 172 [some (.inr (.inr (some (0, 0)))), some (.inl (3 : Int32))] [] (sk_mW 113 sc_I3)) : sk_G l (sk_rm 2 120 5587) m_X8_init sk_Ex0 (sk_Zm m_X8_init none (sk_mW 121 sc_Q)) 111 5536 172 [some (.inr (.inr (some (0, 0)))), some (.inl (2 : Int32))] [] (sk_mW 112 sc_I2) := by
  refine sg_iload_n 173 (sk_td o_X8_init 87 rfl) rfl rfl ?_
  refine sg_bipush (v := (8 : Int32)) 175 (sk_td o_X8_init 88 rfl) rfl (by decide) ?_
  refine sg_ic_ge 197 178 (sk_td o_X8_init 89 rfl) (by decide) rfl (fun hc => absurd hc (by decide)) (fun _ => ?_)
  refine sg_aload_n 179 (sk_td o_X8_init 90 rfl) rfl rfl ?_
  refine sl_getR (a := (3, 0)) 182 (sk_td o_X8_init 91 rfl) rfl kf_X8_23 rfl rfl (by decide +kernel) (by decide +kernel) ?_
  refine sg_iload_n 183 (sk_td o_X8_init 92 rfl) rfl rfl ?_
  refine sl_new (ci := 1) (s := 42) (k := 2) 113 112 5542 186 (sk_td o_X8_init 93 rfl) rfl kn_X8_21 (by decide) (by decide +kernel) rfl (by decide +kernel) rfl rfl rfl (Nat.le_of_ble_eq_true rfl) (Nat.le_of_ble_eq_true rfl) ?_
  refine sg_dupR 187 (sk_td o_X8_init 94 rfl) rfl ?_
  refine sl_callIN 112 5542 190 (s_X1_init (k := 2)  (by decide +kernel) ) (sk_td o_X8_init 95 rfl) rfl ki_X8_83 ⟨Nat.le_of_ble_eq_true rfl, Nat.le_of_ble_eq_true rfl, Nat.le_of_ble_eq_true rfl, Nat.le_of_ble_eq_true rfl⟩ (Nat.le_of_ble_eq_true rfl) rfl rfl ?_
  refine sl_aast (ci := 1) sc_I3 2 191 rfl (by decide) (sk_td o_X8_init 96 rfl) rfl rfl rfl rfl (by decide) (by decide +kernel) rfl (by decide +kernel) (by decide) ?_
  refine sg_iinc (3 : Int32) 194 [some (.inr (.inr (some (0, 0)))), some (.inl (3 : Int32))] (sk_td o_X8_init 97 rfl) rfl rfl (by decide) rfl (Nat.le_of_ble_eq_true rfl) rfl ?_
  refine sg_goto 172 (sk_td o_X8_init 98 rfl) (by decide) ?_
  exact kk
set_option maxRecDepth 100000 in
set_option maxHeartbeats 4000000 in
theorem x8_I3 {l : Launch} (kk : sk_G l (sk_rm 2 120 5587) m_X8_init sk_Ex0 (sk_Zm m_X8_init none (sk_mW 121 sc_Q)) 113 5548 172 [some (.inr (.inr (some (0, 0)))), some (.inl (4 : Int32))] [] (sk_mW 114 sc_I4)) : sk_G l (sk_rm 2 120 5587) m_X8_init sk_Ex0 (sk_Zm m_X8_init none (sk_mW 121 sc_Q)) 112 5542 172 [some (.inr (.inr (some (0, 0)))), some (.inl (3 : Int32))] [] (sk_mW 113 sc_I3) := by
  refine sg_iload_n 173 (sk_td o_X8_init 87 rfl) rfl rfl ?_
  refine sg_bipush (v := (8 : Int32)) 175 (sk_td o_X8_init 88 rfl) rfl (by decide) ?_
  refine sg_ic_ge 197 178 (sk_td o_X8_init 89 rfl) (by decide) rfl (fun hc => absurd hc (by decide)) (fun _ => ?_)
  refine sg_aload_n 179 (sk_td o_X8_init 90 rfl) rfl rfl ?_
  refine sl_getR (a := (3, 0)) 182 (sk_td o_X8_init 91 rfl) rfl kf_X8_23 rfl rfl (by decide +kernel) (by decide +kernel) ?_
  refine sg_iload_n 183 (sk_td o_X8_init 92 rfl) rfl rfl ?_
  refine sl_new (ci := 1) (s := 42) (k := 3) 114 113 5548 186 (sk_td o_X8_init 93 rfl) rfl kn_X8_21 (by decide) (by decide +kernel) rfl (by decide +kernel) rfl rfl rfl (Nat.le_of_ble_eq_true rfl) (Nat.le_of_ble_eq_true rfl) ?_
  refine sg_dupR 187 (sk_td o_X8_init 94 rfl) rfl ?_
  refine sl_callIN 113 5548 190 (s_X1_init (k := 3)  (by decide +kernel) ) (sk_td o_X8_init 95 rfl) rfl ki_X8_83 ⟨Nat.le_of_ble_eq_true rfl, Nat.le_of_ble_eq_true rfl, Nat.le_of_ble_eq_true rfl, Nat.le_of_ble_eq_true rfl⟩ (Nat.le_of_ble_eq_true rfl) rfl rfl ?_
  refine sl_aast (ci := 1) sc_I4 3 191 rfl (by decide) (sk_td o_X8_init 96 rfl) rfl rfl rfl rfl (by decide) (by decide +kernel) rfl (by decide +kernel) (by decide) ?_
  refine sg_iinc (4 : Int32) 194 [some (.inr (.inr (some (0, 0)))), some (.inl (4 : Int32))] (sk_td o_X8_init 97 rfl) rfl rfl (by decide) rfl (Nat.le_of_ble_eq_true rfl) rfl ?_
  refine sg_goto 172 (sk_td o_X8_init 98 rfl) (by decide) ?_
  exact kk
set_option maxRecDepth 100000 in
set_option maxHeartbeats 4000000 in
theorem x8_I4 {l : Launch} (kk : sk_G l (sk_rm 2 120 5587) m_X8_init sk_Ex0 (sk_Zm m_X8_init none (sk_mW 121 sc_Q)) 114 5554 172 [some (.inr (.inr (some (0, 0)))), some (.inl (5 : Int32))] [] (sk_mW 115 sc_I5)) : sk_G l (sk_rm 2 120 5587) m_X8_init sk_Ex0 (sk_Zm m_X8_init none (sk_mW 121 sc_Q)) 113 5548 172 [some (.inr (.inr (some (0, 0)))), some (.inl (4 : Int32))] [] (sk_mW 114 sc_I4) := by
  refine sg_iload_n 173 (sk_td o_X8_init 87 rfl) rfl rfl ?_
  refine sg_bipush (v := (8 : Int32)) 175 (sk_td o_X8_init 88 rfl) rfl (by decide) ?_
  refine sg_ic_ge 197 178 (sk_td o_X8_init 89 rfl) (by decide) rfl (fun hc => absurd hc (by decide)) (fun _ => ?_)
  refine sg_aload_n 179 (sk_td o_X8_init 90 rfl) rfl rfl ?_
  refine sl_getR (a := (3, 0)) 182 (sk_td o_X8_init 91 rfl) rfl kf_X8_23 rfl rfl (by decide +kernel) (by decide +kernel) ?_
  refine sg_iload_n 183 (sk_td o_X8_init 92 rfl) rfl rfl ?_
  refine sl_new (ci := 1) (s := 42) (k := 4) 115 114 5554 186 (sk_td o_X8_init 93 rfl) rfl kn_X8_21 (by decide) (by decide +kernel) rfl (by decide +kernel) rfl rfl rfl (Nat.le_of_ble_eq_true rfl) (Nat.le_of_ble_eq_true rfl) ?_
  refine sg_dupR 187 (sk_td o_X8_init 94 rfl) rfl ?_
  refine sl_callIN 114 5554 190 (s_X1_init (k := 4)  (by decide +kernel) ) (sk_td o_X8_init 95 rfl) rfl ki_X8_83 ⟨Nat.le_of_ble_eq_true rfl, Nat.le_of_ble_eq_true rfl, Nat.le_of_ble_eq_true rfl, Nat.le_of_ble_eq_true rfl⟩ (Nat.le_of_ble_eq_true rfl) rfl rfl ?_
  refine sl_aast (ci := 1) sc_I5 4 191 rfl (by decide) (sk_td o_X8_init 96 rfl) rfl rfl rfl rfl (by decide) (by decide +kernel) rfl (by decide +kernel) (by decide) ?_
  refine sg_iinc (5 : Int32) 194 [some (.inr (.inr (some (0, 0)))), some (.inl (5 : Int32))] (sk_td o_X8_init 97 rfl) rfl rfl (by decide) rfl (Nat.le_of_ble_eq_true rfl) rfl ?_
  refine sg_goto 172 (sk_td o_X8_init 98 rfl) (by decide) ?_
  exact kk
set_option maxRecDepth 100000 in
set_option maxHeartbeats 4000000 in
theorem x8_I5 {l : Launch} (kk : sk_G l (sk_rm 2 120 5587) m_X8_init sk_Ex0 (sk_Zm m_X8_init none (sk_mW 121 sc_Q)) 115 5560 172 [some (.inr (.inr (some (0, 0)))), some (.inl (6 : Int32))] [] (sk_mW 116 sc_I6)) : sk_G l (sk_rm 2 120 5587) m_X8_init sk_Ex0 (sk_Zm m_X8_init none (sk_mW 121 sc_Q)) 114 5554 172 [some (.inr (.inr (some (0, 0)))), some (.inl (5 : Int32))] [] (sk_mW 115 sc_I5) := by
  refine sg_iload_n 173 (sk_td o_X8_init 87 rfl) rfl rfl ?_
  refine sg_bipush (v := (8 : Int32)) 175 (sk_td o_X8_init 88 rfl) rfl (by decide) ?_
  refine sg_ic_ge 197 178 (sk_td o_X8_init 89 rfl) (by decide) rfl (fun hc => absurd hc (by decide)) (fun _ => ?_)
  refine sg_aload_n 179 (sk_td o_X8_init 90 rfl) rfl rfl ?_
  refine sl_getR (a := (3, 0)) 182 (sk_td o_X8_init 91 rfl) rfl kf_X8_23 rfl rfl (by decide +kernel) (by decide +kernel) ?_
  refine sg_iload_n 183 (sk_td o_X8_init 92 rfl) rfl rfl ?_
  refine sl_new (ci := 1) (s := 42) (k := 5) 116 115 5560 186 (sk_td o_X8_init 93 rfl) rfl kn_X8_21 (by decide) (by decide +kernel) rfl (by decide +kernel) rfl rfl rfl (Nat.le_of_ble_eq_true rfl) (Nat.le_of_ble_eq_true rfl) ?_
  refine sg_dupR 187 (sk_td o_X8_init 94 rfl) rfl ?_
  refine sl_callIN 115 5560 190 (s_X1_init (k := 5)  (by decide +kernel) ) (sk_td o_X8_init 95 rfl) rfl ki_X8_83 ⟨Nat.le_of_ble_eq_true rfl, Nat.le_of_ble_eq_true rfl, Nat.le_of_ble_eq_true rfl, Nat.le_of_ble_eq_true rfl⟩ (Nat.le_of_ble_eq_true rfl) rfl rfl ?_
  refine sl_aast (ci := 1) sc_I6 5 191 rfl (by decide) (sk_td o_X8_init 96 rfl) rfl rfl rfl rfl (by decide) (by decide +kernel) rfl (by decide +kernel) (by decide) ?_
  refine sg_iinc (6 : Int32) 194 [some (.inr (.inr (some (0, 0)))), some (.inl (6 : Int32))] (sk_td o_X8_init 97 rfl) rfl rfl (by decide) rfl (Nat.le_of_ble_eq_true rfl) rfl ?_
  refine sg_goto 172 (sk_td o_X8_init 98 rfl) (by decide) ?_
  exact kk
set_option maxRecDepth 100000 in
set_option maxHeartbeats 4000000 in
theorem x8_I6 {l : Launch} (kk : sk_G l (sk_rm 2 120 5587) m_X8_init sk_Ex0 (sk_Zm m_X8_init none (sk_mW 121 sc_Q)) 116 5566 172 [some (.inr (.inr (some (0, 0)))), some (.inl (7 : Int32))] [] (sk_mW 117 sc_I7)) : sk_G l (sk_rm 2 120 5587) m_X8_init sk_Ex0 (sk_Zm m_X8_init none (sk_mW 121 sc_Q)) 115 5560 172 [some (.inr (.inr (some (0, 0)))), some (.inl (6 : Int32))] [] (sk_mW 116 sc_I6) := by
  refine sg_iload_n 173 (sk_td o_X8_init 87 rfl) rfl rfl ?_
  refine sg_bipush (v := (8 : Int32)) 175 (sk_td o_X8_init 88 rfl) rfl (by decide) ?_
  refine sg_ic_ge 197 178 (sk_td o_X8_init 89 rfl) (by decide) rfl (fun hc => absurd hc (by decide)) (fun _ => ?_)
  refine sg_aload_n 179 (sk_td o_X8_init 90 rfl) rfl rfl ?_
  refine sl_getR (a := (3, 0)) 182 (sk_td o_X8_init 91 rfl) rfl kf_X8_23 rfl rfl (by decide +kernel) (by decide +kernel) ?_
  refine sg_iload_n 183 (sk_td o_X8_init 92 rfl) rfl rfl ?_
  refine sl_new (ci := 1) (s := 42) (k := 6) 117 116 5566 186 (sk_td o_X8_init 93 rfl) rfl kn_X8_21 (by decide) (by decide +kernel) rfl (by decide +kernel) rfl rfl rfl (Nat.le_of_ble_eq_true rfl) (Nat.le_of_ble_eq_true rfl) ?_
  refine sg_dupR 187 (sk_td o_X8_init 94 rfl) rfl ?_
  refine sl_callIN 116 5566 190 (s_X1_init (k := 6)  (by decide +kernel) ) (sk_td o_X8_init 95 rfl) rfl ki_X8_83 ⟨Nat.le_of_ble_eq_true rfl, Nat.le_of_ble_eq_true rfl, Nat.le_of_ble_eq_true rfl, Nat.le_of_ble_eq_true rfl⟩ (Nat.le_of_ble_eq_true rfl) rfl rfl ?_
  refine sl_aast (ci := 1) sc_I7 6 191 rfl (by decide) (sk_td o_X8_init 96 rfl) rfl rfl rfl rfl (by decide) (by decide +kernel) rfl (by decide +kernel) (by decide) ?_
  refine sg_iinc (7 : Int32) 194 [some (.inr (.inr (some (0, 0)))), some (.inl (7 : Int32))] (sk_td o_X8_init 97 rfl) rfl rfl (by decide) rfl (Nat.le_of_ble_eq_true rfl) rfl ?_
  refine sg_goto 172 (sk_td o_X8_init 98 rfl) (by decide) ?_
  exact kk
set_option maxRecDepth 100000 in
set_option maxHeartbeats 4000000 in
theorem x8_I7 {l : Launch} (kk : sk_G l (sk_rm 2 120 5587) m_X8_init sk_Ex0 (sk_Zm m_X8_init none (sk_mW 121 sc_Q)) 117 5572 172 [some (.inr (.inr (some (0, 0)))), some (.inl (8 : Int32))] [] (sk_mW 118 sc_I8)) : sk_G l (sk_rm 2 120 5587) m_X8_init sk_Ex0 (sk_Zm m_X8_init none (sk_mW 121 sc_Q)) 116 5566 172 [some (.inr (.inr (some (0, 0)))), some (.inl (7 : Int32))] [] (sk_mW 117 sc_I7) := by
  refine sg_iload_n 173 (sk_td o_X8_init 87 rfl) rfl rfl ?_
  refine sg_bipush (v := (8 : Int32)) 175 (sk_td o_X8_init 88 rfl) rfl (by decide) ?_
  refine sg_ic_ge 197 178 (sk_td o_X8_init 89 rfl) (by decide) rfl (fun hc => absurd hc (by decide)) (fun _ => ?_)
  refine sg_aload_n 179 (sk_td o_X8_init 90 rfl) rfl rfl ?_
  refine sl_getR (a := (3, 0)) 182 (sk_td o_X8_init 91 rfl) rfl kf_X8_23 rfl rfl (by decide +kernel) (by decide +kernel) ?_
  refine sg_iload_n 183 (sk_td o_X8_init 92 rfl) rfl rfl ?_
  refine sl_new (ci := 1) (s := 42) (k := 7) 118 117 5572 186 (sk_td o_X8_init 93 rfl) rfl kn_X8_21 (by decide) (by decide +kernel) rfl (by decide +kernel) rfl rfl rfl (Nat.le_of_ble_eq_true rfl) (Nat.le_of_ble_eq_true rfl) ?_
  refine sg_dupR 187 (sk_td o_X8_init 94 rfl) rfl ?_
  refine sl_callIN 117 5572 190 (s_X1_init (k := 7)  (by decide +kernel) ) (sk_td o_X8_init 95 rfl) rfl ki_X8_83 ⟨Nat.le_of_ble_eq_true rfl, Nat.le_of_ble_eq_true rfl, Nat.le_of_ble_eq_true rfl, Nat.le_of_ble_eq_true rfl⟩ (Nat.le_of_ble_eq_true rfl) rfl rfl ?_
  refine sl_aast (ci := 1) sc_I8 7 191 rfl (by decide) (sk_td o_X8_init 96 rfl) rfl rfl rfl rfl (by decide) (by decide +kernel) rfl (by decide +kernel) (by decide) ?_
  refine sg_iinc (8 : Int32) 194 [some (.inr (.inr (some (0, 0)))), some (.inl (8 : Int32))] (sk_td o_X8_init 97 rfl) rfl rfl (by decide) rfl (Nat.le_of_ble_eq_true rfl) rfl ?_
  refine sg_goto 172 (sk_td o_X8_init 98 rfl) (by decide) ?_
  exact kk
set_option maxRecDepth 100000 in
set_option maxHeartbeats 4000000 in
theorem x8_L0 {l : Launch} (kk : sk_G l (sk_rm 2 120 5587) m_X8_init sk_Ex0 (sk_Zm m_X8_init none (sk_mW 121 sc_Q)) 118 5577 199 [some (.inr (.inr (some (0, 0)))), some (.inl (1 : Int32))] [] (sk_mW 119 sc_L1)) : sk_G l (sk_rm 2 120 5587) m_X8_init sk_Ex0 (sk_Zm m_X8_init none (sk_mW 121 sc_Q)) 117 5572 199 [some (.inr (.inr (some (0, 0)))), some (.inl (0 : Int32))] [] (sk_mW 118 sc_I8) := by
  refine sg_iload_n 200 (sk_td o_X8_init 101 rfl) rfl rfl ?_
  refine sg_iconst (v := (3 : Int32)) 201 (sk_td o_X8_init 102 rfl) rfl (by decide) ?_
  refine sg_ic_ge 223 204 (sk_td o_X8_init 103 rfl) (by decide) rfl (fun hc => absurd hc (by decide)) (fun _ => ?_)
  refine sg_aload_n 205 (sk_td o_X8_init 104 rfl) rfl rfl ?_
  refine sl_getR (a := (4, 0)) 208 (sk_td o_X8_init 105 rfl) rfl kf_X8_29 rfl rfl (by decide +kernel) (by decide +kernel) ?_
  refine sg_iload_n 209 (sk_td o_X8_init 106 rfl) rfl rfl ?_
  refine sl_new (ci := 2) (s := 43) (k := 0) 119 118 5577 212 (sk_td o_X8_init 107 rfl) rfl kn_X8_27 (by decide) (by decide +kernel) rfl (by decide +kernel) rfl rfl rfl (Nat.le_of_ble_eq_true rfl) (Nat.le_of_ble_eq_true rfl) ?_
  refine sg_dupR 213 (sk_td o_X8_init 108 rfl) rfl ?_
  refine sl_callIN 118 5577 216 (s_X2_init (k := 0)  (by decide +kernel) ) (sk_td o_X8_init 109 rfl) rfl ki_X8_84 ⟨Nat.le_of_ble_eq_true rfl, Nat.le_of_ble_eq_true rfl, Nat.le_of_ble_eq_true rfl, Nat.le_of_ble_eq_true rfl⟩ (Nat.le_of_ble_eq_true rfl) rfl rfl ?_
  refine sl_aast (ci := 2) sc_L1 0 217 rfl (by decide) (sk_td o_X8_init 110 rfl) rfl rfl rfl rfl (by decide) (by decide +kernel) rfl (by decide +kernel) (by decide) ?_
  refine sg_iinc (1 : Int32) 220 [some (.inr (.inr (some (0, 0)))), some (.inl (1 : Int32))] (sk_td o_X8_init 111 rfl) rfl rfl (by decide) rfl (Nat.le_of_ble_eq_true rfl) rfl ?_
  refine sg_goto 199 (sk_td o_X8_init 112 rfl) (by decide) ?_
  exact kk
set_option maxRecDepth 100000 in
set_option maxHeartbeats 4000000 in
theorem x8_L1 {l : Launch} (kk : sk_G l (sk_rm 2 120 5587) m_X8_init sk_Ex0 (sk_Zm m_X8_init none (sk_mW 121 sc_Q)) 119 5582 199 [some (.inr (.inr (some (0, 0)))), some (.inl (2 : Int32))] [] (sk_mW 120 sc_L2)) : sk_G l (sk_rm 2 120 5587) m_X8_init sk_Ex0 (sk_Zm m_X8_init none (sk_mW 121 sc_Q)) 118 5577 199 [some (.inr (.inr (some (0, 0)))), some (.inl (1 : Int32))] [] (sk_mW 119 sc_L1) := by
  refine sg_iload_n 200 (sk_td o_X8_init 101 rfl) rfl rfl ?_
  refine sg_iconst (v := (3 : Int32)) 201 (sk_td o_X8_init 102 rfl) rfl (by decide) ?_
  refine sg_ic_ge 223 204 (sk_td o_X8_init 103 rfl) (by decide) rfl (fun hc => absurd hc (by decide)) (fun _ => ?_)
  refine sg_aload_n 205 (sk_td o_X8_init 104 rfl) rfl rfl ?_
  refine sl_getR (a := (4, 0)) 208 (sk_td o_X8_init 105 rfl) rfl kf_X8_29 rfl rfl (by decide +kernel) (by decide +kernel) ?_
  refine sg_iload_n 209 (sk_td o_X8_init 106 rfl) rfl rfl ?_
  refine sl_new (ci := 2) (s := 43) (k := 1) 120 119 5582 212 (sk_td o_X8_init 107 rfl) rfl kn_X8_27 (by decide) (by decide +kernel) rfl (by decide +kernel) rfl rfl rfl (Nat.le_of_ble_eq_true rfl) (Nat.le_of_ble_eq_true rfl) ?_
  refine sg_dupR 213 (sk_td o_X8_init 108 rfl) rfl ?_
  refine sl_callIN 119 5582 216 (s_X2_init (k := 1)  (by decide +kernel) ) (sk_td o_X8_init 109 rfl) rfl ki_X8_84 ⟨Nat.le_of_ble_eq_true rfl, Nat.le_of_ble_eq_true rfl, Nat.le_of_ble_eq_true rfl, Nat.le_of_ble_eq_true rfl⟩ (Nat.le_of_ble_eq_true rfl) rfl rfl ?_
  refine sl_aast (ci := 2) sc_L2 1 217 rfl (by decide) (sk_td o_X8_init 110 rfl) rfl rfl rfl rfl (by decide) (by decide +kernel) rfl (by decide +kernel) (by decide) ?_
  refine sg_iinc (2 : Int32) 220 [some (.inr (.inr (some (0, 0)))), some (.inl (2 : Int32))] (sk_td o_X8_init 111 rfl) rfl rfl (by decide) rfl (Nat.le_of_ble_eq_true rfl) rfl ?_
  refine sg_goto 199 (sk_td o_X8_init 112 rfl) (by decide) ?_
  exact kk
set_option maxRecDepth 100000 in
set_option maxHeartbeats 4000000 in
theorem x8_L2 {l : Launch} (kk : sk_G l (sk_rm 2 120 5587) m_X8_init sk_Ex0 (sk_Zm m_X8_init none (sk_mW 121 sc_Q)) 120 5587 199 [some (.inr (.inr (some (0, 0)))), some (.inl (3 : Int32))] [] (sk_mW 121 sc_Q)) : sk_G l (sk_rm 2 120 5587) m_X8_init sk_Ex0 (sk_Zm m_X8_init none (sk_mW 121 sc_Q)) 119 5582 199 [some (.inr (.inr (some (0, 0)))), some (.inl (2 : Int32))] [] (sk_mW 120 sc_L2) := by
  refine sg_iload_n 200 (sk_td o_X8_init 101 rfl) rfl rfl ?_
  refine sg_iconst (v := (3 : Int32)) 201 (sk_td o_X8_init 102 rfl) rfl (by decide) ?_
  refine sg_ic_ge 223 204 (sk_td o_X8_init 103 rfl) (by decide) rfl (fun hc => absurd hc (by decide)) (fun _ => ?_)
  refine sg_aload_n 205 (sk_td o_X8_init 104 rfl) rfl rfl ?_
  refine sl_getR (a := (4, 0)) 208 (sk_td o_X8_init 105 rfl) rfl kf_X8_29 rfl rfl (by decide +kernel) (by decide +kernel) ?_
  refine sg_iload_n 209 (sk_td o_X8_init 106 rfl) rfl rfl ?_
  refine sl_new (ci := 2) (s := 43) (k := 2) 121 120 5587 212 (sk_td o_X8_init 107 rfl) rfl kn_X8_27 (by decide) (by decide +kernel) rfl (by decide +kernel) rfl rfl rfl (Nat.le_of_ble_eq_true rfl) (Nat.le_of_ble_eq_true rfl) ?_
  refine sg_dupR 213 (sk_td o_X8_init 108 rfl) rfl ?_
  refine sl_callIN 120 5587 216 (s_X2_init (k := 2)  (by decide +kernel) ) (sk_td o_X8_init 109 rfl) rfl ki_X8_84 ⟨Nat.le_of_ble_eq_true rfl, Nat.le_of_ble_eq_true rfl, Nat.le_of_ble_eq_true rfl, Nat.le_of_ble_eq_true rfl⟩ (Nat.le_of_ble_eq_true rfl) rfl rfl ?_
  refine sl_aast (ci := 2) sc_Q 2 217 rfl (by decide) (sk_td o_X8_init 110 rfl) rfl rfl rfl rfl (by decide) (by decide +kernel) rfl (by decide +kernel) (by decide) ?_
  refine sg_iinc (3 : Int32) 220 [some (.inr (.inr (some (0, 0)))), some (.inl (3 : Int32))] (sk_td o_X8_init 111 rfl) rfl rfl (by decide) rfl (Nat.le_of_ble_eq_true rfl) rfl ?_
  refine sg_goto 199 (sk_td o_X8_init 112 rfl) (by decide) ?_
  exact kk
set_option maxRecDepth 100000 in
set_option maxHeartbeats 4000000 in
theorem s_X8_init (hmn : sc_MN) {l : Launch} : sk_M l 2 m_X8_init [.inr (.inr (some (0, 0)))] (sk_mW 1 []) none (sk_mW 121 sc_Q) := by
  refine sk_enter (by decide) (fun _ => Nat.le_of_ble_eq_true rfl) (Nat.le_of_ble_eq_true rfl) ?_
  show sk_G l (sk_rm 2 120 5587) m_X8_init sk_Ex0 (sk_Zm m_X8_init none (sk_mW 121 sc_Q)) 0 0 0 [some (.inr (.inr (some (0, 0)))), none] [] (sk_mW 1 [])
  refine sg_aload_n 1 (sk_td o_X8_init 0 rfl) rfl rfl ?_
  refine sg_objI 4 (sk_td o_X8_init 1 rfl) rfl kO_X8_1 (Nat.le_of_ble_eq_true rfl) (Nat.le_of_ble_eq_true rfl) (Nat.le_of_ble_eq_true rfl) ?_
  refine sg_aload_n 5 (sk_td o_X8_init 2 rfl) rfl rfl ?_
  refine sg_bipush (v := (20 : Int32)) 7 (sk_td o_X8_init 3 rfl) rfl (by decide) ?_
  refine sl_anew (kd := 5) (N := 20) (s := 1) (k := 0) 2 1 20 10 (sk_td o_X8_init 4 rfl) rfl kcl_X8_9 kov_Pupil rfl (by decide) (by decide) (by decide +kernel) rfl (by decide +kernel) (by decide) (by decide) (Nat.le_of_ble_eq_true rfl) rfl rfl rfl (Nat.le_of_ble_eq_true rfl) (Nat.le_of_ble_eq_true rfl) ?_
  refine sl_putF _ 13 rfl (sk_td o_X8_init 5 rfl) rfl kr_X8_11 rfl rfl rfl (by decide +kernel) ?_
  refine sg_aload_n 14 (sk_td o_X8_init 6 rfl) rfl rfl ?_
  refine sg_iconst (v := (4 : Int32)) 15 (sk_td o_X8_init 7 rfl) rfl (by decide) ?_
  refine sl_anew (kd := 6) (N := 4) (s := 2) (k := 0) 3 2 24 18 (sk_td o_X8_init 8 rfl) rfl kcl_X8_15 kov_Group rfl (by decide) (by decide) (by decide +kernel) rfl (by decide +kernel) (by decide) (by decide) (Nat.le_of_ble_eq_true rfl) rfl rfl rfl (Nat.le_of_ble_eq_true rfl) (Nat.le_of_ble_eq_true rfl) ?_
  refine sl_putF _ 21 rfl (sk_td o_X8_init 9 rfl) rfl kr_X8_17 rfl rfl rfl (by decide +kernel) ?_
  refine sg_aload_n 22 (sk_td o_X8_init 10 rfl) rfl rfl ?_
  refine sg_bipush (v := (8 : Int32)) 24 (sk_td o_X8_init 11 rfl) rfl (by decide) ?_
  refine sl_anew (kd := 7) (N := 8) (s := 3) (k := 0) 4 3 32 27 (sk_td o_X8_init 12 rfl) rfl kcl_X8_21 kov_Instructor rfl (by decide) (by decide) (by decide +kernel) rfl (by decide +kernel) (by decide) (by decide) (Nat.le_of_ble_eq_true rfl) rfl rfl rfl (Nat.le_of_ble_eq_true rfl) (Nat.le_of_ble_eq_true rfl) ?_
  refine sl_putF _ 30 rfl (sk_td o_X8_init 13 rfl) rfl kr_X8_23 rfl rfl rfl (by decide +kernel) ?_
  refine sg_aload_n 31 (sk_td o_X8_init 14 rfl) rfl rfl ?_
  refine sg_iconst (v := (3 : Int32)) 32 (sk_td o_X8_init 15 rfl) rfl (by decide) ?_
  refine sl_anew (kd := 8) (N := 3) (s := 4) (k := 0) 5 4 35 35 (sk_td o_X8_init 16 rfl) rfl kcl_X8_27 kov_Lift rfl (by decide) (by decide) (by decide +kernel) rfl (by decide +kernel) (by decide) (by decide) (Nat.le_of_ble_eq_true rfl) rfl rfl rfl (Nat.le_of_ble_eq_true rfl) (Nat.le_of_ble_eq_true rfl) ?_
  refine sl_putF _ 38 rfl (sk_td o_X8_init 17 rfl) rfl kr_X8_29 rfl rfl rfl (by decide +kernel) ?_
  refine sg_aload_n 39 (sk_td o_X8_init 18 rfl) rfl rfl ?_
  refine sg_bipush (v := (8 : Int32)) 41 (sk_td o_X8_init 19 rfl) rfl (by decide) ?_
  refine sl_newa (kd := 2) (N := 8) (s := 5) (k := 0) 6 5 43 43 (sk_td o_X8_init 20 rfl) rfl kar_boolean rfl (by decide) (by decide) (by decide +kernel) rfl (by decide +kernel) (by decide) (by decide) (Nat.le_of_ble_eq_true rfl) rfl rfl rfl (Nat.le_of_ble_eq_true rfl) (Nat.le_of_ble_eq_true rfl) ?_
  refine sl_putF _ 46 rfl (sk_td o_X8_init 21 rfl) rfl kr_X8_33 rfl rfl rfl (by decide +kernel) ?_
  refine sg_aload_n 47 (sk_td o_X8_init 22 rfl) rfl rfl ?_
  refine sl_new (ci := 3) (s := 6) (k := 0) 7 6 56 50 (sk_td o_X8_init 23 rfl) rfl kn_X8_37 (by decide) (by decide +kernel) rfl (by decide +kernel) rfl rfl rfl (Nat.le_of_ble_eq_true rfl) (Nat.le_of_ble_eq_true rfl) ?_
  refine sg_dupR 51 (sk_td o_X8_init 24 rfl) rfl ?_
  refine sl_callIN 37 5042 54 (s_X3_init hmn) (sk_td o_X8_init 25 rfl) rfl ki_X8_39 ⟨Nat.le_of_ble_eq_true rfl, Nat.le_of_ble_eq_true rfl, Nat.le_of_ble_eq_true rfl, Nat.le_of_ble_eq_true rfl⟩ (Nat.le_of_ble_eq_true rfl) rfl rfl ?_
  refine sl_putF _ 57 rfl (sk_td o_X8_init 26 rfl) rfl kr_X8_40 rfl rfl rfl (by decide +kernel) ?_
  refine sg_aload_n 58 (sk_td o_X8_init 27 rfl) rfl rfl ?_
  refine sl_new (ci := 7) (s := 19) (k := 0) 39 38 5046 61 (sk_td o_X8_init 28 rfl) rfl kn_X8_44 (by decide) (by decide +kernel) rfl (by decide +kernel) rfl rfl rfl (Nat.le_of_ble_eq_true rfl) (Nat.le_of_ble_eq_true rfl) ?_
  refine sg_dupR 62 (sk_td o_X8_init 29 rfl) rfl ?_
  refine sl_callIN 41 5058 65 (s_X7_init hmn) (sk_td o_X8_init 30 rfl) rfl ki_X8_46 ⟨Nat.le_of_ble_eq_true rfl, Nat.le_of_ble_eq_true rfl, Nat.le_of_ble_eq_true rfl, Nat.le_of_ble_eq_true rfl⟩ (Nat.le_of_ble_eq_true rfl) rfl rfl ?_
  refine sl_putF _ 68 rfl (sk_td o_X8_init 31 rfl) rfl kr_X8_47 rfl rfl rfl (by decide +kernel) ?_
  refine sg_aload_n 69 (sk_td o_X8_init 32 rfl) rfl rfl ?_
  refine sl_new (ci := 6) (s := 23) (k := 0) 43 42 5068 72 (sk_td o_X8_init 33 rfl) rfl kn_X8_51 (by decide) (by decide +kernel) rfl (by decide +kernel) rfl rfl rfl (Nat.le_of_ble_eq_true rfl) (Nat.le_of_ble_eq_true rfl) ?_
  refine sg_dupR 73 (sk_td o_X8_init 34 rfl) rfl ?_
  refine sl_callIN 55 5116 76 (s_X6_init hmn) (sk_td o_X8_init 35 rfl) rfl ki_X8_53 ⟨Nat.le_of_ble_eq_true rfl, Nat.le_of_ble_eq_true rfl, Nat.le_of_ble_eq_true rfl, Nat.le_of_ble_eq_true rfl⟩ (Nat.le_of_ble_eq_true rfl) rfl rfl ?_
  refine sl_putF _ 79 rfl (sk_td o_X8_init 36 rfl) rfl kr_X8_54 rfl rfl rfl (by decide +kernel) ?_
  refine sg_aload_n 80 (sk_td o_X8_init 37 rfl) rfl rfl ?_
  refine sl_new (ci := 5) (s := 35) (k := 0) 57 56 5128 83 (sk_td o_X8_init 38 rfl) rfl kn_X8_58 (by decide) (by decide +kernel) rfl (by decide +kernel) rfl rfl rfl (Nat.le_of_ble_eq_true rfl) (Nat.le_of_ble_eq_true rfl) ?_
  refine sg_dupR 84 (sk_td o_X8_init 39 rfl) rfl ?_
  refine sl_callIN 57 5228 87 (s_X5_init hmn) (sk_td o_X8_init 40 rfl) rfl ki_X8_60 ⟨Nat.le_of_ble_eq_true rfl, Nat.le_of_ble_eq_true rfl, Nat.le_of_ble_eq_true rfl, Nat.le_of_ble_eq_true rfl⟩ (Nat.le_of_ble_eq_true rfl) rfl rfl ?_
  refine sl_putF _ 90 rfl (sk_td o_X8_init 41 rfl) rfl kr_X8_61 rfl rfl rfl (by decide +kernel) ?_
  refine sg_aload_n 91 (sk_td o_X8_init 42 rfl) rfl rfl ?_
  refine sg_iconst (v := (0 : Int32)) 92 (sk_td o_X8_init 43 rfl) rfl (by decide) ?_
  refine sl_putI _ 95 rfl (sk_td o_X8_init 44 rfl) rfl kq_X8_65 rfl rfl (by decide +kernel) rfl rfl ?_
  refine sg_aload_n 96 (sk_td o_X8_init 45 rfl) rfl rfl ?_
  refine sg_bipush (v := (24 : Int32)) 98 (sk_td o_X8_init 46 rfl) rfl (by decide) ?_
  refine sl_putI _ 101 rfl (sk_td o_X8_init 47 rfl) rfl kq_X8_69 rfl rfl (by decide +kernel) rfl rfl ?_
  refine sg_aload_n 102 (sk_td o_X8_init 48 rfl) rfl rfl ?_
  refine sg_iconst (v := (4 : Int32)) 103 (sk_td o_X8_init 49 rfl) rfl (by decide) ?_
  refine sl_putI _ 106 rfl (sk_td o_X8_init 50 rfl) rfl kq_X8_72 rfl rfl (by decide +kernel) rfl rfl ?_
  refine sg_aload_n 107 (sk_td o_X8_init 51 rfl) rfl rfl ?_
  refine sg_bipush (v := (8 : Int32)) 109 (sk_td o_X8_init 52 rfl) rfl (by decide) ?_
  refine sl_putI _ 112 rfl (sk_td o_X8_init 53 rfl) rfl kq_X8_75 rfl rfl (by decide +kernel) rfl rfl ?_
  refine sg_aload_n 113 (sk_td o_X8_init 54 rfl) rfl rfl ?_
  refine sg_iconst (v := (0 : Int32)) 114 (sk_td o_X8_init 55 rfl) rfl (by decide) ?_
  refine sl_putI _ 117 rfl (sk_td o_X8_init 56 rfl) rfl kq_X8_78 rfl rfl (by decide +kernel) rfl rfl ?_
  refine sg_iconst (v := (0 : Int32)) 118 (sk_td o_X8_init 57 rfl) rfl (by decide) ?_
  refine sg_istore_n 119 [some (.inr (.inr (some (0, 0)))), some (.inl (0 : Int32))] (sk_td o_X8_init 58 rfl) rfl rfl (Nat.le_of_ble_eq_true rfl) rfl ?_
  refine x8_P0 ?_
  refine x8_P1 ?_
  refine x8_P2 ?_
  refine x8_P3 ?_
  refine x8_P4 ?_
  refine x8_P5 ?_
  refine x8_P6 ?_
  refine x8_P7 ?_
  refine x8_P8 ?_
  refine x8_P9 ?_
  refine x8_P10 ?_
  refine x8_P11 ?_
  refine x8_P12 ?_
  refine x8_P13 ?_
  refine x8_P14 ?_
  refine x8_P15 ?_
  refine x8_P16 ?_
  refine x8_P17 ?_
  refine x8_P18 ?_
  refine x8_P19 ?_
  refine sg_iload_n 120 (sk_td o_X8_init 59 rfl) rfl rfl ?_
  refine sg_bipush (v := (20 : Int32)) 122 (sk_td o_X8_init 60 rfl) rfl (by decide) ?_
  refine sg_ic_ge 144 125 (sk_td o_X8_init 61 rfl) (by decide) rfl (fun _ => ?_) (fun hc => absurd (by decide) hc)
  refine sg_iconst (v := (0 : Int32)) 145 (sk_td o_X8_init 71 rfl) rfl (by decide) ?_
  refine sg_istore_n 146 [some (.inr (.inr (some (0, 0)))), some (.inl (0 : Int32))] (sk_td o_X8_init 72 rfl) rfl rfl (Nat.le_of_ble_eq_true rfl) rfl ?_
  refine x8_G0 ?_
  refine x8_G1 ?_
  refine x8_G2 ?_
  refine x8_G3 ?_
  refine sg_iload_n 147 (sk_td o_X8_init 73 rfl) rfl rfl ?_
  refine sg_iconst (v := (4 : Int32)) 148 (sk_td o_X8_init 74 rfl) rfl (by decide) ?_
  refine sg_ic_ge 170 151 (sk_td o_X8_init 75 rfl) (by decide) rfl (fun _ => ?_) (fun hc => absurd (by decide) hc)
  refine sg_iconst (v := (0 : Int32)) 171 (sk_td o_X8_init 85 rfl) rfl (by decide) ?_
  refine sg_istore_n 172 [some (.inr (.inr (some (0, 0)))), some (.inl (0 : Int32))] (sk_td o_X8_init 86 rfl) rfl rfl (Nat.le_of_ble_eq_true rfl) rfl ?_
  refine x8_I0 ?_
  refine x8_I1 ?_
  refine x8_I2 ?_
  refine x8_I3 ?_
  refine x8_I4 ?_
  refine x8_I5 ?_
  refine x8_I6 ?_
  refine x8_I7 ?_
  refine sg_iload_n 173 (sk_td o_X8_init 87 rfl) rfl rfl ?_
  refine sg_bipush (v := (8 : Int32)) 175 (sk_td o_X8_init 88 rfl) rfl (by decide) ?_
  refine sg_ic_ge 197 178 (sk_td o_X8_init 89 rfl) (by decide) rfl (fun _ => ?_) (fun hc => absurd (by decide) hc)
  refine sg_iconst (v := (0 : Int32)) 198 (sk_td o_X8_init 99 rfl) rfl (by decide) ?_
  refine sg_istore_n 199 [some (.inr (.inr (some (0, 0)))), some (.inl (0 : Int32))] (sk_td o_X8_init 100 rfl) rfl rfl (Nat.le_of_ble_eq_true rfl) rfl ?_
  refine x8_L0 ?_
  refine x8_L1 ?_
  refine x8_L2 ?_
  refine sg_iload_n 200 (sk_td o_X8_init 101 rfl) rfl rfl ?_
  refine sg_iconst (v := (3 : Int32)) 201 (sk_td o_X8_init 102 rfl) rfl (by decide) ?_
  refine sg_ic_ge 223 204 (sk_td o_X8_init 103 rfl) (by decide) rfl (fun _ => ?_) (fun hc => absurd (by decide) hc)
  exact sg_vret (sk_td o_X8_init 113 rfl) rfl
def sc_F : List sc_T := sc_Q
