-- ===== PART A: goes FIRST, ahead of the names: the tables' words, and 'selects' of the private methods out of them =====
/-- a private method of a class that the tables say can be made, by its rows of tables_1 -/
def lw_okq (q : MethodName × Nat) : Prop := (q.1.cls ≠ "java/lang/invoke/MethodHandle" ∧ q.1.cls ≠ "java/lang/invoke/VarHandle") ∧ Cond.instantiable q.1.cls q.2 ∈ tables_1 ∧ Cond.privateMethod q.1 ∈ tables_1 ∧ Cond.instanceMethod q.1 ∈ tables_1
theorem lw_p0 : lw_okq (⟨"SkiSchool", "freePupilNumber", "()I"⟩, 14) := ⟨⟨by decide +kernel, by decide +kernel⟩, List.mem_of_getElem? (i := 14) (by decide +kernel), List.mem_of_getElem? (i := 393) (by decide +kernel), List.mem_of_getElem? (i := 394) (by decide +kernel)⟩
theorem lw_p1 : lw_okq (⟨"SkiSchool", "separateIfBroken", "(I)I"⟩, 14) := ⟨⟨by decide +kernel, by decide +kernel⟩, List.mem_of_getElem? (i := 14) (by decide +kernel), List.mem_of_getElem? (i := 408) (by decide +kernel), List.mem_of_getElem? (i := 409) (by decide +kernel)⟩
theorem lw_p2 : lw_okq (⟨"SkiSchool", "isInOnePlace", "(I)Z"⟩, 14) := ⟨⟨by decide +kernel, by decide +kernel⟩, List.mem_of_getElem? (i := 14) (by decide +kernel), List.mem_of_getElem? (i := 412) (by decide +kernel), List.mem_of_getElem? (i := 413) (by decide +kernel)⟩
theorem lw_p3 : lw_okq (⟨"SkiSchool", "freeGroupNumber", "()I"⟩, 14) := ⟨⟨by decide +kernel, by decide +kernel⟩, List.mem_of_getElem? (i := 14) (by decide +kernel), List.mem_of_getElem? (i := 431) (by decide +kernel), List.mem_of_getElem? (i := 432) (by decide +kernel)⟩
theorem lw_p4 : lw_okq (⟨"SkiSchool", "hasGroup", "(I)Z"⟩, 14) := ⟨⟨by decide +kernel, by decide +kernel⟩, List.mem_of_getElem? (i := 14) (by decide +kernel), List.mem_of_getElem? (i := 443) (by decide +kernel), List.mem_of_getElem? (i := 444) (by decide +kernel)⟩
theorem lw_p5 : lw_okq (⟨"SkiSchool", "countPupilsIn", "(I)I"⟩, 14) := ⟨⟨by decide +kernel, by decide +kernel⟩, List.mem_of_getElem? (i := 14) (by decide +kernel), List.mem_of_getElem? (i := 447) (by decide +kernel), List.mem_of_getElem? (i := 448) (by decide +kernel)⟩
theorem lw_p6 : lw_okq (⟨"SkiSchool$Planner", "gatherUnits", "([LSkiSchool$Pupil;[LSkiSchool$Group;[Z)V"⟩, 13) := ⟨⟨by decide +kernel, by decide +kernel⟩, List.mem_of_getElem? (i := 30) (by decide +kernel), List.mem_of_getElem? (i := 467) (by decide +kernel), List.mem_of_getElem? (i := 468) (by decide +kernel)⟩
theorem lw_p7 : lw_okq (⟨"SkiSchool$Planner", "unitFor", "(I[Z)I"⟩, 13) := ⟨⟨by decide +kernel, by decide +kernel⟩, List.mem_of_getElem? (i := 30) (by decide +kernel), List.mem_of_getElem? (i := 472) (by decide +kernel), List.mem_of_getElem? (i := 473) (by decide +kernel)⟩
theorem lw_p8 : lw_okq (⟨"SkiSchool$Planner", "newUnit", "()I"⟩, 13) := ⟨⟨by decide +kernel, by decide +kernel⟩, List.mem_of_getElem? (i := 30) (by decide +kernel), List.mem_of_getElem? (i := 477) (by decide +kernel), List.mem_of_getElem? (i := 478) (by decide +kernel)⟩
theorem lw_p9 : lw_okq (⟨"SkiSchool$Planner", "addHead", "(ILSkiSchool$Pupil;[LSkiSchool$Group;)V"⟩, 13) := ⟨⟨by decide +kernel, by decide +kernel⟩, List.mem_of_getElem? (i := 30) (by decide +kernel), List.mem_of_getElem? (i := 484) (by decide +kernel), List.mem_of_getElem? (i := 485) (by decide +kernel)⟩
theorem lw_p10 : lw_okq (⟨"SkiSchool$Planner", "limitSeats", "([LSkiSchool$Group;)V"⟩, 13) := ⟨⟨by decide +kernel, by decide +kernel⟩, List.mem_of_getElem? (i := 30) (by decide +kernel), List.mem_of_getElem? (i := 499) (by decide +kernel), List.mem_of_getElem? (i := 500) (by decide +kernel)⟩
theorem lw_p11 : lw_okq (⟨"SkiSchool$Planner", "chooseFor", "(I)V"⟩, 13) := ⟨⟨by decide +kernel, by decide +kernel⟩, List.mem_of_getElem? (i := 30) (by decide +kernel), List.mem_of_getElem? (i := 506) (by decide +kernel), List.mem_of_getElem? (i := 507) (by decide +kernel)⟩
theorem lw_p12 : lw_okq (⟨"SkiSchool$Planner", "listOptions", "(I)I"⟩, 13) := ⟨⟨by decide +kernel, by decide +kernel⟩, List.mem_of_getElem? (i := 30) (by decide +kernel), List.mem_of_getElem? (i := 510) (by decide +kernel), List.mem_of_getElem? (i := 511) (by decide +kernel)⟩
theorem lw_p13 : lw_okq (⟨"SkiSchool$Planner", "countDown", "()V"⟩, 13) := ⟨⟨by decide +kernel, by decide +kernel⟩, List.mem_of_getElem? (i := 30) (by decide +kernel), List.mem_of_getElem? (i := 517) (by decide +kernel), List.mem_of_getElem? (i := 518) (by decide +kernel)⟩
theorem lw_p14 : lw_okq (⟨"SkiSchool$Planner", "followChoices", "()V"⟩, 13) := ⟨⟨by decide +kernel, by decide +kernel⟩, List.mem_of_getElem? (i := 30) (by decide +kernel), List.mem_of_getElem? (i := 521) (by decide +kernel), List.mem_of_getElem? (i := 522) (by decide +kernel)⟩
theorem lw_p15 : lw_okq (⟨"SkiSchool", "hasPupil", "(I)Z"⟩, 14) := ⟨⟨by decide +kernel, by decide +kernel⟩, List.mem_of_getElem? (i := 14) (by decide +kernel), List.mem_of_getElem? (i := 563) (by decide +kernel), List.mem_of_getElem? (i := 564) (by decide +kernel)⟩
def lw_privs_1 : List (MethodName × Nat) := [(⟨"SkiSchool", "freePupilNumber", "()I"⟩, 14), (⟨"SkiSchool", "separateIfBroken", "(I)I"⟩, 14), (⟨"SkiSchool", "isInOnePlace", "(I)Z"⟩, 14), (⟨"SkiSchool", "freeGroupNumber", "()I"⟩, 14), (⟨"SkiSchool", "hasGroup", "(I)Z"⟩, 14), (⟨"SkiSchool", "countPupilsIn", "(I)I"⟩, 14), (⟨"SkiSchool$Planner", "gatherUnits", "([LSkiSchool$Pupil;[LSkiSchool$Group;[Z)V"⟩, 13), (⟨"SkiSchool$Planner", "unitFor", "(I[Z)I"⟩, 13), (⟨"SkiSchool$Planner", "newUnit", "()I"⟩, 13), (⟨"SkiSchool$Planner", "addHead", "(ILSkiSchool$Pupil;[LSkiSchool$Group;)V"⟩, 13), (⟨"SkiSchool$Planner", "limitSeats", "([LSkiSchool$Group;)V"⟩, 13), (⟨"SkiSchool$Planner", "chooseFor", "(I)V"⟩, 13), (⟨"SkiSchool$Planner", "listOptions", "(I)I"⟩, 13), (⟨"SkiSchool$Planner", "countDown", "()V"⟩, 13), (⟨"SkiSchool$Planner", "followChoices", "()V"⟩, 13), (⟨"SkiSchool", "hasPupil", "(I)Z"⟩, 14)]
theorem lw_r1 : ∀ q ∈ lw_privs_1, lw_okq q := List.forall_mem_cons.mpr ⟨lw_p0, List.forall_mem_cons.mpr ⟨lw_p1, List.forall_mem_cons.mpr ⟨lw_p2, List.forall_mem_cons.mpr ⟨lw_p3, List.forall_mem_cons.mpr ⟨lw_p4, List.forall_mem_cons.mpr ⟨lw_p5, List.forall_mem_cons.mpr ⟨lw_p6, List.forall_mem_cons.mpr ⟨lw_p7, List.forall_mem_cons.mpr ⟨lw_p8, List.forall_mem_cons.mpr ⟨lw_p9, List.forall_mem_cons.mpr ⟨lw_p10, List.forall_mem_cons.mpr ⟨lw_p11, List.forall_mem_cons.mpr ⟨lw_p12, List.forall_mem_cons.mpr ⟨lw_p13, List.forall_mem_cons.mpr ⟨lw_p14, List.forall_mem_cons.mpr ⟨lw_p15, fun _ h => absurd h List.not_mem_nil⟩⟩⟩⟩⟩⟩⟩⟩⟩⟩⟩⟩⟩⟩⟩⟩
theorem lw_p16 : lw_okq (⟨"SkiSchool", "hasLift", "(I)Z"⟩, 14) := ⟨⟨by decide +kernel, by decide +kernel⟩, List.mem_of_getElem? (i := 14) (by decide +kernel), List.mem_of_getElem? (i := 586) (by decide +kernel), List.mem_of_getElem? (i := 587) (by decide +kernel)⟩
theorem lw_p17 : lw_okq (⟨"SkiSchool", "countPersons", "()V"⟩, 14) := ⟨⟨by decide +kernel, by decide +kernel⟩, List.mem_of_getElem? (i := 14) (by decide +kernel), List.mem_of_getElem? (i := 600) (by decide +kernel), List.mem_of_getElem? (i := 601) (by decide +kernel)⟩
theorem lw_p18 : lw_okq (⟨"SkiSchool", "takesPart", "(I)Z"⟩, 14) := ⟨⟨by decide +kernel, by decide +kernel⟩, List.mem_of_getElem? (i := 14) (by decide +kernel), List.mem_of_getElem? (i := 604) (by decide +kernel), List.mem_of_getElem? (i := 605) (by decide +kernel)⟩
theorem lw_p19 : lw_okq (⟨"SkiSchool", "isActive", "(I)Z"⟩, 14) := ⟨⟨by decide +kernel, by decide +kernel⟩, List.mem_of_getElem? (i := 14) (by decide +kernel), List.mem_of_getElem? (i := 608) (by decide +kernel), List.mem_of_getElem? (i := 609) (by decide +kernel)⟩
theorem lw_p20 : lw_okq (⟨"SkiSchool$Simulation", "joinQueues", "([LSkiSchool$Group;I)V"⟩, 10) := ⟨⟨by decide +kernel, by decide +kernel⟩, List.mem_of_getElem? (i := 103) (by decide +kernel), List.mem_of_getElem? (i := 622) (by decide +kernel), List.mem_of_getElem? (i := 623) (by decide +kernel)⟩
theorem lw_p21 : lw_okq (⟨"SkiSchool$Simulation", "depart", "(ILSkiSchool$Lift;[LSkiSchool$Group;I)V"⟩, 10) := ⟨⟨by decide +kernel, by decide +kernel⟩, List.mem_of_getElem? (i := 103) (by decide +kernel), List.mem_of_getElem? (i := 631) (by decide +kernel), List.mem_of_getElem? (i := 632) (by decide +kernel)⟩
theorem lw_p22 : lw_okq (⟨"SkiSchool$Simulation", "leaveQueue", "(I)V"⟩, 10) := ⟨⟨by decide +kernel, by decide +kernel⟩, List.mem_of_getElem? (i := 103) (by decide +kernel), List.mem_of_getElem? (i := 635) (by decide +kernel), List.mem_of_getElem? (i := 636) (by decide +kernel)⟩
theorem lw_p23 : lw_okq (⟨"SkiSchool$Simulation", "completeRide", "(ILSkiSchool$Group;I)V"⟩, 10) := ⟨⟨by decide +kernel, by decide +kernel⟩, List.mem_of_getElem? (i := 103) (by decide +kernel), List.mem_of_getElem? (i := 639) (by decide +kernel), List.mem_of_getElem? (i := 640) (by decide +kernel)⟩
theorem lw_p24 : lw_okq (⟨"SkiSchool$Simulation", "waitAMinute", "(I)V"⟩, 10) := ⟨⟨by decide +kernel, by decide +kernel⟩, List.mem_of_getElem? (i := 103) (by decide +kernel), List.mem_of_getElem? (i := 643) (by decide +kernel), List.mem_of_getElem? (i := 644) (by decide +kernel)⟩
theorem lw_p25 : lw_okq (⟨"SkiSchool", "keepResults", "()V"⟩, 14) := ⟨⟨by decide +kernel, by decide +kernel⟩, List.mem_of_getElem? (i := 14) (by decide +kernel), List.mem_of_getElem? (i := 648) (by decide +kernel), List.mem_of_getElem? (i := 649) (by decide +kernel)⟩
theorem lw_p26 : lw_okq (⟨"SkiSchool", "freeInstructorNumber", "()I"⟩, 14) := ⟨⟨by decide +kernel, by decide +kernel⟩, List.mem_of_getElem? (i := 14) (by decide +kernel), List.mem_of_getElem? (i := 680) (by decide +kernel), List.mem_of_getElem? (i := 681) (by decide +kernel)⟩
theorem lw_p27 : lw_okq (⟨"SkiSchool", "isPaid", "(I)Z"⟩, 14) := ⟨⟨by decide +kernel, by decide +kernel⟩, List.mem_of_getElem? (i := 14) (by decide +kernel), List.mem_of_getElem? (i := 716) (by decide +kernel), List.mem_of_getElem? (i := 717) (by decide +kernel)⟩
theorem lw_p28 : lw_okq (⟨"SkiSchool", "hasInstructor", "(I)Z"⟩, 14) := ⟨⟨by decide +kernel, by decide +kernel⟩, List.mem_of_getElem? (i := 14) (by decide +kernel), List.mem_of_getElem? (i := 720) (by decide +kernel), List.mem_of_getElem? (i := 721) (by decide +kernel)⟩
def lw_privs_2 : List (MethodName × Nat) := [(⟨"SkiSchool", "hasLift", "(I)Z"⟩, 14), (⟨"SkiSchool", "countPersons", "()V"⟩, 14), (⟨"SkiSchool", "takesPart", "(I)Z"⟩, 14), (⟨"SkiSchool", "isActive", "(I)Z"⟩, 14), (⟨"SkiSchool$Simulation", "joinQueues", "([LSkiSchool$Group;I)V"⟩, 10), (⟨"SkiSchool$Simulation", "depart", "(ILSkiSchool$Lift;[LSkiSchool$Group;I)V"⟩, 10), (⟨"SkiSchool$Simulation", "leaveQueue", "(I)V"⟩, 10), (⟨"SkiSchool$Simulation", "completeRide", "(ILSkiSchool$Group;I)V"⟩, 10), (⟨"SkiSchool$Simulation", "waitAMinute", "(I)V"⟩, 10), (⟨"SkiSchool", "keepResults", "()V"⟩, 14), (⟨"SkiSchool", "freeInstructorNumber", "()I"⟩, 14), (⟨"SkiSchool", "isPaid", "(I)Z"⟩, 14), (⟨"SkiSchool", "hasInstructor", "(I)Z"⟩, 14)]
theorem lw_r2 : ∀ q ∈ lw_privs_2, lw_okq q := List.forall_mem_cons.mpr ⟨lw_p16, List.forall_mem_cons.mpr ⟨lw_p17, List.forall_mem_cons.mpr ⟨lw_p18, List.forall_mem_cons.mpr ⟨lw_p19, List.forall_mem_cons.mpr ⟨lw_p20, List.forall_mem_cons.mpr ⟨lw_p21, List.forall_mem_cons.mpr ⟨lw_p22, List.forall_mem_cons.mpr ⟨lw_p23, List.forall_mem_cons.mpr ⟨lw_p24, List.forall_mem_cons.mpr ⟨lw_p25, List.forall_mem_cons.mpr ⟨lw_p26, List.forall_mem_cons.mpr ⟨lw_p27, List.forall_mem_cons.mpr ⟨lw_p28, fun _ h => absurd h List.not_mem_nil⟩⟩⟩⟩⟩⟩⟩⟩⟩⟩⟩⟩⟩
def lw_privs : List (MethodName × Nat) := lw_privs_1 ++ (lw_privs_2)
def lw_tbl : List Cond := k2_sels lw_privs ++ tables_1
theorem lw_privs_ok : ∀ q ∈ lw_privs, lw_okq q := by
  show ∀ q ∈ lw_privs_1 ++ (lw_privs_2), lw_okq q
  exact List.forall_mem_append.mpr ⟨lw_r1, lw_r2⟩
/-! ===== BEGIN words of one list among another's, by their places ===== -/
theorem goodIn_r {big : List Cond} (ws : List Cond) (ps : List Nat) (hp : ws = ps.filterMap (fun i => big[i]?)) (h : ws.all goodWord = true) : GoodIn big ws := by
  intro w hw
  have h1 := List.all_eq_true.mp h w hw
  rw [hp] at hw
  obtain ⟨i, -, hi⟩ := List.mem_filterMap.mp hw
  have hm : w ∈ big := by first | exact List.mem_of_getElem? hi | exact List.getElem?_mem hi
  exact ⟨hm, good_of_word h1⟩
theorem goodIn_app {big a b : List Cond} (ha : GoodIn big a) (hb : GoodIn big b) : GoodIn big (a ++ b) := fun w h => (List.mem_append.mp h).elim (ha w) (hb w)
theorem goodIn_ca {big a b : List Cond} {c : Cond} (ha : GoodIn big (c :: a)) (hb : GoodIn big b) : GoodIn big (c :: (a ++ b)) := fun w h => (List.mem_cons.mp h).elim (fun e => ha w (List.mem_cons.mpr (Or.inl e))) (fun h => (List.mem_append.mp h).elim (fun h => ha w (List.mem_cons.mpr (Or.inr h))) (hb w))
theorem goodIn_sub {big ws : List Cond} (hm : ∀ w ∈ ws, w ∈ big) (h : ws.all goodWord = true) : GoodIn big ws := fun w hw => ⟨hm w hw, good_of_word (List.all_eq_true.mp h w hw)⟩
/-! ===== END ===== -/
/-! ===== BEGIN new T[n][m]: the outer array a place, the inner ones among the pooled ===== -/
/-! ===== END ===== -/
/-! ===== BEGIN printed: names, fields, word lists, decode rows ===== -/
def RX0 : String := "SkiSchool$Group"
def TX0 : u_T := fun k => match k with
  | 0 => ("SkiSchool$Group", "open", "Z", false)
  | 1 => ("SkiSchool$Group", "level", "I", false)
  | 2 => ("SkiSchool$Group", "language", "I", false)
  | 3 => ("SkiSchool$Group", "capacity", "I", false)
  | 4 => ("SkiSchool$Group", "instructor", "I", false)
  | 5 => ("SkiSchool$Group", "start", "I", false)
  | 6 => ("SkiSchool$Group", "stops", "I", false)
  | 7 => ("SkiSchool$Group", "lifts", "[I", true)
  | 8 => ("SkiSchool$Group", "slopes", "[I", true)
  | 9 => ("SkiSchool$Group", "waited", "I", false)
  | _ => ("SkiSchool$Group", "rides", "I", false)
def tyX0 : Nat → FieldType := fun k => match k with
  | 0 => .boolean
  | 1 => .int
  | 2 => .int
  | 3 => .int
  | 4 => .int
  | 5 => .int
  | 6 => .int
  | 7 => .array .int
  | 8 => .array .int
  | 9 => .int
  | _ => .int
abbrev wsX00 : List Cond := u_ws RX0 TX0 11
theorem nmX0 : ∀ a, a < 11 → ∀ b, b < 11 → a ≠ b → (TX0 a).2.1 ≠ (TX0 b).2.1 := by decide +kernel
theorem tyX0_ok : ∀ k, k < 11 → parseFieldDescriptor (TX0 k).2.2.1 = some (tyX0 k) := by decide +kernel
abbrev cX0_init : ByteArray := prog_2_method_1_code
def yX0_init : MethodName := ⟨RX0, "<init>", "()V"⟩
abbrev cX0_begin : ByteArray := prog_2_method_2_code
def yX0_begin : MethodName := ⟨RX0, "begin", "(III)V"⟩
abbrev cX0_end : ByteArray := prog_2_method_3_code
def yX0_end : MethodName := ⟨RX0, "end", "()V"⟩
abbrev cX0_suits : ByteArray := prog_2_method_4_code
def yX0_suits : MethodName := ⟨RX0, "suits", "(LSkiSchool$Pupil;)Z"⟩
def RX1 : String := "SkiSchool$Instructor"
def TX1 : u_T := fun k => match k with
  | 0 => ("SkiSchool$Instructor", "hired", "Z", false)
  | 1 => ("SkiSchool$Instructor", "languages", "I", false)
  | 2 => ("SkiSchool$Instructor", "lowest", "I", false)
  | 3 => ("SkiSchool$Instructor", "highest", "I", false)
  | 4 => ("SkiSchool$Instructor", "wage", "I", false)
  | _ => ("SkiSchool$Instructor", "earned", "I", false)
def tyX1 : Nat → FieldType := fun k => match k with
  | 0 => .boolean
  | 1 => .int
  | 2 => .int
  | 3 => .int
  | 4 => .int
  | _ => .int
abbrev wsX10 : List Cond := u_ws RX1 TX1 6
theorem nmX1 : ∀ a, a < 6 → ∀ b, b < 6 → a ≠ b → (TX1 a).2.1 ≠ (TX1 b).2.1 := by decide +kernel
theorem tyX1_ok : ∀ k, k < 6 → parseFieldDescriptor (TX1 k).2.2.1 = some (tyX1 k) := by decide +kernel
abbrev cX1_init : ByteArray := prog_3_method_1_code
def yX1_init : MethodName := ⟨RX1, "<init>", "()V"⟩
abbrev cX1_begin : ByteArray := prog_3_method_2_code
def yX1_begin : MethodName := ⟨RX1, "begin", "(IIII)V"⟩
abbrev cX1_teaches : ByteArray := prog_3_method_3_code
def yX1_teaches : MethodName := ⟨RX1, "teaches", "(LSkiSchool$Group;)Z"⟩
abbrev cX1_hasRoomFor : ByteArray := prog_3_method_4_code
def yX1_hasRoomFor : MethodName := ⟨RX1, "hasRoomFor", "(I)Z"⟩
def RX2 : String := "SkiSchool$Lift"
def TX2 : u_T := fun k => match k with
  | 0 => ("SkiSchool$Lift", "seats", "I", false)
  | 1 => ("SkiSchool$Lift", "interval", "I", false)
  | 2 => ("SkiSchool$Lift", "ride", "I", false)
  | 3 => ("SkiSchool$Lift", "longest", "I", false)
  | _ => ("SkiSchool$Lift", "taken", "I", false)
def tyX2 : Nat → FieldType := fun k => match k with
  | 0 => .int
  | 1 => .int
  | 2 => .int
  | 3 => .int
  | _ => .int
abbrev wsX20 : List Cond := u_ws RX2 TX2 5
theorem nmX2 : ∀ a, a < 5 → ∀ b, b < 5 → a ≠ b → (TX2 a).2.1 ≠ (TX2 b).2.1 := by decide +kernel
theorem tyX2_ok : ∀ k, k < 5 → parseFieldDescriptor (TX2 k).2.2.1 = some (tyX2 k) := by decide +kernel
abbrev cX2_init : ByteArray := prog_4_method_1_code
def yX2_init : MethodName := ⟨RX2, "<init>", "()V"⟩
abbrev cX2_departsAt : ByteArray := prog_4_method_2_code
def yX2_departsAt : MethodName := ⟨RX2, "departsAt", "(I)Z"⟩
def RX3 : String := "SkiSchool$Planner"
def TX3 : u_T := fun k => match k with
  | 0 => ("SkiSchool$Planner", "units", "I", false)
  | 1 => ("SkiSchool$Planner", "states", "I", false)
  | 2 => ("SkiSchool$Planner", "unitOf", "[I", true)
  | 3 => ("SkiSchool$Planner", "heads", "[I", true)
  | 4 => ("SkiSchool$Planner", "out", "[[I", true)
  | 5 => ("SkiSchool$Planner", "given", "[I", true)
  | 6 => ("SkiSchool$Planner", "unitOfFamily", "[I", true)
  | 7 => ("SkiSchool$Planner", "seats", "[I", true)
  | 8 => ("SkiSchool$Planner", "stride", "[I", true)
  | 9 => ("SkiSchool$Planner", "left", "[I", true)
  | 10 => ("SkiSchool$Planner", "options", "[I", true)
  | 11 => ("SkiSchool$Planner", "value", "[I", true)
  | _ => ("SkiSchool$Planner", "choices", "[J", true)
def tyX3 : Nat → FieldType := fun k => match k with
  | 0 => .int
  | 1 => .int
  | 2 => .array .int
  | 3 => .array .int
  | 4 => .array (.array .int)
  | 5 => .array .int
  | 6 => .array .int
  | 7 => .array .int
  | 8 => .array .int
  | 9 => .array .int
  | 10 => .array .int
  | 11 => .array .int
  | _ => .array .long
abbrev wsX30 : List Cond := u_ws RX3 TX3 13
theorem nmX3 : ∀ a, a < 13 → ∀ b, b < 13 → a ≠ b → (TX3 a).2.1 ≠ (TX3 b).2.1 := by decide +kernel
theorem tyX3_ok : ∀ k, k < 13 → parseFieldDescriptor (TX3 k).2.2.1 = some (tyX3 k) := by decide +kernel
abbrev cX3_init : ByteArray := prog_5_method_1_code
def yX3_init : MethodName := ⟨RX3, "<init>", "()V"⟩
abbrev cX3_findBest : ByteArray := prog_5_method_2_code
def yX3_findBest : MethodName := ⟨RX3, "findBest", "([LSkiSchool$Pupil;[LSkiSchool$Group;[Z)I"⟩
abbrev cX3_groupOf : ByteArray := prog_5_method_3_code
def yX3_groupOf : MethodName := ⟨RX3, "groupOf", "(I)I"⟩
abbrev cX3_isUnit : ByteArray := prog_5_method_4_code
def yX3_isUnit : MethodName := ⟨RX3, "isUnit", "(I)Z"⟩
abbrev cX3_gatherUnits : ByteArray := prog_5_method_5_code
def yX3_gatherUnits : MethodName := ⟨RX3, "gatherUnits", "([LSkiSchool$Pupil;[LSkiSchool$Group;[Z)V"⟩
abbrev cX3_unitFor : ByteArray := prog_5_method_6_code
def yX3_unitFor : MethodName := ⟨RX3, "unitFor", "(I[Z)I"⟩
abbrev cX3_newUnit : ByteArray := prog_5_method_7_code
def yX3_newUnit : MethodName := ⟨RX3, "newUnit", "()I"⟩
abbrev cX3_addHead : ByteArray := prog_5_method_8_code
def yX3_addHead : MethodName := ⟨RX3, "addHead", "(ILSkiSchool$Pupil;[LSkiSchool$Group;)V"⟩
abbrev cX3_limitSeats : ByteArray := prog_5_method_9_code
def yX3_limitSeats : MethodName := ⟨RX3, "limitSeats", "([LSkiSchool$Group;)V"⟩
abbrev cX3_chooseFor : ByteArray := prog_5_method_10_code
def yX3_chooseFor : MethodName := ⟨RX3, "chooseFor", "(I)V"⟩
abbrev cX3_listOptions : ByteArray := prog_5_method_11_code
def yX3_listOptions : MethodName := ⟨RX3, "listOptions", "(I)I"⟩
abbrev cX3_countDown : ByteArray := prog_5_method_12_code
def yX3_countDown : MethodName := ⟨RX3, "countDown", "()V"⟩
abbrev cX3_followChoices : ByteArray := prog_5_method_13_code
def yX3_followChoices : MethodName := ⟨RX3, "followChoices", "()V"⟩
def RX4 : String := "SkiSchool$Pupil"
def TX4 : u_T := fun k => match k with
  | 0 => ("SkiSchool$Pupil", "present", "Z", false)
  | 1 => ("SkiSchool$Pupil", "level", "I", false)
  | 2 => ("SkiSchool$Pupil", "languages", "I", false)
  | 3 => ("SkiSchool$Pupil", "family", "I", false)
  | 4 => ("SkiSchool$Pupil", "group", "I", false)
  | 5 => ("SkiSchool$Pupil", "lastGraded", "I", false)
  | _ => ("SkiSchool$Pupil", "scores", "[I", true)
def tyX4 : Nat → FieldType := fun k => match k with
  | 0 => .boolean
  | 1 => .int
  | 2 => .int
  | 3 => .int
  | 4 => .int
  | 5 => .int
  | _ => .array .int
abbrev wsX40 : List Cond := u_ws RX4 TX4 7
theorem nmX4 : ∀ a, a < 7 → ∀ b, b < 7 → a ≠ b → (TX4 a).2.1 ≠ (TX4 b).2.1 := by decide +kernel
theorem tyX4_ok : ∀ k, k < 7 → parseFieldDescriptor (TX4 k).2.2.1 = some (tyX4 k) := by decide +kernel
abbrev cX4_init : ByteArray := prog_6_method_1_code
def yX4_init : MethodName := ⟨RX4, "<init>", "()V"⟩
abbrev cX4_enrol : ByteArray := prog_6_method_2_code
def yX4_enrol : MethodName := ⟨RX4, "enrol", "(III)V"⟩
abbrev cX4_isMember : ByteArray := prog_6_method_3_code
def yX4_isMember : MethodName := ⟨RX4, "isMember", "(I)Z"⟩
abbrev cX4_isIn : ByteArray := prog_6_method_4_code
def yX4_isIn : MethodName := ⟨RX4, "isIn", "(I)Z"⟩
abbrev cX4_clearScores : ByteArray := prog_6_method_5_code
def yX4_clearScores : MethodName := ⟨RX4, "clearScores", "()V"⟩
def RX5 : String := "SkiSchool$Roster"
def TX5 : u_T := fun k => match k with
  | 0 => ("SkiSchool$Roster", "text", "[C", true)
  | 1 => ("SkiSchool$Roster", "length", "I", false)
  | 2 => ("SkiSchool$Roster", "at", "I", false)
  | 3 => ("SkiSchool$Roster", "kind", "C", false)
  | 4 => ("SkiSchool$Roster", "level", "I", false)
  | 5 => ("SkiSchool$Roster", "languages", "I", false)
  | 6 => ("SkiSchool$Roster", "family", "I", false)
  | 7 => ("SkiSchool$Roster", "language", "I", false)
  | 8 => ("SkiSchool$Roster", "capacity", "I", false)
  | 9 => ("SkiSchool$Roster", "lowest", "I", false)
  | 10 => ("SkiSchool$Roster", "highest", "I", false)
  | _ => ("SkiSchool$Roster", "wage", "I", false)
def tyX5 : Nat → FieldType := fun k => match k with
  | 0 => .array .char
  | 1 => .int
  | 2 => .int
  | 3 => .char
  | 4 => .int
  | 5 => .int
  | 6 => .int
  | 7 => .int
  | 8 => .int
  | 9 => .int
  | 10 => .int
  | _ => .int
abbrev wsX50 : List Cond := u_ws RX5 TX5 12
theorem nmX5 : ∀ a, a < 12 → ∀ b, b < 12 → a ≠ b → (TX5 a).2.1 ≠ (TX5 b).2.1 := by decide +kernel
theorem tyX5_ok : ∀ k, k < 12 → parseFieldDescriptor (TX5 k).2.2.1 = some (tyX5 k) := by decide +kernel
abbrev cX5_init : ByteArray := prog_7_method_1_code
def yX5_init : MethodName := ⟨RX5, "<init>", "()V"⟩
def RX6 : String := "SkiSchool$Simulation"
def TX6 : u_T := fun k => match k with
  | 0 => ("SkiSchool$Simulation", "persons", "[I", true)
  | 1 => ("SkiSchool$Simulation", "arrival", "[I", true)
  | 2 => ("SkiSchool$Simulation", "waited", "[I", true)
  | 3 => ("SkiSchool$Simulation", "rides", "[I", true)
  | 4 => ("SkiSchool$Simulation", "longest", "[I", true)
  | 5 => ("SkiSchool$Simulation", "taken", "[I", true)
  | 6 => ("SkiSchool$Simulation", "stop", "[I", true)
  | 7 => ("SkiSchool$Simulation", "waiting", "[I", true)
  | 8 => ("SkiSchool$Simulation", "queue", "[[I", true)
  | _ => ("SkiSchool$Simulation", "queued", "[I", true)
def tyX6 : Nat → FieldType := fun k => match k with
  | 0 => .array .int
  | 1 => .array .int
  | 2 => .array .int
  | 3 => .array .int
  | 4 => .array .int
  | 5 => .array .int
  | 6 => .array .int
  | 7 => .array .int
  | 8 => .array (.array .int)
  | _ => .array .int
abbrev wsX60 : List Cond := u_ws RX6 TX6 10
theorem nmX6 : ∀ a, a < 10 → ∀ b, b < 10 → a ≠ b → (TX6 a).2.1 ≠ (TX6 b).2.1 := by decide +kernel
theorem tyX6_ok : ∀ k, k < 10 → parseFieldDescriptor (TX6 k).2.2.1 = some (tyX6 k) := by decide +kernel
abbrev cX6_init : ByteArray := prog_8_method_1_code
def yX6_init : MethodName := ⟨RX6, "<init>", "()V"⟩
abbrev cX6_begin : ByteArray := prog_8_method_2_code
def yX6_begin : MethodName := ⟨RX6, "begin", "([LSkiSchool$Group;)V"⟩
abbrev cX6_run : ByteArray := prog_8_method_3_code
def yX6_run : MethodName := ⟨RX6, "run", "([LSkiSchool$Group;[LSkiSchool$Lift;II)V"⟩
abbrev cX6_joinQueues : ByteArray := prog_8_method_4_code
def yX6_joinQueues : MethodName := ⟨RX6, "joinQueues", "([LSkiSchool$Group;I)V"⟩
abbrev cX6_depart : ByteArray := prog_8_method_5_code
def yX6_depart : MethodName := ⟨RX6, "depart", "(ILSkiSchool$Lift;[LSkiSchool$Group;I)V"⟩
abbrev cX6_leaveQueue : ByteArray := prog_8_method_6_code
def yX6_leaveQueue : MethodName := ⟨RX6, "leaveQueue", "(I)V"⟩
abbrev cX6_completeRide : ByteArray := prog_8_method_7_code
def yX6_completeRide : MethodName := ⟨RX6, "completeRide", "(ILSkiSchool$Group;I)V"⟩
abbrev cX6_waitAMinute : ByteArray := prog_8_method_8_code
def yX6_waitAMinute : MethodName := ⟨RX6, "waitAMinute", "(I)V"⟩
def RX7 : String := "SkiSchool$Staffing"
def TX7 : u_T := fun k => match k with
  | 0 => ("SkiSchool$Staffing", "wanted", "[Z", true)
  | 1 => ("SkiSchool$Staffing", "best", "[I", true)
  | 2 => ("SkiSchool$Staffing", "trial", "[I", true)
  | _ => ("SkiSchool$Staffing", "cheapest", "I", false)
def tyX7 : Nat → FieldType := fun k => match k with
  | 0 => .array .boolean
  | 1 => .array .int
  | 2 => .array .int
  | _ => .int
abbrev wsX70 : List Cond := u_ws RX7 TX7 4
theorem nmX7 : ∀ a, a < 4 → ∀ b, b < 4 → a ≠ b → (TX7 a).2.1 ≠ (TX7 b).2.1 := by decide +kernel
theorem tyX7_ok : ∀ k, k < 4 → parseFieldDescriptor (TX7 k).2.2.1 = some (tyX7 k) := by decide +kernel
abbrev cX7_init : ByteArray := prog_9_method_1_code
def yX7_init : MethodName := ⟨RX7, "<init>", "()V"⟩
abbrev cX7_findBest : ByteArray := prog_9_method_2_code
def yX7_findBest : MethodName := ⟨RX7, "findBest", "([LSkiSchool$Group;[LSkiSchool$Instructor;)I"⟩
abbrev cX7_tryFrom : ByteArray := prog_9_method_3_code
def yX7_tryFrom : MethodName := ⟨RX7, "tryFrom", "(LSkiSchool$Staffing;III[LSkiSchool$Group;[LSkiSchool$Instructor;)V"⟩
def RX8 : String := "SkiSchool"
def TX8 : u_T := fun k => match k with
  | 0 => ("SkiSchool", "pupilAt", "[LSkiSchool$Pupil;", true)
  | 1 => ("SkiSchool", "groupAt", "[LSkiSchool$Group;", true)
  | 2 => ("SkiSchool", "instructorAt", "[LSkiSchool$Instructor;", true)
  | 3 => ("SkiSchool", "liftAt", "[LSkiSchool$Lift;", true)
  | 4 => ("SkiSchool", "together", "[Z", true)
  | 5 => ("SkiSchool", "planner", "LSkiSchool$Planner;", true)
  | 6 => ("SkiSchool", "staffing", "LSkiSchool$Staffing;", true)
  | 7 => ("SkiSchool", "simulation", "LSkiSchool$Simulation;", true)
  | 8 => ("SkiSchool", "roster", "LSkiSchool$Roster;", true)
  | 9 => ("SkiSchool", "liftCount", "I", false)
  | 10 => ("SkiSchool", "passMark", "I", false)
  | 11 => ("SkiSchool", "minimumMark", "I", false)
  | 12 => ("SkiSchool", "dropMark", "I", false)
  | _ => ("SkiSchool", "day", "I", false)
def tyX8 : Nat → FieldType := fun k => match k with
  | 0 => .array (.object "SkiSchool$Pupil")
  | 1 => .array (.object "SkiSchool$Group")
  | 2 => .array (.object "SkiSchool$Instructor")
  | 3 => .array (.object "SkiSchool$Lift")
  | 4 => .array .boolean
  | 5 => .object "SkiSchool$Planner"
  | 6 => .object "SkiSchool$Staffing"
  | 7 => .object "SkiSchool$Simulation"
  | 8 => .object "SkiSchool$Roster"
  | 9 => .int
  | 10 => .int
  | 11 => .int
  | 12 => .int
  | _ => .int
abbrev wsX80 : List Cond := u_ws RX8 TX8 14
theorem nmX8 : ∀ a, a < 14 → ∀ b, b < 14 → a ≠ b → (TX8 a).2.1 ≠ (TX8 b).2.1 := by decide +kernel
theorem tyX8_ok : ∀ k, k < 14 → parseFieldDescriptor (TX8 k).2.2.1 = some (tyX8 k) := by decide +kernel
abbrev cX8_init : ByteArray := prog_1_method_1_code
def yX8_init : MethodName := ⟨RX8, "<init>", "()V"⟩
abbrev cX8_addPupil : ByteArray := prog_1_method_2_code
def yX8_addPupil : MethodName := ⟨RX8, "addPupil", "(III)I"⟩
abbrev cX8_group : ByteArray := prog_1_method_8_code
def yX8_group : MethodName := ⟨RX8, "group", "(I)I"⟩
abbrev cX8_setTogether : ByteArray := prog_1_method_9_code
def yX8_setTogether : MethodName := ⟨RX8, "setTogether", "(IZ)I"⟩
abbrev cX8_openGroup : ByteArray := prog_1_method_16_code
def yX8_openGroup : MethodName := ⟨RX8, "openGroup", "(III)I"⟩
abbrev cX8_size : ByteArray := prog_1_method_20_code
def yX8_size : MethodName := ⟨RX8, "size", "(I)I"⟩
abbrev cX8_instructor : ByteArray := prog_1_method_21_code
def yX8_instructor : MethodName := ⟨RX8, "instructor", "(I)I"⟩
abbrev cX8_assign : ByteArray := prog_1_method_22_code
def yX8_assign : MethodName := ⟨RX8, "assign", "()I"⟩
abbrev cX8_placed : ByteArray := prog_1_method_23_code
def yX8_placed : MethodName := ⟨RX8, "placed", "()I"⟩
abbrev cX8_outOfLevel : ByteArray := prog_1_method_24_code
def yX8_outOfLevel : MethodName := ⟨RX8, "outOfLevel", "()I"⟩
abbrev cX8_extraPlaced : ByteArray := prog_1_method_25_code
def yX8_extraPlaced : MethodName := ⟨RX8, "extraPlaced", "(III)I"⟩
abbrev cX8_splitGain : ByteArray := prog_1_method_26_code
def yX8_splitGain : MethodName := ⟨RX8, "splitGain", "(I)I"⟩
abbrev cX8_hire : ByteArray := prog_1_method_27_code
def yX8_hire : MethodName := ⟨RX8, "hire", "(IIII)I"⟩
abbrev cX8_staff : ByteArray := prog_1_method_31_code
def yX8_staff : MethodName := ⟨RX8, "staff", "()I"⟩
abbrev cX8_pay : ByteArray := prog_1_method_32_code
def yX8_pay : MethodName := ⟨RX8, "pay", "(I)I"⟩
abbrev cX8_earnings : ByteArray := prog_1_method_33_code
def yX8_earnings : MethodName := ⟨RX8, "earnings", "(I)I"⟩
abbrev cX8_addLift : ByteArray := prog_1_method_34_code
def yX8_addLift : MethodName := ⟨RX8, "addLift", "(III)I"⟩
abbrev cX8_addStop : ByteArray := prog_1_method_35_code
def yX8_addStop : MethodName := ⟨RX8, "addStop", "(III)I"⟩
abbrev cX8_setStart : ByteArray := prog_1_method_37_code
def yX8_setStart : MethodName := ⟨RX8, "setStart", "(II)I"⟩
abbrev cX8_simulate : ByteArray := prog_1_method_38_code
def yX8_simulate : MethodName := ⟨RX8, "simulate", "(I)I"⟩
abbrev cX8_waited : ByteArray := prog_1_method_39_code
def yX8_waited : MethodName := ⟨RX8, "waited", "(I)I"⟩
abbrev cX8_rides : ByteArray := prog_1_method_40_code
def yX8_rides : MethodName := ⟨RX8, "rides", "(I)I"⟩
abbrev cX8_longestQueue : ByteArray := prog_1_method_41_code
def yX8_longestQueue : MethodName := ⟨RX8, "longestQueue", "(I)I"⟩
abbrev cX8_carried : ByteArray := prog_1_method_42_code
def yX8_carried : MethodName := ⟨RX8, "carried", "(I)I"⟩
abbrev cX8_bestStart : ByteArray := prog_1_method_43_code
def yX8_bestStart : MethodName := ⟨RX8, "bestStart", "(II)I"⟩
abbrev cX8_within : ByteArray := prog_1_method_52_code
def yX8_within : MethodName := ⟨RX8, "within", "(III)Z"⟩
abbrev cX8_isFamily : ByteArray := prog_1_method_53_code
def yX8_isFamily : MethodName := ⟨RX8, "isFamily", "(I)Z"⟩
abbrev cX8_isGroupKind : ByteArray := prog_1_method_55_code
def yX8_isGroupKind : MethodName := ⟨RX8, "isGroupKind", "(III)Z"⟩
abbrev cX8_hasPupil : ByteArray := prog_1_method_56_code
def yX8_hasPupil : MethodName := ⟨RX8, "hasPupil", "(I)Z"⟩
abbrev cX8_hasGroup : ByteArray := prog_1_method_57_code
def yX8_hasGroup : MethodName := ⟨RX8, "hasGroup", "(I)Z"⟩
abbrev cX8_hasInstructor : ByteArray := prog_1_method_58_code
def yX8_hasInstructor : MethodName := ⟨RX8, "hasInstructor", "(I)Z"⟩
abbrev cX8_hasLift : ByteArray := prog_1_method_59_code
def yX8_hasLift : MethodName := ⟨RX8, "hasLift", "(I)Z"⟩
abbrev cX8_freePupilNumber : ByteArray := prog_1_method_60_code
def yX8_freePupilNumber : MethodName := ⟨RX8, "freePupilNumber", "()I"⟩
abbrev cX8_freeGroupNumber : ByteArray := prog_1_method_61_code
def yX8_freeGroupNumber : MethodName := ⟨RX8, "freeGroupNumber", "()I"⟩
abbrev cX8_freeInstructorNumber : ByteArray := prog_1_method_62_code
def yX8_freeInstructorNumber : MethodName := ⟨RX8, "freeInstructorNumber", "()I"⟩
abbrev cX8_separateIfBroken : ByteArray := prog_1_method_63_code
def yX8_separateIfBroken : MethodName := ⟨RX8, "separateIfBroken", "(I)I"⟩
abbrev cX8_isInOnePlace : ByteArray := prog_1_method_64_code
def yX8_isInOnePlace : MethodName := ⟨RX8, "isInOnePlace", "(I)Z"⟩
abbrev cX8_countPupilsIn : ByteArray := prog_1_method_66_code
def yX8_countPupilsIn : MethodName := ⟨RX8, "countPupilsIn", "(I)I"⟩
abbrev cX8_isActive : ByteArray := prog_1_method_67_code
def yX8_isActive : MethodName := ⟨RX8, "isActive", "(I)Z"⟩
abbrev cX8_isPaid : ByteArray := prog_1_method_68_code
def yX8_isPaid : MethodName := ⟨RX8, "isPaid", "(I)Z"⟩
abbrev cX8_takesPart : ByteArray := prog_1_method_69_code
def yX8_takesPart : MethodName := ⟨RX8, "takesPart", "(I)Z"⟩
abbrev cX8_countPersons : ByteArray := prog_1_method_70_code
def yX8_countPersons : MethodName := ⟨RX8, "countPersons", "()V"⟩
abbrev cX8_keepResults : ByteArray := prog_1_method_71_code
def yX8_keepResults : MethodName := ⟨RX8, "keepResults", "()V"⟩
def RX9 : String := "SkiSchoolModel"
def TX9 : u_T := fun k => match k with
  | _ => ("", "", "", false)
def tyX9 : Nat → FieldType := fun k => match k with
  | _ => .int
abbrev wsX90 : List Cond := u_ws RX9 TX9 0
theorem nmX9 : ∀ a, a < 0 → ∀ b, b < 0 → a ≠ b → (TX9 a).2.1 ≠ (TX9 b).2.1 := by decide +kernel
theorem tyX9_ok : ∀ k, k < 0 → parseFieldDescriptor (TX9 k).2.2.1 = some (tyX9 k) := by decide +kernel
def RJ9 : String := "java/lang/Math"
def TJ9 : u_T := fun k => match k with
  | _ => ("", "", "", false)
def tyJ9 : Nat → FieldType := fun k => match k with
  | _ => .int
abbrev wsJ90 : List Cond := u_ws RJ9 TJ9 0
theorem nmJ9 : ∀ a, a < 0 → ∀ b, b < 0 → a ≠ b → (TJ9 a).2.1 ≠ (TJ9 b).2.1 := by decide +kernel
theorem tyJ9_ok : ∀ k, k < 0 → parseFieldDescriptor (TJ9 k).2.2.1 = some (tyJ9 k) := by decide +kernel
abbrev cJ9_abs_0f7a4 : ByteArray := prog_12_method_59_code
def yJ9_abs_0f7a4 : MethodName := ⟨RJ9, "abs", "(I)I"⟩
abbrev cJ9_max_7cf53 : ByteArray := prog_12_method_65_code
def yJ9_max_7cf53 : MethodName := ⟨RJ9, "max", "(II)I"⟩
abbrev cJ9_min_7cf53 : ByteArray := prog_12_method_69_code
def yJ9_min_7cf53 : MethodName := ⟨RJ9, "min", "(II)I"⟩
def RJ10 : String := "java/lang/System"
def TJ10 : u_T := fun k => match k with
  | _ => ("", "", "", false)
def tyJ10 : Nat → FieldType := fun k => match k with
  | _ => .int
abbrev wsJ100 : List Cond := u_ws RJ10 TJ10 0
theorem nmJ10 : ∀ a, a < 0 → ∀ b, b < 0 → a ≠ b → (TJ10 a).2.1 ≠ (TJ10 b).2.1 := by decide +kernel
theorem tyJ10_ok : ∀ k, k < 0 → parseFieldDescriptor (TJ10 k).2.2.1 = some (tyJ10 k) := by decide +kernel
def RJ7 : String := "java/util/Arrays"
def TJ7 : u_T := fun k => match k with
  | _ => ("", "", "", false)
def tyJ7 : Nat → FieldType := fun k => match k with
  | _ => .int
abbrev wsJ70 : List Cond := u_ws RJ7 TJ7 0
theorem nmJ7 : ∀ a, a < 0 → ∀ b, b < 0 → a ≠ b → (TJ7 a).2.1 ≠ (TJ7 b).2.1 := by decide +kernel
theorem tyJ7_ok : ∀ k, k < 0 → parseFieldDescriptor (TJ7 k).2.2.1 = some (tyJ7 k) := by decide +kernel
abbrev cJ7_fill_53178 : ByteArray := prog_14_method_103_code
def yJ7_fill_53178 : MethodName := ⟨RJ7, "fill", "([II)V"⟩
def RL : String := "SkiSchoolLaw"
abbrev cL_cell : ByteArray := method_2_code
def yL_cell : MethodName := ⟨RL, "cell", "([II)I"⟩
abbrev cL_low : ByteArray := method_3_code
def yL_low : MethodName := ⟨RL, "low", "(II)I"⟩
abbrev cL_fits : ByteArray := method_4_code
def yL_fits : MethodName := ⟨RL, "fits", "(II[I[I)Z"⟩
abbrev cL_bestPlan : ByteArray := method_5_code
def yL_bestPlan : MethodName := ⟨RL, "bestPlan", "(III[I[I[I)I"⟩
abbrev cL_planned : ByteArray := method_6_code
def yL_planned : MethodName := ⟨RL, "planned", "(LSkiSchool;III[I[I[I)Z"⟩
abbrev cL_bestStaff : ByteArray := method_7_code
def yL_bestStaff : MethodName := ⟨RL, "bestStaff", "(II[I[I[I[I)I"⟩
abbrev cL_simulate : ByteArray := method_8_code
def yL_simulate : MethodName := ⟨RL, "simulate", "(III[I[I[I[I)V"⟩
abbrev cL_simulated : ByteArray := method_9_code
def yL_simulated : MethodName := ⟨RL, "simulated", "(LSkiSchool;III[I)Z"⟩
abbrev cL_lifts : ByteArray := method_10_code
def yL_lifts : MethodName := ⟨RL, "lifts", "(LSkiSchool;[II[I)Z"⟩
abbrev cL_staffed : ByteArray := method_11_code
def yL_staffed : MethodName := ⟨RL, "staffed", "(LSkiSchool;[II[I[I[I)Z"⟩
abbrev cL_law : ByteArray := code
def yL_law : MethodName := ⟨RL, "law", "([I)Z"⟩
abbrev vwCl : List vw_C := [(RX0, TX0, 11), (RX1, TX1, 6), (RX2, TX2, 5), (RX3, TX3, 13), (RX4, TX4, 7), (RX5, TX5, 12), (RX6, TX6, 10), (RX7, TX7, 4), (RX8, TX8, 14)]
/-! ===== END printed: names ===== -/