section
-- ===== PART A: goes FIRST, ahead of the names: the tables' words, and 'selects' of the private methods out of them =====
/-- a private method of a class that the tables say can be made, by its rows of tables_1 -/
def lw_okq (q : MethodName × Nat) : Prop := (q.1.cls ≠ "java/lang/invoke/MethodHandle" ∧ q.1.cls ≠ "java/lang/invoke/VarHandle") ∧ Cond.instantiable q.1.cls q.2 ∈ tables_1 ∧ Cond.privateMethod q.1 ∈ tables_1 ∧ Cond.instanceMethod q.1 ∈ tables_1
theorem lw_p0 : lw_okq (⟨"SkiSchool", "freePupilNumber", "()I"⟩, 14) := ⟨⟨by decide +kernel, by decide +kernel⟩, List.mem_of_getElem? (i := 15) (by decide +kernel), List.mem_of_getElem? (i := 410) (by decide +kernel), List.mem_of_getElem? (i := 411) (by decide +kernel)⟩
theorem lw_p1 : lw_okq (⟨"SkiSchool", "separateIfBroken", "(I)I"⟩, 14) := ⟨⟨by decide +kernel, by decide +kernel⟩, List.mem_of_getElem? (i := 15) (by decide +kernel), List.mem_of_getElem? (i := 425) (by decide +kernel), List.mem_of_getElem? (i := 426) (by decide +kernel)⟩
theorem lw_p2 : lw_okq (⟨"SkiSchool", "isInOnePlace", "(I)Z"⟩, 14) := ⟨⟨by decide +kernel, by decide +kernel⟩, List.mem_of_getElem? (i := 15) (by decide +kernel), List.mem_of_getElem? (i := 429) (by decide +kernel), List.mem_of_getElem? (i := 430) (by decide +kernel)⟩
theorem lw_p3 : lw_okq (⟨"SkiSchool", "hasPupil", "(I)Z"⟩, 14) := ⟨⟨by decide +kernel, by decide +kernel⟩, List.mem_of_getElem? (i := 15) (by decide +kernel), List.mem_of_getElem? (i := 441) (by decide +kernel), List.mem_of_getElem? (i := 442) (by decide +kernel)⟩
theorem lw_p4 : lw_okq (⟨"SkiSchool", "levelAfterTest", "(LSkiSchool$Pupil;)I"⟩, 14) := ⟨⟨by decide +kernel, by decide +kernel⟩, List.mem_of_getElem? (i := 15) (by decide +kernel), List.mem_of_getElem? (i := 503) (by decide +kernel), List.mem_of_getElem? (i := 504) (by decide +kernel)⟩
theorem lw_p5 : lw_okq (⟨"SkiSchool", "hasGroup", "(I)Z"⟩, 14) := ⟨⟨by decide +kernel, by decide +kernel⟩, List.mem_of_getElem? (i := 15) (by decide +kernel), List.mem_of_getElem? (i := 517) (by decide +kernel), List.mem_of_getElem? (i := 518) (by decide +kernel)⟩
theorem lw_p6 : lw_okq (⟨"SkiSchool", "freeGroupNumber", "()I"⟩, 14) := ⟨⟨by decide +kernel, by decide +kernel⟩, List.mem_of_getElem? (i := 15) (by decide +kernel), List.mem_of_getElem? (i := 539) (by decide +kernel), List.mem_of_getElem? (i := 540) (by decide +kernel)⟩
theorem lw_p7 : lw_okq (⟨"SkiSchool", "countPupilsIn", "(I)I"⟩, 14) := ⟨⟨by decide +kernel, by decide +kernel⟩, List.mem_of_getElem? (i := 15) (by decide +kernel), List.mem_of_getElem? (i := 571) (by decide +kernel), List.mem_of_getElem? (i := 572) (by decide +kernel)⟩
theorem lw_p8 : lw_okq (⟨"SkiSchool$Planner", "gatherUnits", "([LSkiSchool$Pupil;[LSkiSchool$Group;[Z)V"⟩, 13) := ⟨⟨by decide +kernel, by decide +kernel⟩, List.mem_of_getElem? (i := 31) (by decide +kernel), List.mem_of_getElem? (i := 587) (by decide +kernel), List.mem_of_getElem? (i := 588) (by decide +kernel)⟩
theorem lw_p9 : lw_okq (⟨"SkiSchool$Planner", "unitFor", "(I[Z)I"⟩, 13) := ⟨⟨by decide +kernel, by decide +kernel⟩, List.mem_of_getElem? (i := 31) (by decide +kernel), List.mem_of_getElem? (i := 592) (by decide +kernel), List.mem_of_getElem? (i := 593) (by decide +kernel)⟩
theorem lw_p10 : lw_okq (⟨"SkiSchool$Planner", "newUnit", "()I"⟩, 13) := ⟨⟨by decide +kernel, by decide +kernel⟩, List.mem_of_getElem? (i := 31) (by decide +kernel), List.mem_of_getElem? (i := 597) (by decide +kernel), List.mem_of_getElem? (i := 598) (by decide +kernel)⟩
theorem lw_p11 : lw_okq (⟨"SkiSchool$Planner", "addHead", "(ILSkiSchool$Pupil;[LSkiSchool$Group;)V"⟩, 13) := ⟨⟨by decide +kernel, by decide +kernel⟩, List.mem_of_getElem? (i := 31) (by decide +kernel), List.mem_of_getElem? (i := 602) (by decide +kernel), List.mem_of_getElem? (i := 603) (by decide +kernel)⟩
theorem lw_p12 : lw_okq (⟨"SkiSchool$Planner", "limitSeats", "([LSkiSchool$Group;)V"⟩, 13) := ⟨⟨by decide +kernel, by decide +kernel⟩, List.mem_of_getElem? (i := 31) (by decide +kernel), List.mem_of_getElem? (i := 607) (by decide +kernel), List.mem_of_getElem? (i := 608) (by decide +kernel)⟩
theorem lw_p13 : lw_okq (⟨"SkiSchool$Planner", "chooseFor", "(I)V"⟩, 13) := ⟨⟨by decide +kernel, by decide +kernel⟩, List.mem_of_getElem? (i := 31) (by decide +kernel), List.mem_of_getElem? (i := 611) (by decide +kernel), List.mem_of_getElem? (i := 612) (by decide +kernel)⟩
theorem lw_p14 : lw_okq (⟨"SkiSchool$Planner", "listOptions", "(I)I"⟩, 13) := ⟨⟨by decide +kernel, by decide +kernel⟩, List.mem_of_getElem? (i := 31) (by decide +kernel), List.mem_of_getElem? (i := 615) (by decide +kernel), List.mem_of_getElem? (i := 616) (by decide +kernel)⟩
theorem lw_p15 : lw_okq (⟨"SkiSchool$Planner", "countDown", "()V"⟩, 13) := ⟨⟨by decide +kernel, by decide +kernel⟩, List.mem_of_getElem? (i := 31) (by decide +kernel), List.mem_of_getElem? (i := 622) (by decide +kernel), List.mem_of_getElem? (i := 623) (by decide +kernel)⟩
def lw_privs_1 : List (MethodName × Nat) := [(⟨"SkiSchool", "freePupilNumber", "()I"⟩, 14), (⟨"SkiSchool", "separateIfBroken", "(I)I"⟩, 14), (⟨"SkiSchool", "isInOnePlace", "(I)Z"⟩, 14), (⟨"SkiSchool", "hasPupil", "(I)Z"⟩, 14), (⟨"SkiSchool", "levelAfterTest", "(LSkiSchool$Pupil;)I"⟩, 14), (⟨"SkiSchool", "hasGroup", "(I)Z"⟩, 14), (⟨"SkiSchool", "freeGroupNumber", "()I"⟩, 14), (⟨"SkiSchool", "countPupilsIn", "(I)I"⟩, 14), (⟨"SkiSchool$Planner", "gatherUnits", "([LSkiSchool$Pupil;[LSkiSchool$Group;[Z)V"⟩, 13), (⟨"SkiSchool$Planner", "unitFor", "(I[Z)I"⟩, 13), (⟨"SkiSchool$Planner", "newUnit", "()I"⟩, 13), (⟨"SkiSchool$Planner", "addHead", "(ILSkiSchool$Pupil;[LSkiSchool$Group;)V"⟩, 13), (⟨"SkiSchool$Planner", "limitSeats", "([LSkiSchool$Group;)V"⟩, 13), (⟨"SkiSchool$Planner", "chooseFor", "(I)V"⟩, 13), (⟨"SkiSchool$Planner", "listOptions", "(I)I"⟩, 13), (⟨"SkiSchool$Planner", "countDown", "()V"⟩, 13)]
theorem lw_r1 : ∀ q ∈ lw_privs_1, lw_okq q := List.forall_mem_cons.mpr ⟨lw_p0, List.forall_mem_cons.mpr ⟨lw_p1, List.forall_mem_cons.mpr ⟨lw_p2, List.forall_mem_cons.mpr ⟨lw_p3, List.forall_mem_cons.mpr ⟨lw_p4, List.forall_mem_cons.mpr ⟨lw_p5, List.forall_mem_cons.mpr ⟨lw_p6, List.forall_mem_cons.mpr ⟨lw_p7, List.forall_mem_cons.mpr ⟨lw_p8, List.forall_mem_cons.mpr ⟨lw_p9, List.forall_mem_cons.mpr ⟨lw_p10, List.forall_mem_cons.mpr ⟨lw_p11, List.forall_mem_cons.mpr ⟨lw_p12, List.forall_mem_cons.mpr ⟨lw_p13, List.forall_mem_cons.mpr ⟨lw_p14, List.forall_mem_cons.mpr ⟨lw_p15, fun _ h => absurd h List.not_mem_nil⟩⟩⟩⟩⟩⟩⟩⟩⟩⟩⟩⟩⟩⟩⟩⟩
theorem lw_p16 : lw_okq (⟨"SkiSchool$Planner", "followChoices", "()V"⟩, 13) := ⟨⟨by decide +kernel, by decide +kernel⟩, List.mem_of_getElem? (i := 31) (by decide +kernel), List.mem_of_getElem? (i := 626) (by decide +kernel), List.mem_of_getElem? (i := 627) (by decide +kernel)⟩
theorem lw_p17 : lw_okq (⟨"SkiSchool", "freeInstructorNumber", "()I"⟩, 14) := ⟨⟨by decide +kernel, by decide +kernel⟩, List.mem_of_getElem? (i := 15) (by decide +kernel), List.mem_of_getElem? (i := 657) (by decide +kernel), List.mem_of_getElem? (i := 658) (by decide +kernel)⟩
theorem lw_p18 : lw_okq (⟨"SkiSchool", "hasInstructor", "(I)Z"⟩, 14) := ⟨⟨by decide +kernel, by decide +kernel⟩, List.mem_of_getElem? (i := 15) (by decide +kernel), List.mem_of_getElem? (i := 669) (by decide +kernel), List.mem_of_getElem? (i := 670) (by decide +kernel)⟩
theorem lw_p19 : lw_okq (⟨"SkiSchool", "isActive", "(I)Z"⟩, 14) := ⟨⟨by decide +kernel, by decide +kernel⟩, List.mem_of_getElem? (i := 15) (by decide +kernel), List.mem_of_getElem? (i := 690) (by decide +kernel), List.mem_of_getElem? (i := 691) (by decide +kernel)⟩
theorem lw_p20 : lw_okq (⟨"SkiSchool", "isPaid", "(I)Z"⟩, 14) := ⟨⟨by decide +kernel, by decide +kernel⟩, List.mem_of_getElem? (i := 15) (by decide +kernel), List.mem_of_getElem? (i := 707) (by decide +kernel), List.mem_of_getElem? (i := 708) (by decide +kernel)⟩
theorem lw_p21 : lw_okq (⟨"SkiSchool", "hasLift", "(I)Z"⟩, 14) := ⟨⟨by decide +kernel, by decide +kernel⟩, List.mem_of_getElem? (i := 15) (by decide +kernel), List.mem_of_getElem? (i := 728) (by decide +kernel), List.mem_of_getElem? (i := 729) (by decide +kernel)⟩
theorem lw_p22 : lw_okq (⟨"SkiSchool", "countPersons", "()V"⟩, 14) := ⟨⟨by decide +kernel, by decide +kernel⟩, List.mem_of_getElem? (i := 15) (by decide +kernel), List.mem_of_getElem? (i := 744) (by decide +kernel), List.mem_of_getElem? (i := 745) (by decide +kernel)⟩
theorem lw_p23 : lw_okq (⟨"SkiSchool", "takesPart", "(I)Z"⟩, 14) := ⟨⟨by decide +kernel, by decide +kernel⟩, List.mem_of_getElem? (i := 15) (by decide +kernel), List.mem_of_getElem? (i := 748) (by decide +kernel), List.mem_of_getElem? (i := 749) (by decide +kernel)⟩
theorem lw_p24 : lw_okq (⟨"SkiSchool$Simulation", "joinQueues", "([LSkiSchool$Group;I)V"⟩, 10) := ⟨⟨by decide +kernel, by decide +kernel⟩, List.mem_of_getElem? (i := 104) (by decide +kernel), List.mem_of_getElem? (i := 762) (by decide +kernel), List.mem_of_getElem? (i := 763) (by decide +kernel)⟩
theorem lw_p25 : lw_okq (⟨"SkiSchool$Simulation", "depart", "(ILSkiSchool$Lift;[LSkiSchool$Group;I)V"⟩, 10) := ⟨⟨by decide +kernel, by decide +kernel⟩, List.mem_of_getElem? (i := 104) (by decide +kernel), List.mem_of_getElem? (i := 771) (by decide +kernel), List.mem_of_getElem? (i := 772) (by decide +kernel)⟩
theorem lw_p26 : lw_okq (⟨"SkiSchool$Simulation", "leaveQueue", "(I)V"⟩, 10) := ⟨⟨by decide +kernel, by decide +kernel⟩, List.mem_of_getElem? (i := 104) (by decide +kernel), List.mem_of_getElem? (i := 775) (by decide +kernel), List.mem_of_getElem? (i := 776) (by decide +kernel)⟩
theorem lw_p27 : lw_okq (⟨"SkiSchool$Simulation", "completeRide", "(ILSkiSchool$Group;I)V"⟩, 10) := ⟨⟨by decide +kernel, by decide +kernel⟩, List.mem_of_getElem? (i := 104) (by decide +kernel), List.mem_of_getElem? (i := 779) (by decide +kernel), List.mem_of_getElem? (i := 780) (by decide +kernel)⟩
theorem lw_p28 : lw_okq (⟨"SkiSchool$Simulation", "waitAMinute", "(I)V"⟩, 10) := ⟨⟨by decide +kernel, by decide +kernel⟩, List.mem_of_getElem? (i := 104) (by decide +kernel), List.mem_of_getElem? (i := 783) (by decide +kernel), List.mem_of_getElem? (i := 784) (by decide +kernel)⟩
theorem lw_p29 : lw_okq (⟨"SkiSchool", "keepResults", "()V"⟩, 14) := ⟨⟨by decide +kernel, by decide +kernel⟩, List.mem_of_getElem? (i := 15) (by decide +kernel), List.mem_of_getElem? (i := 788) (by decide +kernel), List.mem_of_getElem? (i := 789) (by decide +kernel)⟩
theorem lw_p30 : lw_okq (⟨"SkiSchool$Roster", "skip", "(C)Z"⟩, 12) := ⟨⟨by decide +kernel, by decide +kernel⟩, List.mem_of_getElem? (i := 148) (by decide +kernel), List.mem_of_getElem? (i := 832) (by decide +kernel), List.mem_of_getElem? (i := 833) (by decide +kernel)⟩
theorem lw_p31 : lw_okq (⟨"SkiSchool$Roster", "readSign", "(II)I"⟩, 12) := ⟨⟨by decide +kernel, by decide +kernel⟩, List.mem_of_getElem? (i := 148) (by decide +kernel), List.mem_of_getElem? (i := 836) (by decide +kernel), List.mem_of_getElem? (i := 837) (by decide +kernel)⟩
def lw_privs_2 : List (MethodName × Nat) := [(⟨"SkiSchool$Planner", "followChoices", "()V"⟩, 13), (⟨"SkiSchool", "freeInstructorNumber", "()I"⟩, 14), (⟨"SkiSchool", "hasInstructor", "(I)Z"⟩, 14), (⟨"SkiSchool", "isActive", "(I)Z"⟩, 14), (⟨"SkiSchool", "isPaid", "(I)Z"⟩, 14), (⟨"SkiSchool", "hasLift", "(I)Z"⟩, 14), (⟨"SkiSchool", "countPersons", "()V"⟩, 14), (⟨"SkiSchool", "takesPart", "(I)Z"⟩, 14), (⟨"SkiSchool$Simulation", "joinQueues", "([LSkiSchool$Group;I)V"⟩, 10), (⟨"SkiSchool$Simulation", "depart", "(ILSkiSchool$Lift;[LSkiSchool$Group;I)V"⟩, 10), (⟨"SkiSchool$Simulation", "leaveQueue", "(I)V"⟩, 10), (⟨"SkiSchool$Simulation", "completeRide", "(ILSkiSchool$Group;I)V"⟩, 10), (⟨"SkiSchool$Simulation", "waitAMinute", "(I)V"⟩, 10), (⟨"SkiSchool", "keepResults", "()V"⟩, 14), (⟨"SkiSchool$Roster", "skip", "(C)Z"⟩, 12), (⟨"SkiSchool$Roster", "readSign", "(II)I"⟩, 12)]
theorem lw_r2 : ∀ q ∈ lw_privs_2, lw_okq q := List.forall_mem_cons.mpr ⟨lw_p16, List.forall_mem_cons.mpr ⟨lw_p17, List.forall_mem_cons.mpr ⟨lw_p18, List.forall_mem_cons.mpr ⟨lw_p19, List.forall_mem_cons.mpr ⟨lw_p20, List.forall_mem_cons.mpr ⟨lw_p21, List.forall_mem_cons.mpr ⟨lw_p22, List.forall_mem_cons.mpr ⟨lw_p23, List.forall_mem_cons.mpr ⟨lw_p24, List.forall_mem_cons.mpr ⟨lw_p25, List.forall_mem_cons.mpr ⟨lw_p26, List.forall_mem_cons.mpr ⟨lw_p27, List.forall_mem_cons.mpr ⟨lw_p28, List.forall_mem_cons.mpr ⟨lw_p29, List.forall_mem_cons.mpr ⟨lw_p30, List.forall_mem_cons.mpr ⟨lw_p31, fun _ h => absurd h List.not_mem_nil⟩⟩⟩⟩⟩⟩⟩⟩⟩⟩⟩⟩⟩⟩⟩⟩
theorem lw_p32 : lw_okq (⟨"SkiSchool$Roster", "readPupil", "()Z"⟩, 12) := ⟨⟨by decide +kernel, by decide +kernel⟩, List.mem_of_getElem? (i := 148) (by decide +kernel), List.mem_of_getElem? (i := 840) (by decide +kernel), List.mem_of_getElem? (i := 841) (by decide +kernel)⟩
theorem lw_p33 : lw_okq (⟨"SkiSchool$Roster", "readDigit", "(II)I"⟩, 12) := ⟨⟨by decide +kernel, by decide +kernel⟩, List.mem_of_getElem? (i := 148) (by decide +kernel), List.mem_of_getElem? (i := 844) (by decide +kernel), List.mem_of_getElem? (i := 845) (by decide +kernel)⟩
theorem lw_p34 : lw_okq (⟨"SkiSchool$Roster", "readLanguages", "()Z"⟩, 12) := ⟨⟨by decide +kernel, by decide +kernel⟩, List.mem_of_getElem? (i := 148) (by decide +kernel), List.mem_of_getElem? (i := 848) (by decide +kernel), List.mem_of_getElem? (i := 849) (by decide +kernel)⟩
theorem lw_p35 : lw_okq (⟨"SkiSchool$Roster", "readLanguage", "(I)I"⟩, 12) := ⟨⟨by decide +kernel, by decide +kernel⟩, List.mem_of_getElem? (i := 148) (by decide +kernel), List.mem_of_getElem? (i := 852) (by decide +kernel), List.mem_of_getElem? (i := 853) (by decide +kernel)⟩
theorem lw_p36 : lw_okq (⟨"SkiSchool$Roster", "readGroup", "()Z"⟩, 12) := ⟨⟨by decide +kernel, by decide +kernel⟩, List.mem_of_getElem? (i := 148) (by decide +kernel), List.mem_of_getElem? (i := 856) (by decide +kernel), List.mem_of_getElem? (i := 857) (by decide +kernel)⟩
theorem lw_p37 : lw_okq (⟨"SkiSchool$Roster", "readInstructor", "()Z"⟩, 12) := ⟨⟨by decide +kernel, by decide +kernel⟩, List.mem_of_getElem? (i := 148) (by decide +kernel), List.mem_of_getElem? (i := 860) (by decide +kernel), List.mem_of_getElem? (i := 861) (by decide +kernel)⟩
theorem lw_p38 : lw_okq (⟨"SkiSchool$Roster", "readWage", "()Z"⟩, 12) := ⟨⟨by decide +kernel, by decide +kernel⟩, List.mem_of_getElem? (i := 148) (by decide +kernel), List.mem_of_getElem? (i := 864) (by decide +kernel), List.mem_of_getElem? (i := 865) (by decide +kernel)⟩
theorem lw_p39 : lw_okq (⟨"SkiSchool", "carryOutEntry", "()I"⟩, 14) := ⟨⟨by decide +kernel, by decide +kernel⟩, List.mem_of_getElem? (i := 15) (by decide +kernel), List.mem_of_getElem? (i := 869) (by decide +kernel), List.mem_of_getElem? (i := 870) (by decide +kernel)⟩
theorem lw_p40 : lw_okq (⟨"SkiSchool", "mixPupils", "(J)J"⟩, 14) := ⟨⟨by decide +kernel, by decide +kernel⟩, List.mem_of_getElem? (i := 15) (by decide +kernel), List.mem_of_getElem? (i := 887) (by decide +kernel), List.mem_of_getElem? (i := 888) (by decide +kernel)⟩
theorem lw_p41 : lw_okq (⟨"SkiSchool", "mixGroups", "(J)J"⟩, 14) := ⟨⟨by decide +kernel, by decide +kernel⟩, List.mem_of_getElem? (i := 15) (by decide +kernel), List.mem_of_getElem? (i := 897) (by decide +kernel), List.mem_of_getElem? (i := 898) (by decide +kernel)⟩
theorem lw_p42 : lw_okq (⟨"SkiSchool", "mixInstructorsAndLifts", "(J)J"⟩, 14) := ⟨⟨by decide +kernel, by decide +kernel⟩, List.mem_of_getElem? (i := 15) (by decide +kernel), List.mem_of_getElem? (i := 906) (by decide +kernel), List.mem_of_getElem? (i := 907) (by decide +kernel)⟩
theorem lw_p43 : lw_okq (⟨"SkiSchoolModel", "pupilMany", "()I"⟩, 61) := ⟨⟨by decide +kernel, by decide +kernel⟩, List.mem_of_getElem? (i := 915) (by decide +kernel), List.mem_of_getElem? (i := 1122) (by decide +kernel), List.mem_of_getElem? (i := 1123) (by decide +kernel)⟩
theorem lw_p44 : lw_okq (⟨"SkiSchoolModel", "keepRule", "(I)I"⟩, 61) := ⟨⟨by decide +kernel, by decide +kernel⟩, List.mem_of_getElem? (i := 915) (by decide +kernel), List.mem_of_getElem? (i := 1126) (by decide +kernel), List.mem_of_getElem? (i := 1127) (by decide +kernel)⟩
theorem lw_p45 : lw_okq (⟨"SkiSchoolModel", "isOf", "(II)Z"⟩, 61) := ⟨⟨by decide +kernel, by decide +kernel⟩, List.mem_of_getElem? (i := 915) (by decide +kernel), List.mem_of_getElem? (i := 1130) (by decide +kernel), List.mem_of_getElem? (i := 1131) (by decide +kernel)⟩
theorem lw_p46 : lw_okq (⟨"SkiSchoolModel", "leaveAll", "(I)I"⟩, 61) := ⟨⟨by decide +kernel, by decide +kernel⟩, List.mem_of_getElem? (i := 915) (by decide +kernel), List.mem_of_getElem? (i := 1134) (by decide +kernel), List.mem_of_getElem? (i := 1135) (by decide +kernel)⟩
theorem lw_p47 : lw_okq (⟨"SkiSchoolModel", "hasPupil", "(I)Z"⟩, 61) := ⟨⟨by decide +kernel, by decide +kernel⟩, List.mem_of_getElem? (i := 915) (by decide +kernel), List.mem_of_getElem? (i := 1142) (by decide +kernel), List.mem_of_getElem? (i := 1143) (by decide +kernel)⟩
def lw_privs_3 : List (MethodName × Nat) := [(⟨"SkiSchool$Roster", "readPupil", "()Z"⟩, 12), (⟨"SkiSchool$Roster", "readDigit", "(II)I"⟩, 12), (⟨"SkiSchool$Roster", "readLanguages", "()Z"⟩, 12), (⟨"SkiSchool$Roster", "readLanguage", "(I)I"⟩, 12), (⟨"SkiSchool$Roster", "readGroup", "()Z"⟩, 12), (⟨"SkiSchool$Roster", "readInstructor", "()Z"⟩, 12), (⟨"SkiSchool$Roster", "readWage", "()Z"⟩, 12), (⟨"SkiSchool", "carryOutEntry", "()I"⟩, 14), (⟨"SkiSchool", "mixPupils", "(J)J"⟩, 14), (⟨"SkiSchool", "mixGroups", "(J)J"⟩, 14), (⟨"SkiSchool", "mixInstructorsAndLifts", "(J)J"⟩, 14), (⟨"SkiSchoolModel", "pupilMany", "()I"⟩, 61), (⟨"SkiSchoolModel", "keepRule", "(I)I"⟩, 61), (⟨"SkiSchoolModel", "isOf", "(II)Z"⟩, 61), (⟨"SkiSchoolModel", "leaveAll", "(I)I"⟩, 61), (⟨"SkiSchoolModel", "hasPupil", "(I)Z"⟩, 61)]
theorem lw_r3 : ∀ q ∈ lw_privs_3, lw_okq q := List.forall_mem_cons.mpr ⟨lw_p32, List.forall_mem_cons.mpr ⟨lw_p33, List.forall_mem_cons.mpr ⟨lw_p34, List.forall_mem_cons.mpr ⟨lw_p35, List.forall_mem_cons.mpr ⟨lw_p36, List.forall_mem_cons.mpr ⟨lw_p37, List.forall_mem_cons.mpr ⟨lw_p38, List.forall_mem_cons.mpr ⟨lw_p39, List.forall_mem_cons.mpr ⟨lw_p40, List.forall_mem_cons.mpr ⟨lw_p41, List.forall_mem_cons.mpr ⟨lw_p42, List.forall_mem_cons.mpr ⟨lw_p43, List.forall_mem_cons.mpr ⟨lw_p44, List.forall_mem_cons.mpr ⟨lw_p45, List.forall_mem_cons.mpr ⟨lw_p46, List.forall_mem_cons.mpr ⟨lw_p47, fun _ h => absurd h List.not_mem_nil⟩⟩⟩⟩⟩⟩⟩⟩⟩⟩⟩⟩⟩⟩⟩⟩
theorem lw_p48 : lw_okq (⟨"SkiSchoolModel", "spreadOf", "(I)I"⟩, 61) := ⟨⟨by decide +kernel, by decide +kernel⟩, List.mem_of_getElem? (i := 915) (by decide +kernel), List.mem_of_getElem? (i := 1174) (by decide +kernel), List.mem_of_getElem? (i := 1175) (by decide +kernel)⟩
theorem lw_p49 : lw_okq (⟨"SkiSchoolModel", "scoreMany", "(I)I"⟩, 61) := ⟨⟨by decide +kernel, by decide +kernel⟩, List.mem_of_getElem? (i := 915) (by decide +kernel), List.mem_of_getElem? (i := 1185) (by decide +kernel), List.mem_of_getElem? (i := 1186) (by decide +kernel)⟩
theorem lw_p50 : lw_okq (⟨"SkiSchoolModel", "isFitting", "(III)Z"⟩, 61) := ⟨⟨by decide +kernel, by decide +kernel⟩, List.mem_of_getElem? (i := 915) (by decide +kernel), List.mem_of_getElem? (i := 1201) (by decide +kernel), List.mem_of_getElem? (i := 1202) (by decide +kernel)⟩
theorem lw_p51 : lw_okq (⟨"SkiSchoolModel", "groupMany", "()I"⟩, 61) := ⟨⟨by decide +kernel, by decide +kernel⟩, List.mem_of_getElem? (i := 915) (by decide +kernel), List.mem_of_getElem? (i := 1216) (by decide +kernel), List.mem_of_getElem? (i := 1217) (by decide +kernel)⟩
theorem lw_p52 : lw_okq (⟨"SkiSchoolModel", "freeGroup", "()I"⟩, 61) := ⟨⟨by decide +kernel, by decide +kernel⟩, List.mem_of_getElem? (i := 915) (by decide +kernel), List.mem_of_getElem? (i := 1220) (by decide +kernel), List.mem_of_getElem? (i := 1221) (by decide +kernel)⟩
theorem lw_p53 : lw_okq (⟨"SkiSchoolModel", "hasGroup", "(I)Z"⟩, 61) := ⟨⟨by decide +kernel, by decide +kernel⟩, List.mem_of_getElem? (i := 915) (by decide +kernel), List.mem_of_getElem? (i := 1228) (by decide +kernel), List.mem_of_getElem? (i := 1229) (by decide +kernel)⟩
theorem lw_p54 : lw_okq (⟨"SkiSchoolModel", "sizeOf", "(I)I"⟩, 61) := ⟨⟨by decide +kernel, by decide +kernel⟩, List.mem_of_getElem? (i := 915) (by decide +kernel), List.mem_of_getElem? (i := 1232) (by decide +kernel), List.mem_of_getElem? (i := 1233) (by decide +kernel)⟩
theorem lw_p55 : lw_okq (⟨"SkiSchoolModel", "planGroups", "()V"⟩, 61) := ⟨⟨by decide +kernel, by decide +kernel⟩, List.mem_of_getElem? (i := 915) (by decide +kernel), List.mem_of_getElem? (i := 1256) (by decide +kernel), List.mem_of_getElem? (i := 1257) (by decide +kernel)⟩
theorem lw_p56 : lw_okq (⟨"SkiSchoolModel", "plan", "(I)I"⟩, 61) := ⟨⟨by decide +kernel, by decide +kernel⟩, List.mem_of_getElem? (i := 915) (by decide +kernel), List.mem_of_getElem? (i := 1260) (by decide +kernel), List.mem_of_getElem? (i := 1261) (by decide +kernel)⟩
theorem lw_p57 : lw_okq (⟨"SkiSchoolModel", "findUnits", "(I)V"⟩, 61) := ⟨⟨by decide +kernel, by decide +kernel⟩, List.mem_of_getElem? (i := 915) (by decide +kernel), List.mem_of_getElem? (i := 1264) (by decide +kernel), List.mem_of_getElem? (i := 1265) (by decide +kernel)⟩
theorem lw_p58 : lw_okq (⟨"SkiSchoolModel", "addOut", "(III)V"⟩, 61) := ⟨⟨by decide +kernel, by decide +kernel⟩, List.mem_of_getElem? (i := 915) (by decide +kernel), List.mem_of_getElem? (i := 1268) (by decide +kernel), List.mem_of_getElem? (i := 1269) (by decide +kernel)⟩
theorem lw_p59 : lw_okq (⟨"SkiSchoolModel", "mayGet", "(III)Z"⟩, 61) := ⟨⟨by decide +kernel, by decide +kernel⟩, List.mem_of_getElem? (i := 915) (by decide +kernel), List.mem_of_getElem? (i := 1272) (by decide +kernel), List.mem_of_getElem? (i := 1273) (by decide +kernel)⟩
theorem lw_p60 : lw_okq (⟨"SkiSchoolModel", "worthOf", "(III)I"⟩, 61) := ⟨⟨by decide +kernel, by decide +kernel⟩, List.mem_of_getElem? (i := 915) (by decide +kernel), List.mem_of_getElem? (i := 1279) (by decide +kernel), List.mem_of_getElem? (i := 1280) (by decide +kernel)⟩
theorem lw_p61 : lw_okq (⟨"SkiSchoolModel", "placedMany", "()I"⟩, 61) := ⟨⟨by decide +kernel, by decide +kernel⟩, List.mem_of_getElem? (i := 915) (by decide +kernel), List.mem_of_getElem? (i := 1287) (by decide +kernel), List.mem_of_getElem? (i := 1288) (by decide +kernel)⟩
theorem lw_p62 : lw_okq (⟨"SkiSchoolModel", "outMany", "()I"⟩, 61) := ⟨⟨by decide +kernel, by decide +kernel⟩, List.mem_of_getElem? (i := 915) (by decide +kernel), List.mem_of_getElem? (i := 1295) (by decide +kernel), List.mem_of_getElem? (i := 1296) (by decide +kernel)⟩
theorem lw_p63 : lw_okq (⟨"SkiSchoolModel", "instructorMany", "()I"⟩, 61) := ⟨⟨by decide +kernel, by decide +kernel⟩, List.mem_of_getElem? (i := 915) (by decide +kernel), List.mem_of_getElem? (i := 1312) (by decide +kernel), List.mem_of_getElem? (i := 1313) (by decide +kernel)⟩
def lw_privs_4 : List (MethodName × Nat) := [(⟨"SkiSchoolModel", "spreadOf", "(I)I"⟩, 61), (⟨"SkiSchoolModel", "scoreMany", "(I)I"⟩, 61), (⟨"SkiSchoolModel", "isFitting", "(III)Z"⟩, 61), (⟨"SkiSchoolModel", "groupMany", "()I"⟩, 61), (⟨"SkiSchoolModel", "freeGroup", "()I"⟩, 61), (⟨"SkiSchoolModel", "hasGroup", "(I)Z"⟩, 61), (⟨"SkiSchoolModel", "sizeOf", "(I)I"⟩, 61), (⟨"SkiSchoolModel", "planGroups", "()V"⟩, 61), (⟨"SkiSchoolModel", "plan", "(I)I"⟩, 61), (⟨"SkiSchoolModel", "findUnits", "(I)V"⟩, 61), (⟨"SkiSchoolModel", "addOut", "(III)V"⟩, 61), (⟨"SkiSchoolModel", "mayGet", "(III)Z"⟩, 61), (⟨"SkiSchoolModel", "worthOf", "(III)I"⟩, 61), (⟨"SkiSchoolModel", "placedMany", "()I"⟩, 61), (⟨"SkiSchoolModel", "outMany", "()I"⟩, 61), (⟨"SkiSchoolModel", "instructorMany", "()I"⟩, 61)]
theorem lw_r4 : ∀ q ∈ lw_privs_4, lw_okq q := List.forall_mem_cons.mpr ⟨lw_p48, List.forall_mem_cons.mpr ⟨lw_p49, List.forall_mem_cons.mpr ⟨lw_p50, List.forall_mem_cons.mpr ⟨lw_p51, List.forall_mem_cons.mpr ⟨lw_p52, List.forall_mem_cons.mpr ⟨lw_p53, List.forall_mem_cons.mpr ⟨lw_p54, List.forall_mem_cons.mpr ⟨lw_p55, List.forall_mem_cons.mpr ⟨lw_p56, List.forall_mem_cons.mpr ⟨lw_p57, List.forall_mem_cons.mpr ⟨lw_p58, List.forall_mem_cons.mpr ⟨lw_p59, List.forall_mem_cons.mpr ⟨lw_p60, List.forall_mem_cons.mpr ⟨lw_p61, List.forall_mem_cons.mpr ⟨lw_p62, List.forall_mem_cons.mpr ⟨lw_p63, fun _ h => absurd h List.not_mem_nil⟩⟩⟩⟩⟩⟩⟩⟩⟩⟩⟩⟩⟩⟩⟩⟩
theorem lw_p64 : lw_okq (⟨"SkiSchoolModel", "hasInstructor", "(I)Z"⟩, 61) := ⟨⟨by decide +kernel, by decide +kernel⟩, List.mem_of_getElem? (i := 915) (by decide +kernel), List.mem_of_getElem? (i := 1320) (by decide +kernel), List.mem_of_getElem? (i := 1321) (by decide +kernel)⟩
theorem lw_p65 : lw_okq (⟨"SkiSchoolModel", "isTeaching", "(II)Z"⟩, 61) := ⟨⟨by decide +kernel, by decide +kernel⟩, List.mem_of_getElem? (i := 915) (by decide +kernel), List.mem_of_getElem? (i := 1332) (by decide +kernel), List.mem_of_getElem? (i := 1333) (by decide +kernel)⟩
theorem lw_p66 : lw_okq (⟨"SkiSchoolModel", "costOf", "(I)I"⟩, 61) := ⟨⟨by decide +kernel, by decide +kernel⟩, List.mem_of_getElem? (i := 915) (by decide +kernel), List.mem_of_getElem? (i := 1340) (by decide +kernel), List.mem_of_getElem? (i := 1341) (by decide +kernel)⟩
theorem lw_p67 : lw_okq (⟨"SkiSchoolModel", "isActive", "(I)Z"⟩, 61) := ⟨⟨by decide +kernel, by decide +kernel⟩, List.mem_of_getElem? (i := 915) (by decide +kernel), List.mem_of_getElem? (i := 1347) (by decide +kernel), List.mem_of_getElem? (i := 1348) (by decide +kernel)⟩
theorem lw_p68 : lw_okq (⟨"SkiSchoolModel", "hasLift", "(I)Z"⟩, 61) := ⟨⟨by decide +kernel, by decide +kernel⟩, List.mem_of_getElem? (i := 915) (by decide +kernel), List.mem_of_getElem? (i := 1368) (by decide +kernel), List.mem_of_getElem? (i := 1369) (by decide +kernel)⟩
theorem lw_p69 : lw_okq (⟨"SkiSchoolModel", "goThrough", "(I)V"⟩, 61) := ⟨⟨by decide +kernel, by decide +kernel⟩, List.mem_of_getElem? (i := 915) (by decide +kernel), List.mem_of_getElem? (i := 1387) (by decide +kernel), List.mem_of_getElem? (i := 1388) (by decide +kernel)⟩
theorem lw_p70 : lw_okq (⟨"SkiSchoolModel", "begin", "()V"⟩, 61) := ⟨⟨by decide +kernel, by decide +kernel⟩, List.mem_of_getElem? (i := 915) (by decide +kernel), List.mem_of_getElem? (i := 1391) (by decide +kernel), List.mem_of_getElem? (i := 1392) (by decide +kernel)⟩
theorem lw_p71 : lw_okq (⟨"SkiSchoolModel", "takesPart", "(I)Z"⟩, 61) := ⟨⟨by decide +kernel, by decide +kernel⟩, List.mem_of_getElem? (i := 915) (by decide +kernel), List.mem_of_getElem? (i := 1395) (by decide +kernel), List.mem_of_getElem? (i := 1396) (by decide +kernel)⟩
theorem lw_p72 : lw_okq (⟨"SkiSchoolModel", "depart", "(II)V"⟩, 61) := ⟨⟨by decide +kernel, by decide +kernel⟩, List.mem_of_getElem? (i := 915) (by decide +kernel), List.mem_of_getElem? (i := 1399) (by decide +kernel), List.mem_of_getElem? (i := 1400) (by decide +kernel)⟩
theorem lw_p73 : lw_okq (⟨"SkiSchoolModel", "leave", "(II)V"⟩, 61) := ⟨⟨by decide +kernel, by decide +kernel⟩, List.mem_of_getElem? (i := 915) (by decide +kernel), List.mem_of_getElem? (i := 1403) (by decide +kernel), List.mem_of_getElem? (i := 1404) (by decide +kernel)⟩
theorem lw_p74 : lw_okq (⟨"SkiSchoolModel", "entry", "(Z)I"⟩, 61) := ⟨⟨by decide +kernel, by decide +kernel⟩, List.mem_of_getElem? (i := 915) (by decide +kernel), List.mem_of_getElem? (i := 1439) (by decide +kernel), List.mem_of_getElem? (i := 1440) (by decide +kernel)⟩
theorem lw_p75 : lw_okq (⟨"SkiSchoolModel", "takes", "(I)Z"⟩, 61) := ⟨⟨by decide +kernel, by decide +kernel⟩, List.mem_of_getElem? (i := 915) (by decide +kernel), List.mem_of_getElem? (i := 1443) (by decide +kernel), List.mem_of_getElem? (i := 1444) (by decide +kernel)⟩
theorem lw_p76 : lw_okq (⟨"SkiSchoolModel", "next", "()I"⟩, 61) := ⟨⟨by decide +kernel, by decide +kernel⟩, List.mem_of_getElem? (i := 915) (by decide +kernel), List.mem_of_getElem? (i := 1447) (by decide +kernel), List.mem_of_getElem? (i := 1448) (by decide +kernel)⟩
theorem lw_p77 : lw_okq (⟨"SkiSchoolModel", "readsPupil", "()Z"⟩, 61) := ⟨⟨by decide +kernel, by decide +kernel⟩, List.mem_of_getElem? (i := 915) (by decide +kernel), List.mem_of_getElem? (i := 1451) (by decide +kernel), List.mem_of_getElem? (i := 1452) (by decide +kernel)⟩
theorem lw_p78 : lw_okq (⟨"SkiSchoolModel", "readsDigit", "(II)Z"⟩, 61) := ⟨⟨by decide +kernel, by decide +kernel⟩, List.mem_of_getElem? (i := 915) (by decide +kernel), List.mem_of_getElem? (i := 1455) (by decide +kernel), List.mem_of_getElem? (i := 1456) (by decide +kernel)⟩
theorem lw_p79 : lw_okq (⟨"SkiSchoolModel", "readsSet", "()Z"⟩, 61) := ⟨⟨by decide +kernel, by decide +kernel⟩, List.mem_of_getElem? (i := 915) (by decide +kernel), List.mem_of_getElem? (i := 1459) (by decide +kernel), List.mem_of_getElem? (i := 1460) (by decide +kernel)⟩
def lw_privs_5 : List (MethodName × Nat) := [(⟨"SkiSchoolModel", "hasInstructor", "(I)Z"⟩, 61), (⟨"SkiSchoolModel", "isTeaching", "(II)Z"⟩, 61), (⟨"SkiSchoolModel", "costOf", "(I)I"⟩, 61), (⟨"SkiSchoolModel", "isActive", "(I)Z"⟩, 61), (⟨"SkiSchoolModel", "hasLift", "(I)Z"⟩, 61), (⟨"SkiSchoolModel", "goThrough", "(I)V"⟩, 61), (⟨"SkiSchoolModel", "begin", "()V"⟩, 61), (⟨"SkiSchoolModel", "takesPart", "(I)Z"⟩, 61), (⟨"SkiSchoolModel", "depart", "(II)V"⟩, 61), (⟨"SkiSchoolModel", "leave", "(II)V"⟩, 61), (⟨"SkiSchoolModel", "entry", "(Z)I"⟩, 61), (⟨"SkiSchoolModel", "takes", "(I)Z"⟩, 61), (⟨"SkiSchoolModel", "next", "()I"⟩, 61), (⟨"SkiSchoolModel", "readsPupil", "()Z"⟩, 61), (⟨"SkiSchoolModel", "readsDigit", "(II)Z"⟩, 61), (⟨"SkiSchoolModel", "readsSet", "()Z"⟩, 61)]
theorem lw_r5 : ∀ q ∈ lw_privs_5, lw_okq q := List.forall_mem_cons.mpr ⟨lw_p64, List.forall_mem_cons.mpr ⟨lw_p65, List.forall_mem_cons.mpr ⟨lw_p66, List.forall_mem_cons.mpr ⟨lw_p67, List.forall_mem_cons.mpr ⟨lw_p68, List.forall_mem_cons.mpr ⟨lw_p69, List.forall_mem_cons.mpr ⟨lw_p70, List.forall_mem_cons.mpr ⟨lw_p71, List.forall_mem_cons.mpr ⟨lw_p72, List.forall_mem_cons.mpr ⟨lw_p73, List.forall_mem_cons.mpr ⟨lw_p74, List.forall_mem_cons.mpr ⟨lw_p75, List.forall_mem_cons.mpr ⟨lw_p76, List.forall_mem_cons.mpr ⟨lw_p77, List.forall_mem_cons.mpr ⟨lw_p78, List.forall_mem_cons.mpr ⟨lw_p79, fun _ h => absurd h List.not_mem_nil⟩⟩⟩⟩⟩⟩⟩⟩⟩⟩⟩⟩⟩⟩⟩⟩
theorem lw_p80 : lw_okq (⟨"SkiSchoolModel", "readsGroup", "()Z"⟩, 61) := ⟨⟨by decide +kernel, by decide +kernel⟩, List.mem_of_getElem? (i := 915) (by decide +kernel), List.mem_of_getElem? (i := 1464) (by decide +kernel), List.mem_of_getElem? (i := 1465) (by decide +kernel)⟩
theorem lw_p81 : lw_okq (⟨"SkiSchoolModel", "readsInstructor", "()Z"⟩, 61) := ⟨⟨by decide +kernel, by decide +kernel⟩, List.mem_of_getElem? (i := 915) (by decide +kernel), List.mem_of_getElem? (i := 1469) (by decide +kernel), List.mem_of_getElem? (i := 1470) (by decide +kernel)⟩
theorem lw_p82 : lw_okq (⟨"SkiSchoolModel", "readsWage", "()Z"⟩, 61) := ⟨⟨by decide +kernel, by decide +kernel⟩, List.mem_of_getElem? (i := 915) (by decide +kernel), List.mem_of_getElem? (i := 1473) (by decide +kernel), List.mem_of_getElem? (i := 1474) (by decide +kernel)⟩
def lw_privs_6 : List (MethodName × Nat) := [(⟨"SkiSchoolModel", "readsGroup", "()Z"⟩, 61), (⟨"SkiSchoolModel", "readsInstructor", "()Z"⟩, 61), (⟨"SkiSchoolModel", "readsWage", "()Z"⟩, 61)]
theorem lw_r6 : ∀ q ∈ lw_privs_6, lw_okq q := List.forall_mem_cons.mpr ⟨lw_p80, List.forall_mem_cons.mpr ⟨lw_p81, List.forall_mem_cons.mpr ⟨lw_p82, fun _ h => absurd h List.not_mem_nil⟩⟩⟩
def lw_privs : List (MethodName × Nat) := lw_privs_1 ++ (lw_privs_2 ++ (lw_privs_3 ++ (lw_privs_4 ++ (lw_privs_5 ++ (lw_privs_6)))))
def lw_tbl : List Cond := k2_sels lw_privs ++ tables_1
theorem lw_privs_ok : ∀ q ∈ lw_privs, lw_okq q := by
  show ∀ q ∈ lw_privs_1 ++ (lw_privs_2 ++ (lw_privs_3 ++ (lw_privs_4 ++ (lw_privs_5 ++ (lw_privs_6))))), lw_okq q
  exact List.forall_mem_append.mpr ⟨lw_r1, List.forall_mem_append.mpr ⟨lw_r2, List.forall_mem_append.mpr ⟨lw_r3, List.forall_mem_append.mpr ⟨lw_r4, List.forall_mem_append.mpr ⟨lw_r5, lw_r6⟩⟩⟩⟩⟩
/-! ===== BEGIN words of one list among another's, by their places ===== -/
theorem goodIn_r {big : List Cond} (ws : List Cond) (ps : List Nat) (hp : ws = ps.filterMap (fun i => big[i]?)) (h : ws.all goodWord = true) : GoodIn big ws := by
  intro w hw
  have h1 := List.all_eq_true.mp h w hw
  rw [hp] at hw
  obtain ⟨i, -, hi⟩ := List.mem_filterMap.mp hw
  have hm : w ∈ big := by first | exact List.mem_of_getElem? hi | exact List.getElem?_mem hi
  exact ⟨hm, good_of_word h1⟩
theorem goodIn_app {big a b : List Cond} (ha : GoodIn big a) (hb : GoodIn big b) : GoodIn big (a ++ b) := fun w h => (List.mem_append.mp h).elim (ha w) (hb w)
theorem goodIn_ca {big a b : List Cond} {c : Cond} (ha : GoodIn big (c :: a)) (hb : GoodIn big b) : GoodIn big (c :: (a ++ b)) := fun w h => (List.mem_cons.mp h).elim (fun e => ha w (List.mem_cons.mpr (Or.inl e))) (fun h => (List.mem_append.mp h).elim (fun h => ha w (List.mem_cons.mpr (Or.inr h))) (hb w))
theorem goodIn_sub {big ws : List Cond} (hm : ∀ w ∈ ws, w ∈ big) (h : ws.all goodWord = true) : GoodIn big ws := fun w hw => ⟨hm w hw, good_of_word (List.all_eq_true.mp h w hw)⟩
/-! ===== END ===== -/
/-! ===== BEGIN printed: names, fields, word lists, decode rows ===== -/
def RX0 : String := "SkiSchool$Group"
def TX0 : u_T := fun k => match k with
  | 0 => ("SkiSchool$Group", "open", "Z", false)
  | 1 => ("SkiSchool$Group", "level", "I", false)
  | 2 => ("SkiSchool$Group", "language", "I", false)
  | 3 => ("SkiSchool$Group", "capacity", "I", false)
  | 4 => ("SkiSchool$Group", "instructor", "I", false)
  | 5 => ("SkiSchool$Group", "start", "I", false)
  | 6 => ("SkiSchool$Group", "stops", "I", false)
  | 7 => ("SkiSchool$Group", "lifts", "[I", true)
  | 8 => ("SkiSchool$Group", "slopes", "[I", true)
  | 9 => ("SkiSchool$Group", "waited", "I", false)
  | _ => ("SkiSchool$Group", "rides", "I", false)
def tyX0 : Nat → FieldType := fun k => match k with
  | 0 => .boolean
  | 1 => .int
  | 2 => .int
  | 3 => .int
  | 4 => .int
  | 5 => .int
  | 6 => .int
  | 7 => .array .int
  | 8 => .array .int
  | 9 => .int
  | _ => .int
abbrev wsX00 : List Cond := u_ws RX0 TX0 11
theorem nmX0 : ∀ a, a < 11 → ∀ b, b < 11 → a ≠ b → (TX0 a).2.1 ≠ (TX0 b).2.1 := by decide +kernel
theorem tyX0_ok : ∀ k, k < 11 → parseFieldDescriptor (TX0 k).2.2.1 = some (tyX0 k) := by decide +kernel
abbrev cX0_init : ByteArray := prog_2_method_1_code
def yX0_init : MethodName := ⟨RX0, "<init>", "()V"⟩
abbrev cX0_begin : ByteArray := prog_2_method_2_code
def yX0_begin : MethodName := ⟨RX0, "begin", "(III)V"⟩
abbrev cX0_end : ByteArray := prog_2_method_3_code
def yX0_end : MethodName := ⟨RX0, "end", "()V"⟩
abbrev cX0_suits : ByteArray := prog_2_method_4_code
def yX0_suits : MethodName := ⟨RX0, "suits", "(LSkiSchool$Pupil;)Z"⟩
def RX1 : String := "SkiSchool$Instructor"
def TX1 : u_T := fun k => match k with
  | 0 => ("SkiSchool$Instructor", "hired", "Z", false)
  | 1 => ("SkiSchool$Instructor", "languages", "I", false)
  | 2 => ("SkiSchool$Instructor", "lowest", "I", false)
  | 3 => ("SkiSchool$Instructor", "highest", "I", false)
  | 4 => ("SkiSchool$Instructor", "wage", "I", false)
  | _ => ("SkiSchool$Instructor", "earned", "I", false)
def tyX1 : Nat → FieldType := fun k => match k with
  | 0 => .boolean
  | 1 => .int
  | 2 => .int
  | 3 => .int
  | 4 => .int
  | _ => .int
abbrev wsX10 : List Cond := u_ws RX1 TX1 6
theorem nmX1 : ∀ a, a < 6 → ∀ b, b < 6 → a ≠ b → (TX1 a).2.1 ≠ (TX1 b).2.1 := by decide +kernel
theorem tyX1_ok : ∀ k, k < 6 → parseFieldDescriptor (TX1 k).2.2.1 = some (tyX1 k) := by decide +kernel
abbrev cX1_init : ByteArray := prog_3_method_1_code
def yX1_init : MethodName := ⟨RX1, "<init>", "()V"⟩
abbrev cX1_begin : ByteArray := prog_3_method_2_code
def yX1_begin : MethodName := ⟨RX1, "begin", "(IIII)V"⟩
abbrev cX1_teaches : ByteArray := prog_3_method_3_code
def yX1_teaches : MethodName := ⟨RX1, "teaches", "(LSkiSchool$Group;)Z"⟩
abbrev cX1_hasRoomFor : ByteArray := prog_3_method_4_code
def yX1_hasRoomFor : MethodName := ⟨RX1, "hasRoomFor", "(I)Z"⟩
def RX2 : String := "SkiSchool$Lift"
def TX2 : u_T := fun k => match k with
  | 0 => ("SkiSchool$Lift", "seats", "I", false)
  | 1 => ("SkiSchool$Lift", "interval", "I", false)
  | 2 => ("SkiSchool$Lift", "ride", "I", false)
  | 3 => ("SkiSchool$Lift", "longest", "I", false)
  | _ => ("SkiSchool$Lift", "taken", "I", false)
def tyX2 : Nat → FieldType := fun k => match k with
  | 0 => .int
  | 1 => .int
  | 2 => .int
  | 3 => .int
  | _ => .int
abbrev wsX20 : List Cond := u_ws RX2 TX2 5
theorem nmX2 : ∀ a, a < 5 → ∀ b, b < 5 → a ≠ b → (TX2 a).2.1 ≠ (TX2 b).2.1 := by decide +kernel
theorem tyX2_ok : ∀ k, k < 5 → parseFieldDescriptor (TX2 k).2.2.1 = some (tyX2 k) := by decide +kernel
abbrev cX2_init : ByteArray := prog_4_method_1_code
def yX2_init : MethodName := ⟨RX2, "<init>", "()V"⟩
abbrev cX2_departsAt : ByteArray := prog_4_method_2_code
def yX2_departsAt : MethodName := ⟨RX2, "departsAt", "(I)Z"⟩
def RX3 : String := "SkiSchool$Planner"
def TX3 : u_T := fun k => match k with
  | 0 => ("SkiSchool$Planner", "units", "I", false)
  | 1 => ("SkiSchool$Planner", "states", "I", false)
  | 2 => ("SkiSchool$Planner", "unitOf", "[I", true)
  | 3 => ("SkiSchool$Planner", "heads", "[I", true)
  | 4 => ("SkiSchool$Planner", "out", "[[I", true)
  | 5 => ("SkiSchool$Planner", "given", "[I", true)
  | 6 => ("SkiSchool$Planner", "unitOfFamily", "[I", true)
  | 7 => ("SkiSchool$Planner", "seats", "[I", true)
  | 8 => ("SkiSchool$Planner", "stride", "[I", true)
  | 9 => ("SkiSchool$Planner", "left", "[I", true)
  | 10 => ("SkiSchool$Planner", "options", "[I", true)
  | 11 => ("SkiSchool$Planner", "value", "[I", true)
  | _ => ("SkiSchool$Planner", "choices", "[J", true)
def tyX3 : Nat → FieldType := fun k => match k with
  | 0 => .int
  | 1 => .int
  | 2 => .array .int
  | 3 => .array .int
  | 4 => .array (.array .int)
  | 5 => .array .int
  | 6 => .array .int
  | 7 => .array .int
  | 8 => .array .int
  | 9 => .array .int
  | 10 => .array .int
  | 11 => .array .int
  | _ => .array .long
abbrev wsX30 : List Cond := u_ws RX3 TX3 13
theorem nmX3 : ∀ a, a < 13 → ∀ b, b < 13 → a ≠ b → (TX3 a).2.1 ≠ (TX3 b).2.1 := by decide +kernel
theorem tyX3_ok : ∀ k, k < 13 → parseFieldDescriptor (TX3 k).2.2.1 = some (tyX3 k) := by decide +kernel
abbrev cX3_init : ByteArray := prog_5_method_1_code
def yX3_init : MethodName := ⟨RX3, "<init>", "()V"⟩
abbrev cX3_findBest : ByteArray := prog_5_method_2_code
def yX3_findBest : MethodName := ⟨RX3, "findBest", "([LSkiSchool$Pupil;[LSkiSchool$Group;[Z)I"⟩
abbrev cX3_groupOf : ByteArray := prog_5_method_3_code
def yX3_groupOf : MethodName := ⟨RX3, "groupOf", "(I)I"⟩
abbrev cX3_gatherUnits : ByteArray := prog_5_method_4_code
def yX3_gatherUnits : MethodName := ⟨RX3, "gatherUnits", "([LSkiSchool$Pupil;[LSkiSchool$Group;[Z)V"⟩
abbrev cX3_unitFor : ByteArray := prog_5_method_5_code
def yX3_unitFor : MethodName := ⟨RX3, "unitFor", "(I[Z)I"⟩
abbrev cX3_newUnit : ByteArray := prog_5_method_6_code
def yX3_newUnit : MethodName := ⟨RX3, "newUnit", "()I"⟩
abbrev cX3_addHead : ByteArray := prog_5_method_7_code
def yX3_addHead : MethodName := ⟨RX3, "addHead", "(ILSkiSchool$Pupil;[LSkiSchool$Group;)V"⟩
abbrev cX3_limitSeats : ByteArray := prog_5_method_8_code
def yX3_limitSeats : MethodName := ⟨RX3, "limitSeats", "([LSkiSchool$Group;)V"⟩
abbrev cX3_chooseFor : ByteArray := prog_5_method_9_code
def yX3_chooseFor : MethodName := ⟨RX3, "chooseFor", "(I)V"⟩
abbrev cX3_listOptions : ByteArray := prog_5_method_10_code
def yX3_listOptions : MethodName := ⟨RX3, "listOptions", "(I)I"⟩
abbrev cX3_countDown : ByteArray := prog_5_method_11_code
def yX3_countDown : MethodName := ⟨RX3, "countDown", "()V"⟩
abbrev cX3_followChoices : ByteArray := prog_5_method_12_code
def yX3_followChoices : MethodName := ⟨RX3, "followChoices", "()V"⟩
def RX4 : String := "SkiSchool$Pupil"
def TX4 : u_T := fun k => match k with
  | 0 => ("SkiSchool$Pupil", "present", "Z", false)
  | 1 => ("SkiSchool$Pupil", "level", "I", false)
  | 2 => ("SkiSchool$Pupil", "languages", "I", false)
  | 3 => ("SkiSchool$Pupil", "family", "I", false)
  | 4 => ("SkiSchool$Pupil", "group", "I", false)
  | 5 => ("SkiSchool$Pupil", "lastGraded", "I", false)
  | _ => ("SkiSchool$Pupil", "scores", "[I", true)
def tyX4 : Nat → FieldType := fun k => match k with
  | 0 => .boolean
  | 1 => .int
  | 2 => .int
  | 3 => .int
  | 4 => .int
  | 5 => .int
  | _ => .array .int
abbrev wsX40 : List Cond := u_ws RX4 TX4 7
theorem nmX4 : ∀ a, a < 7 → ∀ b, b < 7 → a ≠ b → (TX4 a).2.1 ≠ (TX4 b).2.1 := by decide +kernel
theorem tyX4_ok : ∀ k, k < 7 → parseFieldDescriptor (TX4 k).2.2.1 = some (tyX4 k) := by decide +kernel
abbrev cX4_init : ByteArray := prog_6_method_1_code
def yX4_init : MethodName := ⟨RX4, "<init>", "()V"⟩
abbrev cX4_enrol : ByteArray := prog_6_method_2_code
def yX4_enrol : MethodName := ⟨RX4, "enrol", "(III)V"⟩
abbrev cX4_isMember : ByteArray := prog_6_method_3_code
def yX4_isMember : MethodName := ⟨RX4, "isMember", "(I)Z"⟩
abbrev cX4_isIn : ByteArray := prog_6_method_4_code
def yX4_isIn : MethodName := ⟨RX4, "isIn", "(I)Z"⟩
abbrev cX4_clearScores : ByteArray := prog_6_method_5_code
def yX4_clearScores : MethodName := ⟨RX4, "clearScores", "()V"⟩
abbrev cX4_countScores : ByteArray := prog_6_method_6_code
def yX4_countScores : MethodName := ⟨RX4, "countScores", "()I"⟩
abbrev cX4_sumScores : ByteArray := prog_6_method_7_code
def yX4_sumScores : MethodName := ⟨RX4, "sumScores", "()I"⟩
abbrev cX4_lowestScore : ByteArray := prog_6_method_8_code
def yX4_lowestScore : MethodName := ⟨RX4, "lowestScore", "()I"⟩
def RX5 : String := "SkiSchool$Roster"
def TX5 : u_T := fun k => match k with
  | 0 => ("SkiSchool$Roster", "text", "[C", true)
  | 1 => ("SkiSchool$Roster", "length", "I", false)
  | 2 => ("SkiSchool$Roster", "at", "I", false)
  | 3 => ("SkiSchool$Roster", "kind", "C", false)
  | 4 => ("SkiSchool$Roster", "level", "I", false)
  | 5 => ("SkiSchool$Roster", "languages", "I", false)
  | 6 => ("SkiSchool$Roster", "family", "I", false)
  | 7 => ("SkiSchool$Roster", "language", "I", false)
  | 8 => ("SkiSchool$Roster", "capacity", "I", false)
  | 9 => ("SkiSchool$Roster", "lowest", "I", false)
  | 10 => ("SkiSchool$Roster", "highest", "I", false)
  | _ => ("SkiSchool$Roster", "wage", "I", false)
def tyX5 : Nat → FieldType := fun k => match k with
  | 0 => .array .char
  | 1 => .int
  | 2 => .int
  | 3 => .char
  | 4 => .int
  | 5 => .int
  | 6 => .int
  | 7 => .int
  | 8 => .int
  | 9 => .int
  | 10 => .int
  | _ => .int
abbrev wsX50 : List Cond := u_ws RX5 TX5 12
theorem nmX5 : ∀ a, a < 12 → ∀ b, b < 12 → a ≠ b → (TX5 a).2.1 ≠ (TX5 b).2.1 := by decide +kernel
theorem tyX5_ok : ∀ k, k < 12 → parseFieldDescriptor (TX5 k).2.2.1 = some (tyX5 k) := by decide +kernel
abbrev cX5_init : ByteArray := prog_7_method_1_code
def yX5_init : MethodName := ⟨RX5, "<init>", "()V"⟩
abbrev cX5_findFault : ByteArray := prog_7_method_2_code
def yX5_findFault : MethodName := ⟨RX5, "findFault", "()I"⟩
abbrev cX5_readEntry : ByteArray := prog_7_method_3_code
def yX5_readEntry : MethodName := ⟨RX5, "readEntry", "()Z"⟩
abbrev cX5_readPupil : ByteArray := prog_7_method_4_code
def yX5_readPupil : MethodName := ⟨RX5, "readPupil", "()Z"⟩
abbrev cX5_readGroup : ByteArray := prog_7_method_5_code
def yX5_readGroup : MethodName := ⟨RX5, "readGroup", "()Z"⟩
abbrev cX5_readInstructor : ByteArray := prog_7_method_6_code
def yX5_readInstructor : MethodName := ⟨RX5, "readInstructor", "()Z"⟩
abbrev cX5_readLanguages : ByteArray := prog_7_method_7_code
def yX5_readLanguages : MethodName := ⟨RX5, "readLanguages", "()Z"⟩
abbrev cX5_readWage : ByteArray := prog_7_method_8_code
def yX5_readWage : MethodName := ⟨RX5, "readWage", "()Z"⟩
abbrev cX5_readDigit : ByteArray := prog_7_method_9_code
def yX5_readDigit : MethodName := ⟨RX5, "readDigit", "(II)I"⟩
abbrev cX5_readLanguage : ByteArray := prog_7_method_10_code
def yX5_readLanguage : MethodName := ⟨RX5, "readLanguage", "(I)I"⟩
abbrev cX5_skip : ByteArray := prog_7_method_11_code
def yX5_skip : MethodName := ⟨RX5, "skip", "(C)Z"⟩
abbrev cX5_readSign : ByteArray := prog_7_method_12_code
def yX5_readSign : MethodName := ⟨RX5, "readSign", "(II)I"⟩
def RX6 : String := "SkiSchool$Simulation"
def TX6 : u_T := fun k => match k with
  | 0 => ("SkiSchool$Simulation", "persons", "[I", true)
  | 1 => ("SkiSchool$Simulation", "arrival", "[I", true)
  | 2 => ("SkiSchool$Simulation", "waited", "[I", true)
  | 3 => ("SkiSchool$Simulation", "rides", "[I", true)
  | 4 => ("SkiSchool$Simulation", "longest", "[I", true)
  | 5 => ("SkiSchool$Simulation", "taken", "[I", true)
  | 6 => ("SkiSchool$Simulation", "stop", "[I", true)
  | 7 => ("SkiSchool$Simulation", "waiting", "[I", true)
  | 8 => ("SkiSchool$Simulation", "queue", "[[I", true)
  | _ => ("SkiSchool$Simulation", "queued", "[I", true)
def tyX6 : Nat → FieldType := fun k => match k with
  | 0 => .array .int
  | 1 => .array .int
  | 2 => .array .int
  | 3 => .array .int
  | 4 => .array .int
  | 5 => .array .int
  | 6 => .array .int
  | 7 => .array .int
  | 8 => .array (.array .int)
  | _ => .array .int
abbrev wsX60 : List Cond := u_ws RX6 TX6 10
theorem nmX6 : ∀ a, a < 10 → ∀ b, b < 10 → a ≠ b → (TX6 a).2.1 ≠ (TX6 b).2.1 := by decide +kernel
theorem tyX6_ok : ∀ k, k < 10 → parseFieldDescriptor (TX6 k).2.2.1 = some (tyX6 k) := by decide +kernel
abbrev cX6_init : ByteArray := prog_8_method_1_code
def yX6_init : MethodName := ⟨RX6, "<init>", "()V"⟩
abbrev cX6_begin : ByteArray := prog_8_method_2_code
def yX6_begin : MethodName := ⟨RX6, "begin", "([LSkiSchool$Group;)V"⟩
abbrev cX6_run : ByteArray := prog_8_method_3_code
def yX6_run : MethodName := ⟨RX6, "run", "([LSkiSchool$Group;[LSkiSchool$Lift;II)V"⟩
abbrev cX6_joinQueues : ByteArray := prog_8_method_4_code
def yX6_joinQueues : MethodName := ⟨RX6, "joinQueues", "([LSkiSchool$Group;I)V"⟩
abbrev cX6_depart : ByteArray := prog_8_method_5_code
def yX6_depart : MethodName := ⟨RX6, "depart", "(ILSkiSchool$Lift;[LSkiSchool$Group;I)V"⟩
abbrev cX6_leaveQueue : ByteArray := prog_8_method_6_code
def yX6_leaveQueue : MethodName := ⟨RX6, "leaveQueue", "(I)V"⟩
abbrev cX6_completeRide : ByteArray := prog_8_method_7_code
def yX6_completeRide : MethodName := ⟨RX6, "completeRide", "(ILSkiSchool$Group;I)V"⟩
abbrev cX6_waitAMinute : ByteArray := prog_8_method_8_code
def yX6_waitAMinute : MethodName := ⟨RX6, "waitAMinute", "(I)V"⟩
def RX7 : String := "SkiSchool$Staffing"
def TX7 : u_T := fun k => match k with
  | 0 => ("SkiSchool$Staffing", "wanted", "[Z", true)
  | 1 => ("SkiSchool$Staffing", "best", "[I", true)
  | 2 => ("SkiSchool$Staffing", "trial", "[I", true)
  | _ => ("SkiSchool$Staffing", "cheapest", "I", false)
def tyX7 : Nat → FieldType := fun k => match k with
  | 0 => .array .boolean
  | 1 => .array .int
  | 2 => .array .int
  | _ => .int
abbrev wsX70 : List Cond := u_ws RX7 TX7 4
theorem nmX7 : ∀ a, a < 4 → ∀ b, b < 4 → a ≠ b → (TX7 a).2.1 ≠ (TX7 b).2.1 := by decide +kernel
theorem tyX7_ok : ∀ k, k < 4 → parseFieldDescriptor (TX7 k).2.2.1 = some (tyX7 k) := by decide +kernel
abbrev cX7_init : ByteArray := prog_9_method_1_code
def yX7_init : MethodName := ⟨RX7, "<init>", "()V"⟩
abbrev cX7_findBest : ByteArray := prog_9_method_2_code
def yX7_findBest : MethodName := ⟨RX7, "findBest", "([LSkiSchool$Group;[LSkiSchool$Instructor;)I"⟩
abbrev cX7_tryFrom : ByteArray := prog_9_method_3_code
def yX7_tryFrom : MethodName := ⟨RX7, "tryFrom", "(LSkiSchool$Staffing;III[LSkiSchool$Group;[LSkiSchool$Instructor;)V"⟩
def RX8 : String := "SkiSchool"
def TX8 : u_T := fun k => match k with
  | 0 => ("SkiSchool", "pupilAt", "[LSkiSchool$Pupil;", true)
  | 1 => ("SkiSchool", "groupAt", "[LSkiSchool$Group;", true)
  | 2 => ("SkiSchool", "instructorAt", "[LSkiSchool$Instructor;", true)
  | 3 => ("SkiSchool", "liftAt", "[LSkiSchool$Lift;", true)
  | 4 => ("SkiSchool", "together", "[Z", true)
  | 5 => ("SkiSchool", "planner", "LSkiSchool$Planner;", true)
  | 6 => ("SkiSchool", "staffing", "LSkiSchool$Staffing;", true)
  | 7 => ("SkiSchool", "simulation", "LSkiSchool$Simulation;", true)
  | 8 => ("SkiSchool", "roster", "LSkiSchool$Roster;", true)
  | 9 => ("SkiSchool", "liftCount", "I", false)
  | 10 => ("SkiSchool", "passMark", "I", false)
  | 11 => ("SkiSchool", "minimumMark", "I", false)
  | 12 => ("SkiSchool", "dropMark", "I", false)
  | _ => ("SkiSchool", "day", "I", false)
def tyX8 : Nat → FieldType := fun k => match k with
  | 0 => .array (.object "SkiSchool$Pupil")
  | 1 => .array (.object "SkiSchool$Group")
  | 2 => .array (.object "SkiSchool$Instructor")
  | 3 => .array (.object "SkiSchool$Lift")
  | 4 => .array .boolean
  | 5 => .object "SkiSchool$Planner"
  | 6 => .object "SkiSchool$Staffing"
  | 7 => .object "SkiSchool$Simulation"
  | 8 => .object "SkiSchool$Roster"
  | 9 => .int
  | 10 => .int
  | 11 => .int
  | 12 => .int
  | _ => .int
abbrev wsX80 : List Cond := u_ws RX8 TX8 14
theorem nmX8 : ∀ a, a < 14 → ∀ b, b < 14 → a ≠ b → (TX8 a).2.1 ≠ (TX8 b).2.1 := by decide +kernel
theorem tyX8_ok : ∀ k, k < 14 → parseFieldDescriptor (TX8 k).2.2.1 = some (tyX8 k) := by decide +kernel
abbrev cX8_init : ByteArray := prog_1_method_1_code
def yX8_init : MethodName := ⟨RX8, "<init>", "()V"⟩
abbrev cX8_addPupil : ByteArray := prog_1_method_2_code
def yX8_addPupil : MethodName := ⟨RX8, "addPupil", "(III)I"⟩
abbrev cX8_removePupil : ByteArray := prog_1_method_3_code
def yX8_removePupil : MethodName := ⟨RX8, "removePupil", "(I)I"⟩
abbrev cX8_pupils : ByteArray := prog_1_method_4_code
def yX8_pupils : MethodName := ⟨RX8, "pupils", "()I"⟩
abbrev cX8_level : ByteArray := prog_1_method_5_code
def yX8_level : MethodName := ⟨RX8, "level", "(I)I"⟩
abbrev cX8_languages : ByteArray := prog_1_method_6_code
def yX8_languages : MethodName := ⟨RX8, "languages", "(I)I"⟩
abbrev cX8_family : ByteArray := prog_1_method_7_code
def yX8_family : MethodName := ⟨RX8, "family", "(I)I"⟩
abbrev cX8_group : ByteArray := prog_1_method_8_code
def yX8_group : MethodName := ⟨RX8, "group", "(I)I"⟩
abbrev cX8_setTogether : ByteArray := prog_1_method_9_code
def yX8_setTogether : MethodName := ⟨RX8, "setTogether", "(IZ)I"⟩
abbrev cX8_spread : ByteArray := prog_1_method_10_code
def yX8_spread : MethodName := ⟨RX8, "spread", "(I)I"⟩
abbrev cX8_score : ByteArray := prog_1_method_11_code
def yX8_score : MethodName := ⟨RX8, "score", "(III)I"⟩
abbrev cX8_scoreOf : ByteArray := prog_1_method_12_code
def yX8_scoreOf : MethodName := ⟨RX8, "scoreOf", "(II)I"⟩
abbrev cX8_setMarks : ByteArray := prog_1_method_13_code
def yX8_setMarks : MethodName := ⟨RX8, "setMarks", "(III)I"⟩
abbrev cX8_grade : ByteArray := prog_1_method_14_code
def yX8_grade : MethodName := ⟨RX8, "grade", "(I)I"⟩
abbrev cX8_nextDay : ByteArray := prog_1_method_15_code
def yX8_nextDay : MethodName := ⟨RX8, "nextDay", "()I"⟩
abbrev cX8_openGroup : ByteArray := prog_1_method_16_code
def yX8_openGroup : MethodName := ⟨RX8, "openGroup", "(III)I"⟩
abbrev cX8_closeGroup : ByteArray := prog_1_method_17_code
def yX8_closeGroup : MethodName := ⟨RX8, "closeGroup", "(I)I"⟩
abbrev cX8_groups : ByteArray := prog_1_method_18_code
def yX8_groups : MethodName := ⟨RX8, "groups", "()I"⟩
abbrev cX8_groupLevel : ByteArray := prog_1_method_19_code
def yX8_groupLevel : MethodName := ⟨RX8, "groupLevel", "(I)I"⟩
abbrev cX8_size : ByteArray := prog_1_method_20_code
def yX8_size : MethodName := ⟨RX8, "size", "(I)I"⟩
abbrev cX8_instructor : ByteArray := prog_1_method_21_code
def yX8_instructor : MethodName := ⟨RX8, "instructor", "(I)I"⟩
abbrev cX8_assign : ByteArray := prog_1_method_22_code
def yX8_assign : MethodName := ⟨RX8, "assign", "()I"⟩
abbrev cX8_placed : ByteArray := prog_1_method_23_code
def yX8_placed : MethodName := ⟨RX8, "placed", "()I"⟩
abbrev cX8_outOfLevel : ByteArray := prog_1_method_24_code
def yX8_outOfLevel : MethodName := ⟨RX8, "outOfLevel", "()I"⟩
abbrev cX8_extraPlaced : ByteArray := prog_1_method_25_code
def yX8_extraPlaced : MethodName := ⟨RX8, "extraPlaced", "(III)I"⟩
abbrev cX8_splitGain : ByteArray := prog_1_method_26_code
def yX8_splitGain : MethodName := ⟨RX8, "splitGain", "(I)I"⟩
abbrev cX8_hire : ByteArray := prog_1_method_27_code
def yX8_hire : MethodName := ⟨RX8, "hire", "(IIII)I"⟩
abbrev cX8_dismiss : ByteArray := prog_1_method_28_code
def yX8_dismiss : MethodName := ⟨RX8, "dismiss", "(I)I"⟩
abbrev cX8_instructors : ByteArray := prog_1_method_29_code
def yX8_instructors : MethodName := ⟨RX8, "instructors", "()I"⟩
abbrev cX8_canTeach : ByteArray := prog_1_method_30_code
def yX8_canTeach : MethodName := ⟨RX8, "canTeach", "(II)I"⟩
abbrev cX8_staff : ByteArray := prog_1_method_31_code
def yX8_staff : MethodName := ⟨RX8, "staff", "()I"⟩
abbrev cX8_pay : ByteArray := prog_1_method_32_code
def yX8_pay : MethodName := ⟨RX8, "pay", "(I)I"⟩
abbrev cX8_earnings : ByteArray := prog_1_method_33_code
def yX8_earnings : MethodName := ⟨RX8, "earnings", "(I)I"⟩
abbrev cX8_addLift : ByteArray := prog_1_method_34_code
def yX8_addLift : MethodName := ⟨RX8, "addLift", "(III)I"⟩
abbrev cX8_addStop : ByteArray := prog_1_method_35_code
def yX8_addStop : MethodName := ⟨RX8, "addStop", "(III)I"⟩
abbrev cX8_clearStops : ByteArray := prog_1_method_36_code
def yX8_clearStops : MethodName := ⟨RX8, "clearStops", "(I)I"⟩
abbrev cX8_setStart : ByteArray := prog_1_method_37_code
def yX8_setStart : MethodName := ⟨RX8, "setStart", "(II)I"⟩
abbrev cX8_simulate : ByteArray := prog_1_method_38_code
def yX8_simulate : MethodName := ⟨RX8, "simulate", "(I)I"⟩
abbrev cX8_waited : ByteArray := prog_1_method_39_code
def yX8_waited : MethodName := ⟨RX8, "waited", "(I)I"⟩
abbrev cX8_rides : ByteArray := prog_1_method_40_code
def yX8_rides : MethodName := ⟨RX8, "rides", "(I)I"⟩
abbrev cX8_longestQueue : ByteArray := prog_1_method_41_code
def yX8_longestQueue : MethodName := ⟨RX8, "longestQueue", "(I)I"⟩
abbrev cX8_carried : ByteArray := prog_1_method_42_code
def yX8_carried : MethodName := ⟨RX8, "carried", "(I)I"⟩
abbrev cX8_bestStart : ByteArray := prog_1_method_43_code
def yX8_bestStart : MethodName := ⟨RX8, "bestStart", "(II)I"⟩
abbrev cX8_type : ByteArray := prog_1_method_44_code
def yX8_type : MethodName := ⟨RX8, "type", "(I)I"⟩
abbrev cX8_clearText : ByteArray := prog_1_method_45_code
def yX8_clearText : MethodName := ⟨RX8, "clearText", "()I"⟩
abbrev cX8_load : ByteArray := prog_1_method_46_code
def yX8_load : MethodName := ⟨RX8, "load", "()I"⟩
abbrev cX8_digest : ByteArray := prog_1_method_47_code
def yX8_digest : MethodName := ⟨RX8, "digest", "()J"⟩
abbrev cX8_mix : ByteArray := prog_1_method_48_code
def yX8_mix : MethodName := ⟨RX8, "mix", "(JI)J"⟩
abbrev cX8_mixPupils : ByteArray := prog_1_method_49_code
def yX8_mixPupils : MethodName := ⟨RX8, "mixPupils", "(J)J"⟩
abbrev cX8_mixGroups : ByteArray := prog_1_method_50_code
def yX8_mixGroups : MethodName := ⟨RX8, "mixGroups", "(J)J"⟩
abbrev cX8_mixInstructorsAndLifts : ByteArray := prog_1_method_51_code
def yX8_mixInstructorsAndLifts : MethodName := ⟨RX8, "mixInstructorsAndLifts", "(J)J"⟩
abbrev cX8_within : ByteArray := prog_1_method_52_code
def yX8_within : MethodName := ⟨RX8, "within", "(III)Z"⟩
abbrev cX8_isFamily : ByteArray := prog_1_method_53_code
def yX8_isFamily : MethodName := ⟨RX8, "isFamily", "(I)Z"⟩
abbrev cX8_isExercise : ByteArray := prog_1_method_54_code
def yX8_isExercise : MethodName := ⟨RX8, "isExercise", "(I)Z"⟩
abbrev cX8_isGroupKind : ByteArray := prog_1_method_55_code
def yX8_isGroupKind : MethodName := ⟨RX8, "isGroupKind", "(III)Z"⟩
abbrev cX8_hasPupil : ByteArray := prog_1_method_56_code
def yX8_hasPupil : MethodName := ⟨RX8, "hasPupil", "(I)Z"⟩
abbrev cX8_hasGroup : ByteArray := prog_1_method_57_code
def yX8_hasGroup : MethodName := ⟨RX8, "hasGroup", "(I)Z"⟩
abbrev cX8_hasInstructor : ByteArray := prog_1_method_58_code
def yX8_hasInstructor : MethodName := ⟨RX8, "hasInstructor", "(I)Z"⟩
abbrev cX8_hasLift : ByteArray := prog_1_method_59_code
def yX8_hasLift : MethodName := ⟨RX8, "hasLift", "(I)Z"⟩
abbrev cX8_freePupilNumber : ByteArray := prog_1_method_60_code
def yX8_freePupilNumber : MethodName := ⟨RX8, "freePupilNumber", "()I"⟩
abbrev cX8_freeGroupNumber : ByteArray := prog_1_method_61_code
def yX8_freeGroupNumber : MethodName := ⟨RX8, "freeGroupNumber", "()I"⟩
abbrev cX8_freeInstructorNumber : ByteArray := prog_1_method_62_code
def yX8_freeInstructorNumber : MethodName := ⟨RX8, "freeInstructorNumber", "()I"⟩
abbrev cX8_separateIfBroken : ByteArray := prog_1_method_63_code
def yX8_separateIfBroken : MethodName := ⟨RX8, "separateIfBroken", "(I)I"⟩
abbrev cX8_isInOnePlace : ByteArray := prog_1_method_64_code
def yX8_isInOnePlace : MethodName := ⟨RX8, "isInOnePlace", "(I)Z"⟩
abbrev cX8_levelAfterTest : ByteArray := prog_1_method_65_code
def yX8_levelAfterTest : MethodName := ⟨RX8, "levelAfterTest", "(LSkiSchool$Pupil;)I"⟩
abbrev cX8_countPupilsIn : ByteArray := prog_1_method_66_code
def yX8_countPupilsIn : MethodName := ⟨RX8, "countPupilsIn", "(I)I"⟩
abbrev cX8_isActive : ByteArray := prog_1_method_67_code
def yX8_isActive : MethodName := ⟨RX8, "isActive", "(I)Z"⟩
abbrev cX8_isPaid : ByteArray := prog_1_method_68_code
def yX8_isPaid : MethodName := ⟨RX8, "isPaid", "(I)Z"⟩
abbrev cX8_takesPart : ByteArray := prog_1_method_69_code
def yX8_takesPart : MethodName := ⟨RX8, "takesPart", "(I)Z"⟩
abbrev cX8_countPersons : ByteArray := prog_1_method_70_code
def yX8_countPersons : MethodName := ⟨RX8, "countPersons", "()V"⟩
abbrev cX8_keepResults : ByteArray := prog_1_method_71_code
def yX8_keepResults : MethodName := ⟨RX8, "keepResults", "()V"⟩
abbrev cX8_carryOutEntry : ByteArray := prog_1_method_72_code
def yX8_carryOutEntry : MethodName := ⟨RX8, "carryOutEntry", "()I"⟩
def RX9 : String := "SkiSchoolModel"
def TX9 : u_T := fun k => match k with
  | 0 => ("SkiSchoolModel", "day", "I", false)
  | 1 => ("SkiSchoolModel", "passMark", "I", false)
  | 2 => ("SkiSchoolModel", "minimum", "I", false)
  | 3 => ("SkiSchoolModel", "dropMark", "I", false)
  | 4 => ("SkiSchoolModel", "isPupil", "[I", true)
  | 5 => ("SkiSchoolModel", "pupilLevel", "[I", true)
  | 6 => ("SkiSchoolModel", "pupilLanguages", "[I", true)
  | 7 => ("SkiSchoolModel", "pupilFamily", "[I", true)
  | 8 => ("SkiSchoolModel", "pupilGroup", "[I", true)
  | 9 => ("SkiSchoolModel", "scores", "[I", true)
  | 10 => ("SkiSchoolModel", "gradedOn", "[I", true)
  | 11 => ("SkiSchoolModel", "isTogether", "[I", true)
  | 12 => ("SkiSchoolModel", "isGroup", "[I", true)
  | 13 => ("SkiSchoolModel", "levelOfGroup", "[I", true)
  | 14 => ("SkiSchoolModel", "language", "[I", true)
  | 15 => ("SkiSchoolModel", "capacity", "[I", true)
  | 16 => ("SkiSchoolModel", "instructorOf", "[I", true)
  | 17 => ("SkiSchoolModel", "start", "[I", true)
  | 18 => ("SkiSchoolModel", "stops", "[I", true)
  | 19 => ("SkiSchoolModel", "stopLift", "[I", true)
  | 20 => ("SkiSchoolModel", "stopSlope", "[I", true)
  | 21 => ("SkiSchoolModel", "isInstructor", "[I", true)
  | 22 => ("SkiSchoolModel", "teaches", "[I", true)
  | 23 => ("SkiSchoolModel", "lowest", "[I", true)
  | 24 => ("SkiSchoolModel", "highest", "[I", true)
  | 25 => ("SkiSchoolModel", "wage", "[I", true)
  | 26 => ("SkiSchoolModel", "earned", "[I", true)
  | 27 => ("SkiSchoolModel", "lifts", "I", false)
  | 28 => ("SkiSchoolModel", "seats", "[I", true)
  | 29 => ("SkiSchoolModel", "interval", "[I", true)
  | 30 => ("SkiSchoolModel", "ride", "[I", true)
  | 31 => ("SkiSchoolModel", "waitedBy", "[I", true)
  | 32 => ("SkiSchoolModel", "ridesOf", "[I", true)
  | 33 => ("SkiSchoolModel", "longest", "[I", true)
  | 34 => ("SkiSchoolModel", "carriedBy", "[I", true)
  | 35 => ("SkiSchoolModel", "text", "[I", true)
  | 36 => ("SkiSchoolModel", "textLength", "I", false)
  | 37 => ("SkiSchoolModel", "units", "I", false)
  | 38 => ("SkiSchoolModel", "unitSize", "[I", true)
  | 39 => ("SkiSchoolModel", "unitOf", "[I", true)
  | 40 => ("SkiSchoolModel", "outsIn", "[I", true)
  | 41 => ("SkiSchoolModel", "worth", "[I", true)
  | 42 => ("SkiSchoolModel", "planLevel", "[I", true)
  | 43 => ("SkiSchoolModel", "planLanguage", "[I", true)
  | 44 => ("SkiSchoolModel", "planPlaces", "[I", true)
  | 45 => ("SkiSchoolModel", "unitGroup", "[I", true)
  | 46 => ("SkiSchoolModel", "persons", "[I", true)
  | 47 => ("SkiSchoolModel", "waiting", "[I", true)
  | 48 => ("SkiSchoolModel", "arrival", "[I", true)
  | 49 => ("SkiSchoolModel", "current", "[I", true)
  | 50 => ("SkiSchoolModel", "queue", "[I", true)
  | 51 => ("SkiSchoolModel", "queued", "[I", true)
  | 52 => ("SkiSchoolModel", "newWaited", "[I", true)
  | 53 => ("SkiSchoolModel", "newRides", "[I", true)
  | 54 => ("SkiSchoolModel", "newLongest", "[I", true)
  | 55 => ("SkiSchoolModel", "newCarried", "[I", true)
  | 56 => ("SkiSchoolModel", "place", "I", false)
  | 57 => ("SkiSchoolModel", "readSet", "I", false)
  | 58 => ("SkiSchoolModel", "readFirst", "I", false)
  | 59 => ("SkiSchoolModel", "readSecond", "I", false)
  | _ => ("SkiSchoolModel", "readNumber", "I", false)
def tyX9 : Nat → FieldType := fun k => match k with
  | 0 => .int
  | 1 => .int
  | 2 => .int
  | 3 => .int
  | 4 => .array .int
  | 5 => .array .int
  | 6 => .array .int
  | 7 => .array .int
  | 8 => .array .int
  | 9 => .array .int
  | 10 => .array .int
  | 11 => .array .int
  | 12 => .array .int
  | 13 => .array .int
  | 14 => .array .int
  | 15 => .array .int
  | 16 => .array .int
  | 17 => .array .int
  | 18 => .array .int
  | 19 => .array .int
  | 20 => .array .int
  | 21 => .array .int
  | 22 => .array .int
  | 23 => .array .int
  | 24 => .array .int
  | 25 => .array .int
  | 26 => .array .int
  | 27 => .int
  | 28 => .array .int
  | 29 => .array .int
  | 30 => .array .int
  | 31 => .array .int
  | 32 => .array .int
  | 33 => .array .int
  | 34 => .array .int
  | 35 => .array .int
  | 36 => .int
  | 37 => .int
  | 38 => .array .int
  | 39 => .array .int
  | 40 => .array .int
  | 41 => .array .int
  | 42 => .array .int
  | 43 => .array .int
  | 44 => .array .int
  | 45 => .array .int
  | 46 => .array .int
  | 47 => .array .int
  | 48 => .array .int
  | 49 => .array .int
  | 50 => .array .int
  | 51 => .array .int
  | 52 => .array .int
  | 53 => .array .int
  | 54 => .array .int
  | 55 => .array .int
  | 56 => .int
  | 57 => .int
  | 58 => .int
  | 59 => .int
  | _ => .int
abbrev wsX90 : List Cond := u_ws RX9 TX9 61
theorem nmX9 : ∀ a, a < 61 → ∀ b, b < 61 → a ≠ b → (TX9 a).2.1 ≠ (TX9 b).2.1 := by decide +kernel
theorem tyX9_ok : ∀ k, k < 61 → parseFieldDescriptor (TX9 k).2.2.1 = some (tyX9 k) := by decide +kernel
abbrev cX9_init : ByteArray := prog_11_method_1_code
def yX9_init : MethodName := ⟨RX9, "<init>", "()V"⟩
abbrev cX9_within : ByteArray := prog_11_method_3_code
def yX9_within : MethodName := ⟨RX9, "within", "(III)Z"⟩
abbrev cX9_hasPupil : ByteArray := prog_11_method_4_code
def yX9_hasPupil : MethodName := ⟨RX9, "hasPupil", "(I)Z"⟩
abbrev cX9_isLevel : ByteArray := prog_11_method_5_code
def yX9_isLevel : MethodName := ⟨RX9, "isLevel", "(I)Z"⟩
abbrev cX9_isLanguages : ByteArray := prog_11_method_6_code
def yX9_isLanguages : MethodName := ⟨RX9, "isLanguages", "(I)Z"⟩
abbrev cX9_isFamily : ByteArray := prog_11_method_7_code
def yX9_isFamily : MethodName := ⟨RX9, "isFamily", "(I)Z"⟩
abbrev cX9_isOf : ByteArray := prog_11_method_8_code
def yX9_isOf : MethodName := ⟨RX9, "isOf", "(II)Z"⟩
abbrev cX9_leaveAll : ByteArray := prog_11_method_9_code
def yX9_leaveAll : MethodName := ⟨RX9, "leaveAll", "(I)I"⟩
abbrev cX9_keepRule : ByteArray := prog_11_method_10_code
def yX9_keepRule : MethodName := ⟨RX9, "keepRule", "(I)I"⟩
abbrev cX9_pupilMany : ByteArray := prog_11_method_11_code
def yX9_pupilMany : MethodName := ⟨RX9, "pupilMany", "()I"⟩
abbrev cX9_addPupil : ByteArray := prog_11_method_12_code
def yX9_addPupil : MethodName := ⟨RX9, "addPupil", "(III)I"⟩
abbrev cX9_removePupil : ByteArray := prog_11_method_13_code
def yX9_removePupil : MethodName := ⟨RX9, "removePupil", "(I)I"⟩
abbrev cX9_pupils : ByteArray := prog_11_method_14_code
def yX9_pupils : MethodName := ⟨RX9, "pupils", "()I"⟩
abbrev cX9_level : ByteArray := prog_11_method_15_code
def yX9_level : MethodName := ⟨RX9, "level", "(I)I"⟩
abbrev cX9_languages : ByteArray := prog_11_method_16_code
def yX9_languages : MethodName := ⟨RX9, "languages", "(I)I"⟩
abbrev cX9_family : ByteArray := prog_11_method_17_code
def yX9_family : MethodName := ⟨RX9, "family", "(I)I"⟩
abbrev cX9_group : ByteArray := prog_11_method_18_code
def yX9_group : MethodName := ⟨RX9, "group", "(I)I"⟩
abbrev cX9_setTogether : ByteArray := prog_11_method_19_code
def yX9_setTogether : MethodName := ⟨RX9, "setTogether", "(IZ)I"⟩
abbrev cX9_spreadOf : ByteArray := prog_11_method_20_code
def yX9_spreadOf : MethodName := ⟨RX9, "spreadOf", "(I)I"⟩
abbrev cX9_spread : ByteArray := prog_11_method_21_code
def yX9_spread : MethodName := ⟨RX9, "spread", "(I)I"⟩
abbrev cX9_isExercise : ByteArray := prog_11_method_22_code
def yX9_isExercise : MethodName := ⟨RX9, "isExercise", "(I)Z"⟩
abbrev cX9_scoreMany : ByteArray := prog_11_method_23_code
def yX9_scoreMany : MethodName := ⟨RX9, "scoreMany", "(I)I"⟩
abbrev cX9_score : ByteArray := prog_11_method_24_code
def yX9_score : MethodName := ⟨RX9, "score", "(III)I"⟩
abbrev cX9_scoreOf : ByteArray := prog_11_method_25_code
def yX9_scoreOf : MethodName := ⟨RX9, "scoreOf", "(II)I"⟩
abbrev cX9_setMarks : ByteArray := prog_11_method_26_code
def yX9_setMarks : MethodName := ⟨RX9, "setMarks", "(III)I"⟩
abbrev cX9_grade : ByteArray := prog_11_method_27_code
def yX9_grade : MethodName := ⟨RX9, "grade", "(I)I"⟩
abbrev cX9_nextDay : ByteArray := prog_11_method_28_code
def yX9_nextDay : MethodName := ⟨RX9, "nextDay", "()I"⟩
abbrev cX9_hasGroup : ByteArray := prog_11_method_29_code
def yX9_hasGroup : MethodName := ⟨RX9, "hasGroup", "(I)Z"⟩
abbrev cX9_isFitting : ByteArray := prog_11_method_30_code
def yX9_isFitting : MethodName := ⟨RX9, "isFitting", "(III)Z"⟩
abbrev cX9_areOfGroup : ByteArray := prog_11_method_31_code
def yX9_areOfGroup : MethodName := ⟨RX9, "areOfGroup", "(III)Z"⟩
abbrev cX9_groupMany : ByteArray := prog_11_method_32_code
def yX9_groupMany : MethodName := ⟨RX9, "groupMany", "()I"⟩
abbrev cX9_freeGroup : ByteArray := prog_11_method_33_code
def yX9_freeGroup : MethodName := ⟨RX9, "freeGroup", "()I"⟩
abbrev cX9_openGroup : ByteArray := prog_11_method_34_code
def yX9_openGroup : MethodName := ⟨RX9, "openGroup", "(III)I"⟩
abbrev cX9_sizeOf : ByteArray := prog_11_method_35_code
def yX9_sizeOf : MethodName := ⟨RX9, "sizeOf", "(I)I"⟩
abbrev cX9_isActive : ByteArray := prog_11_method_36_code
def yX9_isActive : MethodName := ⟨RX9, "isActive", "(I)Z"⟩
abbrev cX9_closeGroup : ByteArray := prog_11_method_37_code
def yX9_closeGroup : MethodName := ⟨RX9, "closeGroup", "(I)I"⟩
abbrev cX9_groups : ByteArray := prog_11_method_38_code
def yX9_groups : MethodName := ⟨RX9, "groups", "()I"⟩
abbrev cX9_groupLevel : ByteArray := prog_11_method_39_code
def yX9_groupLevel : MethodName := ⟨RX9, "groupLevel", "(I)I"⟩
abbrev cX9_size : ByteArray := prog_11_method_40_code
def yX9_size : MethodName := ⟨RX9, "size", "(I)I"⟩
abbrev cX9_instructor : ByteArray := prog_11_method_41_code
def yX9_instructor : MethodName := ⟨RX9, "instructor", "(I)I"⟩
abbrev cX9_power : ByteArray := prog_11_method_42_code
def yX9_power : MethodName := ⟨RX9, "power", "(I)I"⟩
abbrev cX9_planGroups : ByteArray := prog_11_method_43_code
def yX9_planGroups : MethodName := ⟨RX9, "planGroups", "()V"⟩
abbrev cX9_findUnits : ByteArray := prog_11_method_44_code
def yX9_findUnits : MethodName := ⟨RX9, "findUnits", "(I)V"⟩
abbrev cX9_addOut : ByteArray := prog_11_method_45_code
def yX9_addOut : MethodName := ⟨RX9, "addOut", "(III)V"⟩
abbrev cX9_mayGet : ByteArray := prog_11_method_46_code
def yX9_mayGet : MethodName := ⟨RX9, "mayGet", "(III)Z"⟩
abbrev cX9_worthOf : ByteArray := prog_11_method_47_code
def yX9_worthOf : MethodName := ⟨RX9, "worthOf", "(III)I"⟩
abbrev cX9_plan : ByteArray := prog_11_method_48_code
def yX9_plan : MethodName := ⟨RX9, "plan", "(I)I"⟩
abbrev cX9_assign : ByteArray := prog_11_method_49_code
def yX9_assign : MethodName := ⟨RX9, "assign", "()I"⟩
abbrev cX9_placedMany : ByteArray := prog_11_method_50_code
def yX9_placedMany : MethodName := ⟨RX9, "placedMany", "()I"⟩
abbrev cX9_placed : ByteArray := prog_11_method_51_code
def yX9_placed : MethodName := ⟨RX9, "placed", "()I"⟩
abbrev cX9_outMany : ByteArray := prog_11_method_52_code
def yX9_outMany : MethodName := ⟨RX9, "outMany", "()I"⟩
abbrev cX9_outOfLevel : ByteArray := prog_11_method_53_code
def yX9_outOfLevel : MethodName := ⟨RX9, "outOfLevel", "()I"⟩
abbrev cX9_extraPlaced : ByteArray := prog_11_method_54_code
def yX9_extraPlaced : MethodName := ⟨RX9, "extraPlaced", "(III)I"⟩
abbrev cX9_splitGain : ByteArray := prog_11_method_55_code
def yX9_splitGain : MethodName := ⟨RX9, "splitGain", "(I)I"⟩
abbrev cX9_hasInstructor : ByteArray := prog_11_method_56_code
def yX9_hasInstructor : MethodName := ⟨RX9, "hasInstructor", "(I)Z"⟩
abbrev cX9_instructorMany : ByteArray := prog_11_method_57_code
def yX9_instructorMany : MethodName := ⟨RX9, "instructorMany", "()I"⟩
abbrev cX9_hire : ByteArray := prog_11_method_58_code
def yX9_hire : MethodName := ⟨RX9, "hire", "(IIII)I"⟩
abbrev cX9_dismiss : ByteArray := prog_11_method_59_code
def yX9_dismiss : MethodName := ⟨RX9, "dismiss", "(I)I"⟩
abbrev cX9_instructors : ByteArray := prog_11_method_60_code
def yX9_instructors : MethodName := ⟨RX9, "instructors", "()I"⟩
abbrev cX9_isTeaching : ByteArray := prog_11_method_61_code
def yX9_isTeaching : MethodName := ⟨RX9, "isTeaching", "(II)Z"⟩
abbrev cX9_canTeach : ByteArray := prog_11_method_62_code
def yX9_canTeach : MethodName := ⟨RX9, "canTeach", "(II)I"⟩
abbrev cX9_staffIn : ByteArray := prog_11_method_63_code
def yX9_staffIn : MethodName := ⟨RX9, "staffIn", "(II)I"⟩
abbrev cX9_costOf : ByteArray := prog_11_method_64_code
def yX9_costOf : MethodName := ⟨RX9, "costOf", "(I)I"⟩
abbrev cX9_staff : ByteArray := prog_11_method_65_code
def yX9_staff : MethodName := ⟨RX9, "staff", "()I"⟩
abbrev cX9_pay : ByteArray := prog_11_method_66_code
def yX9_pay : MethodName := ⟨RX9, "pay", "(I)I"⟩
abbrev cX9_earnings : ByteArray := prog_11_method_67_code
def yX9_earnings : MethodName := ⟨RX9, "earnings", "(I)I"⟩
abbrev cX9_hasLift : ByteArray := prog_11_method_68_code
def yX9_hasLift : MethodName := ⟨RX9, "hasLift", "(I)Z"⟩
abbrev cX9_addLift : ByteArray := prog_11_method_69_code
def yX9_addLift : MethodName := ⟨RX9, "addLift", "(III)I"⟩
abbrev cX9_addStop : ByteArray := prog_11_method_70_code
def yX9_addStop : MethodName := ⟨RX9, "addStop", "(III)I"⟩
abbrev cX9_clearStops : ByteArray := prog_11_method_71_code
def yX9_clearStops : MethodName := ⟨RX9, "clearStops", "(I)I"⟩
abbrev cX9_setStart : ByteArray := prog_11_method_72_code
def yX9_setStart : MethodName := ⟨RX9, "setStart", "(II)I"⟩
abbrev cX9_takesPart : ByteArray := prog_11_method_73_code
def yX9_takesPart : MethodName := ⟨RX9, "takesPart", "(I)Z"⟩
abbrev cX9_begin : ByteArray := prog_11_method_74_code
def yX9_begin : MethodName := ⟨RX9, "begin", "()V"⟩
abbrev cX9_leave : ByteArray := prog_11_method_75_code
def yX9_leave : MethodName := ⟨RX9, "leave", "(II)V"⟩
abbrev cX9_depart : ByteArray := prog_11_method_76_code
def yX9_depart : MethodName := ⟨RX9, "depart", "(II)V"⟩
abbrev cX9_goThrough : ByteArray := prog_11_method_77_code
def yX9_goThrough : MethodName := ⟨RX9, "goThrough", "(I)V"⟩
abbrev cX9_isTime : ByteArray := prog_11_method_78_code
def yX9_isTime : MethodName := ⟨RX9, "isTime", "(I)Z"⟩
abbrev cX9_simulate : ByteArray := prog_11_method_79_code
def yX9_simulate : MethodName := ⟨RX9, "simulate", "(I)I"⟩
abbrev cX9_waited : ByteArray := prog_11_method_80_code
def yX9_waited : MethodName := ⟨RX9, "waited", "(I)I"⟩
abbrev cX9_rides : ByteArray := prog_11_method_81_code
def yX9_rides : MethodName := ⟨RX9, "rides", "(I)I"⟩
abbrev cX9_longestQueue : ByteArray := prog_11_method_82_code
def yX9_longestQueue : MethodName := ⟨RX9, "longestQueue", "(I)I"⟩
abbrev cX9_carried : ByteArray := prog_11_method_83_code
def yX9_carried : MethodName := ⟨RX9, "carried", "(I)I"⟩
abbrev cX9_bestStart : ByteArray := prog_11_method_84_code
def yX9_bestStart : MethodName := ⟨RX9, "bestStart", "(II)I"⟩
abbrev cX9_type : ByteArray := prog_11_method_85_code
def yX9_type : MethodName := ⟨RX9, "type", "(I)I"⟩
abbrev cX9_clearText : ByteArray := prog_11_method_86_code
def yX9_clearText : MethodName := ⟨RX9, "clearText", "()I"⟩
abbrev cX9_next : ByteArray := prog_11_method_87_code
def yX9_next : MethodName := ⟨RX9, "next", "()I"⟩
abbrev cX9_takes : ByteArray := prog_11_method_88_code
def yX9_takes : MethodName := ⟨RX9, "takes", "(I)Z"⟩
abbrev cX9_readsDigit : ByteArray := prog_11_method_89_code
def yX9_readsDigit : MethodName := ⟨RX9, "readsDigit", "(II)Z"⟩
abbrev cX9_readsSet : ByteArray := prog_11_method_90_code
def yX9_readsSet : MethodName := ⟨RX9, "readsSet", "()Z"⟩
abbrev cX9_readsWage : ByteArray := prog_11_method_91_code
def yX9_readsWage : MethodName := ⟨RX9, "readsWage", "()Z"⟩
abbrev cX9_readsPupil : ByteArray := prog_11_method_92_code
def yX9_readsPupil : MethodName := ⟨RX9, "readsPupil", "()Z"⟩
abbrev cX9_readsGroup : ByteArray := prog_11_method_93_code
def yX9_readsGroup : MethodName := ⟨RX9, "readsGroup", "()Z"⟩
abbrev cX9_readsInstructor : ByteArray := prog_11_method_94_code
def yX9_readsInstructor : MethodName := ⟨RX9, "readsInstructor", "()Z"⟩
abbrev cX9_entry : ByteArray := prog_11_method_95_code
def yX9_entry : MethodName := ⟨RX9, "entry", "(Z)I"⟩
abbrev cX9_load : ByteArray := prog_11_method_96_code
def yX9_load : MethodName := ⟨RX9, "load", "()I"⟩
abbrev cX9_digest : ByteArray := prog_11_method_97_code
def yX9_digest : MethodName := ⟨RX9, "digest", "()J"⟩
def RJ9 : String := "java/lang/Math"
def TJ9 : u_T := fun k => match k with
  | _ => ("", "", "", false)
def tyJ9 : Nat → FieldType := fun k => match k with
  | _ => .int
abbrev wsJ90 : List Cond := u_ws RJ9 TJ9 0
theorem nmJ9 : ∀ a, a < 0 → ∀ b, b < 0 → a ≠ b → (TJ9 a).2.1 ≠ (TJ9 b).2.1 := by decide +kernel
theorem tyJ9_ok : ∀ k, k < 0 → parseFieldDescriptor (TJ9 k).2.2.1 = some (tyJ9 k) := by decide +kernel
abbrev cJ9_abs_0f7a4 : ByteArray := prog_12_method_59_code
def yJ9_abs_0f7a4 : MethodName := ⟨RJ9, "abs", "(I)I"⟩
abbrev cJ9_max_7cf53 : ByteArray := prog_12_method_65_code
def yJ9_max_7cf53 : MethodName := ⟨RJ9, "max", "(II)I"⟩
abbrev cJ9_min_7cf53 : ByteArray := prog_12_method_69_code
def yJ9_min_7cf53 : MethodName := ⟨RJ9, "min", "(II)I"⟩
def RJ10 : String := "java/lang/System"
def TJ10 : u_T := fun k => match k with
  | _ => ("", "", "", false)
def tyJ10 : Nat → FieldType := fun k => match k with
  | _ => .int
abbrev wsJ100 : List Cond := u_ws RJ10 TJ10 0
theorem nmJ10 : ∀ a, a < 0 → ∀ b, b < 0 → a ≠ b → (TJ10 a).2.1 ≠ (TJ10 b).2.1 := by decide +kernel
theorem tyJ10_ok : ∀ k, k < 0 → parseFieldDescriptor (TJ10 k).2.2.1 = some (tyJ10 k) := by decide +kernel
def RJ7 : String := "java/util/Arrays"
def TJ7 : u_T := fun k => match k with
  | _ => ("", "", "", false)
def tyJ7 : Nat → FieldType := fun k => match k with
  | _ => .int
abbrev wsJ70 : List Cond := u_ws RJ7 TJ7 0
theorem nmJ7 : ∀ a, a < 0 → ∀ b, b < 0 → a ≠ b → (TJ7 a).2.1 ≠ (TJ7 b).2.1 := by decide +kernel
theorem tyJ7_ok : ∀ k, k < 0 → parseFieldDescriptor (TJ7 k).2.2.1 = some (tyJ7 k) := by decide +kernel
abbrev cJ7_fill_53178 : ByteArray := prog_14_method_103_code
def yJ7_fill_53178 : MethodName := ⟨RJ7, "fill", "([II)V"⟩
def RL : String := "SkiSchoolLaw"
abbrev cL_law : ByteArray := code
def yL_law : MethodName := ⟨RL, "law", "([I)Z"⟩
abbrev vwCl : List vw_C := [(RX0, TX0, 11), (RX1, TX1, 6), (RX2, TX2, 5), (RX3, TX3, 13), (RX4, TX4, 7), (RX5, TX5, 12), (RX6, TX6, 10), (RX7, TX7, 4), (RX8, TX8, 14), (RX9, TX9, 61)]
end
section
/-! the allocation sites: number of the first cell, step, shape, count; by program (wip/whole/gen/sites.py) -/
def sk_base : Nat → Nat := fun s => match s with
  | 0 => 0
  | 1 => 1
  | 2 => 2
  | 3 => 3
  | 4 => 4
  | 5 => 5
  | 6 => 6
  | 7 => 7
  | 8 => 8
  | 9 => 9
  | 10 => 10
  | 11 => 30
  | 12 => 31
  | 13 => 32
  | 14 => 33
  | 15 => 34
  | 16 => 35
  | 17 => 36
  | 18 => 37
  | 19 => 38
  | 20 => 39
  | 21 => 40
  | 22 => 41
  | 23 => 42
  | 24 => 43
  | 25 => 44
  | 26 => 45
  | 27 => 46
  | 28 => 47
  | 29 => 48
  | 30 => 49
  | 31 => 50
  | 32 => 51
  | 33 => 52
  | 34 => 55
  | 35 => 56
  | 36 => 57
  | 37 => 58
  | 38 => 59
  | 39 => 98
  | 40 => 99
  | 41 => 100
  | 42 => 110
  | 43 => 118
  | 44 => 121
  | 45 => 122
  | 46 => 123
  | 47 => 124
  | 48 => 125
  | 49 => 126
  | 50 => 127
  | 51 => 128
  | 52 => 129
  | 53 => 130
  | 54 => 131
  | 55 => 132
  | 56 => 133
  | 57 => 134
  | 58 => 135
  | 59 => 136
  | 60 => 137
  | 61 => 138
  | 62 => 139
  | 63 => 140
  | 64 => 141
  | 65 => 142
  | 66 => 143
  | 67 => 144
  | 68 => 145
  | 69 => 146
  | 70 => 147
  | 71 => 148
  | 72 => 149
  | 73 => 150
  | 74 => 151
  | 75 => 152
  | 76 => 153
  | 77 => 154
  | 78 => 155
  | 79 => 156
  | 80 => 157
  | 81 => 158
  | 82 => 159
  | 83 => 160
  | 84 => 161
  | 85 => 162
  | 86 => 163
  | 87 => 164
  | 88 => 165
  | 89 => 166
  | 90 => 167
  | 91 => 168
  | 92 => 169
  | 93 => 170
  | _ => 0
def sk_step : Nat → Nat := fun s => match s with
  | 10 => 1
  | 33 => 1
  | 37 => 2
  | 38 => 2
  | 39 => 3
  | 40 => 3
  | 41 => 3
  | 42 => 1
  | 43 => 1
  | _ => 0
def sk_cnt : Nat → Nat := fun s => match s with
  | 0 => 1
  | 1 => 1
  | 2 => 1
  | 3 => 1
  | 4 => 1
  | 5 => 1
  | 6 => 1
  | 7 => 1
  | 8 => 1
  | 9 => 1
  | 10 => 20
  | 11 => 1
  | 12 => 1
  | 13 => 1
  | 14 => 1
  | 15 => 1
  | 16 => 1
  | 17 => 1
  | 18 => 1
  | 19 => 1
  | 20 => 1
  | 21 => 1
  | 22 => 1
  | 23 => 1
  | 24 => 1
  | 25 => 1
  | 26 => 1
  | 27 => 1
  | 28 => 1
  | 29 => 1
  | 30 => 1
  | 31 => 1
  | 32 => 1
  | 33 => 3
  | 34 => 1
  | 35 => 1
  | 36 => 1
  | 37 => 20
  | 38 => 20
  | 39 => 4
  | 40 => 4
  | 41 => 4
  | 42 => 8
  | 43 => 3
  | 44 => 1
  | 45 => 1
  | 46 => 1
  | 47 => 1
  | 48 => 1
  | 49 => 1
  | 50 => 1
  | 51 => 1
  | 52 => 1
  | 53 => 1
  | 54 => 1
  | 55 => 1
  | 56 => 1
  | 57 => 1
  | 58 => 1
  | 59 => 1
  | 60 => 1
  | 61 => 1
  | 62 => 1
  | 63 => 1
  | 64 => 1
  | 65 => 1
  | 66 => 1
  | 67 => 1
  | 68 => 1
  | 69 => 1
  | 70 => 1
  | 71 => 1
  | 72 => 1
  | 73 => 1
  | 74 => 1
  | 75 => 1
  | 76 => 1
  | 77 => 1
  | 78 => 1
  | 79 => 1
  | 80 => 1
  | 81 => 1
  | 82 => 1
  | 83 => 1
  | 84 => 1
  | 85 => 1
  | 86 => 1
  | 87 => 1
  | 88 => 1
  | 89 => 1
  | 90 => 1
  | 91 => 1
  | 92 => 1
  | 93 => 1
  | _ => 0
def sk_shp : Nat → Nat ⊕ (Nat × Nat) := fun s => match s with
  | 0 => .inl 8
  | 1 => .inr (5, 20)
  | 2 => .inr (6, 4)
  | 3 => .inr (7, 8)
  | 4 => .inr (8, 3)
  | 5 => .inr (2, 8)
  | 6 => .inl 3
  | 7 => .inr (0, 20)
  | 8 => .inr (0, 20)
  | 9 => .inr (4, 20)
  | 10 => .inr (0, 4)
  | 11 => .inr (0, 20)
  | 12 => .inr (0, 8)
  | 13 => .inr (0, 4)
  | 14 => .inr (0, 4)
  | 15 => .inr (0, 4)
  | 16 => .inr (0, 4)
  | 17 => .inr (0, 2401)
  | 18 => .inr (1, 2401)
  | 19 => .inl 7
  | 20 => .inr (2, 4)
  | 21 => .inr (0, 4)
  | 22 => .inr (0, 4)
  | 23 => .inl 6
  | 24 => .inr (0, 4)
  | 25 => .inr (0, 4)
  | 26 => .inr (0, 4)
  | 27 => .inr (0, 4)
  | 28 => .inr (0, 3)
  | 29 => .inr (0, 3)
  | 30 => .inr (0, 4)
  | 31 => .inr (0, 4)
  | 32 => .inr (4, 3)
  | 33 => .inr (0, 4)
  | 34 => .inr (0, 3)
  | 35 => .inl 5
  | 36 => .inr (3, 100)
  | 37 => .inl 4
  | 38 => .inr (0, 4)
  | 39 => .inl 0
  | 40 => .inr (0, 4)
  | 41 => .inr (0, 4)
  | 42 => .inl 1
  | 43 => .inl 2
  | 44 => .inl 9
  | 45 => .inr (0, 20)
  | 46 => .inr (0, 20)
  | 47 => .inr (0, 20)
  | 48 => .inr (0, 20)
  | 49 => .inr (0, 20)
  | 50 => .inr (0, 80)
  | 51 => .inr (0, 20)
  | 52 => .inr (0, 8)
  | 53 => .inr (0, 4)
  | 54 => .inr (0, 4)
  | 55 => .inr (0, 4)
  | 56 => .inr (0, 4)
  | 57 => .inr (0, 4)
  | 58 => .inr (0, 4)
  | 59 => .inr (0, 4)
  | 60 => .inr (0, 16)
  | 61 => .inr (0, 16)
  | 62 => .inr (0, 8)
  | 63 => .inr (0, 8)
  | 64 => .inr (0, 8)
  | 65 => .inr (0, 8)
  | 66 => .inr (0, 8)
  | 67 => .inr (0, 8)
  | 68 => .inr (0, 3)
  | 69 => .inr (0, 3)
  | 70 => .inr (0, 3)
  | 71 => .inr (0, 4)
  | 72 => .inr (0, 4)
  | 73 => .inr (0, 3)
  | 74 => .inr (0, 3)
  | 75 => .inr (0, 100)
  | 76 => .inr (0, 20)
  | 77 => .inr (0, 20)
  | 78 => .inr (0, 80)
  | 79 => .inr (0, 50421)
  | 80 => .inr (0, 4)
  | 81 => .inr (0, 4)
  | 82 => .inr (0, 4)
  | 83 => .inr (0, 20)
  | 84 => .inr (0, 4)
  | 85 => .inr (0, 4)
  | 86 => .inr (0, 4)
  | 87 => .inr (0, 4)
  | 88 => .inr (0, 12)
  | 89 => .inr (0, 3)
  | 90 => .inr (0, 4)
  | 91 => .inr (0, 4)
  | 92 => .inr (0, 3)
  | 93 => .inr (0, 3)
  | _ => .inr (9, 0)
def sk_refL : List (Nat × Nat) := [(0, 0), (1, 0), (2, 0), (3, 0), (4, 0), (5, 0), (6, 0), (7, 0), (8, 0), (9, 0), (10, 0), (10, 1), (10, 2), (10, 3), (10, 4), (10, 5), (10, 6), (10, 7), (10, 8), (10, 9), (10, 10), (10, 11), (10, 12), (10, 13), (10, 14), (10, 15), (10, 16), (10, 17), (10, 18), (10, 19), (11, 0), (12, 0), (13, 0), (14, 0), (15, 0), (16, 0), (17, 0), (18, 0), (19, 0), (20, 0), (21, 0), (22, 0), (23, 0), (24, 0), (25, 0), (26, 0), (27, 0), (28, 0), (29, 0), (30, 0), (31, 0), (32, 0), (33, 0), (33, 1), (33, 2), (34, 0), (35, 0), (36, 0), (37, 0), (38, 0), (37, 1), (38, 1), (37, 2), (38, 2), (37, 3), (38, 3), (37, 4), (38, 4), (37, 5), (38, 5), (37, 6), (38, 6), (37, 7), (38, 7), (37, 8), (38, 8), (37, 9), (38, 9), (37, 10), (38, 10), (37, 11), (38, 11), (37, 12), (38, 12), (37, 13), (38, 13), (37, 14), (38, 14), (37, 15), (38, 15), (37, 16), (38, 16), (37, 17), (38, 17), (37, 18), (38, 18), (37, 19), (38, 19), (39, 0), (40, 0), (41, 0), (39, 1), (40, 1), (41, 1), (39, 2), (40, 2), (41, 2), (39, 3), (40, 3), (41, 3), (42, 0), (42, 1), (42, 2), (42, 3), (42, 4), (42, 5), (42, 6), (42, 7), (43, 0), (43, 1), (43, 2), (44, 0), (45, 0), (46, 0), (47, 0), (48, 0), (49, 0), (50, 0), (51, 0), (52, 0), (53, 0), (54, 0), (55, 0), (56, 0), (57, 0), (58, 0), (59, 0), (60, 0), (61, 0), (62, 0), (63, 0), (64, 0), (65, 0), (66, 0), (67, 0), (68, 0), (69, 0), (70, 0), (71, 0), (72, 0), (73, 0), (74, 0), (75, 0), (76, 0), (77, 0), (78, 0), (79, 0), (80, 0), (81, 0), (82, 0), (83, 0), (84, 0), (85, 0), (86, 0), (87, 0), (88, 0), (89, 0), (90, 0), (91, 0), (92, 0), (93, 0)]
abbrev sk_N0 : Nat := 171
def sk_fn : Nat → Nat := fun s => match s with
  | 0 => 11
  | 1 => 6
  | 2 => 5
  | 3 => 13
  | 4 => 7
  | 5 => 12
  | 6 => 10
  | 7 => 4
  | 8 => 14
  | 9 => 61
  | _ => 0
def sk_fr : Nat → Nat → Bool := fun c f => match c with
  | 0 => [7, 8].elem f
  | 1 => false
  | 2 => false
  | 3 => [2, 3, 4, 5, 6, 7, 8, 9, 10, 11, 12].elem f
  | 4 => [6].elem f
  | 5 => [0].elem f
  | 6 => [0, 1, 2, 3, 4, 5, 6, 7, 8, 9].elem f
  | 7 => [0, 1, 2].elem f
  | 8 => [0, 1, 2, 3, 4, 5, 6, 7, 8].elem f
  | 9 => [4, 5, 6, 7, 8, 9, 10, 11, 12, 13, 14, 15, 16, 17, 18, 19, 20, 21, 22, 23, 24, 25, 26, 28, 29, 30, 31, 32, 33, 34, 35, 38, 39, 40, 41, 42, 43, 44, 45, 46, 47, 48, 49, 50, 51, 52, 53, 54, 55].elem f
  | _ => false
def sk_ord (s k : Nat) : Nat := sk_base s + k * sk_step s
def sk_ref (i : Nat) : Nat × Nat := sk_refL.getD i (0, 0)
theorem sk_refT : (List.range sk_N0).all (fun i => sk_ord (sk_ref i).1 (sk_ref i).2 == i && decide ((sk_ref i).1 ≠ 9999)) = true := by decide +kernel
theorem sk_liveT : (List.range 94).all (fun s => (List.range (sk_cnt s)).all (fun k => sk_ref (sk_ord s k) == (s, k) && decide (sk_ord s k < sk_N0))) = true := by decide +kernel
theorem sk_ord_ref {i : Nat} (h : i < sk_N0) : sk_ord (sk_ref i).1 (sk_ref i).2 = i := by
  have h1 := List.all_eq_true.mp sk_refT i (List.mem_range.mpr h)
  simp only [Bool.and_eq_true, beq_iff_eq] at h1
  exact h1.1
theorem sk_cnt_lt {s k : Nat} (h : k < sk_cnt s) : s < 94 := by
  rcases Nat.lt_or_ge s 94 with q | q
  · exact q
  · exfalso
    have : sk_cnt s = 0 := by
      unfold sk_cnt
      split <;> first | omega | rfl
    omega
theorem sk_live {s k : Nat} (h : k < sk_cnt s) : sk_ref (sk_ord s k) = (s, k) ∧ sk_ord s k < sk_N0 := by
  have h1 := List.all_eq_true.mp (List.all_eq_true.mp sk_liveT s (List.mem_range.mpr (sk_cnt_lt h))) k (List.mem_range.mpr h)
  simp only [Bool.and_eq_true, beq_iff_eq, decide_eq_true_eq] at h1
  exact h1
end
section
/-! THE ENGINE: an abstract machine over numbered cells; sk_G says of an abstract state that the machine, in any state that holds it, comes to its end -/
abbrev sk_AV : Type := Int32 ⊕ Int64 ⊕ Option (Nat × Nat)
/-- cells made so far, whole numbers by (site, index, place), longs, references -/
abbrev sk_Mem : Type := Nat × (Nat → Nat → Nat → Int32) × (Nat → Nat → Nat → Int64) × (Nat → Nat → Nat → Option (Nat × Nat))
/-- a method: name, code, locals, answer, cells and slots that it makes -/
abbrev sk_MI : Type := MethodName × ByteArray × Nat × Option FieldType × Nat × Nat
def sk_tg : List Cond := lw_tbl.filter goodWord
theorem sk_in {w : Cond} (i : Nat) (h : lw_tbl[i]? = some w) (hg : goodWord w = true) : w ∈ sk_tg := List.mem_filter.mpr ⟨List.mem_of_getElem? h, hg⟩
theorem sk_tg_good {w : Cond} (h : w ∈ sk_tg) : (w.onTables && w.keeps) = true ∨ ∃ ty, w = .arrayClass ty := good_of_word (List.mem_filter.mp h).2
/-- words that a call doesn't keep by itself: nest mates' links -/
def sk_nest : Cond → Bool
  | .methodLinkNest _ _ _ _ => true
  | _ => false
def sk_Nx (U : State) : Prop := ∀ w ∈ tables_1.filter sk_nest, va_Nw w U
theorem sk_Nx.warm {s U : State} (hW : s.WarmedH U.vm) (h : sk_Nx s) : sk_Nx U := fun w hw => by
  have h1 := h w hw
  have h2 := (List.mem_filter.mp hw).2
  cases w <;> first | exact va_Nw.warmM hW h1 | (simp [sk_nest] at h2; done)
theorem sk_Nx.same {s U : State} (hv : s.vm = U.vm) (h : sk_Nx s) : sk_Nx U := fun w hw => by
  have h1 := h w hw
  have h2 := (List.mem_filter.mp hw).2
  cases w <;> first | exact va_Nw.same rfl hv h1 | (simp [sk_nest] at h2; done)
/-- addresses: the cells of the run lie from bb.1 on in the order of sk_refL; the script is at bb.2 -/
def sk_ad (bb : Nat × Nat) (a : Nat × Nat) : Nat := if a.1 = 9999 then bb.2 else bb.1 + sk_ord a.1 a.2
def sk_cv (bb : Nat × Nat) : sk_AV → Value
  | .inl x => .int x
  | .inr (.inl x) => .long x
  | .inr (.inr none) => .null
  | .inr (.inr (some a)) => .ref (sk_ad bb a)
def sk_ro (bb : Nat × Nat) (o : Option (Nat × Nat)) : Option Nat := o.map (sk_ad bb)
def sk_fv (bb : Nat × Nat) (h : sk_Mem) (s k ci f : Nat) : Value := if sk_fr ci f = true then va_rf (sk_ro bb (h.2.2.2 s k f)) else .int (h.2.1 s k f)
def sk_ce (kc : Nat → ClassId) (bb : Nat × Nat) (h : sk_Mem) (a : Nat × Nat) : va_E := match sk_shp a.1 with
  | .inl ci => .inr (ci, (List.range (sk_fn ci)).map (sk_fv bb h a.1 a.2 ci))
  | .inr (kd, n) => .inl (kc kd, n, if kd = 1 then .inr (.inl (h.2.2.1 a.1 a.2)) else if 4 ≤ kd then .inr (.inr (.inr (.inr (fun j => sk_ro bb (h.2.2.2 a.1 a.2 j))))) else .inl (h.2.1 a.1 a.2))
def sk_ws (kc : Nat → ClassId) (bb : Nat × Nat) (h : sk_Mem) : va_W := (List.range h.1).map (fun i => (bb.1 + i, sk_ce kc bb h (sk_ref i)))
/-- a cell that stands -/
def sk_lv (h : sk_Mem) (s k : Nat) : Prop := sk_ref (sk_ord s k) = (s, k) ∧ sk_ord s k < h.1 ∧ s ≠ 9999
def sk_kt : Nat → FieldType
  | 0 => .int
  | 1 => .long
  | 2 => .boolean
  | 3 => .char
  | 4 => .array .int
  | 5 => .object "SkiSchool$Pupil"
  | 6 => .object "SkiSchool$Group"
  | 7 => .object "SkiSchool$Instructor"
  | _ => .object "SkiSchool$Lift"
def sk_ty (kc : Nat → ClassId) : List (ClassId × FieldType) := (List.range 9).map (fun i => (kc i, sk_kt i))
theorem sk_ty_at {kc : Nat → ClassId} {k : Nat} (h : k < 9) : (sk_ty kc)[k]? = some (kc k, sk_kt k) := by
  unfold sk_ty
  rw [List.getElem?_map, List.getElem?_range h]
  rfl
theorem sk_ws_at {kc : Nat → ClassId} {bb : Nat × Nat} {h : sk_Mem} {s k : Nat} (hl : sk_lv h s k) : (sk_ws kc bb h)[sk_ord s k]? = some (sk_ad bb (s, k), sk_ce kc bb h (s, k)) := by
  unfold sk_ws
  rw [List.getElem?_map, List.getElem?_range hl.2.1]
  show some (bb.1 + sk_ord s k, sk_ce kc bb h (sk_ref (sk_ord s k))) = _
  rw [hl.1]
  unfold sk_ad
  rw [if_neg hl.2.2]
theorem sk_ws_D {kc : Nat → ClassId} {bb : Nat × Nat} {h : sk_Mem} : va_D (fun q => bb.1 ≤ q) (sk_ws kc bb h) := by
  have key : ∀ (k : Nat) (q : Nat × va_E), (sk_ws kc bb h)[k]? = some q → q.1 = bb.1 + k := by
    intro k q hk
    unfold sk_ws at hk
    rw [List.getElem?_map] at hk
    cases hr : (List.range h.1)[k]? with
    | none => rw [hr] at hk; cases hk
    | some j =>
      rw [hr] at hk
      cases hk
      obtain ⟨h1, h2⟩ := List.getElem?_eq_some_iff.mp hr
      rw [List.getElem_range] at h2
      rw [h2]
  refine ⟨fun i j p q hi hj hpq => ?_, fun k q hk => ?_⟩
  · have h1 := key i p hi
    have h2 := key j q hj
    omega
  · have := key k q hk
    show bb.1 ≤ q.1
    omega
theorem sk_ws_set {kc : Nat → ClassId} {bb : Nat × Nat} {h h' : sk_Mem} {s k : Nat} (hl : sk_lv h s k) (h1 : h'.1 = h.1) (hN : h.1 ≤ sk_N0) (ho : ∀ a : Nat × Nat, a ≠ (s, k) → sk_ce kc bb h' a = sk_ce kc bb h a) :
    (sk_ws kc bb h).set (sk_ord s k) (sk_ad bb (s, k), sk_ce kc bb h' (s, k)) = sk_ws kc bb h' := by
  have hlen : (sk_ws kc bb h).length = h.1 := by unfold sk_ws; rw [List.length_map, List.length_range]
  apply List.ext_getElem?
  intro i
  by_cases hi : i = sk_ord s k
  · subst hi
    rw [List.getElem?_set_self (by rw [hlen]; exact hl.2.1)]
    have hl' : sk_lv h' s k := ⟨hl.1, by rw [h1]; exact hl.2.1, hl.2.2⟩
    exact (sk_ws_at hl').symm
  · rw [List.getElem?_set_ne (Ne.symm hi)]
    unfold sk_ws
    rw [h1, List.getElem?_map, List.getElem?_map]
    by_cases hlt : i < h.1
    · rw [List.getElem?_range hlt]
      show some (bb.1 + i, sk_ce kc bb h (sk_ref i)) = some (bb.1 + i, sk_ce kc bb h' (sk_ref i))
      rw [ho]
      intro e
      have h3 := sk_ord_ref (Nat.lt_of_lt_of_le hlt hN)
      rw [e] at h3
      exact hi h3.symm
    · rw [List.getElem?_eq_none (by rw [List.length_range]; omega)]
      rfl
/-- the heap holds the memory -/
def sk_RH (bb : Nat × Nat) (D : va_G) (kc : Nat → ClassId) (h : sk_Mem) (s : State) (H : Heap) : Prop := va_K D vwCl (sk_ty kc) s ∧ (h.1 < sk_N0 → H.size = bb.1 + h.1) ∧ h.1 ≤ sk_N0 ∧ va_P D vwCl (sk_ws kc bb h) H
def sk_LR (bb : Nat × Nat) (la : Array Slot) (nL : Nat) (ls : List (Option sk_AV)) : Prop := la.size = nL ∧ lv_wf la ∧ ls.length = nL ∧ ∀ (i : Nat) (v : sk_AV), ls[i]? = some (some v) → la[i]? = some (.val (sk_cv bb v))
def sk_Hd (p : Program) (s : State) (m : MethodId) (args : Array Value) (meth : Method) (c : Code) (μ : sk_MI) : Prop :=
  p.tables.exec = Jvm.exec ∧ c.code = μ.2.1 ∧ meth.sig.returnType = μ.2.2.2.1 ∧ c.maxLocals = μ.2.2.1 ∧ s.vm.findClass μ.1.cls = some m.cls ∧ (∀ w ∈ sk_tg, w.before args s = true) ∧ meth.locks = false ∧ meth.name = μ.1.name ∧ sk_Nx s
abbrev sk_EX : Type := State → Array Value → Nat × Nat → Prop
abbrev sk_ZZ : Type := State → Array Value → List Frame → Nat × Nat → va_G → (Nat → ClassId) → State → Prop
def sk_G (l : Launch) (R : Room) (μ : sk_MI) (Ex : sk_EX) (Z : sk_ZZ) (cn sn pc : Nat) (ls : List (Option sk_AV)) (st : List sk_AV) (h : sk_Mem) : Prop :=
  ∀ (p : Program) (e : Env) (s : State) (m : MethodId) (args : Array Value) (below : List Frame) (meth : Method) (c : Code) (H : Heap) (locs : List Loc) (bb : Nat × Nat) (D : va_G) (kc : Nat → ClassId) (la : Array Slot),
    sk_Hd p s m args meth c μ → Ex s args bb → sk_RH bb D kc h s H → va_S (fun q => bb.1 ≤ q) s.heap H locs → bb.1 ≤ s.heap.size → sk_LR bb la μ.2.2.1 ls →
    W p l e R s m args below meth c H locs cn sn (Z s args below bb D kc) (F0 m pc la (st.map (sk_cv bb)))
def sk_Qc (bb : Nat × Nat) (D : va_G) (kc : Nat → ClassId) (r : Option sk_AV) (h' : sk_Mem) : Array Value → State → Outcome → State → Prop := fun _ st o t =>
  (o = .returned (r.map (sk_cv bb)) ∧ sk_RH bb D kc h' t t.heap) ∧ va_F (fun q => bb.1 ≤ q) st t
def sk_Pc (bb : Nat × Nat) (D : va_G) (kc : Nat → ClassId) (as : List sk_AV) (h : sk_Mem) : Array Value → State → Prop :=
  va_Pc (as.map (sk_cv bb)) (fun U => sk_Nx U ∧ sk_RH bb D kc h U U.heap ∧ bb.1 ≤ U.heap.size)
def sk_rm (dp mc ms : Nat) : Room := { frames := dp, cells := mc, slots := ms, locals := 60 * dp }
def sk_wm (μ : sk_MI) : List Cond := .code μ.1 μ.2.1 μ.2.2.1 μ.2.2.2.1 :: sk_tg
/-- a method's contract: from as and h it comes back with r and h' -/
def sk_M (l : Launch) (dp : Nat) (μ : sk_MI) (as : List sk_AV) (h : sk_Mem) (r : Option sk_AV) (h' : sk_Mem) : Prop :=
  ∀ (bb : Nat × Nat) (D : va_G) (kc : Nat → ClassId), Met l μ.1 (sk_wm μ) (sk_rm dp μ.2.2.2.2.1 μ.2.2.2.2.2) (sk_Pc bb D kc as h) (sk_Qc bb D kc r h') μ.2.2.2.2.1 μ.2.2.2.2.2 (fun q => bb.1 ≤ q)
def sk_Ex0 : sk_EX := fun _ _ _ => True
def sk_Zm (μ : sk_MI) (r : Option sk_AV) (h' : sk_Mem) : sk_ZZ := fun s args below bb D kc => MQ below (sk_Qc bb D kc r h') args s μ.2.2.2.2.1 μ.2.2.2.2.2 (fun q => bb.1 ≤ q)
theorem sk_RH.moved {bb : Nat × Nat} {D : va_G} {kc : Nat → ClassId} {h : sk_Mem} {u U : State} {H : Heap} (hvm : u.vm.Alike U.vm) (hR : sk_RH bb D kc h u H) : sk_RH bb D kc h U H := ⟨va_K.moved hvm hR.1, hR.2⟩
/-- the locals at a method's entry -/
def sk_l0 : List sk_AV → List (Option sk_AV)
  | [] => []
  | .inr (.inl x) :: vs => some (.inr (.inl x)) :: none :: sk_l0 vs
  | v :: vs => some v :: sk_l0 vs
theorem sk_l0_args (bb : Nat × Nat) : ∀ (as : List sk_AV) (j i : Nat) (v : sk_AV), (sk_l0 as)[i]? = some (some v) → (j + i, sk_cv bb v) ∈ lv_args j (as.map (sk_cv bb))
  | [], j, i, v, h => by simp [sk_l0] at h
  | .inl x :: vs, j, i, v, h => by
    cases i with
    | zero =>
      simp [sk_l0] at h
      subst h
      exact List.mem_cons_self
    | succ i =>
      have h' : (sk_l0 vs)[i]? = some (some v) := by simpa [sk_l0] using h
      have := sk_l0_args bb vs (j + 1) i v h'
      refine List.mem_cons_of_mem _ ?_
      show _ ∈ lv_args (j + 1) _
      rw [show j + (i + 1) = j + 1 + i by omega]
      exact this
  | .inr (.inl x) :: vs, j, i, v, h => by
    match i, h with
    | 0, h =>
      simp [sk_l0] at h
      subst h
      exact List.mem_cons_self
    | 1, h => simp [sk_l0] at h
    | i + 2, h =>
      have h' : (sk_l0 vs)[i]? = some (some v) := by simpa [sk_l0] using h
      have := sk_l0_args bb vs (j + 2) i v h'
      refine List.mem_cons_of_mem _ ?_
      show _ ∈ lv_args (j + 2) _
      rw [show j + (i + 2) = j + 2 + i by omega]
      exact this
  | .inr (.inr o) :: vs, j, i, v, h => by
    cases i with
    | zero =>
      simp [sk_l0] at h
      subst h
      exact List.mem_cons_self
    | succ i =>
      have h' : (sk_l0 vs)[i]? = some (some v) := by simpa [sk_l0] using h
      have := sk_l0_args bb vs (j + 1) i v h'
      refine List.mem_cons_of_mem _ ?_
      have e : (if (sk_cv bb (.inr (.inr o))).category = 2 then j + 2 else j + 1) = j + 1 := by
        cases o <;> rfl
      show _ ∈ lv_args (if (sk_cv bb (.inr (.inr o))).category = 2 then j + 2 else j + 1) _
      rw [e, show j + (i + 1) = j + 1 + i by omega]
      exact this
set_option maxHeartbeats 4000000 in
/-- a contract out of the walk from the entry -/
theorem sk_enter {l : Launch} {dp : Nat} {μ : sk_MI} {as : List sk_AV} {h : sk_Mem} {r : Option sk_AV} {h' : sk_Mem} (hpl : plainName μ.1.cls = true) (hn : ∀ bb, (lg_sl (as.map (sk_cv bb))).length ≤ μ.2.2.1) (hl0 : (sk_l0 as).length ≤ μ.2.2.1)
    (k : sk_G l (sk_rm dp μ.2.2.2.2.1 μ.2.2.2.2.2) μ sk_Ex0 (sk_Zm μ r h') 0 0 0 (sk_l0 as ++ List.replicate (μ.2.2.1 - (sk_l0 as).length) none) [] h) : sk_M l dp μ as h r h' := by
  intro bb D kc
  refine Met.ofW (cc := μ.2.1) (maxL := μ.2.2.1) (ret := μ.2.2.2.1) hpl rfl ?_
  intro p e s m args below meth c s₁ B hml hv
  obtain ⟨rfl, hN, hR, hbb⟩ := hv
  have hts := atoms_spec (ws := sk_wm μ) B.pre
  have hl := lv_entry (as.map (sk_cv bb)) (n := μ.2.2.1) (hn bb)
  rw [lg_entry_eq]
  refine k p e s m _ below meth c s.heap [] bb D kc _ ⟨B.exec, B.bytes, B.returns, hml, findClass_of_methodNamed B.named, fun w hw => hts w (List.mem_cons_of_mem _ hw), B.notSynchronized, (name_of_methodNamed B.named B.method).1, hN⟩ trivial hR va_S.rf hbb ⟨hl.1, hl.2.1, by rw [List.length_append, List.length_replicate]; omega, ?_⟩
  intro i v hi
  by_cases hlt : i < (sk_l0 as).length
  · rw [List.getElem?_append_left hlt] at hi
    have := hl.2.2 _ (by simpa using sk_l0_args bb as 0 i v hi)
    exact this
  · rw [List.getElem?_append_right (by omega)] at hi
    have := List.mem_of_getElem? hi
    rw [List.mem_replicate] at this
    cases this.2
end
section
section SKR
variable {l : Launch} {R : Room} {μ : sk_MI} {Ex : sk_EX} {Z : sk_ZZ} {cn sn pc : Nat} {ls : List (Option sk_AV)} {st : List sk_AV} {h : sk_Mem}
theorem sk_widen {k n : Nat} (h1 : cn ≤ k) (h2 : sn ≤ n) (kk : sk_G l R μ Ex Z k n pc ls st h) : sk_G l R μ Ex Z cn sn pc ls st h :=
  fun p e s m args below meth c H locs bb D kc la hH hE hR hS hB hL => W.widen h1 h2 (kk p e s m args below meth c H locs bb D kc la hH hE hR hS hB hL)
theorem sg_iconst {n : Int} {v : Int32} (pc' : Nat) (hd : decode μ.2.1 pc = .ok (.iconst n, 1)) (hp : pc + 1 = pc') (hv : Int32.ofInt n = v) (k : sk_G l R μ Ex Z cn sn pc' ls (.inl v :: st) h) : sk_G l R μ Ex Z cn sn pc ls (st) h := by
  subst hp
  exact fun p e s m args below meth c H locs bb D kc la hH hE hR hS hB hL => lv_iconst hH.1 hH.2.1 hd hv (k p e s m args below meth c H locs bb D kc la hH hE hR hS hB hL)
theorem sg_bipush {n : Int} {v : Int32} (pc' : Nat) (hd : decode μ.2.1 pc = .ok (.bipush n, 2)) (hp : pc + 2 = pc') (hv : (Int8.ofInt n).toInt32 = v) (k : sk_G l R μ Ex Z cn sn pc' ls (.inl v :: st) h) : sk_G l R μ Ex Z cn sn pc ls (st) h := by
  subst hp
  exact fun p e s m args below meth c H locs bb D kc la hH hE hR hS hB hL => lv_bipush hH.1 hH.2.1 hd hv (k p e s m args below meth c H locs bb D kc la hH hE hR hS hB hL)
theorem sg_sipush {n : Int} {v : Int32} (pc' : Nat) (hd : decode μ.2.1 pc = .ok (.sipush n, 3)) (hp : pc + 3 = pc') (hv : (Int16.ofInt n).toInt32 = v) (k : sk_G l R μ Ex Z cn sn pc' ls (.inl v :: st) h) : sk_G l R μ Ex Z cn sn pc ls (st) h := by
  subst hp
  exact fun p e s m args below meth c H locs bb D kc la hH hE hR hS hB hL => lv_sipush hH.1 hH.2.1 hd hv (k p e s m args below meth c H locs bb D kc la hH hE hR hS hB hL)
theorem sg_lconst {n : Fin 2} {v : Int64} (pc' : Nat) (hd : decode μ.2.1 pc = .ok (.lconst n, 1)) (hp : pc + 1 = pc') (hv : Int64.ofNat (n : Nat) = v) (k : sk_G l R μ Ex Z cn sn pc' ls (.inr (.inl v) :: st) h) : sk_G l R μ Ex Z cn sn pc ls (st) h := by
  subst hp
  exact fun p e s m args below meth c H locs bb D kc la hH hE hR hS hB hL => lv_lconst hH.1 hH.2.1 hd hv (k p e s m args below meth c H locs bb D kc la hH hE hR hS hB hL)
theorem sg_iadd {x y : Int32} (pc' : Nat) (hd : decode μ.2.1 pc = .ok (.iadd, 1)) (hp : pc + 1 = pc') (k : sk_G l R μ Ex Z cn sn pc' ls (.inl (x + y) :: st) h) : sk_G l R μ Ex Z cn sn pc ls (.inl y :: .inl x :: st) h := by
  subst hp
  exact fun p e s m args below meth c H locs bb D kc la hH hE hR hS hB hL => lv_iadd hH.1 hH.2.1 hd (k p e s m args below meth c H locs bb D kc la hH hE hR hS hB hL)
theorem sg_isub {x y : Int32} (pc' : Nat) (hd : decode μ.2.1 pc = .ok (.isub, 1)) (hp : pc + 1 = pc') (k : sk_G l R μ Ex Z cn sn pc' ls (.inl (x - y) :: st) h) : sk_G l R μ Ex Z cn sn pc ls (.inl y :: .inl x :: st) h := by
  subst hp
  exact fun p e s m args below meth c H locs bb D kc la hH hE hR hS hB hL => lv_isub hH.1 hH.2.1 hd (k p e s m args below meth c H locs bb D kc la hH hE hR hS hB hL)
theorem sg_imul {x y : Int32} (pc' : Nat) (hd : decode μ.2.1 pc = .ok (.imul, 1)) (hp : pc + 1 = pc') (k : sk_G l R μ Ex Z cn sn pc' ls (.inl (x * y) :: st) h) : sk_G l R μ Ex Z cn sn pc ls (.inl y :: .inl x :: st) h := by
  subst hp
  exact fun p e s m args below meth c H locs bb D kc la hH hE hR hS hB hL => lv_imul hH.1 hH.2.1 hd (k p e s m args below meth c H locs bb D kc la hH hE hR hS hB hL)
theorem sg_iand {x y : Int32} (pc' : Nat) (hd : decode μ.2.1 pc = .ok (.iand, 1)) (hp : pc + 1 = pc') (k : sk_G l R μ Ex Z cn sn pc' ls (.inl (x &&& y) :: st) h) : sk_G l R μ Ex Z cn sn pc ls (.inl y :: .inl x :: st) h := by
  subst hp
  exact fun p e s m args below meth c H locs bb D kc la hH hE hR hS hB hL => lv_iand hH.1 hH.2.1 hd (k p e s m args below meth c H locs bb D kc la hH hE hR hS hB hL)
theorem sg_ior {x y : Int32} (pc' : Nat) (hd : decode μ.2.1 pc = .ok (.ior, 1)) (hp : pc + 1 = pc') (k : sk_G l R μ Ex Z cn sn pc' ls (.inl (x ||| y) :: st) h) : sk_G l R μ Ex Z cn sn pc ls (.inl y :: .inl x :: st) h := by
  subst hp
  exact fun p e s m args below meth c H locs bb D kc la hH hE hR hS hB hL => lv_ior hH.1 hH.2.1 hd (k p e s m args below meth c H locs bb D kc la hH hE hR hS hB hL)
theorem sg_ishl {x y : Int32} (pc' : Nat) (hd : decode μ.2.1 pc = .ok (.ishl, 1)) (hp : pc + 1 = pc') (k : sk_G l R μ Ex Z cn sn pc' ls (.inl (x <<< (y &&& 31)) :: st) h) : sk_G l R μ Ex Z cn sn pc ls (.inl y :: .inl x :: st) h := by
  subst hp
  exact fun p e s m args below meth c H locs bb D kc la hH hE hR hS hB hL => lv_ishl hH.1 hH.2.1 hd (k p e s m args below meth c H locs bb D kc la hH hE hR hS hB hL)
theorem sg_ishr {x y : Int32} (pc' : Nat) (hd : decode μ.2.1 pc = .ok (.ishr, 1)) (hp : pc + 1 = pc') (k : sk_G l R μ Ex Z cn sn pc' ls (.inl (x >>> (y &&& 31)) :: st) h) : sk_G l R μ Ex Z cn sn pc ls (.inl y :: .inl x :: st) h := by
  subst hp
  exact fun p e s m args below meth c H locs bb D kc la hH hE hR hS hB hL => lv_ishr hH.1 hH.2.1 hd (k p e s m args below meth c H locs bb D kc la hH hE hR hS hB hL)
theorem sg_idiv {x y : Int32} (pc' : Nat) (hd : decode μ.2.1 pc = .ok (.idiv, 1)) (hp : pc + 1 = pc') (hne : ¬ y = 0) (k : sk_G l R μ Ex Z cn sn pc' ls (.inl (x / y) :: st) h) : sk_G l R μ Ex Z cn sn pc ls (.inl y :: .inl x :: st) h := by
  subst hp
  exact fun p e s m args below meth c H locs bb D kc la hH hE hR hS hB hL => lv_idiv hH.1 hH.2.1 hd hne (k p e s m args below meth c H locs bb D kc la hH hE hR hS hB hL)
theorem sg_irem {x y : Int32} (pc' : Nat) (hd : decode μ.2.1 pc = .ok (.irem, 1)) (hp : pc + 1 = pc') (hne : ¬ y = 0) (k : sk_G l R μ Ex Z cn sn pc' ls (.inl (x - x / y * y) :: st) h) : sk_G l R μ Ex Z cn sn pc ls (.inl y :: .inl x :: st) h := by
  subst hp
  exact fun p e s m args below meth c H locs bb D kc la hH hE hR hS hB hL => lv_irem hH.1 hH.2.1 hd hne (k p e s m args below meth c H locs bb D kc la hH hE hR hS hB hL)
theorem sg_ineg {x : Int32} (pc' : Nat) (hd : decode μ.2.1 pc = .ok (.ineg, 1)) (hp : pc + 1 = pc') (k : sk_G l R μ Ex Z cn sn pc' ls (.inl (-x) :: st) h) : sk_G l R μ Ex Z cn sn pc ls (.inl x :: st) h := by
  subst hp
  exact fun p e s m args below meth c H locs bb D kc la hH hE hR hS hB hL => lv_ineg hH.1 hH.2.1 hd (k p e s m args below meth c H locs bb D kc la hH hE hR hS hB hL)
theorem sg_ladd {x y : Int64} (pc' : Nat) (hd : decode μ.2.1 pc = .ok (.ladd, 1)) (hp : pc + 1 = pc') (k : sk_G l R μ Ex Z cn sn pc' ls (.inr (.inl (x + y)) :: st) h) : sk_G l R μ Ex Z cn sn pc ls (.inr (.inl y) :: .inr (.inl x) :: st) h := by
  subst hp
  exact fun p e s m args below meth c H locs bb D kc la hH hE hR hS hB hL => lv_ladd hH.1 hH.2.1 hd (k p e s m args below meth c H locs bb D kc la hH hE hR hS hB hL)
theorem sg_lmul {x y : Int64} (pc' : Nat) (hd : decode μ.2.1 pc = .ok (.lmul, 1)) (hp : pc + 1 = pc') (k : sk_G l R μ Ex Z cn sn pc' ls (.inr (.inl (x * y)) :: st) h) : sk_G l R μ Ex Z cn sn pc ls (.inr (.inl y) :: .inr (.inl x) :: st) h := by
  subst hp
  exact fun p e s m args below meth c H locs bb D kc la hH hE hR hS hB hL => lv_lmul hH.1 hH.2.1 hd (k p e s m args below meth c H locs bb D kc la hH hE hR hS hB hL)
theorem sg_lor {x y : Int64} (pc' : Nat) (hd : decode μ.2.1 pc = .ok (.lor, 1)) (hp : pc + 1 = pc') (k : sk_G l R μ Ex Z cn sn pc' ls (.inr (.inl (x ||| y)) :: st) h) : sk_G l R μ Ex Z cn sn pc ls (.inr (.inl y) :: .inr (.inl x) :: st) h := by
  subst hp
  exact fun p e s m args below meth c H locs bb D kc la hH hE hR hS hB hL => lv_lor hH.1 hH.2.1 hd (k p e s m args below meth c H locs bb D kc la hH hE hR hS hB hL)
theorem sg_lshl {x : Int64} {y : Int32} (pc' : Nat) (hd : decode μ.2.1 pc = .ok (.lshl, 1)) (hp : pc + 1 = pc') (k : sk_G l R μ Ex Z cn sn pc' ls (.inr (.inl (x <<< (y.toInt64 &&& 63))) :: st) h) : sk_G l R μ Ex Z cn sn pc ls (.inl y :: .inr (.inl x) :: st) h := by
  subst hp
  exact fun p e s m args below meth c H locs bb D kc la hH hE hR hS hB hL => lv_lshl hH.1 hH.2.1 hd rfl (k p e s m args below meth c H locs bb D kc la hH hE hR hS hB hL)
theorem sg_lushr {x : Int64} {y : Int32} (pc' : Nat) (hd : decode μ.2.1 pc = .ok (.lushr, 1)) (hp : pc + 1 = pc') (k : sk_G l R μ Ex Z cn sn pc' ls (.inr (.inl ((x.toUInt64 >>> (y.toInt64.toUInt64 &&& Int64.toUInt64 63)).toInt64)) :: st) h) : sk_G l R μ Ex Z cn sn pc ls (.inl y :: .inr (.inl x) :: st) h := by
  subst hp
  exact fun p e s m args below meth c H locs bb D kc la hH hE hR hS hB hL => lv_lushr hH.1 hH.2.1 hd rfl (k p e s m args below meth c H locs bb D kc la hH hE hR hS hB hL)
theorem sg_i2l {x : Int32} (pc' : Nat) (hd : decode μ.2.1 pc = .ok (.i2l, 1)) (hp : pc + 1 = pc') (k : sk_G l R μ Ex Z cn sn pc' ls (.inr (.inl x.toInt64) :: st) h) : sk_G l R μ Ex Z cn sn pc ls (.inl x :: st) h := by
  subst hp
  exact fun p e s m args below meth c H locs bb D kc la hH hE hR hS hB hL => lv_i2l hH.1 hH.2.1 hd rfl (k p e s m args below meth c H locs bb D kc la hH hE hR hS hB hL)
theorem sg_l2i {x : Int64} (pc' : Nat) (hd : decode μ.2.1 pc = .ok (.l2i, 1)) (hp : pc + 1 = pc') (k : sk_G l R μ Ex Z cn sn pc' ls (.inl x.toInt32 :: st) h) : sk_G l R μ Ex Z cn sn pc ls (.inr (.inl x) :: st) h := by
  subst hp
  exact fun p e s m args below meth c H locs bb D kc la hH hE hR hS hB hL => lv_l2i hH.1 hH.2.1 hd rfl (k p e s m args below meth c H locs bb D kc la hH hE hR hS hB hL)
theorem sg_i2c {x : Int32} (pc' : Nat) (hd : decode μ.2.1 pc = .ok (.i2c, 1)) (hp : pc + 1 = pc') (k : sk_G l R μ Ex Z cn sn pc' ls (.inl ((x.toUInt32 % 65536).toInt32) :: st) h) : sk_G l R μ Ex Z cn sn pc ls (.inl x :: st) h := by
  subst hp
  exact fun p e s m args below meth c H locs bb D kc la hH hE hR hS hB hL => lv_i2c hH.1 hH.2.1 hd rfl (k p e s m args below meth c H locs bb D kc la hH hE hR hS hB hL)
theorem sg_lcmp {x y : Int64} (pc' : Nat) (hd : decode μ.2.1 pc = .ok (.lcmp, 1)) (hp : pc + 1 = pc') (k : sk_G l R μ Ex Z cn sn pc' ls (.inl (lg_cmp x y) :: st) h) : sk_G l R μ Ex Z cn sn pc ls (.inr (.inl y) :: .inr (.inl x) :: st) h := by
  subst hp
  exact fun p e s m args below meth c H locs bb D kc la hH hE hR hS hB hL => W.lcmp hH.1 hH.2.1 hd (k p e s m args below meth c H locs bb D kc la hH hE hR hS hB hL)
theorem sg_dupI {x : Int32} (pc' : Nat) (hd : decode μ.2.1 pc = .ok (.dup, 1)) (hp : pc + 1 = pc') (k : sk_G l R μ Ex Z cn sn pc' ls (.inl x :: .inl x :: st) h) : sk_G l R μ Ex Z cn sn pc ls (.inl x :: st) h := by
  subst hp
  exact fun p e s m args below meth c H locs bb D kc la hH hE hR hS hB hL => lv_dup hH.1 hH.2.1 hd rfl (k p e s m args below meth c H locs bb D kc la hH hE hR hS hB hL)
theorem sg_dupR {a : Nat × Nat} (pc' : Nat) (hd : decode μ.2.1 pc = .ok (.dup, 1)) (hp : pc + 1 = pc') (k : sk_G l R μ Ex Z cn sn pc' ls (.inr (.inr (some a)) :: .inr (.inr (some a)) :: st) h) : sk_G l R μ Ex Z cn sn pc ls (.inr (.inr (some a)) :: st) h := by
  subst hp
  exact fun p e s m args below meth c H locs bb D kc la hH hE hR hS hB hL => lv_dup hH.1 hH.2.1 hd rfl (k p e s m args below meth c H locs bb D kc la hH hE hR hS hB hL)
theorem sg_popI {x : Int32} (pc' : Nat) (hd : decode μ.2.1 pc = .ok (.pop, 1)) (hp : pc + 1 = pc') (k : sk_G l R μ Ex Z cn sn pc' ls (st) h) : sk_G l R μ Ex Z cn sn pc ls (.inl x :: st) h := by
  subst hp
  exact fun p e s m args below meth c H locs bb D kc la hH hE hR hS hB hL => lv_pop hH.1 hH.2.1 hd rfl (k p e s m args below meth c H locs bb D kc la hH hE hR hS hB hL)
theorem sg_dup2 {x : Int32} {a : Nat × Nat} (pc' : Nat) (hd : decode μ.2.1 pc = .ok (.dup2, 1)) (hp : pc + 1 = pc') (k : sk_G l R μ Ex Z cn sn pc' ls (.inl x :: .inr (.inr (some a)) :: .inl x :: .inr (.inr (some a)) :: st) h) : sk_G l R μ Ex Z cn sn pc ls (.inl x :: .inr (.inr (some a)) :: st) h := by
  subst hp
  exact fun p e s m args below meth c H locs bb D kc la hH hE hR hS hB hL => lv_dup2_11 hH.1 hH.2.1 hd rfl rfl (k p e s m args below meth c H locs bb D kc la hH hE hR hS hB hL)
theorem sg_ldc {i : Nat} {v : Int32} (pc' : Nat) (hd : decode μ.2.1 pc = .ok (.ldc i, 2)) (hp : pc + 2 = pc') (hw : Cond.constant μ.1.cls i v ∈ sk_tg) (k : sk_G l R μ Ex Z cn sn pc' ls (.inl v :: st) h) : sk_G l R μ Ex Z cn sn pc ls (st) h := by
  subst hp
  exact fun p e s m args below meth c H locs bb D kc la hH hE hR hS hB hL => lv_ldc hH.1 hH.2.1 hH.2.2.2.2.1 (hH.2.2.2.2.2.1 _ hw) hd (k p e s m args below meth c H locs bb D kc la hH hE hR hS hB hL)
theorem sg_ldcw {i : Nat} {v : Int32} (pc' : Nat) (hd : decode μ.2.1 pc = .ok (.ldc_w i, 3)) (hp : pc + 3 = pc') (hw : Cond.constant μ.1.cls i v ∈ sk_tg) (k : sk_G l R μ Ex Z cn sn pc' ls (.inl v :: st) h) : sk_G l R μ Ex Z cn sn pc ls (st) h := by
  subst hp
  exact fun p e s m args below meth c H locs bb D kc la hH hE hR hS hB hL => lv_ldcw hH.1 hH.2.1 hH.2.2.2.2.1 (hH.2.2.2.2.2.1 _ hw) hd (k p e s m args below meth c H locs bb D kc la hH hE hR hS hB hL)
theorem sg_ldc2 {i : Nat} {v : Int64} (pc' : Nat) (hd : decode μ.2.1 pc = .ok (.ldc2_w i, 3)) (hp : pc + 3 = pc') (hw : Cond.constantLong μ.1.cls i v ∈ sk_tg) (k : sk_G l R μ Ex Z cn sn pc' ls (.inr (.inl v) :: st) h) : sk_G l R μ Ex Z cn sn pc ls (st) h := by
  subst hp
  exact fun p e s m args below meth c H locs bb D kc la hH hE hR hS hB hL => lv_ldc2 hH.1 hH.2.1 hH.2.2.2.2.1 (hH.2.2.2.2.2.1 _ hw) hd (k p e s m args below meth c H locs bb D kc la hH hE hR hS hB hL)
theorem sg_iload_n {i : Fin 4} {x : Int32} (pc' : Nat) (hd : decode μ.2.1 pc = .ok (.iload_n i, 1)) (hp : pc + 1 = pc') (hv : ls[(i : Nat)]? = some (some (.inl x))) (k : sk_G l R μ Ex Z cn sn pc' ls (.inl x :: st) h) : sk_G l R μ Ex Z cn sn pc ls (st) h := by
  subst hp
  exact fun p e s m args below meth c H locs bb D kc la hH hE hR hS hB hL => lv_iload_n hH.1 hH.2.1 hd rfl (hL.2.2.2 _ _ hv) (k p e s m args below meth c H locs bb D kc la hH hE hR hS hB hL)
theorem sg_iload {i : Nat} {x : Int32} (pc' : Nat) (hd : decode μ.2.1 pc = .ok (.iload i, 2)) (hp : pc + 2 = pc') (hv : ls[i]? = some (some (.inl x))) (k : sk_G l R μ Ex Z cn sn pc' ls (.inl x :: st) h) : sk_G l R μ Ex Z cn sn pc ls (st) h := by
  subst hp
  exact fun p e s m args below meth c H locs bb D kc la hH hE hR hS hB hL => lv_iload hH.1 hH.2.1 hd (hL.2.2.2 _ _ hv) (k p e s m args below meth c H locs bb D kc la hH hE hR hS hB hL)
theorem sg_lload_n {i : Fin 4} {x : Int64} (pc' : Nat) (hd : decode μ.2.1 pc = .ok (.lload_n i, 1)) (hp : pc + 1 = pc') (hv : ls[(i : Nat)]? = some (some (.inr (.inl x)))) (k : sk_G l R μ Ex Z cn sn pc' ls (.inr (.inl x) :: st) h) : sk_G l R μ Ex Z cn sn pc ls (st) h := by
  subst hp
  exact fun p e s m args below meth c H locs bb D kc la hH hE hR hS hB hL => lv_lload_n hH.1 hH.2.1 hd rfl (hL.2.2.2 _ _ hv) (k p e s m args below meth c H locs bb D kc la hH hE hR hS hB hL)
theorem sg_lload {i : Nat} {x : Int64} (pc' : Nat) (hd : decode μ.2.1 pc = .ok (.lload i, 2)) (hp : pc + 2 = pc') (hv : ls[i]? = some (some (.inr (.inl x)))) (k : sk_G l R μ Ex Z cn sn pc' ls (.inr (.inl x) :: st) h) : sk_G l R μ Ex Z cn sn pc ls (st) h := by
  subst hp
  exact fun p e s m args below meth c H locs bb D kc la hH hE hR hS hB hL => lv_lload hH.1 hH.2.1 hd (hL.2.2.2 _ _ hv) (k p e s m args below meth c H locs bb D kc la hH hE hR hS hB hL)
theorem sg_aload_n {i : Fin 4} {a : Nat × Nat} (pc' : Nat) (hd : decode μ.2.1 pc = .ok (.aload_n i, 1)) (hp : pc + 1 = pc') (hv : ls[(i : Nat)]? = some (some (.inr (.inr (some a))))) (k : sk_G l R μ Ex Z cn sn pc' ls (.inr (.inr (some a)) :: st) h) : sk_G l R μ Ex Z cn sn pc ls (st) h := by
  subst hp
  exact fun p e s m args below meth c H locs bb D kc la hH hE hR hS hB hL => lv_aload_n hH.1 hH.2.1 hd rfl (hL.2.2.2 _ _ hv) (k p e s m args below meth c H locs bb D kc la hH hE hR hS hB hL)
theorem sg_aload {i : Nat} {a : Nat × Nat} (pc' : Nat) (hd : decode μ.2.1 pc = .ok (.aload i, 2)) (hp : pc + 2 = pc') (hv : ls[i]? = some (some (.inr (.inr (some a))))) (k : sk_G l R μ Ex Z cn sn pc' ls (.inr (.inr (some a)) :: st) h) : sk_G l R μ Ex Z cn sn pc ls (st) h := by
  subst hp
  exact fun p e s m args below meth c H locs bb D kc la hH hE hR hS hB hL => lv_aload hH.1 hH.2.1 hd (hL.2.2.2 _ _ hv) (k p e s m args below meth c H locs bb D kc la hH hE hR hS hB hL)
theorem sg_goto {off : Int} (pc' : Nat) (hd : decode μ.2.1 pc = .ok (.goto off, 3)) (ht : (pc : Int) + off = (pc' : Int)) (k : sk_G l R μ Ex Z cn sn pc' ls st h) : sk_G l R μ Ex Z cn sn pc ls st h :=
  fun p e s m args below meth c H locs bb D kc la hH hE hR hS hB hL => lv_goto hH.1 hH.2.1 hd ht (k p e s m args below meth c H locs bb D kc la hH hE hR hS hB hL)
theorem sg_if_eq {x : Int32} {off : Int} (pc1 pc2 : Nat) (hd : decode μ.2.1 pc = .ok (.ifCond .eq off, 3)) (ht : (pc : Int) + off = (pc1 : Int)) (hp : pc + 3 = pc2) (kt : x = 0 → sk_G l R μ Ex Z cn sn pc1 ls st h) (kf : ¬ x = 0 → sk_G l R μ Ex Z cn sn pc2 ls st h) : sk_G l R μ Ex Z cn sn pc ls (.inl x :: st) h := by
  subst hp
  exact fun p e s m args below meth c H locs bb D kc la hH hE hR hS hB hL => lv_if_eq hH.1 hH.2.1 hd ht (fun q => kt q p e s m args below meth c H locs bb D kc la hH hE hR hS hB hL) (fun q => kf q p e s m args below meth c H locs bb D kc la hH hE hR hS hB hL)
theorem sg_if_ne {x : Int32} {off : Int} (pc1 pc2 : Nat) (hd : decode μ.2.1 pc = .ok (.ifCond .ne off, 3)) (ht : (pc : Int) + off = (pc1 : Int)) (hp : pc + 3 = pc2) (kt : ¬ x = 0 → sk_G l R μ Ex Z cn sn pc1 ls st h) (kf : x = 0 → sk_G l R μ Ex Z cn sn pc2 ls st h) : sk_G l R μ Ex Z cn sn pc ls (.inl x :: st) h := by
  subst hp
  exact fun p e s m args below meth c H locs bb D kc la hH hE hR hS hB hL => lv_if_ne hH.1 hH.2.1 hd ht (fun q => kt q p e s m args below meth c H locs bb D kc la hH hE hR hS hB hL) (fun q => kf q p e s m args below meth c H locs bb D kc la hH hE hR hS hB hL)
theorem sg_if_lt {x : Int32} {off : Int} (pc1 pc2 : Nat) (hd : decode μ.2.1 pc = .ok (.ifCond .lt off, 3)) (ht : (pc : Int) + off = (pc1 : Int)) (hp : pc + 3 = pc2) (kt : x < 0 → sk_G l R μ Ex Z cn sn pc1 ls st h) (kf : ¬ x < 0 → sk_G l R μ Ex Z cn sn pc2 ls st h) : sk_G l R μ Ex Z cn sn pc ls (.inl x :: st) h := by
  subst hp
  exact fun p e s m args below meth c H locs bb D kc la hH hE hR hS hB hL => lv_if_lt hH.1 hH.2.1 hd ht (fun q => kt q p e s m args below meth c H locs bb D kc la hH hE hR hS hB hL) (fun q => kf q p e s m args below meth c H locs bb D kc la hH hE hR hS hB hL)
theorem sg_if_ge {x : Int32} {off : Int} (pc1 pc2 : Nat) (hd : decode μ.2.1 pc = .ok (.ifCond .ge off, 3)) (ht : (pc : Int) + off = (pc1 : Int)) (hp : pc + 3 = pc2) (kt : 0 ≤ x → sk_G l R μ Ex Z cn sn pc1 ls st h) (kf : ¬ 0 ≤ x → sk_G l R μ Ex Z cn sn pc2 ls st h) : sk_G l R μ Ex Z cn sn pc ls (.inl x :: st) h := by
  subst hp
  exact fun p e s m args below meth c H locs bb D kc la hH hE hR hS hB hL => lv_if_ge hH.1 hH.2.1 hd ht (fun q => kt q p e s m args below meth c H locs bb D kc la hH hE hR hS hB hL) (fun q => kf q p e s m args below meth c H locs bb D kc la hH hE hR hS hB hL)
theorem sg_if_gt {x : Int32} {off : Int} (pc1 pc2 : Nat) (hd : decode μ.2.1 pc = .ok (.ifCond .gt off, 3)) (ht : (pc : Int) + off = (pc1 : Int)) (hp : pc + 3 = pc2) (kt : 0 < x → sk_G l R μ Ex Z cn sn pc1 ls st h) (kf : ¬ 0 < x → sk_G l R μ Ex Z cn sn pc2 ls st h) : sk_G l R μ Ex Z cn sn pc ls (.inl x :: st) h := by
  subst hp
  exact fun p e s m args below meth c H locs bb D kc la hH hE hR hS hB hL => lv_if_gt hH.1 hH.2.1 hd ht (fun q => kt q p e s m args below meth c H locs bb D kc la hH hE hR hS hB hL) (fun q => kf q p e s m args below meth c H locs bb D kc la hH hE hR hS hB hL)
theorem sg_if_le {x : Int32} {off : Int} (pc1 pc2 : Nat) (hd : decode μ.2.1 pc = .ok (.ifCond .le off, 3)) (ht : (pc : Int) + off = (pc1 : Int)) (hp : pc + 3 = pc2) (kt : x ≤ 0 → sk_G l R μ Ex Z cn sn pc1 ls st h) (kf : ¬ x ≤ 0 → sk_G l R μ Ex Z cn sn pc2 ls st h) : sk_G l R μ Ex Z cn sn pc ls (.inl x :: st) h := by
  subst hp
  exact fun p e s m args below meth c H locs bb D kc la hH hE hR hS hB hL => lv_if_le hH.1 hH.2.1 hd ht (fun q => kt q p e s m args below meth c H locs bb D kc la hH hE hR hS hB hL) (fun q => kf q p e s m args below meth c H locs bb D kc la hH hE hR hS hB hL)
theorem sg_ic_eq {x y : Int32} {off : Int} (pc1 pc2 : Nat) (hd : decode μ.2.1 pc = .ok (.if_icmp .eq off, 3)) (ht : (pc : Int) + off = (pc1 : Int)) (hp : pc + 3 = pc2) (kt : x = y → sk_G l R μ Ex Z cn sn pc1 ls st h) (kf : ¬ x = y → sk_G l R μ Ex Z cn sn pc2 ls st h) : sk_G l R μ Ex Z cn sn pc ls (.inl y :: .inl x :: st) h := by
  subst hp
  exact fun p e s m args below meth c H locs bb D kc la hH hE hR hS hB hL => lv_icmp_eq hH.1 hH.2.1 hd ht (fun q => kt q p e s m args below meth c H locs bb D kc la hH hE hR hS hB hL) (fun q => kf q p e s m args below meth c H locs bb D kc la hH hE hR hS hB hL)
theorem sg_ic_ne {x y : Int32} {off : Int} (pc1 pc2 : Nat) (hd : decode μ.2.1 pc = .ok (.if_icmp .ne off, 3)) (ht : (pc : Int) + off = (pc1 : Int)) (hp : pc + 3 = pc2) (kt : ¬ x = y → sk_G l R μ Ex Z cn sn pc1 ls st h) (kf : x = y → sk_G l R μ Ex Z cn sn pc2 ls st h) : sk_G l R μ Ex Z cn sn pc ls (.inl y :: .inl x :: st) h := by
  subst hp
  exact fun p e s m args below meth c H locs bb D kc la hH hE hR hS hB hL => lv_icmp_ne hH.1 hH.2.1 hd ht (fun q => kt q p e s m args below meth c H locs bb D kc la hH hE hR hS hB hL) (fun q => kf q p e s m args below meth c H locs bb D kc la hH hE hR hS hB hL)
theorem sg_ic_lt {x y : Int32} {off : Int} (pc1 pc2 : Nat) (hd : decode μ.2.1 pc = .ok (.if_icmp .lt off, 3)) (ht : (pc : Int) + off = (pc1 : Int)) (hp : pc + 3 = pc2) (kt : x < y → sk_G l R μ Ex Z cn sn pc1 ls st h) (kf : ¬ x < y → sk_G l R μ Ex Z cn sn pc2 ls st h) : sk_G l R μ Ex Z cn sn pc ls (.inl y :: .inl x :: st) h := by
  subst hp
  exact fun p e s m args below meth c H locs bb D kc la hH hE hR hS hB hL => lv_icmp_lt hH.1 hH.2.1 hd ht (fun q => kt q p e s m args below meth c H locs bb D kc la hH hE hR hS hB hL) (fun q => kf q p e s m args below meth c H locs bb D kc la hH hE hR hS hB hL)
theorem sg_ic_ge {x y : Int32} {off : Int} (pc1 pc2 : Nat) (hd : decode μ.2.1 pc = .ok (.if_icmp .ge off, 3)) (ht : (pc : Int) + off = (pc1 : Int)) (hp : pc + 3 = pc2) (kt : y ≤ x → sk_G l R μ Ex Z cn sn pc1 ls st h) (kf : ¬ y ≤ x → sk_G l R μ Ex Z cn sn pc2 ls st h) : sk_G l R μ Ex Z cn sn pc ls (.inl y :: .inl x :: st) h := by
  subst hp
  exact fun p e s m args below meth c H locs bb D kc la hH hE hR hS hB hL => lv_icmp_ge hH.1 hH.2.1 hd ht (fun q => kt q p e s m args below meth c H locs bb D kc la hH hE hR hS hB hL) (fun q => kf q p e s m args below meth c H locs bb D kc la hH hE hR hS hB hL)
theorem sg_ic_gt {x y : Int32} {off : Int} (pc1 pc2 : Nat) (hd : decode μ.2.1 pc = .ok (.if_icmp .gt off, 3)) (ht : (pc : Int) + off = (pc1 : Int)) (hp : pc + 3 = pc2) (kt : y < x → sk_G l R μ Ex Z cn sn pc1 ls st h) (kf : ¬ y < x → sk_G l R μ Ex Z cn sn pc2 ls st h) : sk_G l R μ Ex Z cn sn pc ls (.inl y :: .inl x :: st) h := by
  subst hp
  exact fun p e s m args below meth c H locs bb D kc la hH hE hR hS hB hL => lv_icmp_gt hH.1 hH.2.1 hd ht (fun q => kt q p e s m args below meth c H locs bb D kc la hH hE hR hS hB hL) (fun q => kf q p e s m args below meth c H locs bb D kc la hH hE hR hS hB hL)
theorem sg_ic_le {x y : Int32} {off : Int} (pc1 pc2 : Nat) (hd : decode μ.2.1 pc = .ok (.if_icmp .le off, 3)) (ht : (pc : Int) + off = (pc1 : Int)) (hp : pc + 3 = pc2) (kt : x ≤ y → sk_G l R μ Ex Z cn sn pc1 ls st h) (kf : ¬ x ≤ y → sk_G l R μ Ex Z cn sn pc2 ls st h) : sk_G l R μ Ex Z cn sn pc ls (.inl y :: .inl x :: st) h := by
  subst hp
  exact fun p e s m args below meth c H locs bb D kc la hH hE hR hS hB hL => lv_icmp_le hH.1 hH.2.1 hd ht (fun q => kt q p e s m args below meth c H locs bb D kc la hH hE hR hS hB hL) (fun q => kf q p e s m args below meth c H locs bb D kc la hH hE hR hS hB hL)
/-- the known locals as a list -/
def sk_lst (bb : Nat × Nat) (ls : List (Option sk_AV)) : List (Nat × Value) := (List.range ls.length).filterMap (fun i => (ls[i]?.join).map (fun v => (i, sk_cv bb v)))
theorem sk_lst_mem {bb : Nat × Nat} {ls : List (Option sk_AV)} {i : Nat} {v : sk_AV} (hv : ls[i]? = some (some v)) : (i, sk_cv bb v) ∈ sk_lst bb ls := by
  unfold sk_lst
  refine List.mem_filterMap.mpr ⟨i, List.mem_range.mpr (List.getElem?_eq_some_iff.mp hv).1, ?_⟩
  rw [hv]
  rfl
theorem sk_LR.has {bb : Nat × Nat} {la : Array Slot} {nL : Nat} {ls : List (Option sk_AV)} (hL : sk_LR bb la nL ls) : lv_has la nL (sk_lst bb ls) := by
  refine ⟨hL.1, hL.2.1, fun q hq => ?_⟩
  unfold sk_lst at hq
  obtain ⟨i, hi, he⟩ := List.mem_filterMap.mp hq
  cases hx : ls[i]? with
  | none => rw [hx] at he; cases he
  | some o =>
    cases o with
    | none => rw [hx] at he; cases he
    | some v =>
      rw [hx] at he
      cases he
      exact hL.2.2.2 i v hx
def sk_isL : sk_AV → Bool
  | .inr (.inl _) => true
  | _ => false
theorem sk_cat (bb : Nat × Nat) (v : sk_AV) (h : sk_isL v = false) : ((sk_cv bb v).category == 2) = false := by
  match v, h with
  | .inl x, _ => rfl
  | .inr (.inr none), _ => rfl
  | .inr (.inr (some a)), _ => rfl
/-- no long stands just below place i -/
def sk_lc (ls : List (Option sk_AV)) (i : Nat) : Bool := match i with
  | 0 => true
  | j + 1 => match ls[j]? with
    | some (some v) => !(sk_isL v)
    | _ => true
theorem sk_LR.put1 {bb : Nat × Nat} {la' : Array Slot} {nL i : Nat} {ls : List (Option sk_AV)} {v : sk_AV} (hlen : ls.length = nL) (hc : sk_lc ls i = true) (hi : i < nL)
    (h : lv_has la' nL ((i, sk_cv bb v) :: (sk_lst bb ls).filter (fun q => !(q.1 == i) && !(q.1 + 1 == i && q.2.category == 2)))) : sk_LR bb la' nL (ls.set i (some v)) := by
  refine ⟨h.1, h.2.1, by rw [List.length_set, hlen], fun j w hj => ?_⟩
  by_cases hji : j = i
  · subst hji
    rw [List.getElem?_set_self (by omega)] at hj
    cases hj
    exact h.2.2 _ List.mem_cons_self
  · rw [List.getElem?_set_ne (Ne.symm hji)] at hj
    refine h.2.2 (j, sk_cv bb w) (List.mem_cons_of_mem _ (List.mem_filter.mpr ⟨sk_lst_mem hj, ?_⟩))
    have h1 : (j == i) = false := by simpa using hji
    by_cases h2 : j + 1 = i
    · subst h2
      have h3 : sk_isL w = false := by
        have hc' := hc
        unfold sk_lc at hc'
        simp only [hj] at hc'
        simpa using hc'
      simp only [h1, sk_cat bb w h3]
      simp
    · have h3 : (j + 1 == i) = false := by simpa using h2
      simp only [h1, h3]
      rfl
theorem sk_LR.put2 {bb : Nat × Nat} {la' : Array Slot} {nL i : Nat} {ls : List (Option sk_AV)} {v : sk_AV} (hlen : ls.length = nL) (hc : sk_lc ls i = true) (hi : i + 1 < nL)
    (h : lv_has la' nL ((i, sk_cv bb v) :: (sk_lst bb ls).filter (fun q => !(q.1 == i) && (!(q.1 == i + 1) && !(q.1 + 1 == i && q.2.category == 2))))) : sk_LR bb la' nL ((ls.set i (some v)).set (i + 1) none) := by
  refine ⟨h.1, h.2.1, by rw [List.length_set, List.length_set, hlen], fun j w hj => ?_⟩
  by_cases hj1 : j = i + 1
  · subst hj1
    rw [List.getElem?_set_self (by rw [List.length_set]; omega)] at hj
    cases hj
  rw [List.getElem?_set_ne (Ne.symm hj1)] at hj
  by_cases hji : j = i
  · subst hji
    rw [List.getElem?_set_self (by omega)] at hj
    cases hj
    exact h.2.2 _ List.mem_cons_self
  · rw [List.getElem?_set_ne (Ne.symm hji)] at hj
    refine h.2.2 (j, sk_cv bb w) (List.mem_cons_of_mem _ (List.mem_filter.mpr ⟨sk_lst_mem hj, ?_⟩))
    have h1 : (j == i) = false := by simpa using hji
    have h0 : (j == i + 1) = false := by simpa using hj1
    by_cases h2 : j + 1 = i
    · subst h2
      have h3 : sk_isL w = false := by
        have hc' := hc
        unfold sk_lc at hc'
        simp only [hj] at hc'
        simpa using hc'
      simp only [h1, h0, sk_cat bb w h3]
      simp
    · have h3 : (j + 1 == i) = false := by simpa using h2
      simp only [h1, h0, h3]
      rfl
theorem sg_istore_n {i : Fin 4} {x : Int32} (pc' : Nat) (ls' : List (Option sk_AV)) (hd : decode μ.2.1 pc = .ok (.istore_n i, 1)) (hp : pc + 1 = pc') (hs : ls.set (i : Nat) (some (.inl x)) = ls') (hn : (i : Nat) < ls.length) (hc : sk_lc ls (i : Nat) = true) (k : sk_G l R μ Ex Z cn sn pc' ls' st h) : sk_G l R μ Ex Z cn sn pc ls (.inl x :: st) h := by
  subst hp
  subst hs
  exact fun p e s m args below meth c H locs bb D kc la hH hE hR hS hB hL => lv_istore_n hH.1 hH.2.1 hd rfl hL.has (by rw [← hL.2.2.1]; exact hn) rfl (fun la' hla => k p e s m args below meth c H locs bb D kc la' hH hE hR hS hB (sk_LR.put1 hL.2.2.1 hc (by rw [← hL.2.2.1]; exact hn) hla))
theorem sg_istore {i : Nat} {x : Int32} (pc' : Nat) (ls' : List (Option sk_AV)) (hd : decode μ.2.1 pc = .ok (.istore i, 2)) (hp : pc + 2 = pc') (hs : ls.set i (some (.inl x)) = ls') (hn : i < ls.length) (hc : sk_lc ls i = true) (k : sk_G l R μ Ex Z cn sn pc' ls' st h) : sk_G l R μ Ex Z cn sn pc ls (.inl x :: st) h := by
  subst hp
  subst hs
  exact fun p e s m args below meth c H locs bb D kc la hH hE hR hS hB hL => lv_istore hH.1 hH.2.1 hd hL.has (by rw [← hL.2.2.1]; exact hn) rfl (fun la' hla => k p e s m args below meth c H locs bb D kc la' hH hE hR hS hB (sk_LR.put1 hL.2.2.1 hc (by rw [← hL.2.2.1]; exact hn) hla))
theorem sg_lstore_n {i : Fin 4} {x : Int64} (pc' : Nat) (ls' : List (Option sk_AV)) (hd : decode μ.2.1 pc = .ok (.lstore_n i, 1)) (hp : pc + 1 = pc') (hs : (ls.set (i : Nat) (some (.inr (.inl x)))).set ((i : Nat) + 1) none = ls') (hn : (i : Nat) + 1 < ls.length) (hc : sk_lc ls (i : Nat) = true) (k : sk_G l R μ Ex Z cn sn pc' ls' st h) : sk_G l R μ Ex Z cn sn pc ls (.inr (.inl x) :: st) h := by
  subst hp
  subst hs
  exact fun p e s m args below meth c H locs bb D kc la hH hE hR hS hB hL => lv_lstore_n hH.1 hH.2.1 hd rfl hL.has (by rw [← hL.2.2.1]; exact hn) rfl (fun la' hla => k p e s m args below meth c H locs bb D kc la' hH hE hR hS hB (sk_LR.put2 hL.2.2.1 hc (by rw [← hL.2.2.1]; exact hn) hla))
theorem sg_lstore {i : Nat} {x : Int64} (pc' : Nat) (ls' : List (Option sk_AV)) (hd : decode μ.2.1 pc = .ok (.lstore i, 2)) (hp : pc + 2 = pc') (hs : (ls.set i (some (.inr (.inl x)))).set (i + 1) none = ls') (hn : i + 1 < ls.length) (hc : sk_lc ls i = true) (k : sk_G l R μ Ex Z cn sn pc' ls' st h) : sk_G l R μ Ex Z cn sn pc ls (.inr (.inl x) :: st) h := by
  subst hp
  subst hs
  exact fun p e s m args below meth c H locs bb D kc la hH hE hR hS hB hL => lv_lstore hH.1 hH.2.1 hd hL.has (by rw [← hL.2.2.1]; exact hn) rfl (fun la' hla => k p e s m args below meth c H locs bb D kc la' hH hE hR hS hB (sk_LR.put2 hL.2.2.1 hc (by rw [← hL.2.2.1]; exact hn) hla))
theorem sg_astore_n {i : Fin 4} {x : (Nat × Nat)} (pc' : Nat) (ls' : List (Option sk_AV)) (hd : decode μ.2.1 pc = .ok (.astore_n i, 1)) (hp : pc + 1 = pc') (hs : ls.set (i : Nat) (some (.inr (.inr (some x)))) = ls') (hn : (i : Nat) < ls.length) (hc : sk_lc ls (i : Nat) = true) (k : sk_G l R μ Ex Z cn sn pc' ls' st h) : sk_G l R μ Ex Z cn sn pc ls (.inr (.inr (some x)) :: st) h := by
  subst hp
  subst hs
  exact fun p e s m args below meth c H locs bb D kc la hH hE hR hS hB hL => lv_astore_n hH.1 hH.2.1 hd rfl hL.has (by rw [← hL.2.2.1]; exact hn) rfl (fun la' hla => k p e s m args below meth c H locs bb D kc la' hH hE hR hS hB (sk_LR.put1 hL.2.2.1 hc (by rw [← hL.2.2.1]; exact hn) hla))
theorem sg_astore {i : Nat} {x : (Nat × Nat)} (pc' : Nat) (ls' : List (Option sk_AV)) (hd : decode μ.2.1 pc = .ok (.astore i, 2)) (hp : pc + 2 = pc') (hs : ls.set i (some (.inr (.inr (some x)))) = ls') (hn : i < ls.length) (hc : sk_lc ls i = true) (k : sk_G l R μ Ex Z cn sn pc' ls' st h) : sk_G l R μ Ex Z cn sn pc ls (.inr (.inr (some x)) :: st) h := by
  subst hp
  subst hs
  exact fun p e s m args below meth c H locs bb D kc la hH hE hR hS hB hL => lv_astore hH.1 hH.2.1 hd hL.has (by rw [← hL.2.2.1]; exact hn) rfl (fun la' hla => k p e s m args below meth c H locs bb D kc la' hH hE hR hS hB (sk_LR.put1 hL.2.2.1 hc (by rw [← hL.2.2.1]; exact hn) hla))
theorem sg_iinc {i : Nat} {n : Int} {x : Int32} (v : Int32) (pc' : Nat) (ls' : List (Option sk_AV)) (hd : decode μ.2.1 pc = .ok (.iinc i n, 3)) (hp : pc + 3 = pc') (hv : ls[i]? = some (some (.inl x))) (hx : x + Int32.ofInt n = v) (hs : ls.set i (some (.inl v)) = ls') (hn : i < ls.length) (hc : sk_lc ls i = true) (k : sk_G l R μ Ex Z cn sn pc' ls' st h) : sk_G l R μ Ex Z cn sn pc ls st h := by
  subst hp
  subst hs
  intro p e s m args below meth c H locs bb D kc la hH hE hR hS hB hL
  obtain ⟨q, hq⟩ := List.getElem?_of_mem (sk_lst_mem (bb := bb) hv)
  exact lv_iinc hH.1 hH.2.1 hd hL.has hq hx (by rw [← hL.2.2.1]; exact hn) rfl (fun la' hla => k p e s m args below meth c H locs bb D kc la' hH hE hR hS hB (sk_LR.put1 hL.2.2.1 hc (by rw [← hL.2.2.1]; exact hn) hla))
end SKR
end
section
theorem sk_sub {ws : List Cond} (ps : List Nat) (hp : ws = ps.filterMap (fun i => lw_tbl[i]?)) (hg : ws.all goodWord = true) : ∀ w ∈ ws, w ∈ sk_tg := by
  intro w hw
  have h1 := List.all_eq_true.mp hg w hw
  rw [hp] at hw
  obtain ⟨i, -, hi⟩ := List.mem_filterMap.mp hw
  exact sk_in i hi h1
theorem sk_c0 : ∀ w ∈ wsX00, w ∈ sk_tg := sk_sub [359, 361, 363, 365, 367, 369, 371, 373, 375, 377, 379] (by decide +kernel) (by decide +kernel)
theorem sk_c1 : ∀ w ∈ wsX10, w ∈ sk_tg := sk_sub [398, 400, 402, 404, 406, 408] (by decide +kernel) (by decide +kernel)
theorem sk_c2 : ∀ w ∈ wsX20, w ∈ sk_tg := sk_sub [428, 430, 432, 434, 436] (by decide +kernel) (by decide +kernel)
theorem sk_c3 : ∀ w ∈ wsX30, w ∈ sk_tg := sk_sub [134, 136, 138, 140, 142, 144, 146, 148, 150, 152, 154, 156, 158] (by decide +kernel) (by decide +kernel)
theorem sk_c4 : ∀ w ∈ wsX40, w ∈ sk_tg := sk_sub [310, 312, 314, 316, 318, 320, 322] (by decide +kernel) (by decide +kernel)
theorem sk_c5 : ∀ w ∈ wsX50, w ∈ sk_tg := sk_sub [260, 262, 264, 266, 268, 270, 272, 274, 276, 278, 280, 282] (by decide +kernel) (by decide +kernel)
theorem sk_c6 : ∀ w ∈ wsX60, w ∈ sk_tg := sk_sub [209, 211, 213, 215, 217, 219, 221, 223, 225, 227] (by decide +kernel) (by decide +kernel)
theorem sk_c7 : ∀ w ∈ wsX70, w ∈ sk_tg := sk_sub [177, 179, 181, 183] (by decide +kernel) (by decide +kernel)
theorem sk_c8 : ∀ w ∈ wsX80, w ∈ sk_tg := sk_sub [453, 455, 457, 459, 461, 463, 465, 467, 469, 471, 473, 475, 477, 479] (by decide +kernel) (by decide +kernel)
theorem sk_c9 : ∀ w ∈ wsX90, w ∈ sk_tg := sk_sub [1065, 1067, 1069, 1071, 1073, 1075, 1077, 1079, 1081, 1083, 1085, 1087, 1089, 1091, 1093, 1095, 1097, 1099, 1101, 1103, 1105, 1107, 1109, 1111, 1113, 1115, 1117, 1119, 1121, 1123, 1125, 1127, 1129, 1131, 1133, 1135, 1137, 1139, 1141, 1143, 1145, 1147, 1149, 1151, 1153, 1155, 1157, 1159, 1161, 1163, 1165, 1167, 1169, 1171, 1173, 1175, 1177, 1179, 1181, 1183, 1185] (by decide +kernel) (by decide +kernel)
def sk_CF (ci : Nat) (q : vw_C) : Prop := (∀ w ∈ u_ws q.1 q.2.1 q.2.2, w ∈ sk_tg) ∧ q.2.2 = sk_fn ci ∧ (∀ a, a < q.2.2 → ∀ b, b < q.2.2 → a ≠ b → (q.2.1 a).2.1 ≠ (q.2.1 b).2.1) ∧ ∃ ty : Nat → FieldType, (∀ k, k < q.2.2 → parseFieldDescriptor (q.2.1 k).2.2.1 = some (ty k)) ∧ ∀ k, k < q.2.2 → (ty k).isReference = sk_fr ci k
theorem sk_cl : ∀ (ci : Nat) (q : vw_C), vwCl[ci]? = some q → sk_CF ci q := by
  intro ci q h
  match ci, h with
  | 0, h => cases h; exact ⟨sk_c0, rfl, nmX0, tyX0, tyX0_ok, by decide +kernel⟩
  | 1, h => cases h; exact ⟨sk_c1, rfl, nmX1, tyX1, tyX1_ok, by decide +kernel⟩
  | 2, h => cases h; exact ⟨sk_c2, rfl, nmX2, tyX2, tyX2_ok, by decide +kernel⟩
  | 3, h => cases h; exact ⟨sk_c3, rfl, nmX3, tyX3, tyX3_ok, by decide +kernel⟩
  | 4, h => cases h; exact ⟨sk_c4, rfl, nmX4, tyX4, tyX4_ok, by decide +kernel⟩
  | 5, h => cases h; exact ⟨sk_c5, rfl, nmX5, tyX5, tyX5_ok, by decide +kernel⟩
  | 6, h => cases h; exact ⟨sk_c6, rfl, nmX6, tyX6, tyX6_ok, by decide +kernel⟩
  | 7, h => cases h; exact ⟨sk_c7, rfl, nmX7, tyX7, tyX7_ok, by decide +kernel⟩
  | 8, h => cases h; exact ⟨sk_c8, rfl, nmX8, tyX8, tyX8_ok, by decide +kernel⟩
  | 9, h => cases h; exact ⟨sk_c9, rfl, nmX9, tyX9, tyX9_ok, by decide +kernel⟩
  | n + 10, h => simp [vwCl] at h
def sk_up {α : Type} (d : Nat → Nat → Nat → α) (s k f : Nat) (v : α) : Nat → Nat → Nat → α := fun s' k' f' => if s' = s ∧ k' = k ∧ f' = f then v else d s' k' f'
def sk_pi (h : sk_Mem) (s k f : Nat) (v : Int32) : sk_Mem := (h.1, sk_up h.2.1 s k f v, h.2.2)
def sk_pl (h : sk_Mem) (s k f : Nat) (v : Int64) : sk_Mem := (h.1, h.2.1, sk_up h.2.2.1 s k f v, h.2.2.2)
def sk_pr (h : sk_Mem) (s k f : Nat) (v : Option (Nat × Nat)) : sk_Mem := (h.1, h.2.1, h.2.2.1, sk_up h.2.2.2 s k f v)
theorem sk_up_ne {α : Type} {d : Nat → Nat → Nat → α} {s k f : Nat} {v : α} {a : Nat × Nat} (h : a ≠ (s, k)) : sk_up d s k f v a.1 a.2 = d a.1 a.2 := by
  funext j
  unfold sk_up
  rw [if_neg]
  rintro ⟨h1, h2, -⟩
  exact h (Prod.ext h1 h2)
theorem sk_up_eq {d : Nat → Nat → Nat → Int32} {s k f : Nat} {v : Int32} : sk_up d s k f v s k = upd (d s k) f v := by
  funext j
  unfold sk_up upd
  by_cases h : j = f <;> simp [h]
theorem sk_up_eqL {d : Nat → Nat → Nat → Int64} {s k f : Nat} {v : Int64} : sk_up d s k f v s k = vp_updL (d s k) f v := by
  funext j
  unfold sk_up vp_updL
  by_cases h : j = f <;> simp [h]
theorem sk_ce_pi {kc : Nat → ClassId} {bb : Nat × Nat} {h : sk_Mem} {s k f : Nat} {v : Int32} {a : Nat × Nat} (ha : a ≠ (s, k)) : sk_ce kc bb (sk_pi h s k f v) a = sk_ce kc bb h a := by
  have e : (sk_pi h s k f v).2.1 a.1 a.2 = h.2.1 a.1 a.2 := sk_up_ne ha
  unfold sk_ce
  cases sk_shp a.1 with
  | inl ci =>
    refine congrArg (fun l => Sum.inr (ci, l)) (List.map_congr_left fun j _ => ?_)
    unfold sk_fv
    rw [e]
    rfl
  | inr kn =>
    show Sum.inl (kc kn.1, kn.2, _) = Sum.inl (kc kn.1, kn.2, _)
    rw [e]
    rfl
theorem sk_ce_pl {kc : Nat → ClassId} {bb : Nat × Nat} {h : sk_Mem} {s k f : Nat} {v : Int64} {a : Nat × Nat} (ha : a ≠ (s, k)) : sk_ce kc bb (sk_pl h s k f v) a = sk_ce kc bb h a := by
  have e : (sk_pl h s k f v).2.2.1 a.1 a.2 = h.2.2.1 a.1 a.2 := sk_up_ne ha
  unfold sk_ce
  cases sk_shp a.1 with
  | inl ci => rfl
  | inr kn =>
    show Sum.inl (kc kn.1, kn.2, _) = Sum.inl (kc kn.1, kn.2, _)
    rw [e]
    rfl
theorem sk_ce_pr {kc : Nat → ClassId} {bb : Nat × Nat} {h : sk_Mem} {s k f : Nat} {v : Option (Nat × Nat)} {a : Nat × Nat} (ha : a ≠ (s, k)) : sk_ce kc bb (sk_pr h s k f v) a = sk_ce kc bb h a := by
  have e : (sk_pr h s k f v).2.2.2 a.1 a.2 = h.2.2.2 a.1 a.2 := sk_up_ne ha
  unfold sk_ce
  cases sk_shp a.1 with
  | inl ci =>
    refine congrArg (fun l => Sum.inr (ci, l)) (List.map_congr_left fun j _ => ?_)
    unfold sk_fv
    rw [e]
    rfl
  | inr kn =>
    show Sum.inl (kc kn.1, kn.2, _) = Sum.inl (kc kn.1, kn.2, _)
    rw [e]
    rfl
theorem sk_rset {F F' : Nat → Value} {n f : Nat} {v : Value} (h1 : F' f = v) (h2 : ∀ j, j ≠ f → F' j = F j) : ((List.range n).map F).set f v = (List.range n).map F' := by
  apply List.ext_getElem?
  intro j
  by_cases hj : j = f
  · subst hj
    by_cases hn : j < n
    · rw [List.getElem?_set_self (by rw [List.length_map, List.length_range]; exact hn), List.getElem?_map, List.getElem?_range hn]
      exact congrArg some h1.symm
    · rw [List.getElem?_eq_none (by rw [List.length_set, List.length_map, List.length_range]; omega), List.getElem?_eq_none (by rw [List.length_map, List.length_range]; omega)]
  · rw [List.getElem?_set_ne (Ne.symm hj), List.getElem?_map, List.getElem?_map]
    cases hr : (List.range n)[j]? with
    | none => rfl
    | some i =>
      obtain ⟨h3, h4⟩ := List.getElem?_eq_some_iff.mp hr
      rw [List.getElem_range] at h4
      subst h4
      exact congrArg some (h2 j hj).symm
/-- what a field's instruction needs of the tables -/
def sk_fl (own : String) (idx ci f : Nat) : Prop := ∃ q, vwCl[ci]? = some q ∧ f < q.2.2 ∧ Cond.fieldLink own idx (q.2.1 f).1 (q.2.1 f).2.1 (q.2.1 f).2.2.1 ∈ sk_tg
/-- .. and to store there: not final, the type -/
def sk_fp (own : String) (idx ci f : Nat) (ty : FieldType) : Prop := ∃ q, vwCl[ci]? = some q ∧ f < q.2.2 ∧ Cond.fieldLink own idx (q.2.1 f).1 (q.2.1 f).2.1 (q.2.1 f).2.2.1 ∈ sk_tg ∧ (q.2.1 f).2.2.2 = false ∧ parseFieldDescriptor (q.2.1 f).2.2.1 = some ty
theorem sk_fl_of {own : String} {idx ci f : Nat} (i : Nat) (h : (vwCl[ci]?).any (fun q => decide (f < q.2.2) && (lw_tbl[i]? == some (Cond.fieldLink own idx (q.2.1 f).1 (q.2.1 f).2.1 (q.2.1 f).2.2.1))) = true) : sk_fl own idx ci f := by
  cases hq : vwCl[ci]? with
  | none => rw [hq] at h; cases h
  | some q =>
    rw [hq] at h
    have h2 : (decide (f < q.2.2) && (lw_tbl[i]? == some (Cond.fieldLink own idx (q.2.1 f).1 (q.2.1 f).2.1 (q.2.1 f).2.2.1))) = true := h
    simp only [Bool.and_eq_true, decide_eq_true_eq, beq_iff_eq] at h2
    exact ⟨q, hq, h2.1, sk_in i h2.2 rfl⟩
theorem sk_fp_of {own : String} {idx ci f : Nat} {ty : FieldType} (i : Nat) (h : (vwCl[ci]?).any (fun q => decide (f < q.2.2) && (lw_tbl[i]? == some (Cond.fieldLink own idx (q.2.1 f).1 (q.2.1 f).2.1 (q.2.1 f).2.2.1)) && ((q.2.1 f).2.2.2 == false) && decide (parseFieldDescriptor (q.2.1 f).2.2.1 = some ty)) = true) : sk_fp own idx ci f ty := by
  cases hq : vwCl[ci]? with
  | none => rw [hq] at h; cases h
  | some q =>
    rw [hq] at h
    have h2 : (decide (f < q.2.2) && (lw_tbl[i]? == some (Cond.fieldLink own idx (q.2.1 f).1 (q.2.1 f).2.1 (q.2.1 f).2.2.1)) && ((q.2.1 f).2.2.2 == false) && decide (parseFieldDescriptor (q.2.1 f).2.2.1 = some ty)) = true := h
    simp only [Bool.and_eq_true, decide_eq_true_eq, beq_iff_eq] at h2
    exact ⟨q, hq, h2.1.1.1, sk_in i h2.1.1.2 rfl, h2.1.2, h2.2⟩
def sk_bi (i : Int32) (n : Nat) : Bool := decide (¬ (i < 0 ∨ n ≤ i.toNatClampNeg))
theorem sk_bi.v {i : Int32} {n : Nat} (h : sk_bi i n = true) : vp_in i n := by unfold vp_in; exact of_decide_eq_true h
theorem sk_bi.lt {i : Int32} {n : Nat} (h : sk_bi i n = true) : i.toNatClampNeg < n := Nat.not_le.mp fun q => (of_decide_eq_true h : ¬ _) (Or.inr q)
section SKH
variable {l : Launch} {R : Room} {μ : sk_MI} {Ex : sk_EX} {Z : sk_ZZ} {cn sn pc : Nat} {ls : List (Option sk_AV)} {st : List sk_AV} {h : sk_Mem}
theorem sk_at_obj {kc : Nat → ClassId} {bb : Nat × Nat} {h : sk_Mem} {s k ci : Nat} (hs : sk_shp s = .inl ci) (hl : sk_lv h s k) : (sk_ws kc bb h)[sk_ord s k]? = some (sk_ad bb (s, k), .inr (ci, (List.range (sk_fn ci)).map (sk_fv bb h s k ci))) := by
  rw [sk_ws_at hl]
  unfold sk_ce
  rw [hs]
theorem sk_at_arr {kc : Nat → ClassId} {bb : Nat × Nat} {h : sk_Mem} {s k kd n : Nat} (hs : sk_shp s = .inr (kd, n)) (hl : sk_lv h s k) : (sk_ws kc bb h)[sk_ord s k]? = some (sk_ad bb (s, k), .inl (kc kd, n, if kd = 1 then .inr (.inl (h.2.2.1 s k)) else if 4 ≤ kd then .inr (.inr (.inr (.inr (fun j => sk_ro bb (h.2.2.2 s k j))))) else .inl (h.2.1 s k))) := by
  rw [sk_ws_at hl]
  unfold sk_ce
  rw [hs]
theorem sk_fv_at {bb : Nat × Nat} {h : sk_Mem} {s k ci f : Nat} (hf : f < sk_fn ci) : ((List.range (sk_fn ci)).map (sk_fv bb h s k ci))[f]? = some (sk_fv bb h s k ci f) := by
  rw [List.getElem?_map, List.getElem?_range hf]
  rfl
theorem sg_getI {idx s k ci f : Nat} (pc' : Nat) (hd : decode μ.2.1 pc = .ok (.getfield idx, 3)) (hp : pc + 3 = pc') (hk : sk_fl μ.1.cls idx ci f) (hs : sk_shp s = .inl ci) (hf : sk_fr ci f = false) (hl : sk_lv h s k) (kk : sk_G l R μ Ex Z cn sn pc' ls (.inl (h.2.1 s k f) :: st) h) : sk_G l R μ Ex Z cn sn pc ls (.inr (.inr (some (s, k))) :: st) h := by
  subst hp
  intro p e s0 m args below meth c H locs bb D kc la hH hE hR hS hB hL
  obtain ⟨q, hq, hfn, hw⟩ := hk
  obtain ⟨c1, c2, c3, ty, c4, c5⟩ := sk_cl ci q hq
  refine va_get (v := .int (h.2.1 s k f)) hH.1 hH.2.1 hH.2.2.2.2.2.1 c1 hH.2.2.2.2.1 hR.1 hR.2.2.2 (sk_ord s k) (sk_at_obj hs hl) hq f hfn (hH.2.2.2.2.2.1 _ hw) (fun _ h9 => h9) ?_ hd (kk p e s0 m args below meth c H locs bb D kc la hH hE hR hS hB hL)
  rw [sk_fv_at (by rw [← c2]; exact hfn)]
  unfold sk_fv
  rw [hf]
  rfl
theorem sg_getR {idx s k ci f : Nat} {a : Nat × Nat} (pc' : Nat) (hd : decode μ.2.1 pc = .ok (.getfield idx, 3)) (hp : pc + 3 = pc') (hk : sk_fl μ.1.cls idx ci f) (hs : sk_shp s = .inl ci) (hf : sk_fr ci f = true) (hl : sk_lv h s k) (ha : h.2.2.2 s k f = some a) (kk : sk_G l R μ Ex Z cn sn pc' ls (.inr (.inr (some a)) :: st) h) : sk_G l R μ Ex Z cn sn pc ls (.inr (.inr (some (s, k))) :: st) h := by
  subst hp
  intro p e s0 m args below meth c H locs bb D kc la hH hE hR hS hB hL
  obtain ⟨q, hq, hfn, hw⟩ := hk
  obtain ⟨c1, c2, c3, ty, c4, c5⟩ := sk_cl ci q hq
  refine va_get (v := .ref (sk_ad bb a)) hH.1 hH.2.1 hH.2.2.2.2.2.1 c1 hH.2.2.2.2.1 hR.1 hR.2.2.2 (sk_ord s k) (sk_at_obj hs hl) hq f hfn (hH.2.2.2.2.2.1 _ hw) (fun _ h9 => h9) ?_ hd (kk p e s0 m args below meth c H locs bb D kc la hH hE hR hS hB hL)
  rw [sk_fv_at (by rw [← c2]; exact hfn)]
  unfold sk_fv
  rw [hf, ha]
  rfl
theorem sk_RH.set {bb : Nat × Nat} {D : va_G} {kc : Nat → ClassId} {h h' : sk_Mem} {s0 : State} {H H1 : Heap} {s k : Nat} (hR : sk_RH bb D kc h s0 H) (hl : sk_lv h s k) (h1 : h'.1 = h.1) (ho : ∀ a : Nat × Nat, a ≠ (s, k) → sk_ce kc bb h' a = sk_ce kc bb h a)
    (hat : va_at D vwCl (sk_ad bb (s, k), sk_ce kc bb h' (s, k)) H1) (hz : H1.size = H.size) (oq : ∀ q : Nat, q ≠ sk_ad bb (s, k) → H1[q]? = H[q]?) : sk_RH bb D kc h' s0 H1 := by
  refine ⟨hR.1, fun q => by rw [hz, h1]; exact hR.2.1 (by rw [← h1]; exact q), by rw [h1]; exact hR.2.2.1, ?_⟩
  rw [← sk_ws_set (h' := h') hl h1 hR.2.2.1 ho]
  exact va_P.set hR.2.2.2 sk_ws_D (sk_ws_at hl) hat oq
theorem sk_ad_ge {bb : Nat × Nat} {h : sk_Mem} {s k : Nat} (hl : sk_lv h s k) : bb.1 ≤ sk_ad bb (s, k) := by
  unfold sk_ad
  rw [if_neg hl.2.2]
  omega
theorem sg_putI {idx s k ci f : Nat} {ty : FieldType} {x : Int32} (pc' : Nat) (hd : decode μ.2.1 pc = .ok (.putfield idx, 3)) (hp : pc + 3 = pc') (hk : sk_fp μ.1.cls idx ci f ty) (hs : sk_shp s = .inl ci) (hf : sk_fr ci f = false) (hl : sk_lv h s k) (hn : narrow ty (.int x) = .int x) (hfit : fits ty (.int x) = true) (kk : sk_G l R μ Ex Z cn sn pc' ls st (sk_pi h s k f x)) : sk_G l R μ Ex Z cn sn pc ls (.inl x :: .inr (.inr (some (s, k))) :: st) h := by
  subst hp
  intro p e s0 m args below meth c H locs bb D kc la hH hE hR hS hB hL
  obtain ⟨q, hq, hfn, hw, hfin, hpt⟩ := hk
  obtain ⟨c1, c2, c3, ty0, c4, c5⟩ := sk_cl ci q hq
  have hfn' : f < sk_fn ci := by rw [← c2]; exact hfn
  have hap := va_apart (own := μ.1.cls) hH.2.2.2.2.2.1 c1 ty0 c4 c3 hR.1 hq
  obtain ⟨r, hr1, cell, q1, q2, q3, q4⟩ := hR.2.2.2 _ _ (sk_at_obj hs hl)
  have hr : r = q := Option.some.inj (hr1.symm.trans hq)
  subst hr
  obtain ⟨hS9, hfc, kC, hkC, hkind⟩ := hR.1.1 ci _ hq
  obtain ⟨cf, kf, fi, fd, hi, hsl⟩ := hS9 f hfn
  have hlay := hH.2.2.2.2.2.1 _ (c1 _ (u_in_lay hfn))
  unfold u_lay at hlay
  rw [if_neg (by rw [hfin]; decide)] at hlay
  have hst := (u_facts hfc hkC (u_lays hH.2.2.2.2.2.1 c1 hfn) hi).1
  have h6 := u_store hfc hkC hkind hlay hi hpt hn hfit
  refine W.putK hH.1 hH.2.1 (f := fd) ⟨hH.2.2.2.2.1, hH.2.2.2.2.2.1 _ hw, ⟨_, _, _, hi⟩, hst⟩ (by rw [q2]; exact h6) q1 q3 (by rw [hsl]; exact k2_hasslot (q4 f hfn)) rfl rfl hd fun H' e1 e2 e3 => ?_
  rw [hsl] at e1 ⊢
  refine kk p e s0 m args below meth c H' _ bb D kc la hH hE (hR.set hl rfl (fun a ha => sk_ce_pi ha) ?_ e2 e3) (hS.put e2 e3 (sk_ad_ge hl)) hB hL
  have ec : sk_ce kc bb (sk_pi h s k f x) (s, k) = .inr (ci, (List.range (sk_fn ci)).map (sk_fv bb (sk_pi h s k f x) s k ci)) := by
    unfold sk_ce
    rw [show sk_shp (s, k).1 = .inl ci from hs]
  rw [ec]
  refine ⟨_, hq, t_OB.to (V := updV (vp_V ((List.range (sk_fn ci)).map (sk_fv bb h s k ci))) f (.int x)) ⟨_, e1, q2, q3, t_set q4 hap hfn (.int x)⟩ (fun j _ => ?_)⟩
  rw [vp_updV_set (by rw [List.length_map, List.length_range]; exact hfn'), sk_rset (F' := sk_fv bb (sk_pi h s k f x) s k ci)]
  · unfold sk_fv
    rw [hf]
    simp [sk_pi, sk_up]
  · intro j hj
    unfold sk_fv
    simp [sk_pi, sk_up, hj]
theorem sg_iald {s k n : Nat} {i : Int32} (pc' : Nat) (hd : decode μ.2.1 pc = .ok (.iaload, 1)) (hp : pc + 1 = pc') (hs : sk_shp s = .inr (0, n)) (hl : sk_lv h s k) (hb : sk_bi i n = true) (kk : sk_G l R μ Ex Z cn sn pc' ls (.inl (h.2.1 s k i.toNatClampNeg) :: st) h) : sk_G l R μ Ex Z cn sn pc ls (.inl i :: .inr (.inr (some (s, k))) :: st) h := by
  subst hp
  intro p e s0 m args below meth c H locs bb D kc la hH hE hR hS hB hL
  exact va_iald hH.1 hH.2.1 hR.1 hR.2.2.2 (sk_ord s k) 0 (sk_at_arr hs hl) (sk_ty_at (by decide)) (sk_bi.v hb) hd (kk p e s0 m args below meth c H locs bb D kc la hH hE hR hS hB hL)
theorem sg_zald {s k n : Nat} {i : Int32} (pc' : Nat) (hd : decode μ.2.1 pc = .ok (.baload, 1)) (hp : pc + 1 = pc') (hs : sk_shp s = .inr (2, n)) (hl : sk_lv h s k) (hb : sk_bi i n = true) (kk : sk_G l R μ Ex Z cn sn pc' ls (.inl (h.2.1 s k i.toNatClampNeg) :: st) h) : sk_G l R μ Ex Z cn sn pc ls (.inl i :: .inr (.inr (some (s, k))) :: st) h := by
  subst hp
  intro p e s0 m args below meth c H locs bb D kc la hH hE hR hS hB hL
  exact va_zald hH.1 hH.2.1 hR.1 hR.2.2.2 (sk_ord s k) 2 (sk_at_arr hs hl) (sk_ty_at (by decide)) (sk_bi.v hb) hd (kk p e s0 m args below meth c H locs bb D kc la hH hE hR hS hB hL)
theorem sg_cald {s k n : Nat} {i : Int32} (pc' : Nat) (hd : decode μ.2.1 pc = .ok (.caload, 1)) (hp : pc + 1 = pc') (hs : sk_shp s = .inr (3, n)) (hl : sk_lv h s k) (hb : sk_bi i n = true) (kk : sk_G l R μ Ex Z cn sn pc' ls (.inl (h.2.1 s k i.toNatClampNeg) :: st) h) : sk_G l R μ Ex Z cn sn pc ls (.inl i :: .inr (.inr (some (s, k))) :: st) h := by
  subst hp
  intro p e s0 m args below meth c H locs bb D kc la hH hE hR hS hB hL
  exact va_cald hH.1 hH.2.1 hR.1 hR.2.2.2 (sk_ord s k) 3 (sk_at_arr hs hl) (sk_ty_at (by decide)) (sk_bi.v hb) hd (kk p e s0 m args below meth c H locs bb D kc la hH hE hR hS hB hL)
theorem sg_lald {s k n : Nat} {i : Int32} (pc' : Nat) (hd : decode μ.2.1 pc = .ok (.laload, 1)) (hp : pc + 1 = pc') (hs : sk_shp s = .inr (1, n)) (hl : sk_lv h s k) (hb : sk_bi i n = true) (kk : sk_G l R μ Ex Z cn sn pc' ls (.inr (.inl (h.2.2.1 s k i.toNatClampNeg)) :: st) h) : sk_G l R μ Ex Z cn sn pc ls (.inl i :: .inr (.inr (some (s, k))) :: st) h := by
  subst hp
  intro p e s0 m args below meth c H locs bb D kc la hH hE hR hS hB hL
  exact va_lald hH.1 hH.2.1 hR.1 hR.2.2.2 (sk_ord s k) 1 (sk_at_arr hs hl) (sk_ty_at (by decide)) (sk_bi.v hb) hd (kk p e s0 m args below meth c H locs bb D kc la hH hE hR hS hB hL)
theorem sg_aald {s k n kd : Nat} {i : Int32} {a : Nat × Nat} (pc' : Nat) (hd : decode μ.2.1 pc = .ok (.aaload, 1)) (hp : pc + 1 = pc') (hs : sk_shp s = .inr (kd, n)) (hkd : 4 ≤ kd ∧ kd < 9) (hl : sk_lv h s k) (hb : sk_bi i n = true) (ha : h.2.2.2 s k i.toNatClampNeg = some a) (kk : sk_G l R μ Ex Z cn sn pc' ls (.inr (.inr (some a)) :: st) h) : sk_G l R μ Ex Z cn sn pc ls (.inl i :: .inr (.inr (some (s, k))) :: st) h := by
  subst hp
  intro p e s0 m args below meth c H locs bb D kc la hH hE hR hS hB hL
  have h1 := sk_at_arr (kc := kc) (bb := bb) (h := h) hs hl
  rw [if_neg (by omega), if_pos hkd.1] at h1
  have hin := (sk_bi.v hb)
  have hlt : i.toNatClampNeg < n := (sk_bi.lt hb)
  refine W.aald (v := .ref (sk_ad bb a)) (ty := sk_kt kd) hH.1 hH.2.1 (hR.2.2.2 _ _ h1) ((hR.1.2 kd _ (sk_ty_at hkd.2)).1 n (fun j => va_rf (sk_ro bb (h.2.2.2 s k j)))) ?_ (fun q => by cases q) (by show ¬ (i < 0 ∨ (arrV _ _ _).slots.size ≤ _); rw [arrV_size]; exact hin) (by show (arrV _ _ _).slots[_]? = _; rw [arrV_read _ _ hlt]; show some (va_rf (sk_ro bb (h.2.2.2 s k i.toNatClampNeg))) = _; rw [ha]; rfl) rfl rfl hd (kk p e s0 m args below meth c H locs bb D kc la hH hE hR hS hB hL)
  obtain ⟨h2, h3⟩ := hkd
  have : kd = 4 ∨ kd = 5 ∨ kd = 6 ∨ kd = 7 ∨ kd = 8 := by omega
  rcases this with rfl | rfl | rfl | rfl | rfl <;> rfl
theorem sk_ce_arrI {kc : Nat → ClassId} {bb : Nat × Nat} {h : sk_Mem} {s k kd n f : Nat} {v : Int32} (hs : sk_shp s = .inr (kd, n)) (h1 : kd ≠ 1) (h4 : ¬ 4 ≤ kd) : sk_ce kc bb (sk_pi h s k f v) (s, k) = .inl (kc kd, n, .inl (upd (h.2.1 s k) f v)) := by
  unfold sk_ce
  rw [show sk_shp (s, k).1 = .inr (kd, n) from hs]
  show Sum.inl (kc kd, n, if kd = 1 then _ else if 4 ≤ kd then _ else Sum.inl (sk_up h.2.1 s k f v s k)) = _
  rw [if_neg h1, if_neg h4, sk_up_eq]
theorem sk_ce_arrL {kc : Nat → ClassId} {bb : Nat × Nat} {h : sk_Mem} {s k n f : Nat} {v : Int64} (hs : sk_shp s = .inr (1, n)) : sk_ce kc bb (sk_pl h s k f v) (s, k) = .inl (kc 1, n, .inr (.inl (vp_updL (h.2.2.1 s k) f v))) := by
  unfold sk_ce
  rw [show sk_shp (s, k).1 = .inr (1, n) from hs]
  show Sum.inl (kc 1, n, if 1 = 1 then Sum.inr (Sum.inl (sk_up h.2.2.1 s k f v s k)) else _) = _
  rw [if_pos rfl, sk_up_eqL]
theorem sk_updV {f : Nat → Int32} {i : Nat} {x : Int32} : updV (fun j => Value.int (f j)) i (.int x) = fun j => .int (upd f i x j) := by
  funext j
  unfold updV upd
  by_cases hj : j = i <;> simp [hj]
theorem sk_updVL {f : Nat → Int64} {i : Nat} {x : Int64} : updV (fun j => Value.long (f j)) i (.long x) = fun j => .long (vp_updL f i x j) := by
  funext j
  unfold updV vp_updL
  by_cases hj : j = i <;> simp [hj]
theorem sg_iast {s k n : Nat} {i x : Int32} (pc' : Nat) (hd : decode μ.2.1 pc = .ok (.iastore, 1)) (hp : pc + 1 = pc') (hs : sk_shp s = .inr (0, n)) (hl : sk_lv h s k) (hb : sk_bi i n = true) (kk : sk_G l R μ Ex Z cn sn pc' ls st (sk_pi h s k i.toNatClampNeg x)) : sk_G l R μ Ex Z cn sn pc ls (.inl x :: .inl i :: .inr (.inr (some (s, k))) :: st) h := by
  subst hp
  intro p e s0 m args below meth c H locs bb D kc la hH hE hR hS hB hL
  have hin := (sk_bi.v hb)
  refine W.iast hH.1 hH.2.1 (hR.2.2.2 _ _ (sk_at_arr hs hl)) ((hR.1.2 0 _ (sk_ty_at (by decide))).1 n (fun j => .int (h.2.1 s k j))) (fun q => by cases q) (by show ¬ (i < 0 ∨ (arrV _ _ _).slots.size ≤ _); rw [arrV_size]; exact hin) rfl rfl hd fun H1 e1 z oq => ?_
  refine kk p e s0 m args below meth c H1 _ bb D kc la hH hE (hR.set hl rfl (fun a ha => sk_ce_pi ha) ?_ z oq) (hS.put z oq (sk_ad_ge hl)) hB hL
  rw [sk_ce_arrI hs (by decide) (by decide)]
  show H1[_]? = some (vp_cell _ _)
  rw [e1]
  exact congrArg some ((arrV_store _ _ _ _ _).trans (congrArg (arrV _ _) sk_updV))
theorem sg_zast {s k n : Nat} {i x : Int32} (pc' : Nat) (hd : decode μ.2.1 pc = .ok (.bastore, 1)) (hp : pc + 1 = pc') (hs : sk_shp s = .inr (2, n)) (hl : sk_lv h s k) (hb : sk_bi i n = true) (kk : sk_G l R μ Ex Z cn sn pc' ls st (sk_pi h s k i.toNatClampNeg (vp_nar .boolean x))) : sk_G l R μ Ex Z cn sn pc ls (.inl x :: .inl i :: .inr (.inr (some (s, k))) :: st) h := by
  subst hp
  intro p e s0 m args below meth c H locs bb D kc la hH hE hR hS hB hL
  have hin := (sk_bi.v hb)
  refine W.zast hH.1 hH.2.1 (hR.2.2.2 _ _ (sk_at_arr hs hl)) ((hR.1.2 2 _ (sk_ty_at (by decide))).1 n (fun j => .int (h.2.1 s k j))) (fun q => by cases q) (by show ¬ (i < 0 ∨ (arrV _ _ _).slots.size ≤ _); rw [arrV_size]; exact hin) rfl rfl hd fun H1 e1 z oq => ?_
  refine kk p e s0 m args below meth c H1 _ bb D kc la hH hE (hR.set hl rfl (fun a ha => sk_ce_pi ha) ?_ z oq) (hS.put z oq (sk_ad_ge hl)) hB hL
  rw [sk_ce_arrI hs (by decide) (by decide)]
  show H1[_]? = some (vp_cell _ _)
  rw [e1]
  exact congrArg some ((arrV_store _ _ _ _ _).trans (congrArg (arrV _ _) sk_updV))
theorem sg_cast {s k n : Nat} {i x : Int32} (pc' : Nat) (hd : decode μ.2.1 pc = .ok (.castore, 1)) (hp : pc + 1 = pc') (hs : sk_shp s = .inr (3, n)) (hl : sk_lv h s k) (hb : sk_bi i n = true) (kk : sk_G l R μ Ex Z cn sn pc' ls st (sk_pi h s k i.toNatClampNeg (vp_nar .char x))) : sk_G l R μ Ex Z cn sn pc ls (.inl x :: .inl i :: .inr (.inr (some (s, k))) :: st) h := by
  subst hp
  intro p e s0 m args below meth c H locs bb D kc la hH hE hR hS hB hL
  have hin := (sk_bi.v hb)
  refine W.cast hH.1 hH.2.1 (hR.2.2.2 _ _ (sk_at_arr hs hl)) ((hR.1.2 3 _ (sk_ty_at (by decide))).1 n (fun j => .int (h.2.1 s k j))) (fun q => by cases q) (by show ¬ (i < 0 ∨ (arrV _ _ _).slots.size ≤ _); rw [arrV_size]; exact hin) rfl rfl hd fun H1 e1 z oq => ?_
  refine kk p e s0 m args below meth c H1 _ bb D kc la hH hE (hR.set hl rfl (fun a ha => sk_ce_pi ha) ?_ z oq) (hS.put z oq (sk_ad_ge hl)) hB hL
  rw [sk_ce_arrI hs (by decide) (by decide)]
  show H1[_]? = some (vp_cell _ _)
  rw [e1]
  exact congrArg some ((arrV_store _ _ _ _ _).trans (congrArg (arrV _ _) sk_updV))
theorem sg_last {s k n : Nat} {i : Int32} {x : Int64} (pc' : Nat) (hd : decode μ.2.1 pc = .ok (.lastore, 1)) (hp : pc + 1 = pc') (hs : sk_shp s = .inr (1, n)) (hl : sk_lv h s k) (hb : sk_bi i n = true) (kk : sk_G l R μ Ex Z cn sn pc' ls st (sk_pl h s k i.toNatClampNeg x)) : sk_G l R μ Ex Z cn sn pc ls (.inr (.inl x) :: .inl i :: .inr (.inr (some (s, k))) :: st) h := by
  subst hp
  intro p e s0 m args below meth c H locs bb D kc la hH hE hR hS hB hL
  have hin := (sk_bi.v hb)
  refine W.last hH.1 hH.2.1 (hR.2.2.2 _ _ (sk_at_arr hs hl)) ((hR.1.2 1 _ (sk_ty_at (by decide))).1 n (fun j => .long (h.2.2.1 s k j))) (fun q => by cases q) (by show ¬ (i < 0 ∨ (arrV _ _ _).slots.size ≤ _); rw [arrV_size]; exact hin) rfl rfl hd fun H1 e1 z oq => ?_
  refine kk p e s0 m args below meth c H1 _ bb D kc la hH hE (hR.set hl rfl (fun a ha => sk_ce_pl ha) ?_ z oq) (hS.put z oq (sk_ad_ge hl)) hB hL
  rw [sk_ce_arrL hs]
  show H1[_]? = some (vp_cell _ _)
  rw [e1]
  exact congrArg some ((arrV_store _ _ _ _ _).trans (congrArg (arrV _ _) sk_updVL))
/-! answers -/
theorem sg_iret {x : Int32} (hd : decode μ.2.1 pc = .ok (.ireturn, 1)) {ty : FieldType} (hr : μ.2.2.2.1 = some ty) (hn : narrow ty (.int x) = .int x) : sk_G l R μ Ex (sk_Zm μ (some (.inl x)) h) μ.2.2.2.2.1 μ.2.2.2.2.2 pc ls [.inl x] h := by
  intro p e s0 m args below meth c H locs bb D kc la hH hE hR hS hB hL
  exact W.zret hH.1 hH.2.1 (hH.2.2.1.trans hr) hn (fun t ht hW => ⟨⟨rfl, by rw [ht]; exact hR.moved hW.alike⟩, hS.F ht⟩) hS.2.2 hd hH.2.2.2.2.2.2.1
theorem sg_lret {x : Int64} (hd : decode μ.2.1 pc = .ok (.lreturn, 1)) (hr : μ.2.2.2.1 = some .long) : sk_G l R μ Ex (sk_Zm μ (some (.inr (.inl x))) h) μ.2.2.2.2.1 μ.2.2.2.2.2 pc ls [.inr (.inl x)] h := by
  intro p e s0 m args below meth c H locs bb D kc la hH hE hR hS hB hL
  exact W.lret hH.1 hH.2.1 (hH.2.2.1.trans hr) (fun t ht hW => ⟨⟨rfl, by rw [ht]; exact hR.moved hW.alike⟩, hS.F ht⟩) hS.2.2 hd hH.2.2.2.2.2.2.1
theorem sg_vret (hd : decode μ.2.1 pc = .ok (.return_, 1)) (hr : μ.2.2.2.1 = none) : sk_G l R μ Ex (sk_Zm μ none h) μ.2.2.2.2.1 μ.2.2.2.2.2 pc ls [] h := by
  intro p e s0 m args below meth c H locs bb D kc la hH hE hR hS hB hL
  exact W.vret hH.1 hH.2.1 (hH.2.2.1.trans hr) (fun t ht hW => ⟨⟨rfl, by rw [ht]; exact hR.moved hW.alike⟩, hS.F ht⟩) hS.2.2 hd hH.2.2.2.2.2.2.1
/-! calls -/
def sk_lk (y : MethodName) (n : Nat) : Prop := y.cls ≠ "java/lang/invoke/MethodHandle" ∧ y.cls ≠ "java/lang/invoke/VarHandle" ∧ (parseMethodDescriptor y.desc).map (fun d => d.parameters.length) = some n
def sk_lkV (own : String) (idx : Nat) (μ' : sk_MI) (n : Nat) : Prop := sk_lk μ'.1 n ∧ Cond.methodLink own idx μ'.1 ∈ sk_tg ∧ Cond.instanceMethod μ'.1 ∈ sk_tg ∧ Cond.selects μ'.1.cls μ'.1 μ'.1 ∈ sk_tg ∧ Cond.initialized μ'.1.cls ∈ sk_tg ∧ Cond.code μ'.1 μ'.2.1 μ'.2.2.1 μ'.2.2.2.1 ∈ sk_tg
def sk_lkS (own : String) (idx : Nat) (μ' : sk_MI) (n : Nat) : Prop := sk_lk μ'.1 n ∧ Cond.methodLink own idx μ'.1 ∈ sk_tg ∧ Cond.static μ'.1 ∈ sk_tg ∧ Cond.initialized μ'.1.cls ∈ sk_tg ∧ Cond.code μ'.1 μ'.2.1 μ'.2.2.1 μ'.2.2.2.1 ∈ sk_tg
def sk_lkN (own : String) (idx : Nat) (host : String) (μ' : sk_MI) (n : Nat) : Prop := sk_lk μ'.1 n ∧ Cond.methodLinkNest own idx μ'.1 host ∈ tables_1 ∧ Cond.static μ'.1 ∈ sk_tg ∧ Cond.initialized μ'.1.cls ∈ sk_tg ∧ Cond.code μ'.1 μ'.2.1 μ'.2.2.1 μ'.2.2.2.1 ∈ sk_tg
theorem sk_good_wm {μ' : sk_MI} (hc : Cond.code μ'.1 μ'.2.1 μ'.2.2.1 μ'.2.2.2.1 ∈ sk_tg) : GoodIn sk_tg (sk_wm μ') := by
  intro w hw
  rcases List.mem_cons.mp hw with rfl | hw
  · exact ⟨hc, sk_tg_good hc⟩
  · exact ⟨hw, sk_tg_good hw⟩
theorem sk_blind {bb : Nat × Nat} {D : va_G} {kc : Nat → ClassId} {as : List sk_AV} {h : sk_Mem} : FrameBlind (sk_Pc bb D kc as h) := fun a U g mk q =>
  ⟨q.1, sk_Nx.same (s := U) (U := U.calling g mk a) rfl q.2.1, ⟨va_K.moved (u := U) (U := U.calling g mk a) (Vm.Alike.refl U.vm) q.2.2.1.1, q.2.2.1.2⟩, q.2.2.2⟩
theorem sk_pre {p : Program} {s0 : State} {m : MethodId} {args : Array Value} {meth : Method} {c : Code} {H : Heap} {bb : Nat × Nat} {D : va_G} {kc : Nat → ClassId} {as : List sk_AV} {h : sk_Mem} {locs : List Loc} (hH : sk_Hd p s0 m args meth c μ) (hR : sk_RH bb D kc h s0 H) (hS : va_S (fun q => bb.1 ≤ q) s0.heap H locs) (hB : bb.1 ≤ s0.heap.size) : ∀ U : State, U.heap = H → s0.WarmedH U.vm → sk_Pc bb D kc as h (as.map (sk_cv bb)).toArray U :=
  fun U hU hW => ⟨rfl, sk_Nx.warm hW hH.2.2.2.2.2.2.2.2, by rw [hU]; exact hR.moved hW.alike, by rw [hU]; exact Nat.le_trans hB hS.1⟩
theorem sk_after {R : Room} {p : Program} {e : Env} {s0 : State} {m : MethodId} {args : Array Value} {below : List Frame} {meth : Method} {c : Code} {H : Heap} {locs : List Loc} {bb : Nat × Nat} {D : va_G} {kc : Nat → ClassId} {la : Array Slot} {mc ms : Nat} {st0 rest : List sk_AV} {stv : List Value} {r : Option sk_AV} {h' : sk_Mem} {a : Array Value}
    (hr : va_Run p l e R s0 m args below meth c H locs cn sn mc ms (F0 m pc la stv) (rest.map (sk_cv bb)) (sk_Qc bb D kc r h' a) (fun q => bb.1 ≤ q))
    (hH : sk_Hd p s0 m args meth c μ) (hE : Ex s0 args bb) (hS : va_S (fun q => bb.1 ≤ q) s0.heap H locs) (hB : bb.1 ≤ s0.heap.size) (hL : sk_LR bb la μ.2.2.1 ls)
    (kk : sk_G l R μ Ex Z (cn + mc) (sn + ms) (pc + 3) ls (r.toList ++ rest) h') : W p l e R s0 m args below meth c H locs cn sn (Z s0 args below bb D kc) (F0 m pc la stv) := by
  intro T hT X
  obtain ⟨v, st₀, t, T', L, h0, X', hLf, e1, e2, ⟨⟨hv, hR'⟩, hz, hk⟩, stp⟩ := hr T hT X
  have hv' : v = r.map (sk_cv bb) := by cases hv; rfl
  subst hv'
  rw [h0] at hz hk
  have hal : s0.vm.Alike t.vm := by rw [← e2]; exact X'.warmed.alike
  obtain ⟨t2, a1, b1⟩ := kk p e s0 m args below meth c T'.heap (locs ++ L) bb D kc la hH hE (by rw [e1]; exact hR'.moved hal.symm)
    ⟨Nat.le_trans hS.1 (by rw [e1]; exact hz), fun q h1 h2 => by rw [e1, hk q (Nat.lt_of_lt_of_le h1 hS.1) h2]; exact hS.2.1 q h1 h2, fun q hq => by
      rcases List.mem_append.mp hq with h | h
      · exact hS.2.2 q h
      · exact hLf q h⟩ hB hL T' rfl X'
  refine ⟨t2, stp t2 ?_, b1⟩
  have e3 : (r.toList ++ rest).map (sk_cv bb) = (r.map (sk_cv bb)).toList ++ rest.map (sk_cv bb) := by
    cases r <;> simp
  rw [e3] at a1
  exact a1
/-- the room that a callee leaves -/
def sk_rmok (dp : Nat) (μ' : sk_MI) (R : Room) (cn sn : Nat) : Prop := dp + 1 ≤ R.frames ∧ 8 + (μ'.2.2.1 + 11) + 60 * dp ≤ R.locals ∧ cn + μ'.2.2.2.2.1 ≤ R.cells ∧ sn + μ'.2.2.2.2.2 ≤ R.slots
def sk_cat8 : List sk_AV → Nat
  | [] => 0
  | v :: vs => (if sk_isL v = true then 2 else 1) + sk_cat8 vs
theorem sk_cat8_eq (bb : Nat × Nat) : ∀ st : List sk_AV, ((st.map (sk_cv bb)).map fun v => v.category).sum = sk_cat8 st
  | [] => rfl
  | v :: vs => by
    have ih := sk_cat8_eq bb vs
    have e : (sk_cv bb v).category = if sk_isL v = true then 2 else 1 := by
      match v with
      | .inl x => rfl
      | .inr (.inl x) => rfl
      | .inr (.inr none) => rfl
      | .inr (.inr (some a)) => rfl
    simp only [List.map_cons, List.sum_cons, sk_cat8, ih, e]
theorem sg_callV {μ' : sk_MI} {dp idx s k ci : Nat} {as : List sk_AV} {r : Option sk_AV} {h' : sk_Mem} {n : Nat} (pc' : Nat) (hM : sk_M l dp μ' (.inr (.inr (some (s, k))) :: as) h r h') (hd : decode μ.2.1 pc = .ok (.invokevirtual idx, 3)) (hp : pc + 3 = pc') (hk : sk_lkV μ.1.cls idx μ' n) (hn : as.length = n) (hs : sk_shp s = .inl ci) (hci : (vwCl[ci]?).map (fun q => q.1) = some μ'.1.cls) (hl : sk_lv h s k) (hr : sk_rmok dp μ' R cn sn) (h8 : sk_cat8 st ≤ 8)
    (kk : sk_G l R μ Ex Z (cn + μ'.2.2.2.2.1) (sn + μ'.2.2.2.2.2) pc' ls (r.toList ++ st) h') : sk_G l R μ Ex Z cn sn pc ls (as.reverse ++ .inr (.inr (some (s, k))) :: st) h := by
  subst hp
  intro p e s0 m args below meth c H locs bb D kc la hH hE hR hS hB hL
  obtain ⟨⟨k1, k2, k3⟩, w1, w2, w3, w4, w5⟩ := hk
  have hts := hH.2.2.2.2.2.1
  obtain ⟨q, hq, hqc⟩ := Option.map_eq_some_iff.mp hci
  have hst : ((as.reverse ++ .inr (.inr (some (s, k))) :: st).map (sk_cv bb)) = (as.map (sk_cv bb)).reverse ++ .ref (sk_ad bb (s, k)) :: st.map (sk_cv bb) := by
    rw [List.map_append, List.map_reverse]
    rfl
  have hrec := va_recv hR.1 hR.2.2.2 (ci := ci) (q0 := sk_ord s k) hq (sk_at_obj hs hl)
  rw [hqc] at hrec
  rw [hst]
  refine sk_after (st0 := st) (va_runV (Ts := sk_tg) (own := μ.1.cls) (As := as.map (sk_cv bb)) (b := sk_ad bb (s, k)) ⟨hH.1, hH.2.1, hH.2.2.2.1, hH.2.2.2.2.1, hts⟩ (hM bb D kc) ⟨callB_of n hts (sk_good_wm w5) rfl rfl rfl (hts _ w4) (hts _ w1) ⟨k1, k2, k3⟩ ⟨hr.1, hr.2.1⟩, hts _ w2, hts _ w3⟩ ⟨sk_blind, hrec, sk_pre hH hR hS hB⟩ rfl (by rw [List.length_map]; exact hn) hL.1 rfl (by show 2 * 0 + _ ≤ 8; rw [sk_cat8_eq]; omega) hd hr.2.2) hH hE hS hB hL kk
theorem sg_callS {μ' : sk_MI} {dp idx : Nat} {as : List sk_AV} {r : Option sk_AV} {h' : sk_Mem} {n : Nat} (pc' : Nat) (hM : sk_M l dp μ' as h r h') (hd : decode μ.2.1 pc = .ok (.invokestatic idx, 3)) (hp : pc + 3 = pc') (hk : sk_lkS μ.1.cls idx μ' n) (hn : as.length = n) (hr : sk_rmok dp μ' R cn sn) (h8 : sk_cat8 st ≤ 8)
    (kk : sk_G l R μ Ex Z (cn + μ'.2.2.2.2.1) (sn + μ'.2.2.2.2.2) pc' ls (r.toList ++ st) h') : sk_G l R μ Ex Z cn sn pc ls (as.reverse ++ st) h := by
  subst hp
  intro p e s0 m args below meth c H locs bb D kc la hH hE hR hS hB hL
  obtain ⟨⟨k1, k2, k3⟩, w1, w2, w4, w5⟩ := hk
  have hts := hH.2.2.2.2.2.1
  have hst : ((as.reverse ++ st).map (sk_cv bb)) = (as.map (sk_cv bb)).reverse ++ st.map (sk_cv bb) := by
    rw [List.map_append, List.map_reverse]
  rw [hst]
  refine sk_after (st0 := st) (va_runS (Ts := sk_tg) (own := μ.1.cls) (As := as.map (sk_cv bb)) ⟨hH.1, hH.2.1, hH.2.2.2.1, hH.2.2.2.2.1, hts⟩ (hM bb D kc) ⟨callB_of n hts (sk_good_wm w5) rfl rfl rfl (hts _ w4) (hts _ w1) ⟨k1, k2, k3⟩ ⟨hr.1, hr.2.1⟩, hts _ w2⟩ ⟨sk_blind, sk_pre hH hR hS hB⟩ rfl (by rw [List.length_map]; exact hn) hL.1 rfl (by show 2 * 0 + _ ≤ 8; rw [sk_cat8_eq]; omega) hd hr.2.2) hH hE hS hB hL kk
theorem sg_callN {μ' : sk_MI} {dp idx : Nat} {host : String} {as : List sk_AV} {r : Option sk_AV} {h' : sk_Mem} {n : Nat} (pc' : Nat) (hM : sk_M l dp μ' as h r h') (hd : decode μ.2.1 pc = .ok (.invokestatic idx, 3)) (hp : pc + 3 = pc') (hk : sk_lkN μ.1.cls idx host μ' n) (hn : as.length = n) (hr : sk_rmok dp μ' R cn sn) (h8 : sk_cat8 st ≤ 8)
    (kk : sk_G l R μ Ex Z (cn + μ'.2.2.2.2.1) (sn + μ'.2.2.2.2.2) pc' ls (r.toList ++ st) h') : sk_G l R μ Ex Z cn sn pc ls (as.reverse ++ st) h := by
  subst hp
  intro p e s0 m args below meth c H locs bb D kc la hH hE hR hS hB hL
  obtain ⟨⟨k1, k2, k3⟩, w1, w2, w4, w5⟩ := hk
  have hts := hH.2.2.2.2.2.1
  have hst : ((as.reverse ++ st).map (sk_cv bb)) = (as.map (sk_cv bb)).reverse ++ st.map (sk_cv bb) := by
    rw [List.map_append, List.map_reverse]
  have hnx := hH.2.2.2.2.2.2.2.2 _ (List.mem_filter.mpr ⟨w1, rfl⟩)
  rw [hst]
  refine sk_after (st0 := st) (va_runSN (Ts := sk_tg) (own := μ.1.cls) (As := as.map (sk_cv bb)) ⟨hH.1, hH.2.1, hH.2.2.2.1, hH.2.2.2.2.1, hts⟩ (hM bb D kc) ⟨va_cnB n hts (sk_good_wm w5) rfl rfl rfl hnx (hts _ w4) ⟨k1, k2, k3⟩ ⟨hr.1, hr.2.1⟩, hts _ w2, trivial⟩ ⟨sk_blind, sk_pre hH hR hS hB⟩ rfl (by rw [List.length_map]; exact hn) hL.1 rfl (by show 2 * 0 + _ ≤ 8; rw [sk_cat8_eq]; omega) hd hr.2.2) hH hE hS hB hL kk
end SKH
end
section
/-! the memory once all cells are made: references stand (sk_dr), whole numbers and longs change -/
def sk_dr : Nat → Nat → Nat → Option (Nat × Nat) := fun s k f => match s with
  | 0 => if f = 0 then some (1, 0) else if f = 1 then some (2, 0) else if f = 2 then some (3, 0) else if f = 3 then some (4, 0) else if f = 4 then some (5, 0) else if f = 5 then some (6, 0) else if f = 6 then some (19, 0) else if f = 7 then some (23, 0) else if f = 8 then some (35, 0) else none
  | 1 => if f < 20 then some (37, f) else none
  | 2 => if f < 4 then some (39, f) else none
  | 3 => if f < 8 then some (42, f) else none
  | 4 => if f < 3 then some (43, f) else none
  | 6 => if f = 2 then some (7, 0) else if f = 3 then some (8, 0) else if f = 4 then some (9, 0) else if f = 5 then some (11, 0) else if f = 6 then some (12, 0) else if f = 7 then some (13, 0) else if f = 8 then some (14, 0) else if f = 9 then some (15, 0) else if f = 10 then some (16, 0) else if f = 11 then some (17, 0) else if f = 12 then some (18, 0) else none
  | 9 => if f < 20 then some (10, f) else none
  | 19 => if f = 0 then some (20, 0) else if f = 1 then some (21, 0) else if f = 2 then some (22, 0) else none
  | 23 => if f = 0 then some (24, 0) else if f = 1 then some (25, 0) else if f = 2 then some (26, 0) else if f = 3 then some (27, 0) else if f = 4 then some (28, 0) else if f = 5 then some (29, 0) else if f = 6 then some (30, 0) else if f = 7 then some (31, 0) else if f = 8 then some (32, 0) else if f = 9 then some (34, 0) else none
  | 32 => if f < 3 then some (33, f) else none
  | 35 => if f = 0 then some (36, 0) else none
  | 37 => if f = 6 then some (38, k) else none
  | 39 => if f = 7 then some (40, k) else if f = 8 then some (41, k) else none
  | 44 => if f = 4 then some (45, 0) else if f = 5 then some (46, 0) else if f = 6 then some (47, 0) else if f = 7 then some (48, 0) else if f = 8 then some (49, 0) else if f = 9 then some (50, 0) else if f = 10 then some (51, 0) else if f = 11 then some (52, 0) else if f = 12 then some (53, 0) else if f = 13 then some (54, 0) else if f = 14 then some (55, 0) else if f = 15 then some (56, 0) else if f = 16 then some (57, 0) else if f = 17 then some (58, 0) else if f = 18 then some (59, 0) else if f = 19 then some (60, 0) else if f = 20 then some (61, 0) else if f = 21 then some (62, 0) else if f = 22 then some (63, 0) else if f = 23 then some (64, 0) else if f = 24 then some (65, 0) else if f = 25 then some (66, 0) else if f = 26 then some (67, 0) else if f = 28 then some (68, 0) else if f = 29 then some (69, 0) else if f = 30 then some (70, 0) else if f = 31 then some (71, 0) else if f = 32 then some (72, 0) else if f = 33 then some (73, 0) else if f = 34 then some (74, 0) else if f = 35 then some (75, 0) else if f = 38 then some (76, 0) else if f = 39 then some (77, 0) else if f = 40 then some (78, 0) else if f = 41 then some (79, 0) else if f = 42 then some (80, 0) else if f = 43 then some (81, 0) else if f = 44 then some (82, 0) else if f = 45 then some (83, 0) else if f = 46 then some (84, 0) else if f = 47 then some (85, 0) else if f = 48 then some (86, 0) else if f = 49 then some (87, 0) else if f = 50 then some (88, 0) else if f = 51 then some (89, 0) else if f = 52 then some (90, 0) else if f = 53 then some (91, 0) else if f = 54 then some (92, 0) else if f = 55 then some (93, 0) else none
  | _ => none
abbrev sk_D : Type := (Nat → Nat → Nat → Int32) × (Nat → Nat → Nat → Int64)
def sk_mm (d : sk_D) : sk_Mem := (sk_N0, d.1, d.2, sk_dr)
def sk_wi (d : sk_D) (s k f : Nat) (v : Int32) : sk_D := (sk_up d.1 s k f v, d.2)
def sk_wl (d : sk_D) (s k f : Nat) (v : Int64) : sk_D := (d.1, sk_up d.2 s k f v)
/-- a whole row of numbers anew -/
def sk_wf (d : sk_D) (s k : Nat) (g : Nat → Int32) : sk_D := (fun s' k' => if s' = s ∧ k' = k then g else d.1 s' k', d.2)
theorem sk_lvm {d : sk_D} {s k : Nat} (h : k < sk_cnt s) : sk_lv (sk_mm d) s k := ⟨(sk_live h).1, (sk_live h).2, fun e => by have := sk_cnt_lt h; omega⟩
theorem sk_cnt0 {s : Nat} (h : s < 94) : 0 < sk_cnt s := by
  have : (List.range 94).all (fun s => decide (0 < sk_cnt s)) = true := by decide +kernel
  exact of_decide_eq_true (List.all_eq_true.mp this s (List.mem_range.mpr h))
section SMR
variable {l : Launch} {R : Room} {μ : sk_MI} {Ex : sk_EX} {Z : sk_ZZ} {cn sn pc : Nat} {ls : List (Option sk_AV)} {st : List sk_AV} {d : sk_D}
theorem sm_getI {idx s k ci f : Nat} (pc' : Nat) (hd : decode μ.2.1 pc = .ok (.getfield idx, 3)) (hp : pc + 3 = pc') (hk : sk_fl μ.1.cls idx ci f) (hs : sk_shp s = .inl ci) (hf : sk_fr ci f = false) (hl : k < sk_cnt s) (kk : sk_G l R μ Ex Z cn sn pc' ls (.inl (d.1 s k f) :: st) (sk_mm d)) : sk_G l R μ Ex Z cn sn pc ls (.inr (.inr (some (s, k))) :: st) (sk_mm d) := sg_getI pc' hd hp hk hs hf (sk_lvm hl) kk
theorem sm_getR {idx s k ci f : Nat} (a : Nat × Nat) (pc' : Nat) (hd : decode μ.2.1 pc = .ok (.getfield idx, 3)) (hp : pc + 3 = pc') (hk : sk_fl μ.1.cls idx ci f) (hs : sk_shp s = .inl ci) (hf : sk_fr ci f = true) (hl : k < sk_cnt s) (ha : sk_dr s k f = some a) (kk : sk_G l R μ Ex Z cn sn pc' ls (.inr (.inr (some a)) :: st) (sk_mm d)) : sk_G l R μ Ex Z cn sn pc ls (.inr (.inr (some (s, k))) :: st) (sk_mm d) := sg_getR pc' hd hp hk hs hf (sk_lvm hl) ha kk
theorem sm_putI {idx s k ci f : Nat} {x : Int32} (pc' : Nat) (hd : decode μ.2.1 pc = .ok (.putfield idx, 3)) (hp : pc + 3 = pc') (hk : sk_fp μ.1.cls idx ci f .int) (hs : sk_shp s = .inl ci) (hf : sk_fr ci f = false) (hl : k < sk_cnt s) (kk : sk_G l R μ Ex Z cn sn pc' ls st (sk_mm (sk_wi d s k f x))) : sk_G l R μ Ex Z cn sn pc ls (.inl x :: .inr (.inr (some (s, k))) :: st) (sk_mm d) := sg_putI pc' hd hp hk hs hf (sk_lvm hl) rfl rfl kk
theorem sm_putZ {idx s k ci f : Nat} {ty : FieldType} {x : Int32} (pc' : Nat) (hd : decode μ.2.1 pc = .ok (.putfield idx, 3)) (hp : pc + 3 = pc') (hk : sk_fp μ.1.cls idx ci f ty) (hs : sk_shp s = .inl ci) (hf : sk_fr ci f = false) (hl : k < sk_cnt s) (hn : narrow ty (.int x) = .int x) (hfit : fits ty (.int x) = true) (kk : sk_G l R μ Ex Z cn sn pc' ls st (sk_mm (sk_wi d s k f x))) : sk_G l R μ Ex Z cn sn pc ls (.inl x :: .inr (.inr (some (s, k))) :: st) (sk_mm d) := sg_putI pc' hd hp hk hs hf (sk_lvm hl) hn hfit kk

theorem sm_iald {s k n : Nat} {i : Int32} (pc' : Nat) (hd : decode μ.2.1 pc = .ok (.iaload, 1)) (hp : pc + 1 = pc') (hs : sk_shp s = .inr (0, n)) (hl : k < sk_cnt s) (hb : sk_bi i n = true) (kk : sk_G l R μ Ex Z cn sn pc' ls (.inl (d.1 s k i.toNatClampNeg) :: st) (sk_mm d)) : sk_G l R μ Ex Z cn sn pc ls (.inl i :: .inr (.inr (some (s, k))) :: st) (sk_mm d) := sg_iald pc' hd hp hs (sk_lvm hl) hb kk
theorem sm_zald {s k n : Nat} {i : Int32} (pc' : Nat) (hd : decode μ.2.1 pc = .ok (.baload, 1)) (hp : pc + 1 = pc') (hs : sk_shp s = .inr (2, n)) (hl : k < sk_cnt s) (hb : sk_bi i n = true) (kk : sk_G l R μ Ex Z cn sn pc' ls (.inl (d.1 s k i.toNatClampNeg) :: st) (sk_mm d)) : sk_G l R μ Ex Z cn sn pc ls (.inl i :: .inr (.inr (some (s, k))) :: st) (sk_mm d) := sg_zald pc' hd hp hs (sk_lvm hl) hb kk
theorem sm_cald {s k n : Nat} {i : Int32} (pc' : Nat) (hd : decode μ.2.1 pc = .ok (.caload, 1)) (hp : pc + 1 = pc') (hs : sk_shp s = .inr (3, n)) (hl : k < sk_cnt s) (hb : sk_bi i n = true) (kk : sk_G l R μ Ex Z cn sn pc' ls (.inl (d.1 s k i.toNatClampNeg) :: st) (sk_mm d)) : sk_G l R μ Ex Z cn sn pc ls (.inl i :: .inr (.inr (some (s, k))) :: st) (sk_mm d) := sg_cald pc' hd hp hs (sk_lvm hl) hb kk
theorem sm_lald {s k n : Nat} {i : Int32} (pc' : Nat) (hd : decode μ.2.1 pc = .ok (.laload, 1)) (hp : pc + 1 = pc') (hs : sk_shp s = .inr (1, n)) (hl : k < sk_cnt s) (hb : sk_bi i n = true) (kk : sk_G l R μ Ex Z cn sn pc' ls (.inr (.inl (d.2 s k i.toNatClampNeg)) :: st) (sk_mm d)) : sk_G l R μ Ex Z cn sn pc ls (.inl i :: .inr (.inr (some (s, k))) :: st) (sk_mm d) := sg_lald pc' hd hp hs (sk_lvm hl) hb kk
theorem sm_aald {s k n kd : Nat} {i : Int32} (a : Nat × Nat) (pc' : Nat) (hd : decode μ.2.1 pc = .ok (.aaload, 1)) (hp : pc + 1 = pc') (hs : sk_shp s = .inr (kd, n)) (hkd : 4 ≤ kd ∧ kd < 9) (hl : k < sk_cnt s) (hb : sk_bi i n = true) (ha : sk_dr s k i.toNatClampNeg = some a) (kk : sk_G l R μ Ex Z cn sn pc' ls (.inr (.inr (some a)) :: st) (sk_mm d)) : sk_G l R μ Ex Z cn sn pc ls (.inl i :: .inr (.inr (some (s, k))) :: st) (sk_mm d) := sg_aald pc' hd hp hs hkd (sk_lvm hl) hb ha kk
theorem sm_iast {s k n : Nat} {i x : Int32} (pc' : Nat) (hd : decode μ.2.1 pc = .ok (.iastore, 1)) (hp : pc + 1 = pc') (hs : sk_shp s = .inr (0, n)) (hl : k < sk_cnt s) (hb : sk_bi i n = true) (kk : sk_G l R μ Ex Z cn sn pc' ls st (sk_mm (sk_wi d s k i.toNatClampNeg x))) : sk_G l R μ Ex Z cn sn pc ls (.inl x :: .inl i :: .inr (.inr (some (s, k))) :: st) (sk_mm d) := sg_iast pc' hd hp hs (sk_lvm hl) hb kk
theorem sm_zast {s k n : Nat} {i x : Int32} (pc' : Nat) (hd : decode μ.2.1 pc = .ok (.bastore, 1)) (hp : pc + 1 = pc') (hs : sk_shp s = .inr (2, n)) (hl : k < sk_cnt s) (hb : sk_bi i n = true) (kk : sk_G l R μ Ex Z cn sn pc' ls st (sk_mm (sk_wi d s k i.toNatClampNeg (vp_nar .boolean x)))) : sk_G l R μ Ex Z cn sn pc ls (.inl x :: .inl i :: .inr (.inr (some (s, k))) :: st) (sk_mm d) := sg_zast pc' hd hp hs (sk_lvm hl) hb kk
theorem sm_cast {s k n : Nat} {i x : Int32} (pc' : Nat) (hd : decode μ.2.1 pc = .ok (.castore, 1)) (hp : pc + 1 = pc') (hs : sk_shp s = .inr (3, n)) (hl : k < sk_cnt s) (hb : sk_bi i n = true) (kk : sk_G l R μ Ex Z cn sn pc' ls st (sk_mm (sk_wi d s k i.toNatClampNeg (vp_nar .char x)))) : sk_G l R μ Ex Z cn sn pc ls (.inl x :: .inl i :: .inr (.inr (some (s, k))) :: st) (sk_mm d) := sg_cast pc' hd hp hs (sk_lvm hl) hb kk
theorem sm_last {s k n : Nat} {i : Int32} {x : Int64} (pc' : Nat) (hd : decode μ.2.1 pc = .ok (.lastore, 1)) (hp : pc + 1 = pc') (hs : sk_shp s = .inr (1, n)) (hl : k < sk_cnt s) (hb : sk_bi i n = true) (kk : sk_G l R μ Ex Z cn sn pc' ls st (sk_mm (sk_wl d s k i.toNatClampNeg x))) : sk_G l R μ Ex Z cn sn pc ls (.inr (.inl x) :: .inl i :: .inr (.inr (some (s, k))) :: st) (sk_mm d) := sg_last pc' hd hp hs (sk_lvm hl) hb kk
theorem sm_alen {s k kd n : Nat} (v : Int32) (pc' : Nat) (hd : decode μ.2.1 pc = .ok (.arraylength, 1)) (hp : pc + 1 = pc') (hs : sk_shp s = .inr (kd, n)) (hkd : kd < 9) (hl : k < sk_cnt s) (hv : Int32.ofNat n = v) (kk : sk_G l R μ Ex Z cn sn pc' ls (.inl v :: st) (sk_mm d)) : sk_G l R μ Ex Z cn sn pc ls (.inr (.inr (some (s, k))) :: st) (sk_mm d) := by
  subst hp
  intro p e s0 m args below meth c H locs bb D kc la hH hE hR hS hB hL
  exact va_alen hH.1 hH.2.1 hR.1 hR.2.2.2 (sk_ord s k) kd (sk_at_arr hs (sk_lvm hl)) (sk_ty_at hkd) hv hd (kk p e s0 m args below meth c H locs bb D kc la hH hE hR hS hB hL)
theorem sk_ce_wf {kc : Nat → ClassId} {bb : Nat × Nat} {s k : Nat} {g : Nat → Int32} {a : Nat × Nat} (ha : a ≠ (s, k)) : sk_ce kc bb (sk_mm (sk_wf d s k g)) a = sk_ce kc bb (sk_mm d) a := by
  have e : (sk_mm (sk_wf d s k g)).2.1 a.1 a.2 = (sk_mm d).2.1 a.1 a.2 := by
    show (if a.1 = s ∧ a.2 = k then g else d.1 a.1 a.2) = d.1 a.1 a.2
    rw [if_neg]
    rintro ⟨h1, h2⟩
    exact ha (Prod.ext h1 h2)
  unfold sk_ce
  cases sk_shp a.1 with
  | inl ci =>
    refine congrArg (fun l => Sum.inr (ci, l)) (List.map_congr_left fun j _ => ?_)
    unfold sk_fv
    rw [e]
    rfl
  | inr kn =>
    show Sum.inl (kc kn.1, kn.2, _) = Sum.inl (kc kn.1, kn.2, _)
    rw [e]
    rfl
/-- System.arraycopy of the first n of two rows of n whole numbers -/
theorem sm_copy {idx s k s1 k1 n : Nat} {v : Int32} (pc' : Nat) (hd : decode μ.2.1 pc = .ok (.invokestatic idx, 3)) (hp : pc + 3 = pc') (hlk : Cond.methodLink μ.1.cls idx arraycopyName ∈ sk_tg) (hnat : Cond.native arraycopyName ∈ sk_tg) (hstat : Cond.static arraycopyName ∈ sk_tg) (hini : Cond.initialized "java/lang/System" ∈ sk_tg)
    (hs : sk_shp s = .inr (0, n)) (hs1 : sk_shp s1 = .inr (0, n)) (hl : k < sk_cnt s) (hl1 : k1 < sk_cnt s1) (hv0 : ¬ v < 0) (hv : v.toNatClampNeg = n) (hR1 : 1 ≤ R.frames) (hR2 : 40 ≤ R.locals) (h8 : sk_cat8 st ≤ 8)
    (kk : sk_G l R μ Ex Z cn sn pc' ls st (sk_mm (sk_wf d s1 k1 (va_cpy (d.1 s k) (d.1 s1 k1) 0 0 n)))) : sk_G l R μ Ex Z cn sn pc ls (.inl v :: .inl 0 :: .inr (.inr (some (s1, k1))) :: .inl 0 :: .inr (.inr (some (s, k))) :: st) (sk_mm d) := by
  subst hp
  subst hv
  intro p e s0 m args below meth c H locs bb D kc la hH hE hR hS hB hL
  have hts := hH.2.2.2.2.2.1
  have e0 : (0 : Int32).toNatClampNeg = 0 := by decide
  refine va_copyi (D := D) (cl := vwCl) (tys := sk_ty kc) (ws := sk_ws kc bb (sk_mm d)) hH.1 hH.2.1 (hH.2.2.2.1.trans hL.1.symm) hH.2.2.2.2.1 (hts _ hlk) (hts _ hnat) (hts _ hstat) (hts _ hini) hR.1 hR.2.2.2 sk_ws_D hS (sk_ord s k) (sk_ord s1 k1) 0 0 (sk_at_arr hs (sk_lvm hl)) (sk_at_arr hs1 (sk_lvm hl1)) (sk_ty_at (by decide)) (sk_ty_at (by decide)) rfl (by decide) (by decide) hv0 (by rw [e0]; omega) (by rw [e0]; omega) (fun i hi => rfl) hR1 ?_ hd (fun H1 locs1 hP1 _ hS1 => ?_)
  · rw [sk_cat8_eq]
    have : nativeFrameWords "java/lang/System" "arraycopy" 5 = 7 := by decide +kernel
    omega
  · rw [e0] at hP1
    refine kk p e s0 m args below meth c H1 locs1 bb D kc la hH hE ⟨hR.1, fun q => absurd q (Nat.lt_irrefl _), hR.2.2.1, ?_⟩ hS1 hB hL
    rw [← sk_ws_set (h := sk_mm d) (h' := sk_mm (sk_wf d s1 k1 (va_cpy (d.1 s k) (d.1 s1 k1) 0 0 v.toNatClampNeg))) (s := s1) (k := k1) (sk_lvm hl1) rfl hR.2.2.1 (fun a ha => sk_ce_wf ha)]
    have ec : sk_ce kc bb (sk_mm (sk_wf d s1 k1 (va_cpy (d.1 s k) (d.1 s1 k1) 0 0 v.toNatClampNeg))) (s1, k1) = .inl (kc 0, v.toNatClampNeg, .inl (va_cpy (d.1 s k) (d.1 s1 k1) 0 0 v.toNatClampNeg)) := by
      unfold sk_ce
      rw [show sk_shp (s1, k1).1 = .inr (0, v.toNatClampNeg) from hs1]
      show Sum.inl (kc 0, v.toNatClampNeg, Sum.inl (if s1 = s1 ∧ k1 = k1 then _ else _)) = _
      rw [if_pos ⟨rfl, rfl⟩]
    rw [ec]
    exact hP1
end SMR
end
section
/-! what the decompiled methods rest on -/
theorem sz_0 : 0 < sk_cnt 0 := by decide
theorem sz_1 : 0 < sk_cnt 1 := by decide
theorem sz_2 : 0 < sk_cnt 2 := by decide
theorem sz_3 : 0 < sk_cnt 3 := by decide
theorem sz_4 : 0 < sk_cnt 4 := by decide
theorem sz_5 : 0 < sk_cnt 5 := by decide
theorem sz_6 : 0 < sk_cnt 6 := by decide
theorem sz_7 : 0 < sk_cnt 7 := by decide
theorem sz_8 : 0 < sk_cnt 8 := by decide
theorem sz_9 : 0 < sk_cnt 9 := by decide
theorem sz_10 : 0 < sk_cnt 10 := by decide
theorem sz_11 : 0 < sk_cnt 11 := by decide
theorem sz_12 : 0 < sk_cnt 12 := by decide
theorem sz_13 : 0 < sk_cnt 13 := by decide
theorem sz_14 : 0 < sk_cnt 14 := by decide
theorem sz_15 : 0 < sk_cnt 15 := by decide
theorem sz_16 : 0 < sk_cnt 16 := by decide
theorem sz_17 : 0 < sk_cnt 17 := by decide
theorem sz_18 : 0 < sk_cnt 18 := by decide
theorem sz_19 : 0 < sk_cnt 19 := by decide
theorem sz_20 : 0 < sk_cnt 20 := by decide
theorem sz_21 : 0 < sk_cnt 21 := by decide
theorem sz_22 : 0 < sk_cnt 22 := by decide
theorem sz_23 : 0 < sk_cnt 23 := by decide
theorem sz_24 : 0 < sk_cnt 24 := by decide
theorem sz_25 : 0 < sk_cnt 25 := by decide
theorem sz_26 : 0 < sk_cnt 26 := by decide
theorem sz_27 : 0 < sk_cnt 27 := by decide
theorem sz_28 : 0 < sk_cnt 28 := by decide
theorem sz_29 : 0 < sk_cnt 29 := by decide
theorem sz_30 : 0 < sk_cnt 30 := by decide
theorem sz_31 : 0 < sk_cnt 31 := by decide
theorem sz_32 : 0 < sk_cnt 32 := by decide
theorem sz_33 : 0 < sk_cnt 33 := by decide
theorem sz_34 : 0 < sk_cnt 34 := by decide
theorem sz_35 : 0 < sk_cnt 35 := by decide
theorem sz_36 : 0 < sk_cnt 36 := by decide
theorem sz_37 : 0 < sk_cnt 37 := by decide
theorem sz_38 : 0 < sk_cnt 38 := by decide
theorem sz_39 : 0 < sk_cnt 39 := by decide
theorem sz_40 : 0 < sk_cnt 40 := by decide
theorem sz_41 : 0 < sk_cnt 41 := by decide
theorem sz_42 : 0 < sk_cnt 42 := by decide
theorem sz_43 : 0 < sk_cnt 43 := by decide
theorem sz_44 : 0 < sk_cnt 44 := by decide
theorem sz_45 : 0 < sk_cnt 45 := by decide
theorem sz_46 : 0 < sk_cnt 46 := by decide
theorem sz_47 : 0 < sk_cnt 47 := by decide
theorem sz_48 : 0 < sk_cnt 48 := by decide
theorem sz_49 : 0 < sk_cnt 49 := by decide
theorem sz_50 : 0 < sk_cnt 50 := by decide
theorem sz_51 : 0 < sk_cnt 51 := by decide
theorem sz_52 : 0 < sk_cnt 52 := by decide
theorem sz_53 : 0 < sk_cnt 53 := by decide
theorem sz_54 : 0 < sk_cnt 54 := by decide
theorem sz_55 : 0 < sk_cnt 55 := by decide
theorem sz_56 : 0 < sk_cnt 56 := by decide
theorem sz_57 : 0 < sk_cnt 57 := by decide
theorem sz_58 : 0 < sk_cnt 58 := by decide
theorem sz_59 : 0 < sk_cnt 59 := by decide
theorem sz_60 : 0 < sk_cnt 60 := by decide
theorem sz_61 : 0 < sk_cnt 61 := by decide
theorem sz_62 : 0 < sk_cnt 62 := by decide
theorem sz_63 : 0 < sk_cnt 63 := by decide
theorem sz_64 : 0 < sk_cnt 64 := by decide
theorem sz_65 : 0 < sk_cnt 65 := by decide
theorem sz_66 : 0 < sk_cnt 66 := by decide
theorem sz_67 : 0 < sk_cnt 67 := by decide
theorem sz_68 : 0 < sk_cnt 68 := by decide
theorem sz_69 : 0 < sk_cnt 69 := by decide
theorem sz_70 : 0 < sk_cnt 70 := by decide
theorem sz_71 : 0 < sk_cnt 71 := by decide
theorem sz_72 : 0 < sk_cnt 72 := by decide
theorem sz_73 : 0 < sk_cnt 73 := by decide
theorem sz_74 : 0 < sk_cnt 74 := by decide
theorem sz_75 : 0 < sk_cnt 75 := by decide
theorem sz_76 : 0 < sk_cnt 76 := by decide
theorem sz_77 : 0 < sk_cnt 77 := by decide
theorem sz_78 : 0 < sk_cnt 78 := by decide
theorem sz_79 : 0 < sk_cnt 79 := by decide
theorem sz_80 : 0 < sk_cnt 80 := by decide
theorem sz_81 : 0 < sk_cnt 81 := by decide
theorem sz_82 : 0 < sk_cnt 82 := by decide
theorem sz_83 : 0 < sk_cnt 83 := by decide
theorem sz_84 : 0 < sk_cnt 84 := by decide
theorem sz_85 : 0 < sk_cnt 85 := by decide
theorem sz_86 : 0 < sk_cnt 86 := by decide
theorem sz_87 : 0 < sk_cnt 87 := by decide
theorem sz_88 : 0 < sk_cnt 88 := by decide
theorem sz_89 : 0 < sk_cnt 89 := by decide
theorem sz_90 : 0 < sk_cnt 90 := by decide
theorem sz_91 : 0 < sk_cnt 91 := by decide
theorem sz_92 : 0 < sk_cnt 92 := by decide
theorem sz_93 : 0 < sk_cnt 93 := by decide
theorem sr_1 {f : Nat} (h : f < 20) : sk_dr 1 0 f = some (37, f) := if_pos h
theorem sr_2 {f : Nat} (h : f < 4) : sk_dr 2 0 f = some (39, f) := if_pos h
theorem sr_3 {f : Nat} (h : f < 8) : sk_dr 3 0 f = some (42, f) := if_pos h
theorem sr_4 {f : Nat} (h : f < 3) : sk_dr 4 0 f = some (43, f) := if_pos h
theorem sr_9 {f : Nat} (h : f < 20) : sk_dr 9 0 f = some (10, f) := if_pos h
theorem sr_32 {f : Nat} (h : f < 3) : sk_dr 32 0 f = some (33, f) := if_pos h
theorem sk_td {c : ByteArray} {t : List (Nat × Instr × Nat)} (h : t.all (fun q => decide (decode c q.1 = .ok q.2)) = true) (i : Nat) {pc : Nat} {ins : Instr} {n : Nat} (hi : t[i]? = some (pc, ins, n)) : decode c pc = .ok (ins, n) := by
  have h2 := List.all_eq_true.mp h (pc, ins, n) (List.mem_of_getElem? hi)
  simp only [decide_eq_true_eq] at h2
  exact h2
theorem sk_ifn {c : Prop} {hc : Decidable c} {β : Type} {x : Option β} {r : β} (h : (@ite _ c hc x none) = some r) : c ∧ x = some r := by
  by_cases q : c
  · rw [if_pos q] at h
    exact ⟨q, h⟩
  · rw [if_neg q] at h
    cases h
theorem sk_bnd {α β : Type} {o : Option α} {f : α → Option β} {r : β} (h : o.bind f = some r) : ∃ x, o = some x ∧ f x = some r := by
  cases o with
  | none => cases h
  | some x => exact ⟨x, rfl, h⟩
def sk_it {α β : Type} (body : (α → Option β) → α → Option β) : Nat → α → Option β
  | 0 => fun _ => none
  | n + 1 => fun a => body (sk_it body n) a
theorem sk_it_ind {α β : Type} {P : α → β → Prop} {body : (α → Option β) → α → Option β} (hb : ∀ rec : α → Option β, (∀ a r, rec a = some r → P a r) → ∀ a r, body rec a = some r → P a r) : ∀ (n : Nat) (a : α) (r : β), sk_it body n a = some r → P a r
  | 0, _, _, h => by cases h
  | n + 1, a, r, h => hb (sk_it body n) (fun a r h => sk_it_ind hb n a r h) a r h
def sk_fu : Nat := 5000
theorem sk_rok {dp ht : Nat} {μ' : sk_MI} (h1 : dp + 1 ≤ ht) (h2 : 8 + (μ'.2.2.1 + 11) + 60 * dp ≤ 60 * ht) (h3 : μ'.2.2.2.2.1 = 0) (h4 : μ'.2.2.2.2.2 = 0) : sk_rmok dp μ' (sk_rm ht 0 0) 0 0 := ⟨h1, h2, by rw [h3]; exact Nat.le_refl 0, by rw [h4]; exact Nat.le_refl 0⟩
def sk_nb (x : Int32) : Bool := decide (x = 0 ∨ x = 1)
theorem sk_nb.z {x : Int32} (h : sk_nb x = true) : narrow .boolean (.int x) = .int x := by
  rcases (of_decide_eq_true h : x = 0 ∨ x = 1) with rfl | rfl <;> decide
def sk_fi (d : sk_D) (s k n : Nat) (v : Int32) : sk_D := sk_wf d s k (fun j => if j < n then v else d.1 s k j)
def sk_lkM (own : String) (idx : Nat) (nm : MethodName) (cc : ByteArray) (n : Nat) : Prop := Cond.methodLink own idx nm ∈ sk_tg ∧ Cond.static nm ∈ sk_tg ∧ Cond.initialized "java/lang/Math" ∈ sk_tg ∧ Cond.code nm cc n (some .int) ∈ sk_tg
/-- locals that are looked at no more are let go -/
def sk_msk : List Bool → List (Option sk_AV) → List (Option sk_AV)
  | [], vs => vs
  | _ :: _, [] => []
  | true :: bs, v :: vs => v :: sk_msk bs vs
  | false :: bs, _ :: vs => none :: sk_msk bs vs
theorem sk_msk_len : ∀ (bs : List Bool) (vs : List (Option sk_AV)), (sk_msk bs vs).length = vs.length
  | [], _ => rfl
  | _ :: _, [] => rfl
  | true :: bs, _ :: vs => congrArg Nat.succ (sk_msk_len bs vs)
  | false :: bs, _ :: vs => congrArg Nat.succ (sk_msk_len bs vs)
theorem sk_msk_get : ∀ (bs : List Bool) (vs : List (Option sk_AV)) (i : Nat) (v : sk_AV), (sk_msk bs vs)[i]? = some (some v) → vs[i]? = some (some v)
  | [], _, _, _, h => h
  | _ :: _, [], _, _, h => h
  | true :: _, _ :: _, 0, _, h => h
  | true :: bs, _ :: vs, i + 1, v, h => sk_msk_get bs vs i v h
  | false :: _, _ :: _, 0, _, h => by cases h
  | false :: bs, _ :: vs, i + 1, v, h => sk_msk_get bs vs i v h
theorem sk_rok2 {dp ht : Nat} {μ' : sk_MI} (h1 : dp + 1 ≤ ht) (h2 : 8 + (μ'.2.2.1 + 11) + 60 * dp ≤ 60 * ht) (h3 : μ'.2.2.2.2.1 = 0) (h4 : μ'.2.2.2.2.2 = 0) : sk_rmok dp μ' (sk_rm ht 0 0) 0 0 := sk_rok h1 h2 h3 h4
section SMC
variable {l : Launch} {R : Room} {μ : sk_MI} {Ex : sk_EX} {Z : sk_ZZ} {pc : Nat} {ls : List (Option sk_AV)} {st : List sk_AV} {d : sk_D}
theorem sm_callV0i {μ' : sk_MI} {dp idx s k ci : Nat} {x : Int32} {h' : sk_Mem} (pc' : Nat) (hM : sk_M l dp μ' [.inr (.inr (some (s, k)))] (sk_mm d) (some (.inl x)) h') (hd : decode μ.2.1 pc = .ok (.invokevirtual idx, 3)) (hp : pc + 3 = pc') (hk : sk_lkV μ.1.cls idx μ' 0) (hz : μ'.2.2.2.2 = (0, 0)) (hs : sk_shp s = .inl ci) (hci : (vwCl[ci]?).map (fun q => q.1) = some μ'.1.cls) (hl : k < sk_cnt s) (hr : sk_rmok dp μ' R 0 0) (h8 : sk_cat8 st ≤ 8)
    (kk : sk_G l R μ Ex Z 0 0 pc' ls (.inl x :: st) h') : sk_G l R μ Ex Z 0 0 pc ls (.inr (.inr (some (s, k))) :: st) (sk_mm d) := by
  refine sg_callV (as := []) pc' hM hd hp hk rfl hs hci (sk_lvm hl) hr h8 ?_
  rw [hz]
  exact kk
theorem sm_callV0l {μ' : sk_MI} {dp idx s k ci : Nat} {x : Int64} {h' : sk_Mem} (pc' : Nat) (hM : sk_M l dp μ' [.inr (.inr (some (s, k)))] (sk_mm d) (some (.inr (.inl x))) h') (hd : decode μ.2.1 pc = .ok (.invokevirtual idx, 3)) (hp : pc + 3 = pc') (hk : sk_lkV μ.1.cls idx μ' 0) (hz : μ'.2.2.2.2 = (0, 0)) (hs : sk_shp s = .inl ci) (hci : (vwCl[ci]?).map (fun q => q.1) = some μ'.1.cls) (hl : k < sk_cnt s) (hr : sk_rmok dp μ' R 0 0) (h8 : sk_cat8 st ≤ 8)
    (kk : sk_G l R μ Ex Z 0 0 pc' ls (.inr (.inl x) :: st) h') : sk_G l R μ Ex Z 0 0 pc ls (.inr (.inr (some (s, k))) :: st) (sk_mm d) := by
  refine sg_callV (as := []) pc' hM hd hp hk rfl hs hci (sk_lvm hl) hr h8 ?_
  rw [hz]
  exact kk
theorem sm_callV0v {μ' : sk_MI} {dp idx s k ci : Nat} {h' : sk_Mem} (pc' : Nat) (hM : sk_M l dp μ' [.inr (.inr (some (s, k)))] (sk_mm d) none h') (hd : decode μ.2.1 pc = .ok (.invokevirtual idx, 3)) (hp : pc + 3 = pc') (hk : sk_lkV μ.1.cls idx μ' 0) (hz : μ'.2.2.2.2 = (0, 0)) (hs : sk_shp s = .inl ci) (hci : (vwCl[ci]?).map (fun q => q.1) = some μ'.1.cls) (hl : k < sk_cnt s) (hr : sk_rmok dp μ' R 0 0) (h8 : sk_cat8 st ≤ 8)
    (kk : sk_G l R μ Ex Z 0 0 pc' ls (st) h') : sk_G l R μ Ex Z 0 0 pc ls (.inr (.inr (some (s, k))) :: st) (sk_mm d) := by
  refine sg_callV (as := []) pc' hM hd hp hk rfl hs hci (sk_lvm hl) hr h8 ?_
  rw [hz]
  exact kk
theorem sm_callV1i {μ' : sk_MI} {dp idx s k ci : Nat} {a0 : sk_AV} {x : Int32} {h' : sk_Mem} (pc' : Nat) (hM : sk_M l dp μ' [.inr (.inr (some (s, k))), a0] (sk_mm d) (some (.inl x)) h') (hd : decode μ.2.1 pc = .ok (.invokevirtual idx, 3)) (hp : pc + 3 = pc') (hk : sk_lkV μ.1.cls idx μ' 1) (hz : μ'.2.2.2.2 = (0, 0)) (hs : sk_shp s = .inl ci) (hci : (vwCl[ci]?).map (fun q => q.1) = some μ'.1.cls) (hl : k < sk_cnt s) (hr : sk_rmok dp μ' R 0 0) (h8 : sk_cat8 st ≤ 8)
    (kk : sk_G l R μ Ex Z 0 0 pc' ls (.inl x :: st) h') : sk_G l R μ Ex Z 0 0 pc ls (a0 :: .inr (.inr (some (s, k))) :: st) (sk_mm d) := by
  refine sg_callV (as := [a0]) pc' hM hd hp hk rfl hs hci (sk_lvm hl) hr h8 ?_
  rw [hz]
  exact kk
theorem sm_callS1i {μ' : sk_MI} {dp idx : Nat} {a0 : sk_AV} {x : Int32} {h' : sk_Mem} (pc' : Nat) (hM : sk_M l dp μ' [a0] (sk_mm d) (some (.inl x)) h') (hd : decode μ.2.1 pc = .ok (.invokestatic idx, 3)) (hp : pc + 3 = pc') (hk : sk_lkS μ.1.cls idx μ' 1) (hz : μ'.2.2.2.2 = (0, 0)) (hr : sk_rmok dp μ' R 0 0) (h8 : sk_cat8 st ≤ 8)
    (kk : sk_G l R μ Ex Z 0 0 pc' ls (.inl x :: st) h') : sk_G l R μ Ex Z 0 0 pc ls (a0 :: st) (sk_mm d) := by
  refine sg_callS (as := [a0]) pc' hM hd hp hk rfl hr h8 ?_
  rw [hz]
  exact kk
theorem sm_callN1i {μ' : sk_MI} {dp idx : Nat} {a0 : sk_AV} {x : Int32} {h' : sk_Mem} (pc' : Nat) (hM : sk_M l dp μ' [a0] (sk_mm d) (some (.inl x)) h') (hd : decode μ.2.1 pc = .ok (.invokestatic idx, 3)) (hp : pc + 3 = pc') (hk : sk_lkN μ.1.cls idx "SkiSchool" μ' 1) (hz : μ'.2.2.2.2 = (0, 0)) (hr : sk_rmok dp μ' R 0 0) (h8 : sk_cat8 st ≤ 8)
    (kk : sk_G l R μ Ex Z 0 0 pc' ls (.inl x :: st) h') : sk_G l R μ Ex Z 0 0 pc ls (a0 :: st) (sk_mm d) := by
  refine sg_callN (as := [a0]) pc' hM hd hp hk rfl hr h8 ?_
  rw [hz]
  exact kk
theorem sm_callV1l {μ' : sk_MI} {dp idx s k ci : Nat} {a0 : sk_AV} {x : Int64} {h' : sk_Mem} (pc' : Nat) (hM : sk_M l dp μ' [.inr (.inr (some (s, k))), a0] (sk_mm d) (some (.inr (.inl x))) h') (hd : decode μ.2.1 pc = .ok (.invokevirtual idx, 3)) (hp : pc + 3 = pc') (hk : sk_lkV μ.1.cls idx μ' 1) (hz : μ'.2.2.2.2 = (0, 0)) (hs : sk_shp s = .inl ci) (hci : (vwCl[ci]?).map (fun q => q.1) = some μ'.1.cls) (hl : k < sk_cnt s) (hr : sk_rmok dp μ' R 0 0) (h8 : sk_cat8 st ≤ 8)
    (kk : sk_G l R μ Ex Z 0 0 pc' ls (.inr (.inl x) :: st) h') : sk_G l R μ Ex Z 0 0 pc ls (a0 :: .inr (.inr (some (s, k))) :: st) (sk_mm d) := by
  refine sg_callV (as := [a0]) pc' hM hd hp hk rfl hs hci (sk_lvm hl) hr h8 ?_
  rw [hz]
  exact kk
theorem sm_callS1l {μ' : sk_MI} {dp idx : Nat} {a0 : sk_AV} {x : Int64} {h' : sk_Mem} (pc' : Nat) (hM : sk_M l dp μ' [a0] (sk_mm d) (some (.inr (.inl x))) h') (hd : decode μ.2.1 pc = .ok (.invokestatic idx, 3)) (hp : pc + 3 = pc') (hk : sk_lkS μ.1.cls idx μ' 1) (hz : μ'.2.2.2.2 = (0, 0)) (hr : sk_rmok dp μ' R 0 0) (h8 : sk_cat8 st ≤ 8)
    (kk : sk_G l R μ Ex Z 0 0 pc' ls (.inr (.inl x) :: st) h') : sk_G l R μ Ex Z 0 0 pc ls (a0 :: st) (sk_mm d) := by
  refine sg_callS (as := [a0]) pc' hM hd hp hk rfl hr h8 ?_
  rw [hz]
  exact kk
theorem sm_callN1l {μ' : sk_MI} {dp idx : Nat} {a0 : sk_AV} {x : Int64} {h' : sk_Mem} (pc' : Nat) (hM : sk_M l dp μ' [a0] (sk_mm d) (some (.inr (.inl x))) h') (hd : decode μ.2.1 pc = .ok (.invokestatic idx, 3)) (hp : pc + 3 = pc') (hk : sk_lkN μ.1.cls idx "SkiSchool" μ' 1) (hz : μ'.2.2.2.2 = (0, 0)) (hr : sk_rmok dp μ' R 0 0) (h8 : sk_cat8 st ≤ 8)
    (kk : sk_G l R μ Ex Z 0 0 pc' ls (.inr (.inl x) :: st) h') : sk_G l R μ Ex Z 0 0 pc ls (a0 :: st) (sk_mm d) := by
  refine sg_callN (as := [a0]) pc' hM hd hp hk rfl hr h8 ?_
  rw [hz]
  exact kk
theorem sm_callV1v {μ' : sk_MI} {dp idx s k ci : Nat} {a0 : sk_AV} {h' : sk_Mem} (pc' : Nat) (hM : sk_M l dp μ' [.inr (.inr (some (s, k))), a0] (sk_mm d) none h') (hd : decode μ.2.1 pc = .ok (.invokevirtual idx, 3)) (hp : pc + 3 = pc') (hk : sk_lkV μ.1.cls idx μ' 1) (hz : μ'.2.2.2.2 = (0, 0)) (hs : sk_shp s = .inl ci) (hci : (vwCl[ci]?).map (fun q => q.1) = some μ'.1.cls) (hl : k < sk_cnt s) (hr : sk_rmok dp μ' R 0 0) (h8 : sk_cat8 st ≤ 8)
    (kk : sk_G l R μ Ex Z 0 0 pc' ls (st) h') : sk_G l R μ Ex Z 0 0 pc ls (a0 :: .inr (.inr (some (s, k))) :: st) (sk_mm d) := by
  refine sg_callV (as := [a0]) pc' hM hd hp hk rfl hs hci (sk_lvm hl) hr h8 ?_
  rw [hz]
  exact kk
theorem sm_callS1v {μ' : sk_MI} {dp idx : Nat} {a0 : sk_AV} {h' : sk_Mem} (pc' : Nat) (hM : sk_M l dp μ' [a0] (sk_mm d) none h') (hd : decode μ.2.1 pc = .ok (.invokestatic idx, 3)) (hp : pc + 3 = pc') (hk : sk_lkS μ.1.cls idx μ' 1) (hz : μ'.2.2.2.2 = (0, 0)) (hr : sk_rmok dp μ' R 0 0) (h8 : sk_cat8 st ≤ 8)
    (kk : sk_G l R μ Ex Z 0 0 pc' ls (st) h') : sk_G l R μ Ex Z 0 0 pc ls (a0 :: st) (sk_mm d) := by
  refine sg_callS (as := [a0]) pc' hM hd hp hk rfl hr h8 ?_
  rw [hz]
  exact kk
theorem sm_callN1v {μ' : sk_MI} {dp idx : Nat} {a0 : sk_AV} {h' : sk_Mem} (pc' : Nat) (hM : sk_M l dp μ' [a0] (sk_mm d) none h') (hd : decode μ.2.1 pc = .ok (.invokestatic idx, 3)) (hp : pc + 3 = pc') (hk : sk_lkN μ.1.cls idx "SkiSchool" μ' 1) (hz : μ'.2.2.2.2 = (0, 0)) (hr : sk_rmok dp μ' R 0 0) (h8 : sk_cat8 st ≤ 8)
    (kk : sk_G l R μ Ex Z 0 0 pc' ls (st) h') : sk_G l R μ Ex Z 0 0 pc ls (a0 :: st) (sk_mm d) := by
  refine sg_callN (as := [a0]) pc' hM hd hp hk rfl hr h8 ?_
  rw [hz]
  exact kk
theorem sm_callV2i {μ' : sk_MI} {dp idx s k ci : Nat} {a0 a1 : sk_AV} {x : Int32} {h' : sk_Mem} (pc' : Nat) (hM : sk_M l dp μ' [.inr (.inr (some (s, k))), a0, a1] (sk_mm d) (some (.inl x)) h') (hd : decode μ.2.1 pc = .ok (.invokevirtual idx, 3)) (hp : pc + 3 = pc') (hk : sk_lkV μ.1.cls idx μ' 2) (hz : μ'.2.2.2.2 = (0, 0)) (hs : sk_shp s = .inl ci) (hci : (vwCl[ci]?).map (fun q => q.1) = some μ'.1.cls) (hl : k < sk_cnt s) (hr : sk_rmok dp μ' R 0 0) (h8 : sk_cat8 st ≤ 8)
    (kk : sk_G l R μ Ex Z 0 0 pc' ls (.inl x :: st) h') : sk_G l R μ Ex Z 0 0 pc ls (a1 :: a0 :: .inr (.inr (some (s, k))) :: st) (sk_mm d) := by
  refine sg_callV (as := [a0, a1]) pc' hM hd hp hk rfl hs hci (sk_lvm hl) hr h8 ?_
  rw [hz]
  exact kk
theorem sm_callS2i {μ' : sk_MI} {dp idx : Nat} {a0 a1 : sk_AV} {x : Int32} {h' : sk_Mem} (pc' : Nat) (hM : sk_M l dp μ' [a0, a1] (sk_mm d) (some (.inl x)) h') (hd : decode μ.2.1 pc = .ok (.invokestatic idx, 3)) (hp : pc + 3 = pc') (hk : sk_lkS μ.1.cls idx μ' 2) (hz : μ'.2.2.2.2 = (0, 0)) (hr : sk_rmok dp μ' R 0 0) (h8 : sk_cat8 st ≤ 8)
    (kk : sk_G l R μ Ex Z 0 0 pc' ls (.inl x :: st) h') : sk_G l R μ Ex Z 0 0 pc ls (a1 :: a0 :: st) (sk_mm d) := by
  refine sg_callS (as := [a0, a1]) pc' hM hd hp hk rfl hr h8 ?_
  rw [hz]
  exact kk
theorem sm_callN2i {μ' : sk_MI} {dp idx : Nat} {a0 a1 : sk_AV} {x : Int32} {h' : sk_Mem} (pc' : Nat) (hM : sk_M l dp μ' [a0, a1] (sk_mm d) (some (.inl x)) h') (hd : decode μ.2.1 pc = .ok (.invokestatic idx, 3)) (hp : pc + 3 = pc') (hk : sk_lkN μ.1.cls idx "SkiSchool" μ' 2) (hz : μ'.2.2.2.2 = (0, 0)) (hr : sk_rmok dp μ' R 0 0) (h8 : sk_cat8 st ≤ 8)
    (kk : sk_G l R μ Ex Z 0 0 pc' ls (.inl x :: st) h') : sk_G l R μ Ex Z 0 0 pc ls (a1 :: a0 :: st) (sk_mm d) := by
  refine sg_callN (as := [a0, a1]) pc' hM hd hp hk rfl hr h8 ?_
  rw [hz]
  exact kk
theorem sm_callV2l {μ' : sk_MI} {dp idx s k ci : Nat} {a0 a1 : sk_AV} {x : Int64} {h' : sk_Mem} (pc' : Nat) (hM : sk_M l dp μ' [.inr (.inr (some (s, k))), a0, a1] (sk_mm d) (some (.inr (.inl x))) h') (hd : decode μ.2.1 pc = .ok (.invokevirtual idx, 3)) (hp : pc + 3 = pc') (hk : sk_lkV μ.1.cls idx μ' 2) (hz : μ'.2.2.2.2 = (0, 0)) (hs : sk_shp s = .inl ci) (hci : (vwCl[ci]?).map (fun q => q.1) = some μ'.1.cls) (hl : k < sk_cnt s) (hr : sk_rmok dp μ' R 0 0) (h8 : sk_cat8 st ≤ 8)
    (kk : sk_G l R μ Ex Z 0 0 pc' ls (.inr (.inl x) :: st) h') : sk_G l R μ Ex Z 0 0 pc ls (a1 :: a0 :: .inr (.inr (some (s, k))) :: st) (sk_mm d) := by
  refine sg_callV (as := [a0, a1]) pc' hM hd hp hk rfl hs hci (sk_lvm hl) hr h8 ?_
  rw [hz]
  exact kk
theorem sm_callS2l {μ' : sk_MI} {dp idx : Nat} {a0 a1 : sk_AV} {x : Int64} {h' : sk_Mem} (pc' : Nat) (hM : sk_M l dp μ' [a0, a1] (sk_mm d) (some (.inr (.inl x))) h') (hd : decode μ.2.1 pc = .ok (.invokestatic idx, 3)) (hp : pc + 3 = pc') (hk : sk_lkS μ.1.cls idx μ' 2) (hz : μ'.2.2.2.2 = (0, 0)) (hr : sk_rmok dp μ' R 0 0) (h8 : sk_cat8 st ≤ 8)
    (kk : sk_G l R μ Ex Z 0 0 pc' ls (.inr (.inl x) :: st) h') : sk_G l R μ Ex Z 0 0 pc ls (a1 :: a0 :: st) (sk_mm d) := by
  refine sg_callS (as := [a0, a1]) pc' hM hd hp hk rfl hr h8 ?_
  rw [hz]
  exact kk
theorem sm_callN2l {μ' : sk_MI} {dp idx : Nat} {a0 a1 : sk_AV} {x : Int64} {h' : sk_Mem} (pc' : Nat) (hM : sk_M l dp μ' [a0, a1] (sk_mm d) (some (.inr (.inl x))) h') (hd : decode μ.2.1 pc = .ok (.invokestatic idx, 3)) (hp : pc + 3 = pc') (hk : sk_lkN μ.1.cls idx "SkiSchool" μ' 2) (hz : μ'.2.2.2.2 = (0, 0)) (hr : sk_rmok dp μ' R 0 0) (h8 : sk_cat8 st ≤ 8)
    (kk : sk_G l R μ Ex Z 0 0 pc' ls (.inr (.inl x) :: st) h') : sk_G l R μ Ex Z 0 0 pc ls (a1 :: a0 :: st) (sk_mm d) := by
  refine sg_callN (as := [a0, a1]) pc' hM hd hp hk rfl hr h8 ?_
  rw [hz]
  exact kk
theorem sm_callV2v {μ' : sk_MI} {dp idx s k ci : Nat} {a0 a1 : sk_AV} {h' : sk_Mem} (pc' : Nat) (hM : sk_M l dp μ' [.inr (.inr (some (s, k))), a0, a1] (sk_mm d) none h') (hd : decode μ.2.1 pc = .ok (.invokevirtual idx, 3)) (hp : pc + 3 = pc') (hk : sk_lkV μ.1.cls idx μ' 2) (hz : μ'.2.2.2.2 = (0, 0)) (hs : sk_shp s = .inl ci) (hci : (vwCl[ci]?).map (fun q => q.1) = some μ'.1.cls) (hl : k < sk_cnt s) (hr : sk_rmok dp μ' R 0 0) (h8 : sk_cat8 st ≤ 8)
    (kk : sk_G l R μ Ex Z 0 0 pc' ls (st) h') : sk_G l R μ Ex Z 0 0 pc ls (a1 :: a0 :: .inr (.inr (some (s, k))) :: st) (sk_mm d) := by
  refine sg_callV (as := [a0, a1]) pc' hM hd hp hk rfl hs hci (sk_lvm hl) hr h8 ?_
  rw [hz]
  exact kk
theorem sm_callS2v {μ' : sk_MI} {dp idx : Nat} {a0 a1 : sk_AV} {h' : sk_Mem} (pc' : Nat) (hM : sk_M l dp μ' [a0, a1] (sk_mm d) none h') (hd : decode μ.2.1 pc = .ok (.invokestatic idx, 3)) (hp : pc + 3 = pc') (hk : sk_lkS μ.1.cls idx μ' 2) (hz : μ'.2.2.2.2 = (0, 0)) (hr : sk_rmok dp μ' R 0 0) (h8 : sk_cat8 st ≤ 8)
    (kk : sk_G l R μ Ex Z 0 0 pc' ls (st) h') : sk_G l R μ Ex Z 0 0 pc ls (a1 :: a0 :: st) (sk_mm d) := by
  refine sg_callS (as := [a0, a1]) pc' hM hd hp hk rfl hr h8 ?_
  rw [hz]
  exact kk
theorem sm_callN2v {μ' : sk_MI} {dp idx : Nat} {a0 a1 : sk_AV} {h' : sk_Mem} (pc' : Nat) (hM : sk_M l dp μ' [a0, a1] (sk_mm d) none h') (hd : decode μ.2.1 pc = .ok (.invokestatic idx, 3)) (hp : pc + 3 = pc') (hk : sk_lkN μ.1.cls idx "SkiSchool" μ' 2) (hz : μ'.2.2.2.2 = (0, 0)) (hr : sk_rmok dp μ' R 0 0) (h8 : sk_cat8 st ≤ 8)
    (kk : sk_G l R μ Ex Z 0 0 pc' ls (st) h') : sk_G l R μ Ex Z 0 0 pc ls (a1 :: a0 :: st) (sk_mm d) := by
  refine sg_callN (as := [a0, a1]) pc' hM hd hp hk rfl hr h8 ?_
  rw [hz]
  exact kk
theorem sm_callV3i {μ' : sk_MI} {dp idx s k ci : Nat} {a0 a1 a2 : sk_AV} {x : Int32} {h' : sk_Mem} (pc' : Nat) (hM : sk_M l dp μ' [.inr (.inr (some (s, k))), a0, a1, a2] (sk_mm d) (some (.inl x)) h') (hd : decode μ.2.1 pc = .ok (.invokevirtual idx, 3)) (hp : pc + 3 = pc') (hk : sk_lkV μ.1.cls idx μ' 3) (hz : μ'.2.2.2.2 = (0, 0)) (hs : sk_shp s = .inl ci) (hci : (vwCl[ci]?).map (fun q => q.1) = some μ'.1.cls) (hl : k < sk_cnt s) (hr : sk_rmok dp μ' R 0 0) (h8 : sk_cat8 st ≤ 8)
    (kk : sk_G l R μ Ex Z 0 0 pc' ls (.inl x :: st) h') : sk_G l R μ Ex Z 0 0 pc ls (a2 :: a1 :: a0 :: .inr (.inr (some (s, k))) :: st) (sk_mm d) := by
  refine sg_callV (as := [a0, a1, a2]) pc' hM hd hp hk rfl hs hci (sk_lvm hl) hr h8 ?_
  rw [hz]
  exact kk
theorem sm_callS3i {μ' : sk_MI} {dp idx : Nat} {a0 a1 a2 : sk_AV} {x : Int32} {h' : sk_Mem} (pc' : Nat) (hM : sk_M l dp μ' [a0, a1, a2] (sk_mm d) (some (.inl x)) h') (hd : decode μ.2.1 pc = .ok (.invokestatic idx, 3)) (hp : pc + 3 = pc') (hk : sk_lkS μ.1.cls idx μ' 3) (hz : μ'.2.2.2.2 = (0, 0)) (hr : sk_rmok dp μ' R 0 0) (h8 : sk_cat8 st ≤ 8)
    (kk : sk_G l R μ Ex Z 0 0 pc' ls (.inl x :: st) h') : sk_G l R μ Ex Z 0 0 pc ls (a2 :: a1 :: a0 :: st) (sk_mm d) := by
  refine sg_callS (as := [a0, a1, a2]) pc' hM hd hp hk rfl hr h8 ?_
  rw [hz]
  exact kk
theorem sm_callN3i {μ' : sk_MI} {dp idx : Nat} {a0 a1 a2 : sk_AV} {x : Int32} {h' : sk_Mem} (pc' : Nat) (hM : sk_M l dp μ' [a0, a1, a2] (sk_mm d) (some (.inl x)) h') (hd : decode μ.2.1 pc = .ok (.invokestatic idx, 3)) (hp : pc + 3 = pc') (hk : sk_lkN μ.1.cls idx "SkiSchool" μ' 3) (hz : μ'.2.2.2.2 = (0, 0)) (hr : sk_rmok dp μ' R 0 0) (h8 : sk_cat8 st ≤ 8)
    (kk : sk_G l R μ Ex Z 0 0 pc' ls (.inl x :: st) h') : sk_G l R μ Ex Z 0 0 pc ls (a2 :: a1 :: a0 :: st) (sk_mm d) := by
  refine sg_callN (as := [a0, a1, a2]) pc' hM hd hp hk rfl hr h8 ?_
  rw [hz]
  exact kk
theorem sm_callV3l {μ' : sk_MI} {dp idx s k ci : Nat} {a0 a1 a2 : sk_AV} {x : Int64} {h' : sk_Mem} (pc' : Nat) (hM : sk_M l dp μ' [.inr (.inr (some (s, k))), a0, a1, a2] (sk_mm d) (some (.inr (.inl x))) h') (hd : decode μ.2.1 pc = .ok (.invokevirtual idx, 3)) (hp : pc + 3 = pc') (hk : sk_lkV μ.1.cls idx μ' 3) (hz : μ'.2.2.2.2 = (0, 0)) (hs : sk_shp s = .inl ci) (hci : (vwCl[ci]?).map (fun q => q.1) = some μ'.1.cls) (hl : k < sk_cnt s) (hr : sk_rmok dp μ' R 0 0) (h8 : sk_cat8 st ≤ 8)
    (kk : sk_G l R μ Ex Z 0 0 pc' ls (.inr (.inl x) :: st) h') : sk_G l R μ Ex Z 0 0 pc ls (a2 :: a1 :: a0 :: .inr (.inr (some (s, k))) :: st) (sk_mm d) := by
  refine sg_callV (as := [a0, a1, a2]) pc' hM hd hp hk rfl hs hci (sk_lvm hl) hr h8 ?_
  rw [hz]
  exact kk
theorem sm_callS3l {μ' : sk_MI} {dp idx : Nat} {a0 a1 a2 : sk_AV} {x : Int64} {h' : sk_Mem} (pc' : Nat) (hM : sk_M l dp μ' [a0, a1, a2] (sk_mm d) (some (.inr (.inl x))) h') (hd : decode μ.2.1 pc = .ok (.invokestatic idx, 3)) (hp : pc + 3 = pc') (hk : sk_lkS μ.1.cls idx μ' 3) (hz : μ'.2.2.2.2 = (0, 0)) (hr : sk_rmok dp μ' R 0 0) (h8 : sk_cat8 st ≤ 8)
    (kk : sk_G l R μ Ex Z 0 0 pc' ls (.inr (.inl x) :: st) h') : sk_G l R μ Ex Z 0 0 pc ls (a2 :: a1 :: a0 :: st) (sk_mm d) := by
  refine sg_callS (as := [a0, a1, a2]) pc' hM hd hp hk rfl hr h8 ?_
  rw [hz]
  exact kk
theorem sm_callN3l {μ' : sk_MI} {dp idx : Nat} {a0 a1 a2 : sk_AV} {x : Int64} {h' : sk_Mem} (pc' : Nat) (hM : sk_M l dp μ' [a0, a1, a2] (sk_mm d) (some (.inr (.inl x))) h') (hd : decode μ.2.1 pc = .ok (.invokestatic idx, 3)) (hp : pc + 3 = pc') (hk : sk_lkN μ.1.cls idx "SkiSchool" μ' 3) (hz : μ'.2.2.2.2 = (0, 0)) (hr : sk_rmok dp μ' R 0 0) (h8 : sk_cat8 st ≤ 8)
    (kk : sk_G l R μ Ex Z 0 0 pc' ls (.inr (.inl x) :: st) h') : sk_G l R μ Ex Z 0 0 pc ls (a2 :: a1 :: a0 :: st) (sk_mm d) := by
  refine sg_callN (as := [a0, a1, a2]) pc' hM hd hp hk rfl hr h8 ?_
  rw [hz]
  exact kk
theorem sm_callV3v {μ' : sk_MI} {dp idx s k ci : Nat} {a0 a1 a2 : sk_AV} {h' : sk_Mem} (pc' : Nat) (hM : sk_M l dp μ' [.inr (.inr (some (s, k))), a0, a1, a2] (sk_mm d) none h') (hd : decode μ.2.1 pc = .ok (.invokevirtual idx, 3)) (hp : pc + 3 = pc') (hk : sk_lkV μ.1.cls idx μ' 3) (hz : μ'.2.2.2.2 = (0, 0)) (hs : sk_shp s = .inl ci) (hci : (vwCl[ci]?).map (fun q => q.1) = some μ'.1.cls) (hl : k < sk_cnt s) (hr : sk_rmok dp μ' R 0 0) (h8 : sk_cat8 st ≤ 8)
    (kk : sk_G l R μ Ex Z 0 0 pc' ls (st) h') : sk_G l R μ Ex Z 0 0 pc ls (a2 :: a1 :: a0 :: .inr (.inr (some (s, k))) :: st) (sk_mm d) := by
  refine sg_callV (as := [a0, a1, a2]) pc' hM hd hp hk rfl hs hci (sk_lvm hl) hr h8 ?_
  rw [hz]
  exact kk
theorem sm_callS3v {μ' : sk_MI} {dp idx : Nat} {a0 a1 a2 : sk_AV} {h' : sk_Mem} (pc' : Nat) (hM : sk_M l dp μ' [a0, a1, a2] (sk_mm d) none h') (hd : decode μ.2.1 pc = .ok (.invokestatic idx, 3)) (hp : pc + 3 = pc') (hk : sk_lkS μ.1.cls idx μ' 3) (hz : μ'.2.2.2.2 = (0, 0)) (hr : sk_rmok dp μ' R 0 0) (h8 : sk_cat8 st ≤ 8)
    (kk : sk_G l R μ Ex Z 0 0 pc' ls (st) h') : sk_G l R μ Ex Z 0 0 pc ls (a2 :: a1 :: a0 :: st) (sk_mm d) := by
  refine sg_callS (as := [a0, a1, a2]) pc' hM hd hp hk rfl hr h8 ?_
  rw [hz]
  exact kk
theorem sm_callN3v {μ' : sk_MI} {dp idx : Nat} {a0 a1 a2 : sk_AV} {h' : sk_Mem} (pc' : Nat) (hM : sk_M l dp μ' [a0, a1, a2] (sk_mm d) none h') (hd : decode μ.2.1 pc = .ok (.invokestatic idx, 3)) (hp : pc + 3 = pc') (hk : sk_lkN μ.1.cls idx "SkiSchool" μ' 3) (hz : μ'.2.2.2.2 = (0, 0)) (hr : sk_rmok dp μ' R 0 0) (h8 : sk_cat8 st ≤ 8)
    (kk : sk_G l R μ Ex Z 0 0 pc' ls (st) h') : sk_G l R μ Ex Z 0 0 pc ls (a2 :: a1 :: a0 :: st) (sk_mm d) := by
  refine sg_callN (as := [a0, a1, a2]) pc' hM hd hp hk rfl hr h8 ?_
  rw [hz]
  exact kk
theorem sm_callV4i {μ' : sk_MI} {dp idx s k ci : Nat} {a0 a1 a2 a3 : sk_AV} {x : Int32} {h' : sk_Mem} (pc' : Nat) (hM : sk_M l dp μ' [.inr (.inr (some (s, k))), a0, a1, a2, a3] (sk_mm d) (some (.inl x)) h') (hd : decode μ.2.1 pc = .ok (.invokevirtual idx, 3)) (hp : pc + 3 = pc') (hk : sk_lkV μ.1.cls idx μ' 4) (hz : μ'.2.2.2.2 = (0, 0)) (hs : sk_shp s = .inl ci) (hci : (vwCl[ci]?).map (fun q => q.1) = some μ'.1.cls) (hl : k < sk_cnt s) (hr : sk_rmok dp μ' R 0 0) (h8 : sk_cat8 st ≤ 8)
    (kk : sk_G l R μ Ex Z 0 0 pc' ls (.inl x :: st) h') : sk_G l R μ Ex Z 0 0 pc ls (a3 :: a2 :: a1 :: a0 :: .inr (.inr (some (s, k))) :: st) (sk_mm d) := by
  refine sg_callV (as := [a0, a1, a2, a3]) pc' hM hd hp hk rfl hs hci (sk_lvm hl) hr h8 ?_
  rw [hz]
  exact kk
theorem sm_callS4i {μ' : sk_MI} {dp idx : Nat} {a0 a1 a2 a3 : sk_AV} {x : Int32} {h' : sk_Mem} (pc' : Nat) (hM : sk_M l dp μ' [a0, a1, a2, a3] (sk_mm d) (some (.inl x)) h') (hd : decode μ.2.1 pc = .ok (.invokestatic idx, 3)) (hp : pc + 3 = pc') (hk : sk_lkS μ.1.cls idx μ' 4) (hz : μ'.2.2.2.2 = (0, 0)) (hr : sk_rmok dp μ' R 0 0) (h8 : sk_cat8 st ≤ 8)
    (kk : sk_G l R μ Ex Z 0 0 pc' ls (.inl x :: st) h') : sk_G l R μ Ex Z 0 0 pc ls (a3 :: a2 :: a1 :: a0 :: st) (sk_mm d) := by
  refine sg_callS (as := [a0, a1, a2, a3]) pc' hM hd hp hk rfl hr h8 ?_
  rw [hz]
  exact kk
theorem sm_callN4i {μ' : sk_MI} {dp idx : Nat} {a0 a1 a2 a3 : sk_AV} {x : Int32} {h' : sk_Mem} (pc' : Nat) (hM : sk_M l dp μ' [a0, a1, a2, a3] (sk_mm d) (some (.inl x)) h') (hd : decode μ.2.1 pc = .ok (.invokestatic idx, 3)) (hp : pc + 3 = pc') (hk : sk_lkN μ.1.cls idx "SkiSchool" μ' 4) (hz : μ'.2.2.2.2 = (0, 0)) (hr : sk_rmok dp μ' R 0 0) (h8 : sk_cat8 st ≤ 8)
    (kk : sk_G l R μ Ex Z 0 0 pc' ls (.inl x :: st) h') : sk_G l R μ Ex Z 0 0 pc ls (a3 :: a2 :: a1 :: a0 :: st) (sk_mm d) := by
  refine sg_callN (as := [a0, a1, a2, a3]) pc' hM hd hp hk rfl hr h8 ?_
  rw [hz]
  exact kk
theorem sm_callV4l {μ' : sk_MI} {dp idx s k ci : Nat} {a0 a1 a2 a3 : sk_AV} {x : Int64} {h' : sk_Mem} (pc' : Nat) (hM : sk_M l dp μ' [.inr (.inr (some (s, k))), a0, a1, a2, a3] (sk_mm d) (some (.inr (.inl x))) h') (hd : decode μ.2.1 pc = .ok (.invokevirtual idx, 3)) (hp : pc + 3 = pc') (hk : sk_lkV μ.1.cls idx μ' 4) (hz : μ'.2.2.2.2 = (0, 0)) (hs : sk_shp s = .inl ci) (hci : (vwCl[ci]?).map (fun q => q.1) = some μ'.1.cls) (hl : k < sk_cnt s) (hr : sk_rmok dp μ' R 0 0) (h8 : sk_cat8 st ≤ 8)
    (kk : sk_G l R μ Ex Z 0 0 pc' ls (.inr (.inl x) :: st) h') : sk_G l R μ Ex Z 0 0 pc ls (a3 :: a2 :: a1 :: a0 :: .inr (.inr (some (s, k))) :: st) (sk_mm d) := by
  refine sg_callV (as := [a0, a1, a2, a3]) pc' hM hd hp hk rfl hs hci (sk_lvm hl) hr h8 ?_
  rw [hz]
  exact kk
theorem sm_callS4l {μ' : sk_MI} {dp idx : Nat} {a0 a1 a2 a3 : sk_AV} {x : Int64} {h' : sk_Mem} (pc' : Nat) (hM : sk_M l dp μ' [a0, a1, a2, a3] (sk_mm d) (some (.inr (.inl x))) h') (hd : decode μ.2.1 pc = .ok (.invokestatic idx, 3)) (hp : pc + 3 = pc') (hk : sk_lkS μ.1.cls idx μ' 4) (hz : μ'.2.2.2.2 = (0, 0)) (hr : sk_rmok dp μ' R 0 0) (h8 : sk_cat8 st ≤ 8)
    (kk : sk_G l R μ Ex Z 0 0 pc' ls (.inr (.inl x) :: st) h') : sk_G l R μ Ex Z 0 0 pc ls (a3 :: a2 :: a1 :: a0 :: st) (sk_mm d) := by
  refine sg_callS (as := [a0, a1, a2, a3]) pc' hM hd hp hk rfl hr h8 ?_
  rw [hz]
  exact kk
theorem sm_callN4l {μ' : sk_MI} {dp idx : Nat} {a0 a1 a2 a3 : sk_AV} {x : Int64} {h' : sk_Mem} (pc' : Nat) (hM : sk_M l dp μ' [a0, a1, a2, a3] (sk_mm d) (some (.inr (.inl x))) h') (hd : decode μ.2.1 pc = .ok (.invokestatic idx, 3)) (hp : pc + 3 = pc') (hk : sk_lkN μ.1.cls idx "SkiSchool" μ' 4) (hz : μ'.2.2.2.2 = (0, 0)) (hr : sk_rmok dp μ' R 0 0) (h8 : sk_cat8 st ≤ 8)
    (kk : sk_G l R μ Ex Z 0 0 pc' ls (.inr (.inl x) :: st) h') : sk_G l R μ Ex Z 0 0 pc ls (a3 :: a2 :: a1 :: a0 :: st) (sk_mm d) := by
  refine sg_callN (as := [a0, a1, a2, a3]) pc' hM hd hp hk rfl hr h8 ?_
  rw [hz]
  exact kk
theorem sm_callV4v {μ' : sk_MI} {dp idx s k ci : Nat} {a0 a1 a2 a3 : sk_AV} {h' : sk_Mem} (pc' : Nat) (hM : sk_M l dp μ' [.inr (.inr (some (s, k))), a0, a1, a2, a3] (sk_mm d) none h') (hd : decode μ.2.1 pc = .ok (.invokevirtual idx, 3)) (hp : pc + 3 = pc') (hk : sk_lkV μ.1.cls idx μ' 4) (hz : μ'.2.2.2.2 = (0, 0)) (hs : sk_shp s = .inl ci) (hci : (vwCl[ci]?).map (fun q => q.1) = some μ'.1.cls) (hl : k < sk_cnt s) (hr : sk_rmok dp μ' R 0 0) (h8 : sk_cat8 st ≤ 8)
    (kk : sk_G l R μ Ex Z 0 0 pc' ls (st) h') : sk_G l R μ Ex Z 0 0 pc ls (a3 :: a2 :: a1 :: a0 :: .inr (.inr (some (s, k))) :: st) (sk_mm d) := by
  refine sg_callV (as := [a0, a1, a2, a3]) pc' hM hd hp hk rfl hs hci (sk_lvm hl) hr h8 ?_
  rw [hz]
  exact kk
theorem sm_callS4v {μ' : sk_MI} {dp idx : Nat} {a0 a1 a2 a3 : sk_AV} {h' : sk_Mem} (pc' : Nat) (hM : sk_M l dp μ' [a0, a1, a2, a3] (sk_mm d) none h') (hd : decode μ.2.1 pc = .ok (.invokestatic idx, 3)) (hp : pc + 3 = pc') (hk : sk_lkS μ.1.cls idx μ' 4) (hz : μ'.2.2.2.2 = (0, 0)) (hr : sk_rmok dp μ' R 0 0) (h8 : sk_cat8 st ≤ 8)
    (kk : sk_G l R μ Ex Z 0 0 pc' ls (st) h') : sk_G l R μ Ex Z 0 0 pc ls (a3 :: a2 :: a1 :: a0 :: st) (sk_mm d) := by
  refine sg_callS (as := [a0, a1, a2, a3]) pc' hM hd hp hk rfl hr h8 ?_
  rw [hz]
  exact kk
theorem sm_callN4v {μ' : sk_MI} {dp idx : Nat} {a0 a1 a2 a3 : sk_AV} {h' : sk_Mem} (pc' : Nat) (hM : sk_M l dp μ' [a0, a1, a2, a3] (sk_mm d) none h') (hd : decode μ.2.1 pc = .ok (.invokestatic idx, 3)) (hp : pc + 3 = pc') (hk : sk_lkN μ.1.cls idx "SkiSchool" μ' 4) (hz : μ'.2.2.2.2 = (0, 0)) (hr : sk_rmok dp μ' R 0 0) (h8 : sk_cat8 st ≤ 8)
    (kk : sk_G l R μ Ex Z 0 0 pc' ls (st) h') : sk_G l R μ Ex Z 0 0 pc ls (a3 :: a2 :: a1 :: a0 :: st) (sk_mm d) := by
  refine sg_callN (as := [a0, a1, a2, a3]) pc' hM hd hp hk rfl hr h8 ?_
  rw [hz]
  exact kk
theorem sm_callV5i {μ' : sk_MI} {dp idx s k ci : Nat} {a0 a1 a2 a3 a4 : sk_AV} {x : Int32} {h' : sk_Mem} (pc' : Nat) (hM : sk_M l dp μ' [.inr (.inr (some (s, k))), a0, a1, a2, a3, a4] (sk_mm d) (some (.inl x)) h') (hd : decode μ.2.1 pc = .ok (.invokevirtual idx, 3)) (hp : pc + 3 = pc') (hk : sk_lkV μ.1.cls idx μ' 5) (hz : μ'.2.2.2.2 = (0, 0)) (hs : sk_shp s = .inl ci) (hci : (vwCl[ci]?).map (fun q => q.1) = some μ'.1.cls) (hl : k < sk_cnt s) (hr : sk_rmok dp μ' R 0 0) (h8 : sk_cat8 st ≤ 8)
    (kk : sk_G l R μ Ex Z 0 0 pc' ls (.inl x :: st) h') : sk_G l R μ Ex Z 0 0 pc ls (a4 :: a3 :: a2 :: a1 :: a0 :: .inr (.inr (some (s, k))) :: st) (sk_mm d) := by
  refine sg_callV (as := [a0, a1, a2, a3, a4]) pc' hM hd hp hk rfl hs hci (sk_lvm hl) hr h8 ?_
  rw [hz]
  exact kk
theorem sm_callS5i {μ' : sk_MI} {dp idx : Nat} {a0 a1 a2 a3 a4 : sk_AV} {x : Int32} {h' : sk_Mem} (pc' : Nat) (hM : sk_M l dp μ' [a0, a1, a2, a3, a4] (sk_mm d) (some (.inl x)) h') (hd : decode μ.2.1 pc = .ok (.invokestatic idx, 3)) (hp : pc + 3 = pc') (hk : sk_lkS μ.1.cls idx μ' 5) (hz : μ'.2.2.2.2 = (0, 0)) (hr : sk_rmok dp μ' R 0 0) (h8 : sk_cat8 st ≤ 8)
    (kk : sk_G l R μ Ex Z 0 0 pc' ls (.inl x :: st) h') : sk_G l R μ Ex Z 0 0 pc ls (a4 :: a3 :: a2 :: a1 :: a0 :: st) (sk_mm d) := by
  refine sg_callS (as := [a0, a1, a2, a3, a4]) pc' hM hd hp hk rfl hr h8 ?_
  rw [hz]
  exact kk
theorem sm_callN5i {μ' : sk_MI} {dp idx : Nat} {a0 a1 a2 a3 a4 : sk_AV} {x : Int32} {h' : sk_Mem} (pc' : Nat) (hM : sk_M l dp μ' [a0, a1, a2, a3, a4] (sk_mm d) (some (.inl x)) h') (hd : decode μ.2.1 pc = .ok (.invokestatic idx, 3)) (hp : pc + 3 = pc') (hk : sk_lkN μ.1.cls idx "SkiSchool" μ' 5) (hz : μ'.2.2.2.2 = (0, 0)) (hr : sk_rmok dp μ' R 0 0) (h8 : sk_cat8 st ≤ 8)
    (kk : sk_G l R μ Ex Z 0 0 pc' ls (.inl x :: st) h') : sk_G l R μ Ex Z 0 0 pc ls (a4 :: a3 :: a2 :: a1 :: a0 :: st) (sk_mm d) := by
  refine sg_callN (as := [a0, a1, a2, a3, a4]) pc' hM hd hp hk rfl hr h8 ?_
  rw [hz]
  exact kk
theorem sm_callV5l {μ' : sk_MI} {dp idx s k ci : Nat} {a0 a1 a2 a3 a4 : sk_AV} {x : Int64} {h' : sk_Mem} (pc' : Nat) (hM : sk_M l dp μ' [.inr (.inr (some (s, k))), a0, a1, a2, a3, a4] (sk_mm d) (some (.inr (.inl x))) h') (hd : decode μ.2.1 pc = .ok (.invokevirtual idx, 3)) (hp : pc + 3 = pc') (hk : sk_lkV μ.1.cls idx μ' 5) (hz : μ'.2.2.2.2 = (0, 0)) (hs : sk_shp s = .inl ci) (hci : (vwCl[ci]?).map (fun q => q.1) = some μ'.1.cls) (hl : k < sk_cnt s) (hr : sk_rmok dp μ' R 0 0) (h8 : sk_cat8 st ≤ 8)
    (kk : sk_G l R μ Ex Z 0 0 pc' ls (.inr (.inl x) :: st) h') : sk_G l R μ Ex Z 0 0 pc ls (a4 :: a3 :: a2 :: a1 :: a0 :: .inr (.inr (some (s, k))) :: st) (sk_mm d) := by
  refine sg_callV (as := [a0, a1, a2, a3, a4]) pc' hM hd hp hk rfl hs hci (sk_lvm hl) hr h8 ?_
  rw [hz]
  exact kk
theorem sm_callS5l {μ' : sk_MI} {dp idx : Nat} {a0 a1 a2 a3 a4 : sk_AV} {x : Int64} {h' : sk_Mem} (pc' : Nat) (hM : sk_M l dp μ' [a0, a1, a2, a3, a4] (sk_mm d) (some (.inr (.inl x))) h') (hd : decode μ.2.1 pc = .ok (.invokestatic idx, 3)) (hp : pc + 3 = pc') (hk : sk_lkS μ.1.cls idx μ' 5) (hz : μ'.2.2.2.2 = (0, 0)) (hr : sk_rmok dp μ' R 0 0) (h8 : sk_cat8 st ≤ 8)
    (kk : sk_G l R μ Ex Z 0 0 pc' ls (.inr (.inl x) :: st) h') : sk_G l R μ Ex Z 0 0 pc ls (a4 :: a3 :: a2 :: a1 :: a0 :: st) (sk_mm d) := by
  refine sg_callS (as := [a0, a1, a2, a3, a4]) pc' hM hd hp hk rfl hr h8 ?_
  rw [hz]
  exact kk
theorem sm_callN5l {μ' : sk_MI} {dp idx : Nat} {a0 a1 a2 a3 a4 : sk_AV} {x : Int64} {h' : sk_Mem} (pc' : Nat) (hM : sk_M l dp μ' [a0, a1, a2, a3, a4] (sk_mm d) (some (.inr (.inl x))) h') (hd : decode μ.2.1 pc = .ok (.invokestatic idx, 3)) (hp : pc + 3 = pc') (hk : sk_lkN μ.1.cls idx "SkiSchool" μ' 5) (hz : μ'.2.2.2.2 = (0, 0)) (hr : sk_rmok dp μ' R 0 0) (h8 : sk_cat8 st ≤ 8)
    (kk : sk_G l R μ Ex Z 0 0 pc' ls (.inr (.inl x) :: st) h') : sk_G l R μ Ex Z 0 0 pc ls (a4 :: a3 :: a2 :: a1 :: a0 :: st) (sk_mm d) := by
  refine sg_callN (as := [a0, a1, a2, a3, a4]) pc' hM hd hp hk rfl hr h8 ?_
  rw [hz]
  exact kk
theorem sm_callV5v {μ' : sk_MI} {dp idx s k ci : Nat} {a0 a1 a2 a3 a4 : sk_AV} {h' : sk_Mem} (pc' : Nat) (hM : sk_M l dp μ' [.inr (.inr (some (s, k))), a0, a1, a2, a3, a4] (sk_mm d) none h') (hd : decode μ.2.1 pc = .ok (.invokevirtual idx, 3)) (hp : pc + 3 = pc') (hk : sk_lkV μ.1.cls idx μ' 5) (hz : μ'.2.2.2.2 = (0, 0)) (hs : sk_shp s = .inl ci) (hci : (vwCl[ci]?).map (fun q => q.1) = some μ'.1.cls) (hl : k < sk_cnt s) (hr : sk_rmok dp μ' R 0 0) (h8 : sk_cat8 st ≤ 8)
    (kk : sk_G l R μ Ex Z 0 0 pc' ls (st) h') : sk_G l R μ Ex Z 0 0 pc ls (a4 :: a3 :: a2 :: a1 :: a0 :: .inr (.inr (some (s, k))) :: st) (sk_mm d) := by
  refine sg_callV (as := [a0, a1, a2, a3, a4]) pc' hM hd hp hk rfl hs hci (sk_lvm hl) hr h8 ?_
  rw [hz]
  exact kk
theorem sm_callS5v {μ' : sk_MI} {dp idx : Nat} {a0 a1 a2 a3 a4 : sk_AV} {h' : sk_Mem} (pc' : Nat) (hM : sk_M l dp μ' [a0, a1, a2, a3, a4] (sk_mm d) none h') (hd : decode μ.2.1 pc = .ok (.invokestatic idx, 3)) (hp : pc + 3 = pc') (hk : sk_lkS μ.1.cls idx μ' 5) (hz : μ'.2.2.2.2 = (0, 0)) (hr : sk_rmok dp μ' R 0 0) (h8 : sk_cat8 st ≤ 8)
    (kk : sk_G l R μ Ex Z 0 0 pc' ls (st) h') : sk_G l R μ Ex Z 0 0 pc ls (a4 :: a3 :: a2 :: a1 :: a0 :: st) (sk_mm d) := by
  refine sg_callS (as := [a0, a1, a2, a3, a4]) pc' hM hd hp hk rfl hr h8 ?_
  rw [hz]
  exact kk
theorem sm_callN5v {μ' : sk_MI} {dp idx : Nat} {a0 a1 a2 a3 a4 : sk_AV} {h' : sk_Mem} (pc' : Nat) (hM : sk_M l dp μ' [a0, a1, a2, a3, a4] (sk_mm d) none h') (hd : decode μ.2.1 pc = .ok (.invokestatic idx, 3)) (hp : pc + 3 = pc') (hk : sk_lkN μ.1.cls idx "SkiSchool" μ' 5) (hz : μ'.2.2.2.2 = (0, 0)) (hr : sk_rmok dp μ' R 0 0) (h8 : sk_cat8 st ≤ 8)
    (kk : sk_G l R μ Ex Z 0 0 pc' ls (st) h') : sk_G l R μ Ex Z 0 0 pc ls (a4 :: a3 :: a2 :: a1 :: a0 :: st) (sk_mm d) := by
  refine sg_callN (as := [a0, a1, a2, a3, a4]) pc' hM hd hp hk rfl hr h8 ?_
  rw [hz]
  exact kk
theorem sm_min {idx : Nat} {x y : Int32} (pc' : Nat) (hd : decode μ.2.1 pc = .ok (.invokestatic idx, 3)) (hp : pc + 3 = pc') (hk : sk_lkM μ.1.cls idx Lib.Math.min.name Lib.Math.min.code 2) (hR1 : 1 ≤ R.frames) (hR2 : 40 ≤ R.locals) (h8 : sk_cat8 st ≤ 8)
    (kk : sk_G l R μ Ex Z 0 0 pc' ls (.inl (if y < x then y else x) :: st) (sk_mm d)) : sk_G l R μ Ex Z 0 0 pc ls (.inl y :: .inl x :: st) (sk_mm d) := by
  subst hp
  intro p e s0 m args below meth c H locs bb D kc la hH hE hR hS hB hL
  have hts := hH.2.2.2.2.2.1
  refine va_mmin hH.1 hH.2.1 (hH.2.2.2.1.trans hL.1.symm) hH.2.2.2.2.1 (hts _ hk.1) (hts _ hk.2.1) (hts _ hk.2.2.1) (hts _ hk.2.2.2) hR1 ?_ (Nat.zero_le _) (Nat.zero_le _) hd (kk p e s0 m args below meth c H locs bb D kc la hH hE hR hS hB hL)
  rw [sk_cat8_eq]
  omega
theorem sm_max {idx : Nat} {x y : Int32} (pc' : Nat) (hd : decode μ.2.1 pc = .ok (.invokestatic idx, 3)) (hp : pc + 3 = pc') (hk : sk_lkM μ.1.cls idx Lib.Math.max.name Lib.Math.max.code 2) (hR1 : 1 ≤ R.frames) (hR2 : 40 ≤ R.locals) (h8 : sk_cat8 st ≤ 8)
    (kk : sk_G l R μ Ex Z 0 0 pc' ls (.inl (if x < y then y else x) :: st) (sk_mm d)) : sk_G l R μ Ex Z 0 0 pc ls (.inl y :: .inl x :: st) (sk_mm d) := by
  subst hp
  intro p e s0 m args below meth c H locs bb D kc la hH hE hR hS hB hL
  have hts := hH.2.2.2.2.2.1
  refine va_mmax hH.1 hH.2.1 (hH.2.2.2.1.trans hL.1.symm) hH.2.2.2.2.1 (hts _ hk.1) (hts _ hk.2.1) (hts _ hk.2.2.1) (hts _ hk.2.2.2) hR1 ?_ (Nat.zero_le _) (Nat.zero_le _) hd (kk p e s0 m args below meth c H locs bb D kc la hH hE hR hS hB hL)
  rw [sk_cat8_eq]
  omega
theorem sm_abs {idx : Nat} {x : Int32} (pc' : Nat) (hd : decode μ.2.1 pc = .ok (.invokestatic idx, 3)) (hp : pc + 3 = pc') (hk : sk_lkM μ.1.cls idx Lib.Math.abs.name Lib.Math.abs.code 1) (hR1 : 1 ≤ R.frames) (hR2 : 40 ≤ R.locals) (h8 : sk_cat8 st ≤ 8)
    (kk : sk_G l R μ Ex Z 0 0 pc' ls (.inl (if 0 ≤ x then x else 0 - x) :: st) (sk_mm d)) : sk_G l R μ Ex Z 0 0 pc ls (.inl x :: st) (sk_mm d) := by
  subst hp
  intro p e s0 m args below meth c H locs bb D kc la hH hE hR hS hB hL
  have hts := hH.2.2.2.2.2.1
  refine va_mabs hH.1 hH.2.1 (hH.2.2.2.1.trans hL.1.symm) hH.2.2.2.2.1 (hts _ hk.1) (hts _ hk.2.1) (hts _ hk.2.2.1) (hts _ hk.2.2.2) hR1 ?_ (Nat.zero_le _) (Nat.zero_le _) hd (kk p e s0 m args below meth c H locs bb D kc la hH hE hR hS hB hL)
  rw [sk_cat8_eq]
  omega
theorem sk_wk (ms : List Bool) {ls' : List (Option sk_AV)} (hm : sk_msk ms ls = ls') (k : sk_G l R μ Ex Z 0 0 pc ls' st (sk_mm d)) : sk_G l R μ Ex Z 0 0 pc ls st (sk_mm d) := by
  subst hm
  intro p e s0 m args below meth c H locs bb D kc la hH hE hR hS hB hL
  exact k p e s0 m args below meth c H locs bb D kc la hH hE hR hS hB ⟨hL.1, hL.2.1, by rw [sk_msk_len]; exact hL.2.2.1, fun i v hi => hL.2.2.2 i v (sk_msk_get ms ls i v hi)⟩
end SMC
def m_J7_fill_53178 : sk_MI := (yJ7_fill_53178, cJ7_fill_53178, 4, none, 0, 0)
def tb_fill : List (Nat × Instr × Nat) := [(0, .iconst 0, 1), (1, .istore_n 2, 1), (2, .aload_n 0, 1), (3, .arraylength, 1), (4, .istore_n 3, 1), (5, .iload_n 2, 1), (6, .iload_n 3, 1), (7, .if_icmp .ge 13, 3), (10, .aload_n 0, 1), (11, .iload_n 2, 1), (12, .iload_n 1, 1), (13, .iastore, 1), (14, .iinc 2 1, 3), (17, .goto (-12), 3), (20, .return_, 1)]
theorem o_fill : tb_fill.all (fun q => decide (decode cJ7_fill_53178 q.1 = .ok q.2)) = true := by decide +kernel
theorem sk_fi_0 {d : sk_D} {s k : Nat} {v : Int32} : sk_fi d s k 0 v = d := by
  unfold sk_fi sk_wf
  refine Prod.ext ?_ rfl
  funext s' k'
  by_cases h : s' = s ∧ k' = k
  · obtain ⟨rfl, rfl⟩ := h
    funext j
    simp
  · simp [h]
theorem sk_fi_s {d : sk_D} {s k i : Nat} {v : Int32} : sk_wi (sk_fi d s k i v) s k i v = sk_fi d s k (i + 1) v := by
  unfold sk_fi sk_wf sk_wi sk_up
  refine Prod.ext ?_ rfl
  funext s' k' j
  by_cases h : s' = s ∧ k' = k
  · obtain ⟨rfl, rfl⟩ := h
    by_cases h2 : j = i
    · subst h2
      simp
    · by_cases h3 : j < i
      · simp [h2, h3, Nat.lt_succ_of_lt h3]
      · simp [h2, h3, show ¬ j < i + 1 by omega]
  · have h4 : ¬ (s' = s ∧ k' = k ∧ j = i) := fun q => h ⟨q.1, q.2.1⟩
    simp [h, h4]
set_option maxRecDepth 100000 in
set_option maxHeartbeats 4000000 in
theorem t_fill_5 {l : Launch} {d : sk_D} {s k n : Nat} {v : Int32} (hs : sk_shp s = .inr (0, n)) (hk : k < sk_cnt s) (hn : n < 2 ^ 31) : ∀ (m i : Nat), i + m = n →
    sk_G l (sk_rm 1 0 0) m_J7_fill_53178 sk_Ex0 (sk_Zm m_J7_fill_53178 none (sk_mm (sk_fi d s k n v))) 0 0 5 [some (.inr (.inr (some (s, k)))), some (.inl v), some (.inl (nI i)), some (.inl (nI n))] [] (sk_mm (sk_fi d s k i v))
  | 0, i, h => by
    have e : i = n := by omega
    subst e
    refine sg_iload_n 6 (sk_td o_fill 5 rfl) rfl rfl ?_
    refine sg_iload_n 7 (sk_td o_fill 6 rfl) rfl rfl ?_
    refine sg_ic_ge 20 10 (sk_td o_fill 7 rfl) (by decide) rfl (fun hc => ?_) (fun hc => ?_)
    · exact sg_vret (sk_td o_fill 14 rfl) rfl
    · exact absurd (nI_le (Nat.le_refl i) hn) hc
  | m + 1, i, h => by
    have hin : i < n := by omega
    refine sg_iload_n 6 (sk_td o_fill 5 rfl) rfl rfl ?_
    refine sg_iload_n 7 (sk_td o_fill 6 rfl) rfl rfl ?_
    refine sg_ic_ge 20 10 (sk_td o_fill 7 rfl) (by decide) rfl (fun hc => ?_) (fun hc => ?_)
    · exact absurd hc (nI_ge hin hn)
    · refine sg_aload_n 11 (sk_td o_fill 8 rfl) rfl rfl ?_
      refine sg_iload_n 12 (sk_td o_fill 9 rfl) rfl rfl ?_
      refine sg_iload_n 13 (sk_td o_fill 10 rfl) rfl rfl ?_
      have hb : sk_bi (nI i) n = true := by
        unfold sk_bi
        exact decide_eq_true (vp_in_nI hin hn)
      refine sm_iast 14 (sk_td o_fill 11 rfl) rfl hs hk hb ?_
      rw [nI_clamp (by omega), sk_fi_s]
      refine sg_iinc (nI (i + 1)) 17 [some (.inr (.inr (some (s, k)))), some (.inl v), some (.inl (nI (i + 1))), some (.inl (nI n))] (sk_td o_fill 12 rfl) rfl rfl (nI_1 i) rfl (Nat.le_of_ble_eq_true rfl) rfl ?_
      refine sg_goto 5 (sk_td o_fill 13 rfl) (by decide) ?_
      exact t_fill_5 hs hk hn m (i + 1) (by omega)
set_option maxRecDepth 100000 in
set_option maxHeartbeats 4000000 in
theorem s_J7_fill_53178 {l : Launch} {d : sk_D} {s k n : Nat} {v : Int32} (hs : sk_shp s = .inr (0, n)) (hk : k < sk_cnt s) (hn : n < 2 ^ 31) : sk_M l 1 m_J7_fill_53178 [.inr (.inr (some (s, k))), .inl v] (sk_mm d) none (sk_mm (sk_fi d s k n v)) := by
  refine sk_enter (by decide) (fun _ => Nat.le_of_ble_eq_true rfl) (Nat.le_of_ble_eq_true rfl) ?_
  show sk_G l (sk_rm 1 0 0) m_J7_fill_53178 sk_Ex0 (sk_Zm m_J7_fill_53178 none (sk_mm (sk_fi d s k n v))) 0 0 0 [some (.inr (.inr (some (s, k)))), some (.inl v), none, none] [] (sk_mm d)
  refine sg_iconst (v := (0 : Int32)) 1 (sk_td o_fill 0 rfl) rfl (by decide) ?_
  refine sg_istore_n 2 [some (.inr (.inr (some (s, k)))), some (.inl v), some (.inl 0), none] (sk_td o_fill 1 rfl) rfl rfl (Nat.le_of_ble_eq_true rfl) rfl ?_
  refine sg_aload_n 3 (sk_td o_fill 2 rfl) rfl rfl ?_
  refine sm_alen (nI n) 4 (sk_td o_fill 3 rfl) rfl hs (by decide) hk rfl ?_
  refine sg_istore_n 5 [some (.inr (.inr (some (s, k)))), some (.inl v), some (.inl 0), some (.inl (nI n))] (sk_td o_fill 4 rfl) rfl rfl (Nat.le_of_ble_eq_true rfl) rfl ?_
  have h := t_fill_5 (l := l) (d := d) (v := v) hs hk hn n 0 (by omega)
  rw [sk_fi_0] at h
  exact h
end
section
/-! the methods, their code, and what the tables say of each link *** by program (wip/whole/gen/genall.py) -/
def m_X0_begin : sk_MI := (yX0_begin, cX0_begin, 4, none, 0, 0)
def tb_X0_begin : List (Nat × Instr × Nat) := [(0, .aload_n 0, 1), (1, .iconst 1, 1), (2, .putfield 9, 3), (5, .aload_n 0, 1), (6, .iload_n 1, 1), (7, .putfield 15, 3), (10, .aload_n 0, 1), (11, .iload_n 2, 1), (12, .putfield 19, 3), (15, .aload_n 0, 1), (16, .iload_n 3, 1), (17, .putfield 22, 3), (20, .aload_n 0, 1), (21, .bipush (-9), 2), (23, .putfield 25, 3), (26, .aload_n 0, 1), (27, .iconst 0, 1), (28, .putfield 28, 3), (31, .aload_n 0, 1), (32, .iconst 0, 1), (33, .putfield 31, 3), (36, .return_, 1)]
theorem o_X0_begin : tb_X0_begin.all (fun q => decide (decode cX0_begin q.1 = .ok q.2)) = true := by decide +kernel
def m_X0_end : sk_MI := (yX0_end, cX0_end, 1, none, 0, 0)
def tb_X0_end : List (Nat × Instr × Nat) := [(0, .aload_n 0, 1), (1, .iconst 0, 1), (2, .putfield 9, 3), (5, .aload_n 0, 1), (6, .bipush (-9), 2), (8, .putfield 25, 3), (11, .aload_n 0, 1), (12, .iconst 0, 1), (13, .putfield 41, 3), (16, .aload_n 0, 1), (17, .iconst 0, 1), (18, .putfield 44, 3), (21, .return_, 1)]
theorem o_X0_end : tb_X0_end.all (fun q => decide (decode cX0_end q.1 = .ok q.2)) = true := by decide +kernel
def m_X0_suits : sk_MI := (yX0_suits, cX0_suits, 2, some .boolean, 0, 0)
def tb_X0_suits : List (Nat × Instr × Nat) := [(0, .aload_n 0, 1), (1, .getfield 15, 3), (4, .aload_n 1, 1), (5, .getfield 47, 3), (8, .isub, 1), (9, .invokestatic 50, 3), (12, .iconst 1, 1), (13, .if_icmp .gt 22, 3), (16, .aload_n 1, 1), (17, .getfield 56, 3), (20, .aload_n 0, 1), (21, .getfield 19, 3), (24, .ishr, 1), (25, .iconst 1, 1), (26, .iand, 1), (27, .iconst 1, 1), (28, .if_icmp .ne 7, 3), (31, .iconst 1, 1), (32, .goto 4, 3), (35, .iconst 0, 1), (36, .ireturn, 1)]
theorem o_X0_suits : tb_X0_suits.all (fun q => decide (decode cX0_suits q.1 = .ok q.2)) = true := by decide +kernel
def m_X1_begin : sk_MI := (yX1_begin, cX1_begin, 5, none, 0, 0)
def tb_X1_begin : List (Nat × Instr × Nat) := [(0, .aload_n 0, 1), (1, .iconst 1, 1), (2, .putfield 9, 3), (5, .aload_n 0, 1), (6, .iload_n 1, 1), (7, .putfield 15, 3), (10, .aload_n 0, 1), (11, .iload_n 2, 1), (12, .putfield 19, 3), (15, .aload_n 0, 1), (16, .iload_n 3, 1), (17, .putfield 22, 3), (20, .aload_n 0, 1), (21, .iload 4, 2), (23, .putfield 25, 3), (26, .aload_n 0, 1), (27, .iconst 0, 1), (28, .putfield 28, 3), (31, .return_, 1)]
theorem o_X1_begin : tb_X1_begin.all (fun q => decide (decode cX1_begin q.1 = .ok q.2)) = true := by decide +kernel
def m_X8_within : sk_MI := (yX8_within, cX8_within, 3, some .boolean, 0, 0)
def tb_X8_within : List (Nat × Instr × Nat) := [(0, .iload_n 0, 1), (1, .iload_n 1, 1), (2, .if_icmp .lt 12, 3), (5, .iload_n 0, 1), (6, .iload_n 2, 1), (7, .if_icmp .gt 7, 3), (10, .iconst 1, 1), (11, .goto 4, 3), (14, .iconst 0, 1), (15, .ireturn, 1)]
theorem o_X8_within : tb_X8_within.all (fun q => decide (decode cX8_within q.1 = .ok q.2)) = true := by decide +kernel
def m_X1_teaches : sk_MI := (yX1_teaches, cX1_teaches, 2, some .boolean, 0, 0)
def tb_X1_teaches : List (Nat × Instr × Nat) := [(0, .aload_n 0, 1), (1, .getfield 15, 3), (4, .aload_n 1, 1), (5, .getfield 31, 3), (8, .ishr, 1), (9, .iconst 1, 1), (10, .iand, 1), (11, .iconst 1, 1), (12, .if_icmp .ne 25, 3), (15, .aload_n 1, 1), (16, .getfield 36, 3), (19, .aload_n 0, 1), (20, .getfield 19, 3), (23, .aload_n 0, 1), (24, .getfield 22, 3), (27, .invokestatic 39, 3), (30, .ifCond .eq 7, 3), (33, .iconst 1, 1), (34, .goto 4, 3), (37, .iconst 0, 1), (38, .ireturn, 1)]
theorem o_X1_teaches : tb_X1_teaches.all (fun q => decide (decode cX1_teaches q.1 = .ok q.2)) = true := by decide +kernel
def m_X1_hasRoomFor : sk_MI := (yX1_hasRoomFor, cX1_hasRoomFor, 2, some .boolean, 0, 0)
def tb_X1_hasRoomFor : List (Nat × Instr × Nat) := [(0, .aload_n 0, 1), (1, .getfield 28, 3), (4, .i2l, 1), (5, .aload_n 0, 1), (6, .getfield 25, 3), (9, .i2l, 1), (10, .iload_n 1, 1), (11, .i2l, 1), (12, .lmul, 1), (13, .ladd, 1), (14, .ldc2_w 43, 3), (17, .lcmp, 1), (18, .ifCond .gt 7, 3), (21, .iconst 1, 1), (22, .goto 4, 3), (25, .iconst 0, 1), (26, .ireturn, 1)]
theorem o_X1_hasRoomFor : tb_X1_hasRoomFor.all (fun q => decide (decode cX1_hasRoomFor q.1 = .ok q.2)) = true := by decide +kernel
def m_X2_departsAt : sk_MI := (yX2_departsAt, cX2_departsAt, 2, some .boolean, 0, 0)
def tb_X2_departsAt : List (Nat × Instr × Nat) := [(0, .aload_n 0, 1), (1, .getfield 13, 3), (4, .ifCond .le 16, 3), (7, .iload_n 1, 1), (8, .aload_n 0, 1), (9, .getfield 13, 3), (12, .irem, 1), (13, .ifCond .ne 7, 3), (16, .iconst 1, 1), (17, .goto 4, 3), (20, .iconst 0, 1), (21, .ireturn, 1)]
theorem o_X2_departsAt : tb_X2_departsAt.all (fun q => decide (decode cX2_departsAt q.1 = .ok q.2)) = true := by decide +kernel
def m_X8_isFamily : sk_MI := (yX8_isFamily, cX8_isFamily, 1, some .boolean, 0, 0)
def tb_X8_isFamily : List (Nat × Instr × Nat) := [(0, .iload_n 0, 1), (1, .iconst 0, 1), (2, .bipush 7, 2), (4, .invokestatic 85, 3), (7, .ireturn, 1)]
theorem o_X8_isFamily : tb_X8_isFamily.all (fun q => decide (decode cX8_isFamily q.1 = .ok q.2)) = true := by decide +kernel
def m_X3_newUnit : sk_MI := (yX3_newUnit, cX3_newUnit, 2, some .int, 0, 0)
def tb_X3_newUnit : List (Nat × Instr × Nat) := [(0, .aload_n 0, 1), (1, .getfield 9, 3), (4, .bipush 19, 2), (6, .invokestatic 105, 3), (9, .istore_n 1, 1), (10, .aload_n 0, 1), (11, .getfield 22, 3), (14, .iload_n 1, 1), (15, .iconst 0, 1), (16, .iastore, 1), (17, .aload_n 0, 1), (18, .getfield 27, 3), (21, .iload_n 1, 1), (22, .aaload, 1), (23, .iconst 0, 1), (24, .invokestatic 74, 3), (27, .aload_n 0, 1), (28, .iload_n 1, 1), (29, .iconst 1, 1), (30, .iadd, 1), (31, .putfield 9, 3), (34, .iload_n 1, 1), (35, .ireturn, 1)]
theorem o_X3_newUnit : tb_X3_newUnit.all (fun q => decide (decode cX3_newUnit q.1 = .ok q.2)) = true := by decide +kernel
def m_X3_unitFor : sk_MI := (yX3_unitFor, cX3_unitFor, 3, some .int, 0, 0)
def tb_X3_unitFor : List (Nat × Instr × Nat) := [(0, .iload_n 1, 1), (1, .invokestatic 97, 3), (4, .ifCond .eq 9, 3), (7, .aload_n 2, 1), (8, .iload_n 1, 1), (9, .baload, 1), (10, .ifCond .ne 8, 3), (13, .aload_n 0, 1), (14, .invokevirtual 101, 3), (17, .ireturn, 1), (18, .aload_n 0, 1), (19, .getfield 33, 3), (22, .iload_n 1, 1), (23, .iaload, 1), (24, .bipush (-9), 2), (26, .if_icmp .ne 13, 3), (29, .aload_n 0, 1), (30, .getfield 33, 3), (33, .iload_n 1, 1), (34, .aload_n 0, 1), (35, .invokevirtual 101, 3), (38, .iastore, 1), (39, .aload_n 0, 1), (40, .getfield 33, 3), (43, .iload_n 1, 1), (44, .iaload, 1), (45, .ireturn, 1)]
theorem o_X3_unitFor : tb_X3_unitFor.all (fun q => decide (decode cX3_unitFor q.1 = .ok q.2)) = true := by decide +kernel
def m_X3_addHead : sk_MI := (yX3_addHead, cX3_addHead, 5, none, 0, 0)
def tb_X3_addHead : List (Nat × Instr × Nat) := [(0, .aload_n 0, 1), (1, .getfield 22, 3), (4, .iload_n 1, 1), (5, .dup2, 1), (6, .iaload, 1), (7, .iconst 1, 1), (8, .iadd, 1), (9, .iastore, 1), (10, .iconst 0, 1), (11, .istore 4, 2), (13, .iload 4, 2), (15, .iconst 4, 1), (16, .if_icmp .ge 83, 3), (19, .aload_n 3, 1), (20, .iload 4, 2), (22, .aaload, 1), (23, .getfield 111, 3), (26, .ifCond .eq 14, 3), (29, .aload_n 3, 1), (30, .iload 4, 2), (32, .aaload, 1), (33, .aload_n 2, 1), (34, .invokevirtual 116, 3), (37, .ifCond .ne 16, 3), (40, .aload_n 0, 1), (41, .getfield 27, 3), (44, .iload_n 1, 1), (45, .aaload, 1), (46, .iload 4, 2), (48, .iconst (-1), 1), (49, .iastore, 1), (50, .goto 43, 3), (53, .aload_n 0, 1), (54, .getfield 27, 3), (57, .iload_n 1, 1), (58, .aaload, 1), (59, .iload 4, 2), (61, .iaload, 1), (62, .iconst (-1), 1), (63, .if_icmp .eq 30, 3), (66, .aload_n 3, 1), (67, .iload 4, 2), (69, .aaload, 1), (70, .getfield 120, 3), (73, .aload_n 2, 1), (74, .getfield 123, 3), (77, .if_icmp .eq 16, 3), (80, .aload_n 0, 1), (81, .getfield 27, 3), (84, .iload_n 1, 1), (85, .aaload, 1), (86, .iload 4, 2), (88, .dup2, 1), (89, .iaload, 1), (90, .iconst 1, 1), (91, .iadd, 1), (92, .iastore, 1), (93, .iinc 4 1, 3), (96, .goto (-83), 3), (99, .return_, 1)]
theorem o_X3_addHead : tb_X3_addHead.all (fun q => decide (decode cX3_addHead q.1 = .ok q.2)) = true := by decide +kernel
def m_X3_gatherUnits : sk_MI := (yX3_gatherUnits, cX3_gatherUnits, 5, none, 0, 0)
def tb_X3_gatherUnits : List (Nat × Instr × Nat) := [(0, .aload_n 0, 1), (1, .iconst 0, 1), (2, .putfield 9, 3), (5, .aload_n 0, 1), (6, .getfield 33, 3), (9, .bipush (-9), 2), (11, .invokestatic 74, 3), (14, .iconst 0, 1), (15, .istore 4, 2), (17, .iload 4, 2), (19, .bipush 20, 2), (21, .if_icmp .ge 63, 3), (24, .aload_n 0, 1), (25, .getfield 18, 3), (28, .iload 4, 2), (30, .bipush (-9), 2), (32, .iastore, 1), (33, .aload_n 1, 1), (34, .iload 4, 2), (36, .aaload, 1), (37, .getfield 80, 3), (40, .ifCond .eq 38, 3), (43, .aload_n 0, 1), (44, .getfield 18, 3), (47, .iload 4, 2), (49, .aload_n 0, 1), (50, .aload_n 1, 1), (51, .iload 4, 2), (53, .aaload, 1), (54, .getfield 86, 3), (57, .aload_n 3, 1), (58, .invokevirtual 89, 3), (61, .iastore, 1), (62, .aload_n 0, 1), (63, .aload_n 0, 1), (64, .getfield 18, 3), (67, .iload 4, 2), (69, .iaload, 1), (70, .aload_n 1, 1), (71, .iload 4, 2), (73, .aaload, 1), (74, .aload_n 2, 1), (75, .invokevirtual 93, 3), (78, .iinc 4 1, 3), (81, .goto (-64), 3), (84, .return_, 1)]
theorem o_X3_gatherUnits : tb_X3_gatherUnits.all (fun q => decide (decode cX3_gatherUnits q.1 = .ok q.2)) = true := by decide +kernel
def m_X3_limitSeats : sk_MI := (yX3_limitSeats, cX3_limitSeats, 5, none, 0, 0)
def tb_X3_limitSeats : List (Nat × Instr × Nat) := [(0, .aload_n 0, 1), (1, .iconst 1, 1), (2, .putfield 15, 3), (5, .iconst 0, 1), (6, .istore_n 2, 1), (7, .iload_n 2, 1), (8, .iconst 4, 1), (9, .if_icmp .ge 117, 3), (12, .iconst 0, 1), (13, .istore_n 3, 1), (14, .iconst 0, 1), (15, .istore 4, 2), (17, .iload 4, 2), (19, .aload_n 0, 1), (20, .getfield 9, 3), (23, .if_icmp .ge 32, 3), (26, .aload_n 0, 1), (27, .getfield 27, 3), (30, .iload 4, 2), (32, .aaload, 1), (33, .iload_n 2, 1), (34, .iaload, 1), (35, .iconst (-1), 1), (36, .if_icmp .eq 13, 3), (39, .iload_n 3, 1), (40, .aload_n 0, 1), (41, .getfield 22, 3), (44, .iload 4, 2), (46, .iaload, 1), (47, .iadd, 1), (48, .istore_n 3, 1), (49, .iinc 4 1, 3), (52, .goto (-35), 3), (55, .aload_n 1, 1), (56, .iload_n 2, 1), (57, .aaload, 1), (58, .getfield 111, 3), (61, .ifCond .eq 17, 3), (64, .aload_n 1, 1), (65, .iload_n 2, 1), (66, .aaload, 1), (67, .getfield 124, 3), (70, .bipush 6, 2), (72, .invokestatic 105, 3), (75, .goto 4, 3), (78, .iconst 0, 1), (79, .istore 4, 2), (81, .aload_n 0, 1), (82, .getfield 36, 3), (85, .iload_n 2, 1), (86, .iload_n 3, 1), (87, .iload 4, 2), (89, .invokestatic 105, 3), (92, .iastore, 1), (93, .aload_n 0, 1), (94, .getfield 39, 3), (97, .iload_n 2, 1), (98, .aload_n 0, 1), (99, .getfield 15, 3), (102, .iastore, 1), (103, .aload_n 0, 1), (104, .dup, 1), (105, .getfield 15, 3), (108, .aload_n 0, 1), (109, .getfield 36, 3), (112, .iload_n 2, 1), (113, .iaload, 1), (114, .iconst 1, 1), (115, .iadd, 1), (116, .imul, 1), (117, .putfield 15, 3), (120, .iinc 2 1, 3), (123, .goto (-116), 3), (126, .return_, 1)]
theorem o_X3_limitSeats : tb_X3_limitSeats.all (fun q => decide (decode cX3_limitSeats q.1 = .ok q.2)) = true := by decide +kernel
def m_X3_listOptions : sk_MI := (yX3_listOptions, cX3_listOptions, 4, some .int, 0, 0)
def tb_X3_listOptions : List (Nat × Instr × Nat) := [(0, .iconst 0, 1), (1, .istore_n 2, 1), (2, .iconst 3, 1), (3, .istore_n 3, 1), (4, .iload_n 3, 1), (5, .ifCond .lt 46, 3), (8, .aload_n 0, 1), (9, .getfield 27, 3), (12, .iload_n 1, 1), (13, .aaload, 1), (14, .iload_n 3, 1), (15, .iaload, 1), (16, .iconst (-1), 1), (17, .if_icmp .eq 28, 3), (20, .aload_n 0, 1), (21, .getfield 36, 3), (24, .iload_n 3, 1), (25, .iaload, 1), (26, .aload_n 0, 1), (27, .getfield 22, 3), (30, .iload_n 1, 1), (31, .iaload, 1), (32, .if_icmp .lt 13, 3), (35, .aload_n 0, 1), (36, .getfield 45, 3), (39, .iload_n 2, 1), (40, .iload_n 3, 1), (41, .iastore, 1), (42, .iinc 2 1, 3), (45, .iinc 3 (-1), 3), (48, .goto (-44), 3), (51, .iload_n 2, 1), (52, .ireturn, 1)]
theorem o_X3_listOptions : tb_X3_listOptions.all (fun q => decide (decode cX3_listOptions q.1 = .ok q.2)) = true := by decide +kernel
def m_X3_countDown : sk_MI := (yX3_countDown, cX3_countDown, 2, none, 0, 0)
def tb_X3_countDown : List (Nat × Instr × Nat) := [(0, .iconst 0, 1), (1, .istore_n 1, 1), (2, .iload_n 1, 1), (3, .iconst 4, 1), (4, .if_icmp .ge 41, 3), (7, .aload_n 0, 1), (8, .getfield 42, 3), (11, .iload_n 1, 1), (12, .iaload, 1), (13, .ifCond .le 14, 3), (16, .aload_n 0, 1), (17, .getfield 42, 3), (20, .iload_n 1, 1), (21, .dup2, 1), (22, .iaload, 1), (23, .iconst 1, 1), (24, .isub, 1), (25, .iastore, 1), (26, .return_, 1), (27, .aload_n 0, 1), (28, .getfield 42, 3), (31, .iload_n 1, 1), (32, .aload_n 0, 1), (33, .getfield 36, 3), (36, .iload_n 1, 1), (37, .iaload, 1), (38, .iastore, 1), (39, .iinc 1 1, 3), (42, .goto (-40), 3), (45, .return_, 1)]
theorem o_X3_countDown : tb_X3_countDown.all (fun q => decide (decode cX3_countDown q.1 = .ok q.2)) = true := by decide +kernel
def m_X3_chooseFor : sk_MI := (yX3_chooseFor, cX3_chooseFor, 11, none, 0, 0)
def tb_X3_chooseFor : List (Nat × Instr × Nat) := [(0, .aload_n 0, 1), (1, .iload_n 1, 1), (2, .invokevirtual 127, 3), (5, .istore_n 2, 1), (6, .iload_n 2, 1), (7, .ifCond .ne 4, 3), (10, .return_, 1), (11, .aload_n 0, 1), (12, .getfield 36, 3), (15, .iconst 0, 1), (16, .aload_n 0, 1), (17, .getfield 42, 3), (20, .iconst 0, 1), (21, .iconst 4, 1), (22, .invokestatic 131, 3), (25, .aload_n 0, 1), (26, .getfield 15, 3), (29, .iconst 1, 1), (30, .isub, 1), (31, .istore_n 3, 1), (32, .iload_n 3, 1), (33, .ifCond .lt 157, 3), (36, .aload_n 0, 1), (37, .getfield 48, 3), (40, .iload_n 3, 1), (41, .iaload, 1), (42, .istore 4, 2), (44, .lconst 0, 1), (45, .lstore 5, 2), (47, .iconst 0, 1), (48, .istore 7, 2), (50, .iload 7, 2), (52, .iload_n 2, 1), (53, .if_icmp .ge 104, 3), (56, .aload_n 0, 1), (57, .getfield 45, 3), (60, .iload 7, 2), (62, .iaload, 1), (63, .istore 8, 2), (65, .iload_n 3, 1), (66, .aload_n 0, 1), (67, .getfield 22, 3), (70, .iload_n 1, 1), (71, .iaload, 1), (72, .aload_n 0, 1), (73, .getfield 39, 3), (76, .iload 8, 2), (78, .iaload, 1), (79, .imul, 1), (80, .isub, 1), (81, .istore 9, 2), (83, .aload_n 0, 1), (84, .getfield 42, 3), (87, .iload 8, 2), (89, .iaload, 1), (90, .aload_n 0, 1), (91, .getfield 22, 3), (94, .iload_n 1, 1), (95, .iaload, 1), (96, .if_icmp .lt 55, 3), (99, .iload 9, 2), (101, .ifCond .lt 50, 3), (104, .aload_n 0, 1), (105, .getfield 48, 3), (108, .iload 9, 2), (110, .iaload, 1), (111, .aload_n 0, 1), (112, .getfield 22, 3), (115, .iload_n 1, 1), (116, .iaload, 1), (117, .bipush 32, 2), (119, .imul, 1), (120, .iadd, 1), (121, .aload_n 0, 1), (122, .getfield 27, 3), (125, .iload_n 1, 1), (126, .aaload, 1), (127, .iload 8, 2), (129, .iaload, 1), (130, .isub, 1), (131, .istore 10, 2), (133, .iload 10, 2), (135, .iload 4, 2), (137, .if_icmp .lt 14, 3), (140, .iload 10, 2), (142, .istore 4, 2), (144, .iload 8, 2), (146, .iconst 1, 1), (147, .iadd, 1), (148, .i2l, 1), (149, .lstore 5, 2), (151, .iinc 7 1, 3), (154, .goto (-104), 3), (157, .aload_n 0, 1), (158, .getfield 48, 3), (161, .iload_n 3, 1), (162, .iload 4, 2), (164, .iastore, 1), (165, .aload_n 0, 1), (166, .getfield 51, 3), (169, .iload_n 3, 1), (170, .dup2, 1), (171, .laload, 1), (172, .lload 5, 2), (174, .iconst 3, 1), (175, .iload_n 1, 1), (176, .imul, 1), (177, .lshl, 1), (178, .lor, 1), (179, .lastore, 1), (180, .aload_n 0, 1), (181, .invokevirtual 137, 3), (184, .iinc 3 (-1), 3), (187, .goto (-155), 3), (190, .return_, 1)]
theorem o_X3_chooseFor : tb_X3_chooseFor.all (fun q => decide (decode cX3_chooseFor q.1 = .ok q.2)) = true := by decide +kernel
def m_X3_followChoices : sk_MI := (yX3_followChoices, cX3_followChoices, 4, none, 0, 0)
def tb_X3_followChoices : List (Nat × Instr × Nat) := [(0, .aload_n 0, 1), (1, .getfield 15, 3), (4, .iconst 1, 1), (5, .isub, 1), (6, .istore_n 1, 1), (7, .iconst 0, 1), (8, .istore_n 2, 1), (9, .iload_n 2, 1), (10, .aload_n 0, 1), (11, .getfield 9, 3), (14, .if_icmp .ge 72, 3), (17, .aload_n 0, 1), (18, .getfield 51, 3), (21, .iload_n 1, 1), (22, .laload, 1), (23, .iconst 3, 1), (24, .iload_n 2, 1), (25, .imul, 1), (26, .lushr, 1), (27, .l2i, 1), (28, .bipush 7, 2), (30, .iand, 1), (31, .istore_n 3, 1), (32, .aload_n 0, 1), (33, .getfield 30, 3), (36, .iload_n 2, 1), (37, .bipush (-9), 2), (39, .iastore, 1), (40, .iload_n 3, 1), (41, .iconst 1, 1), (42, .iconst 4, 1), (43, .invokestatic 70, 3), (46, .ifCond .eq 34, 3), (49, .aload_n 0, 1), (50, .getfield 30, 3), (53, .iload_n 2, 1), (54, .iload_n 3, 1), (55, .iconst 1, 1), (56, .isub, 1), (57, .iastore, 1), (58, .iconst 0, 1), (59, .iload_n 1, 1), (60, .aload_n 0, 1), (61, .getfield 22, 3), (64, .iload_n 2, 1), (65, .iaload, 1), (66, .aload_n 0, 1), (67, .getfield 39, 3), (70, .iload_n 3, 1), (71, .iconst 1, 1), (72, .isub, 1), (73, .iaload, 1), (74, .imul, 1), (75, .isub, 1), (76, .invokestatic 140, 3), (79, .istore_n 1, 1), (80, .iinc 2 1, 3), (83, .goto (-74), 3), (86, .return_, 1)]
theorem o_X3_followChoices : tb_X3_followChoices.all (fun q => decide (decode cX3_followChoices q.1 = .ok q.2)) = true := by decide +kernel
def m_X3_findBest : sk_MI := (yX3_findBest, cX3_findBest, 5, some .int, 0, 0)
def tb_X3_findBest : List (Nat × Instr × Nat) := [(0, .aload_n 0, 1), (1, .aload_n 1, 1), (2, .aload_n 2, 1), (3, .aload_n 3, 1), (4, .invokevirtual 55, 3), (7, .aload_n 0, 1), (8, .aload_n 2, 1), (9, .invokevirtual 59, 3), (12, .iconst 0, 1), (13, .istore 4, 2), (15, .iload 4, 2), (17, .aload_n 0, 1), (18, .getfield 15, 3), (21, .if_icmp .ge 25, 3), (24, .aload_n 0, 1), (25, .getfield 48, 3), (28, .iload 4, 2), (30, .iconst 0, 1), (31, .iastore, 1), (32, .aload_n 0, 1), (33, .getfield 51, 3), (36, .iload 4, 2), (38, .lconst 0, 1), (39, .lastore, 1), (40, .iinc 4 1, 3), (43, .goto (-28), 3), (46, .aload_n 0, 1), (47, .getfield 9, 3), (50, .iconst 1, 1), (51, .isub, 1), (52, .istore 4, 2), (54, .iload 4, 2), (56, .ifCond .lt 15, 3), (59, .aload_n 0, 1), (60, .iload 4, 2), (62, .invokevirtual 63, 3), (65, .iinc 4 (-1), 3), (68, .goto (-14), 3), (71, .aload_n 0, 1), (72, .invokevirtual 67, 3), (75, .aload_n 0, 1), (76, .getfield 48, 3), (79, .aload_n 0, 1), (80, .getfield 15, 3), (83, .iconst 1, 1), (84, .isub, 1), (85, .iaload, 1), (86, .bipush 32, 2), (88, .iadd, 1), (89, .iconst 1, 1), (90, .isub, 1), (91, .bipush 32, 2), (93, .idiv, 1), (94, .ireturn, 1)]
theorem o_X3_findBest : tb_X3_findBest.all (fun q => decide (decode cX3_findBest q.1 = .ok q.2)) = true := by decide +kernel
def m_X3_groupOf : sk_MI := (yX3_groupOf, cX3_groupOf, 3, some .int, 0, 0)
def tb_X3_groupOf : List (Nat × Instr × Nat) := [(0, .iload_n 1, 1), (1, .iconst 0, 1), (2, .bipush 19, 2), (4, .invokestatic 70, 3), (7, .ifCond .eq 12, 3), (10, .aload_n 0, 1), (11, .getfield 18, 3), (14, .iload_n 1, 1), (15, .iaload, 1), (16, .goto 5, 3), (19, .bipush (-9), 2), (21, .istore_n 2, 1), (22, .iload_n 2, 1), (23, .iconst 0, 1), (24, .bipush 19, 2), (26, .invokestatic 70, 3), (29, .ifCond .eq 12, 3), (32, .aload_n 0, 1), (33, .getfield 30, 3), (36, .iload_n 2, 1), (37, .iaload, 1), (38, .goto 5, 3), (41, .bipush (-9), 2), (43, .ireturn, 1)]
theorem o_X3_groupOf : tb_X3_groupOf.all (fun q => decide (decode cX3_groupOf q.1 = .ok q.2)) = true := by decide +kernel
def m_X4_clearScores : sk_MI := (yX4_clearScores, cX4_clearScores, 1, none, 0, 0)
def tb_X4_clearScores : List (Nat × Instr × Nat) := [(0, .aload_n 0, 1), (1, .getfield 31, 3), (4, .bipush (-9), 2), (6, .invokestatic 38, 3), (9, .return_, 1)]
theorem o_X4_clearScores : tb_X4_clearScores.all (fun q => decide (decode cX4_clearScores q.1 = .ok q.2)) = true := by decide +kernel
def m_X4_enrol : sk_MI := (yX4_enrol, cX4_enrol, 4, none, 0, 0)
def tb_X4_enrol : List (Nat × Instr × Nat) := [(0, .aload_n 0, 1), (1, .iconst 1, 1), (2, .putfield 9, 3), (5, .aload_n 0, 1), (6, .iload_n 1, 1), (7, .putfield 15, 3), (10, .aload_n 0, 1), (11, .iload_n 2, 1), (12, .putfield 19, 3), (15, .aload_n 0, 1), (16, .iload_n 3, 1), (17, .putfield 22, 3), (20, .aload_n 0, 1), (21, .bipush (-9), 2), (23, .putfield 25, 3), (26, .aload_n 0, 1), (27, .bipush (-9), 2), (29, .putfield 28, 3), (32, .aload_n 0, 1), (33, .invokevirtual 35, 3), (36, .return_, 1)]
theorem o_X4_enrol : tb_X4_enrol.all (fun q => decide (decode cX4_enrol q.1 = .ok q.2)) = true := by decide +kernel
def m_X4_isMember : sk_MI := (yX4_isMember, cX4_isMember, 2, some .boolean, 0, 0)
def tb_X4_isMember : List (Nat × Instr × Nat) := [(0, .aload_n 0, 1), (1, .getfield 9, 3), (4, .ifCond .eq 15, 3), (7, .aload_n 0, 1), (8, .getfield 22, 3), (11, .iload_n 1, 1), (12, .if_icmp .ne 7, 3), (15, .iconst 1, 1), (16, .goto 4, 3), (19, .iconst 0, 1), (20, .ireturn, 1)]
theorem o_X4_isMember : tb_X4_isMember.all (fun q => decide (decode cX4_isMember q.1 = .ok q.2)) = true := by decide +kernel
def m_X4_isIn : sk_MI := (yX4_isIn, cX4_isIn, 2, some .boolean, 0, 0)
def tb_X4_isIn : List (Nat × Instr × Nat) := [(0, .aload_n 0, 1), (1, .getfield 9, 3), (4, .ifCond .eq 15, 3), (7, .aload_n 0, 1), (8, .getfield 25, 3), (11, .iload_n 1, 1), (12, .if_icmp .ne 7, 3), (15, .iconst 1, 1), (16, .goto 4, 3), (19, .iconst 0, 1), (20, .ireturn, 1)]
theorem o_X4_isIn : tb_X4_isIn.all (fun q => decide (decode cX4_isIn q.1 = .ok q.2)) = true := by decide +kernel
def m_X4_countScores : sk_MI := (yX4_countScores, cX4_countScores, 3, some .int, 0, 0)
def tb_X4_countScores : List (Nat × Instr × Nat) := [(0, .iconst 0, 1), (1, .istore_n 1, 1), (2, .iconst 0, 1), (3, .istore_n 2, 1), (4, .iload_n 2, 1), (5, .iconst 4, 1), (6, .if_icmp .ge 23, 3), (9, .aload_n 0, 1), (10, .getfield 31, 3), (13, .iload_n 2, 1), (14, .iaload, 1), (15, .bipush (-9), 2), (17, .if_icmp .eq 6, 3), (20, .iinc 1 1, 3), (23, .iinc 2 1, 3), (26, .goto (-22), 3), (29, .iload_n 1, 1), (30, .ireturn, 1)]
theorem o_X4_countScores : tb_X4_countScores.all (fun q => decide (decode cX4_countScores q.1 = .ok q.2)) = true := by decide +kernel
def m_X4_sumScores : sk_MI := (yX4_sumScores, cX4_sumScores, 3, some .int, 0, 0)
def tb_X4_sumScores : List (Nat × Instr × Nat) := [(0, .iconst 0, 1), (1, .istore_n 1, 1), (2, .iconst 0, 1), (3, .istore_n 2, 1), (4, .iload_n 2, 1), (5, .iconst 4, 1), (6, .if_icmp .ge 18, 3), (9, .iload_n 1, 1), (10, .aload_n 0, 1), (11, .getfield 31, 3), (14, .iload_n 2, 1), (15, .iaload, 1), (16, .iadd, 1), (17, .istore_n 1, 1), (18, .iinc 2 1, 3), (21, .goto (-17), 3), (24, .iload_n 1, 1), (25, .ireturn, 1)]
theorem o_X4_sumScores : tb_X4_sumScores.all (fun q => decide (decode cX4_sumScores q.1 = .ok q.2)) = true := by decide +kernel
def m_X4_lowestScore : sk_MI := (yX4_lowestScore, cX4_lowestScore, 3, some .int, 0, 0)
def tb_X4_lowestScore : List (Nat × Instr × Nat) := [(0, .bipush 10, 2), (2, .istore_n 1, 1), (3, .iconst 0, 1), (4, .istore_n 2, 1), (5, .iload_n 2, 1), (6, .iconst 4, 1), (7, .if_icmp .ge 20, 3), (10, .iload_n 1, 1), (11, .aload_n 0, 1), (12, .getfield 31, 3), (15, .iload_n 2, 1), (16, .iaload, 1), (17, .invokestatic 44, 3), (20, .istore_n 1, 1), (21, .iinc 2 1, 3), (24, .goto (-19), 3), (27, .iload_n 1, 1), (28, .ireturn, 1)]
theorem o_X4_lowestScore : tb_X4_lowestScore.all (fun q => decide (decode cX4_lowestScore q.1 = .ok q.2)) = true := by decide +kernel
def m_X5_readSign : sk_MI := (yX5_readSign, cX5_readSign, 4, some .int, 0, 0)
def tb_X5_readSign : List (Nat × Instr × Nat) := [(0, .aload_n 0, 1), (1, .getfield 19, 3), (4, .ifCond .lt 23, 3), (7, .aload_n 0, 1), (8, .getfield 19, 3), (11, .aload_n 0, 1), (12, .getfield 15, 3), (15, .if_icmp .ge 12, 3), (18, .aload_n 0, 1), (19, .getfield 19, 3), (22, .bipush 100, 2), (24, .if_icmp .lt 5, 3), (27, .iconst 0, 1), (28, .ireturn, 1), (29, .aload_n 0, 1), (30, .getfield 9, 3), (33, .aload_n 0, 1), (34, .getfield 19, 3), (37, .caload, 1), (38, .istore_n 3, 1), (39, .iload_n 3, 1), (40, .iload_n 1, 1), (41, .if_icmp .lt 8, 3), (44, .iload_n 3, 1), (45, .iload_n 2, 1), (46, .if_icmp .le 5, 3), (49, .iconst 0, 1), (50, .ireturn, 1), (51, .aload_n 0, 1), (52, .dup, 1), (53, .getfield 19, 3), (56, .iconst 1, 1), (57, .iadd, 1), (58, .putfield 19, 3), (61, .iload_n 3, 1), (62, .ireturn, 1)]
theorem o_X5_readSign : tb_X5_readSign.all (fun q => decide (decode cX5_readSign q.1 = .ok q.2)) = true := by decide +kernel
def m_X5_skip : sk_MI := (yX5_skip, cX5_skip, 2, some .boolean, 0, 0)
def tb_X5_skip : List (Nat × Instr × Nat) := [(0, .aload_n 0, 1), (1, .iload_n 1, 1), (2, .iload_n 1, 1), (3, .invokevirtual 81, 3), (6, .iload_n 1, 1), (7, .if_icmp .ne 7, 3), (10, .iconst 1, 1), (11, .goto 4, 3), (14, .iconst 0, 1), (15, .ireturn, 1)]
theorem o_X5_skip : tb_X5_skip.all (fun q => decide (decode cX5_skip q.1 = .ok q.2)) = true := by decide +kernel
def m_X5_readDigit : sk_MI := (yX5_readDigit, cX5_readDigit, 3, some .int, 0, 0)
def tb_X5_readDigit : List (Nat × Instr × Nat) := [(0, .aload_n 0, 1), (1, .bipush 48, 2), (3, .iload_n 1, 1), (4, .iadd, 1), (5, .bipush 48, 2), (7, .iload_n 2, 1), (8, .iadd, 1), (9, .invokevirtual 81, 3), (12, .bipush 48, 2), (14, .isub, 1), (15, .ireturn, 1)]
theorem o_X5_readDigit : tb_X5_readDigit.all (fun q => decide (decode cX5_readDigit q.1 = .ok q.2)) = true := by decide +kernel
def m_X5_readLanguage : sk_MI := (yX5_readLanguage, cX5_readLanguage, 2, some .int, 0, 0)
def tb_X5_readLanguage : List (Nat × Instr × Nat) := [(0, .aload_n 0, 1), (1, .bipush 97, 2), (3, .iload_n 1, 1), (4, .iadd, 1), (5, .bipush 102, 2), (7, .invokevirtual 81, 3), (10, .bipush 97, 2), (12, .isub, 1), (13, .ireturn, 1)]
theorem o_X5_readLanguage : tb_X5_readLanguage.all (fun q => decide (decode cX5_readLanguage q.1 = .ok q.2)) = true := by decide +kernel
def m_X5_readLanguages : sk_MI := (yX5_readLanguages, cX5_readLanguages, 4, some .boolean, 0, 0)
def tb_X5_readLanguages : List (Nat × Instr × Nat) := [(0, .aload_n 0, 1), (1, .iconst 0, 1), (2, .putfield 29, 3), (5, .iconst 0, 1), (6, .istore_n 1, 1), (7, .iconst 0, 1), (8, .istore_n 2, 1), (9, .iload_n 2, 1), (10, .bipush 6, 2), (12, .if_icmp .ge 38, 3), (15, .aload_n 0, 1), (16, .iload_n 1, 1), (17, .invokevirtual 74, 3), (20, .istore_n 3, 1), (21, .iload_n 3, 1), (22, .ifCond .ge 6, 3), (25, .goto 25, 3), (28, .aload_n 0, 1), (29, .dup, 1), (30, .getfield 29, 3), (33, .iconst 1, 1), (34, .iload_n 3, 1), (35, .ishl, 1), (36, .ior, 1), (37, .putfield 29, 3), (40, .iload_n 3, 1), (41, .iconst 1, 1), (42, .iadd, 1), (43, .istore_n 1, 1), (44, .iinc 2 1, 3), (47, .goto (-38), 3), (50, .aload_n 0, 1), (51, .getfield 29, 3), (54, .ifCond .eq 7, 3), (57, .iconst 1, 1), (58, .goto 4, 3), (61, .iconst 0, 1), (62, .ireturn, 1)]
theorem o_X5_readLanguages : tb_X5_readLanguages.all (fun q => decide (decode cX5_readLanguages q.1 = .ok q.2)) = true := by decide +kernel
def m_X5_readPupil : sk_MI := (yX5_readPupil, cX5_readPupil, 1, some .boolean, 0, 0)
def tb_X5_readPupil : List (Nat × Instr × Nat) := [(0, .aload_n 0, 1), (1, .aload_n 0, 1), (2, .iconst 0, 1), (3, .bipush 7, 2), (5, .invokevirtual 67, 3), (8, .putfield 26, 3), (11, .aload_n 0, 1), (12, .getfield 26, 3), (15, .ifCond .lt 10, 3), (18, .aload_n 0, 1), (19, .invokevirtual 71, 3), (22, .ifCond .ne 5, 3), (25, .iconst 0, 1), (26, .ireturn, 1), (27, .aload_n 0, 1), (28, .bipush (-9), 2), (30, .putfield 32, 3), (33, .aload_n 0, 1), (34, .bipush 47, 2), (36, .invokevirtual 54, 3), (39, .ifCond .eq 23, 3), (42, .aload_n 0, 1), (43, .aload_n 0, 1), (44, .iconst 0, 1), (45, .bipush 7, 2), (47, .invokevirtual 67, 3), (50, .putfield 32, 3), (53, .aload_n 0, 1), (54, .getfield 32, 3), (57, .ifCond .ge 5, 3), (60, .iconst 0, 1), (61, .ireturn, 1), (62, .aload_n 0, 1), (63, .bipush 59, 2), (65, .invokevirtual 54, 3), (68, .ireturn, 1)]
theorem o_X5_readPupil : tb_X5_readPupil.all (fun q => decide (decode cX5_readPupil q.1 = .ok q.2)) = true := by decide +kernel
def m_X5_readGroup : sk_MI := (yX5_readGroup, cX5_readGroup, 1, some .boolean, 0, 0)
def tb_X5_readGroup : List (Nat × Instr × Nat) := [(0, .aload_n 0, 1), (1, .aload_n 0, 1), (2, .iconst 0, 1), (3, .bipush 7, 2), (5, .invokevirtual 67, 3), (8, .putfield 26, 3), (11, .aload_n 0, 1), (12, .getfield 26, 3), (15, .ifCond .ge 5, 3), (18, .iconst 0, 1), (19, .ireturn, 1), (20, .aload_n 0, 1), (21, .aload_n 0, 1), (22, .iconst 0, 1), (23, .invokevirtual 74, 3), (26, .putfield 35, 3), (29, .aload_n 0, 1), (30, .getfield 35, 3), (33, .ifCond .ge 5, 3), (36, .iconst 0, 1), (37, .ireturn, 1), (38, .aload_n 0, 1), (39, .aload_n 0, 1), (40, .iconst 1, 1), (41, .bipush 6, 2), (43, .invokevirtual 67, 3), (46, .putfield 38, 3), (49, .aload_n 0, 1), (50, .getfield 38, 3), (53, .ifCond .le 16, 3), (56, .aload_n 0, 1), (57, .bipush 59, 2), (59, .invokevirtual 54, 3), (62, .ifCond .eq 7, 3), (65, .iconst 1, 1), (66, .goto 4, 3), (69, .iconst 0, 1), (70, .ireturn, 1)]
theorem o_X5_readGroup : tb_X5_readGroup.all (fun q => decide (decode cX5_readGroup q.1 = .ok q.2)) = true := by decide +kernel
def m_X5_readWage : sk_MI := (yX5_readWage, cX5_readWage, 3, some .boolean, 0, 0)
def tb_X5_readWage : List (Nat × Instr × Nat) := [(0, .aload_n 0, 1), (1, .aload_n 0, 1), (2, .iconst 1, 1), (3, .bipush 9, 2), (5, .invokevirtual 67, 3), (8, .putfield 47, 3), (11, .aload_n 0, 1), (12, .getfield 47, 3), (15, .ifCond .ge 5, 3), (18, .iconst 0, 1), (19, .ireturn, 1), (20, .iconst 1, 1), (21, .istore_n 1, 1), (22, .iload_n 1, 1), (23, .bipush 6, 2), (25, .if_icmp .ge 37, 3), (28, .aload_n 0, 1), (29, .iconst 0, 1), (30, .bipush 9, 2), (32, .invokevirtual 67, 3), (35, .istore_n 2, 1), (36, .iload_n 2, 1), (37, .ifCond .ge 6, 3), (40, .goto 22, 3), (43, .aload_n 0, 1), (44, .bipush 10, 2), (46, .aload_n 0, 1), (47, .getfield 47, 3), (50, .imul, 1), (51, .iload_n 2, 1), (52, .iadd, 1), (53, .putfield 47, 3), (56, .iinc 1 1, 3), (59, .goto (-37), 3), (62, .iconst 1, 1), (63, .ireturn, 1)]
theorem o_X5_readWage : tb_X5_readWage.all (fun q => decide (decode cX5_readWage q.1 = .ok q.2)) = true := by decide +kernel
def m_X5_readInstructor : sk_MI := (yX5_readInstructor, cX5_readInstructor, 1, some .boolean, 0, 0)
def tb_X5_readInstructor : List (Nat × Instr × Nat) := [(0, .aload_n 0, 1), (1, .invokevirtual 71, 3), (4, .ifCond .ne 5, 3), (7, .iconst 0, 1), (8, .ireturn, 1), (9, .aload_n 0, 1), (10, .aload_n 0, 1), (11, .iconst 0, 1), (12, .bipush 7, 2), (14, .invokevirtual 67, 3), (17, .putfield 41, 3), (20, .aload_n 0, 1), (21, .getfield 41, 3), (24, .ifCond .ge 5, 3), (27, .iconst 0, 1), (28, .ireturn, 1), (29, .aload_n 0, 1), (30, .aload_n 0, 1), (31, .aload_n 0, 1), (32, .getfield 41, 3), (35, .bipush 7, 2), (37, .invokevirtual 67, 3), (40, .putfield 44, 3), (43, .aload_n 0, 1), (44, .getfield 44, 3), (47, .ifCond .lt 32, 3), (50, .aload_n 0, 1), (51, .bipush 58, 2), (53, .invokevirtual 54, 3), (56, .ifCond .eq 23, 3), (59, .aload_n 0, 1), (60, .invokevirtual 78, 3), (63, .ifCond .eq 16, 3), (66, .aload_n 0, 1), (67, .bipush 59, 2), (69, .invokevirtual 54, 3), (72, .ifCond .eq 7, 3), (75, .iconst 1, 1), (76, .goto 4, 3), (79, .iconst 0, 1), (80, .ireturn, 1)]
theorem o_X5_readInstructor : tb_X5_readInstructor.all (fun q => decide (decode cX5_readInstructor q.1 = .ok q.2)) = true := by decide +kernel
def m_X5_readEntry : sk_MI := (yX5_readEntry, cX5_readEntry, 1, some .boolean, 0, 0)
def tb_X5_readEntry : List (Nat × Instr × Nat) := [(0, .aload_n 0, 1), (1, .bipush 112, 2), (3, .invokevirtual 54, 3), (6, .ifCond .eq 14, 3), (9, .aload_n 0, 1), (10, .bipush 112, 2), (12, .putfield 22, 3), (15, .aload_n 0, 1), (16, .invokevirtual 58, 3), (19, .ireturn, 1), (20, .aload_n 0, 1), (21, .bipush 103, 2), (23, .invokevirtual 54, 3), (26, .ifCond .eq 14, 3), (29, .aload_n 0, 1), (30, .bipush 103, 2), (32, .putfield 22, 3), (35, .aload_n 0, 1), (36, .invokevirtual 61, 3), (39, .ireturn, 1), (40, .aload_n 0, 1), (41, .bipush 105, 2), (43, .putfield 22, 3), (46, .aload_n 0, 1), (47, .bipush 105, 2), (49, .invokevirtual 54, 3), (52, .ifCond .eq 14, 3), (55, .aload_n 0, 1), (56, .invokevirtual 64, 3), (59, .ifCond .eq 7, 3), (62, .iconst 1, 1), (63, .goto 4, 3), (66, .iconst 0, 1), (67, .ireturn, 1)]
theorem o_X5_readEntry : tb_X5_readEntry.all (fun q => decide (decode cX5_readEntry q.1 = .ok q.2)) = true := by decide +kernel
def m_X5_findFault : sk_MI := (yX5_findFault, cX5_findFault, 2, some .int, 0, 0)
def tb_X5_findFault : List (Nat × Instr × Nat) := [(0, .aload_n 0, 1), (1, .iconst 0, 1), (2, .putfield 19, 3), (5, .iconst 0, 1), (6, .istore_n 1, 1), (7, .iload_n 1, 1), (8, .bipush 100, 2), (10, .if_icmp .ge 32, 3), (13, .aload_n 0, 1), (14, .getfield 19, 3), (17, .aload_n 0, 1), (18, .getfield 15, 3), (21, .if_icmp .ge 21, 3), (24, .aload_n 0, 1), (25, .invokevirtual 50, 3), (28, .ifCond .ne 8, 3), (31, .aload_n 0, 1), (32, .getfield 19, 3), (35, .ireturn, 1), (36, .iinc 1 1, 3), (39, .goto (-32), 3), (42, .bipush (-9), 2), (44, .ireturn, 1)]
theorem o_X5_findFault : tb_X5_findFault.all (fun q => decide (decode cX5_findFault q.1 = .ok q.2)) = true := by decide +kernel
def m_X6_begin : sk_MI := (yX6_begin, cX6_begin, 3, none, 0, 0)
def tb_X6_begin : List (Nat × Instr × Nat) := [(0, .iconst 0, 1), (1, .istore_n 2, 1), (2, .iload_n 2, 1), (3, .iconst 4, 1), (4, .if_icmp .ge 21, 3), (7, .aload_n 0, 1), (8, .getfield 15, 3), (11, .iload_n 2, 1), (12, .aload_n 1, 1), (13, .iload_n 2, 1), (14, .aaload, 1), (15, .getfield 44, 3), (18, .iastore, 1), (19, .iinc 2 1, 3), (22, .goto (-20), 3), (25, .aload_n 0, 1), (26, .getfield 18, 3), (29, .iconst 0, 1), (30, .invokestatic 50, 3), (33, .aload_n 0, 1), (34, .getfield 21, 3), (37, .iconst 0, 1), (38, .invokestatic 50, 3), (41, .aload_n 0, 1), (42, .getfield 24, 3), (45, .iconst 0, 1), (46, .invokestatic 50, 3), (49, .aload_n 0, 1), (50, .getfield 27, 3), (53, .iconst 0, 1), (54, .invokestatic 50, 3), (57, .aload_n 0, 1), (58, .getfield 30, 3), (61, .iconst 0, 1), (62, .invokestatic 50, 3), (65, .aload_n 0, 1), (66, .getfield 33, 3), (69, .iconst 0, 1), (70, .invokestatic 50, 3), (73, .aload_n 0, 1), (74, .getfield 41, 3), (77, .iconst 0, 1), (78, .invokestatic 50, 3), (81, .return_, 1)]
theorem o_X6_begin : tb_X6_begin.all (fun q => decide (decode cX6_begin q.1 = .ok q.2)) = true := by decide +kernel
def m_X6_joinQueues : sk_MI := (yX6_joinQueues, cX6_joinQueues, 5, none, 0, 0)
def tb_X6_joinQueues : List (Nat × Instr × Nat) := [(0, .iconst 0, 1), (1, .istore_n 3, 1), (2, .iload_n 3, 1), (3, .iconst 4, 1), (4, .if_icmp .ge 121, 3), (7, .aload_n 0, 1), (8, .getfield 9, 3), (11, .iload_n 3, 1), (12, .iaload, 1), (13, .ifCond .le 106, 3), (16, .aload_n 0, 1), (17, .getfield 15, 3), (20, .iload_n 3, 1), (21, .iaload, 1), (22, .iload_n 2, 1), (23, .if_icmp .ne 96, 3), (26, .aload_n 0, 1), (27, .getfield 30, 3), (30, .iload_n 3, 1), (31, .iaload, 1), (32, .iconst 0, 1), (33, .iconst 3, 1), (34, .invokestatic 80, 3), (37, .ifCond .eq 82, 3), (40, .aload_n 1, 1), (41, .iload_n 3, 1), (42, .aaload, 1), (43, .getfield 84, 3), (46, .aload_n 0, 1), (47, .getfield 30, 3), (50, .iload_n 3, 1), (51, .iaload, 1), (52, .iaload, 1), (53, .istore 4, 2), (55, .iload 4, 2), (57, .iconst 0, 1), (58, .iconst 2, 1), (59, .invokestatic 80, 3), (62, .ifCond .eq 57, 3), (65, .aload_n 0, 1), (66, .getfield 41, 3), (69, .iload 4, 2), (71, .iaload, 1), (72, .iconst 0, 1), (73, .iconst 3, 1), (74, .invokestatic 80, 3), (77, .ifCond .eq 42, 3), (80, .aload_n 0, 1), (81, .getfield 38, 3), (84, .iload 4, 2), (86, .aaload, 1), (87, .aload_n 0, 1), (88, .getfield 41, 3), (91, .iload 4, 2), (93, .iaload, 1), (94, .iload_n 3, 1), (95, .iastore, 1), (96, .aload_n 0, 1), (97, .getfield 41, 3), (100, .iload 4, 2), (102, .dup2, 1), (103, .iaload, 1), (104, .iconst 1, 1), (105, .iadd, 1), (106, .iastore, 1), (107, .aload_n 0, 1), (108, .getfield 33, 3), (111, .iload_n 3, 1), (112, .aload_n 0, 1), (113, .getfield 9, 3), (116, .iload_n 3, 1), (117, .iaload, 1), (118, .iastore, 1), (119, .iinc 3 1, 3), (122, .goto (-120), 3), (125, .return_, 1)]
theorem o_X6_joinQueues : tb_X6_joinQueues.all (fun q => decide (decode cX6_joinQueues q.1 = .ok q.2)) = true := by decide +kernel
def m_X6_leaveQueue : sk_MI := (yX6_leaveQueue, cX6_leaveQueue, 3, none, 0, 0)
def tb_X6_leaveQueue : List (Nat × Instr × Nat) := [(0, .iconst 1, 1), (1, .istore_n 2, 1), (2, .iload_n 2, 1), (3, .aload_n 0, 1), (4, .getfield 41, 3), (7, .iload_n 1, 1), (8, .iaload, 1), (9, .if_icmp .ge 32, 3), (12, .iload_n 2, 1), (13, .iconst 4, 1), (14, .if_icmp .ge 27, 3), (17, .aload_n 0, 1), (18, .getfield 38, 3), (21, .iload_n 1, 1), (22, .aaload, 1), (23, .iload_n 2, 1), (24, .iconst 1, 1), (25, .isub, 1), (26, .aload_n 0, 1), (27, .getfield 38, 3), (30, .iload_n 1, 1), (31, .aaload, 1), (32, .iload_n 2, 1), (33, .iaload, 1), (34, .iastore, 1), (35, .iinc 2 1, 3), (38, .goto (-36), 3), (41, .aload_n 0, 1), (42, .getfield 41, 3), (45, .iload_n 1, 1), (46, .dup2, 1), (47, .iaload, 1), (48, .iconst 1, 1), (49, .isub, 1), (50, .iastore, 1), (51, .return_, 1)]
theorem o_X6_leaveQueue : tb_X6_leaveQueue.all (fun q => decide (decode cX6_leaveQueue q.1 = .ok q.2)) = true := by decide +kernel
def m_X6_completeRide : sk_MI := (yX6_completeRide, cX6_completeRide, 4, none, 0, 0)
def tb_X6_completeRide : List (Nat × Instr × Nat) := [(0, .aload_n 0, 1), (1, .getfield 21, 3), (4, .iload_n 1, 1), (5, .dup2, 1), (6, .iaload, 1), (7, .iconst 1, 1), (8, .iadd, 1), (9, .iastore, 1), (10, .aload_n 0, 1), (11, .getfield 30, 3), (14, .iload_n 1, 1), (15, .iaload, 1), (16, .iconst 0, 1), (17, .iconst 3, 1), (18, .invokestatic 80, 3), (21, .ifCond .eq 22, 3), (24, .aload_n 0, 1), (25, .getfield 15, 3), (28, .iload_n 1, 1), (29, .iload_n 3, 1), (30, .aload_n 2, 1), (31, .getfield 100, 3), (34, .aload_n 0, 1), (35, .getfield 30, 3), (38, .iload_n 1, 1), (39, .iaload, 1), (40, .iaload, 1), (41, .iadd, 1), (42, .iastore, 1), (43, .aload_n 0, 1), (44, .getfield 30, 3), (47, .iload_n 1, 1), (48, .dup2, 1), (49, .iaload, 1), (50, .iconst 1, 1), (51, .iadd, 1), (52, .iastore, 1), (53, .aload_n 0, 1), (54, .getfield 30, 3), (57, .iload_n 1, 1), (58, .iaload, 1), (59, .aload_n 2, 1), (60, .getfield 103, 3), (63, .if_icmp .lt 10, 3), (66, .aload_n 0, 1), (67, .getfield 30, 3), (70, .iload_n 1, 1), (71, .iconst 0, 1), (72, .iastore, 1), (73, .return_, 1)]
theorem o_X6_completeRide : tb_X6_completeRide.all (fun q => decide (decode cX6_completeRide q.1 = .ok q.2)) = true := by decide +kernel
def m_X6_depart : sk_MI := (yX6_depart, cX6_depart, 9, none, 0, 0)
def tb_X6_depart : List (Nat × Instr × Nat) := [(0, .aload_n 2, 1), (1, .getfield 87, 3), (4, .istore 5, 2), (6, .iconst 0, 1), (7, .istore 6, 2), (9, .iload 6, 2), (11, .iconst 4, 1), (12, .if_icmp .ge 120, 3), (15, .iload 5, 2), (17, .ifCond .le 115, 3), (20, .aload_n 0, 1), (21, .getfield 41, 3), (24, .iload_n 1, 1), (25, .iaload, 1), (26, .ifCond .le 106, 3), (29, .aload_n 0, 1), (30, .getfield 38, 3), (33, .iload_n 1, 1), (34, .aaload, 1), (35, .iconst 0, 1), (36, .iaload, 1), (37, .istore 7, 2), (39, .iload 7, 2), (41, .iconst 0, 1), (42, .iconst 3, 1), (43, .invokestatic 80, 3), (46, .ifCond .ne 4, 3), (49, .return_, 1), (50, .iload 5, 2), (52, .aload_n 0, 1), (53, .getfield 33, 3), (56, .iload 7, 2), (58, .iaload, 1), (59, .invokestatic 56, 3), (62, .istore 8, 2), (64, .aload_n 0, 1), (65, .getfield 33, 3), (68, .iload 7, 2), (70, .dup2, 1), (71, .iaload, 1), (72, .iload 8, 2), (74, .isub, 1), (75, .iastore, 1), (76, .iload 5, 2), (78, .iload 8, 2), (80, .isub, 1), (81, .istore 5, 2), (83, .aload_n 0, 1), (84, .getfield 27, 3), (87, .iload_n 1, 1), (88, .dup2, 1), (89, .iaload, 1), (90, .iload 8, 2), (92, .iadd, 1), (93, .iastore, 1), (94, .aload_n 0, 1), (95, .getfield 33, 3), (98, .iload 7, 2), (100, .iaload, 1), (101, .ifCond .ne 25, 3), (104, .aload_n 0, 1), (105, .iload_n 1, 1), (106, .invokevirtual 90, 3), (109, .aload_n 0, 1), (110, .iload 7, 2), (112, .aload_n 3, 1), (113, .iload 7, 2), (115, .aaload, 1), (116, .iload 4, 2), (118, .aload_n 2, 1), (119, .getfield 93, 3), (122, .iadd, 1), (123, .invokevirtual 96, 3), (126, .iinc 6 1, 3), (129, .goto (-120), 3), (132, .return_, 1)]
theorem o_X6_depart : tb_X6_depart.all (fun q => decide (decode cX6_depart q.1 = .ok q.2)) = true := by decide +kernel
def m_X6_waitAMinute : sk_MI := (yX6_waitAMinute, cX6_waitAMinute, 5, none, 0, 0)
def tb_X6_waitAMinute : List (Nat × Instr × Nat) := [(0, .iconst 0, 1), (1, .istore_n 2, 1), (2, .iconst 0, 1), (3, .istore_n 3, 1), (4, .iload_n 3, 1), (5, .aload_n 0, 1), (6, .getfield 41, 3), (9, .iload_n 1, 1), (10, .iaload, 1), (11, .if_icmp .ge 61, 3), (14, .iload_n 3, 1), (15, .iconst 4, 1), (16, .if_icmp .ge 56, 3), (19, .aload_n 0, 1), (20, .getfield 38, 3), (23, .iload_n 1, 1), (24, .aaload, 1), (25, .iload_n 3, 1), (26, .iaload, 1), (27, .istore 4, 2), (29, .iload 4, 2), (31, .iconst 0, 1), (32, .iconst 3, 1), (33, .invokestatic 80, 3), (36, .ifCond .eq 30, 3), (39, .iload_n 2, 1), (40, .aload_n 0, 1), (41, .getfield 33, 3), (44, .iload 4, 2), (46, .iaload, 1), (47, .iadd, 1), (48, .istore_n 2, 1), (49, .aload_n 0, 1), (50, .getfield 18, 3), (53, .iload 4, 2), (55, .dup2, 1), (56, .iaload, 1), (57, .aload_n 0, 1), (58, .getfield 33, 3), (61, .iload 4, 2), (63, .iaload, 1), (64, .iadd, 1), (65, .iastore, 1), (66, .iinc 3 1, 3), (69, .goto (-65), 3), (72, .aload_n 0, 1), (73, .getfield 24, 3), (76, .iload_n 1, 1), (77, .aload_n 0, 1), (78, .getfield 24, 3), (81, .iload_n 1, 1), (82, .iaload, 1), (83, .iload_n 2, 1), (84, .invokestatic 106, 3), (87, .iastore, 1), (88, .return_, 1)]
theorem o_X6_waitAMinute : tb_X6_waitAMinute.all (fun q => decide (decode cX6_waitAMinute q.1 = .ok q.2)) = true := by decide +kernel
def m_X6_run : sk_MI := (yX6_run, cX6_run, 8, none, 0, 0)
def tb_X6_run : List (Nat × Instr × Nat) := [(0, .iload_n 3, 1), (1, .iconst 3, 1), (2, .invokestatic 56, 3), (5, .istore 5, 2), (7, .iconst 0, 1), (8, .istore 6, 2), (10, .iload 6, 2), (12, .iload 4, 2), (14, .if_icmp .ge 79, 3), (17, .aload_n 0, 1), (18, .aload_n 1, 1), (19, .iload 6, 2), (21, .invokevirtual 62, 3), (24, .iconst 0, 1), (25, .istore 7, 2), (27, .iload 7, 2), (29, .iload 5, 2), (31, .if_icmp .ge 34, 3), (34, .aload_n 2, 1), (35, .iload 7, 2), (37, .aaload, 1), (38, .iload 6, 2), (40, .invokevirtual 66, 3), (43, .ifCond .eq 16, 3), (46, .aload_n 0, 1), (47, .iload 7, 2), (49, .aload_n 2, 1), (50, .iload 7, 2), (52, .aaload, 1), (53, .aload_n 1, 1), (54, .iload 6, 2), (56, .invokevirtual 72, 3), (59, .iinc 7 1, 3), (62, .goto (-35), 3), (65, .iconst 0, 1), (66, .istore 7, 2), (68, .iload 7, 2), (70, .iload 5, 2), (72, .if_icmp .ge 15, 3), (75, .aload_n 0, 1), (76, .iload 7, 2), (78, .invokevirtual 76, 3), (81, .iinc 7 1, 3), (84, .goto (-16), 3), (87, .iinc 6 1, 3), (90, .goto (-80), 3), (93, .return_, 1)]
theorem o_X6_run : tb_X6_run.all (fun q => decide (decode cX6_run q.1 = .ok q.2)) = true := by decide +kernel
def m_X7_tryFrom : sk_MI := (yX7_tryFrom, cX7_tryFrom, 8, none, 0, 0)
def tb_X7_tryFrom : List (Nat × Instr × Nat) := [(0, .iload_n 3, 1), (1, .aload_n 0, 1), (2, .getfield 23, 3), (5, .if_icmp .lt 4, 3), (8, .return_, 1), (9, .iload_n 1, 1), (10, .iconst 4, 1), (11, .if_icmp .lt 23, 3), (14, .aload_n 0, 1), (15, .iload_n 3, 1), (16, .putfield 23, 3), (19, .aload_n 0, 1), (20, .getfield 19, 3), (23, .iconst 0, 1), (24, .aload_n 0, 1), (25, .getfield 15, 3), (28, .iconst 0, 1), (29, .iconst 4, 1), (30, .invokestatic 31, 3), (33, .return_, 1), (34, .aload_n 0, 1), (35, .getfield 19, 3), (38, .iload_n 1, 1), (39, .bipush (-9), 2), (41, .iastore, 1), (42, .aload_n 0, 1), (43, .getfield 9, 3), (46, .iload_n 1, 1), (47, .baload, 1), (48, .ifCond .ne 17, 3), (51, .aload_n 0, 1), (52, .iload_n 1, 1), (53, .iconst 1, 1), (54, .iadd, 1), (55, .iload_n 2, 1), (56, .iload_n 3, 1), (57, .aload 4, 2), (59, .aload 5, 2), (61, .invokestatic 27, 3), (64, .return_, 1), (65, .iconst 0, 1), (66, .istore 6, 2), (68, .iload 6, 2), (70, .bipush 8, 2), (72, .if_icmp .ge 91, 3), (75, .aload 5, 2), (77, .iload 6, 2), (79, .aaload, 1), (80, .getfield 37, 3), (83, .ifCond .eq 16, 3), (86, .iload_n 2, 1), (87, .iload 6, 2), (89, .ishr, 1), (90, .iconst 1, 1), (91, .iand, 1), (92, .ifCond .ne 7, 3), (95, .iconst 1, 1), (96, .goto 4, 3), (99, .iconst 0, 1), (100, .istore 7, 2), (102, .iload 7, 2), (104, .ifCond .eq 53, 3), (107, .aload 5, 2), (109, .iload 6, 2), (111, .aaload, 1), (112, .aload 4, 2), (114, .iload_n 1, 1), (115, .aaload, 1), (116, .invokevirtual 43, 3), (119, .ifCond .eq 38, 3), (122, .aload_n 0, 1), (123, .getfield 19, 3), (126, .iload_n 1, 1), (127, .iload 6, 2), (129, .iastore, 1), (130, .aload_n 0, 1), (131, .iload_n 1, 1), (132, .iconst 1, 1), (133, .iadd, 1), (134, .iload_n 2, 1), (135, .iconst 1, 1), (136, .iload 6, 2), (138, .ishl, 1), (139, .ior, 1), (140, .iload_n 3, 1), (141, .aload 5, 2), (143, .iload 6, 2), (145, .aaload, 1), (146, .getfield 47, 3), (149, .iadd, 1), (150, .aload 4, 2), (152, .aload 5, 2), (154, .invokestatic 27, 3), (157, .iinc 6 1, 3), (160, .goto (-92), 3), (163, .return_, 1)]
theorem o_X7_tryFrom : tb_X7_tryFrom.all (fun q => decide (decode cX7_tryFrom q.1 = .ok q.2)) = true := by decide +kernel
def m_X7_findBest : sk_MI := (yX7_findBest, cX7_findBest, 3, some .int, 0, 0)
def tb_X7_findBest : List (Nat × Instr × Nat) := [(0, .aload_n 0, 1), (1, .ldc 22, 2), (3, .putfield 23, 3), (6, .aload_n 0, 1), (7, .iconst 0, 1), (8, .iconst 0, 1), (9, .iconst 0, 1), (10, .aload_n 1, 1), (11, .aload_n 2, 1), (12, .invokestatic 27, 3), (15, .aload_n 0, 1), (16, .getfield 23, 3), (19, .ldc 22, 2), (21, .if_icmp .ne 8, 3), (24, .bipush (-9), 2), (26, .goto 7, 3), (29, .aload_n 0, 1), (30, .getfield 23, 3), (33, .ireturn, 1)]
theorem o_X7_findBest : tb_X7_findBest.all (fun q => decide (decode cX7_findBest q.1 = .ok q.2)) = true := by decide +kernel
def m_X8_freePupilNumber : sk_MI := (yX8_freePupilNumber, cX8_freePupilNumber, 2, some .int, 0, 0)
def tb_X8_freePupilNumber : List (Nat × Instr × Nat) := [(0, .iconst 0, 1), (1, .istore_n 1, 1), (2, .iload_n 1, 1), (3, .bipush 20, 2), (5, .if_icmp .ge 23, 3), (8, .aload_n 0, 1), (9, .getfield 11, 3), (12, .iload_n 1, 1), (13, .aaload, 1), (14, .getfield 108, 3), (17, .ifCond .ne 5, 3), (20, .iload_n 1, 1), (21, .ireturn, 1), (22, .iinc 1 1, 3), (25, .goto (-23), 3), (28, .bipush (-9), 2), (30, .ireturn, 1)]
theorem o_X8_freePupilNumber : tb_X8_freePupilNumber.all (fun q => decide (decode cX8_freePupilNumber q.1 = .ok q.2)) = true := by decide +kernel
def m_X8_isInOnePlace : sk_MI := (yX8_isInOnePlace, cX8_isInOnePlace, 5, some .boolean, 0, 0)
def tb_X8_isInOnePlace : List (Nat × Instr × Nat) := [(0, .iconst 0, 1), (1, .istore_n 2, 1), (2, .bipush (-9), 2), (4, .istore_n 3, 1), (5, .iconst 0, 1), (6, .istore 4, 2), (8, .iload 4, 2), (10, .bipush 20, 2), (12, .if_icmp .ge 56, 3), (15, .aload_n 0, 1), (16, .getfield 11, 3), (19, .iload 4, 2), (21, .aaload, 1), (22, .iload_n 1, 1), (23, .invokevirtual 127, 3), (26, .ifCond .eq 36, 3), (29, .iload_n 2, 1), (30, .ifCond .eq 19, 3), (33, .aload_n 0, 1), (34, .getfield 11, 3), (37, .iload 4, 2), (39, .aaload, 1), (40, .getfield 124, 3), (43, .iload_n 3, 1), (44, .if_icmp .eq 5, 3), (47, .iconst 0, 1), (48, .ireturn, 1), (49, .iconst 1, 1), (50, .istore_n 2, 1), (51, .aload_n 0, 1), (52, .getfield 11, 3), (55, .iload 4, 2), (57, .aaload, 1), (58, .getfield 124, 3), (61, .istore_n 3, 1), (62, .iinc 4 1, 3), (65, .goto (-57), 3), (68, .iconst 1, 1), (69, .ireturn, 1)]
theorem o_X8_isInOnePlace : tb_X8_isInOnePlace.all (fun q => decide (decode cX8_isInOnePlace q.1 = .ok q.2)) = true := by decide +kernel
def m_X8_separateIfBroken : sk_MI := (yX8_separateIfBroken, cX8_separateIfBroken, 4, some .int, 0, 0)
def tb_X8_separateIfBroken : List (Nat × Instr × Nat) := [(0, .iload_n 1, 1), (1, .invokestatic 89, 3), (4, .ifCond .eq 20, 3), (7, .aload_n 0, 1), (8, .getfield 33, 3), (11, .iload_n 1, 1), (12, .baload, 1), (13, .ifCond .eq 11, 3), (16, .aload_n 0, 1), (17, .iload_n 1, 1), (18, .invokevirtual 381, 3), (21, .ifCond .eq 5, 3), (24, .iconst 0, 1), (25, .ireturn, 1), (26, .iconst 0, 1), (27, .istore_n 2, 1), (28, .iconst 0, 1), (29, .istore_n 3, 1), (30, .iload_n 3, 1), (31, .bipush 20, 2), (33, .if_icmp .ge 50, 3), (36, .aload_n 0, 1), (37, .getfield 11, 3), (40, .iload_n 3, 1), (41, .aaload, 1), (42, .iload_n 1, 1), (43, .invokevirtual 127, 3), (46, .ifCond .eq 31, 3), (49, .aload_n 0, 1), (50, .getfield 11, 3), (53, .iload_n 3, 1), (54, .aaload, 1), (55, .getfield 124, 3), (58, .bipush (-9), 2), (60, .if_icmp .eq 17, 3), (63, .aload_n 0, 1), (64, .getfield 11, 3), (67, .iload_n 3, 1), (68, .aaload, 1), (69, .bipush (-9), 2), (71, .putfield 124, 3), (74, .iinc 2 1, 3), (77, .iinc 3 1, 3), (80, .goto (-50), 3), (83, .iload_n 2, 1), (84, .ireturn, 1)]
theorem o_X8_separateIfBroken : tb_X8_separateIfBroken.all (fun q => decide (decode cX8_separateIfBroken q.1 = .ok q.2)) = true := by decide +kernel
def m_X8_addPupil : sk_MI := (yX8_addPupil, cX8_addPupil, 5, some .int, 0, 0)
def tb_X8_addPupil : List (Nat × Instr × Nat) := [(0, .iload_n 1, 1), (1, .iconst 0, 1), (2, .bipush 7, 2), (4, .invokestatic 85, 3), (7, .ifCond .eq 13, 3), (10, .iload_n 2, 1), (11, .iconst 1, 1), (12, .bipush 63, 2), (14, .invokestatic 85, 3), (17, .ifCond .ne 5, 3), (20, .iconst (-1), 1), (21, .ireturn, 1), (22, .iload_n 3, 1), (23, .bipush (-9), 2), (25, .if_icmp .eq 12, 3), (28, .iload_n 3, 1), (29, .invokestatic 89, 3), (32, .ifCond .ne 5, 3), (35, .iconst (-1), 1), (36, .ireturn, 1), (37, .aload_n 0, 1), (38, .invokevirtual 93, 3), (41, .istore 4, 2), (43, .iload 4, 2), (45, .iconst 0, 1), (46, .bipush 19, 2), (48, .invokestatic 85, 3), (51, .ifCond .ne 6, 3), (54, .bipush (-3), 2), (56, .ireturn, 1), (57, .aload_n 0, 1), (58, .getfield 11, 3), (61, .iload 4, 2), (63, .aaload, 1), (64, .iload_n 1, 1), (65, .iload_n 2, 1), (66, .iload_n 3, 1), (67, .invokevirtual 97, 3), (70, .aload_n 0, 1), (71, .iload_n 3, 1), (72, .invokevirtual 101, 3), (75, .pop, 1), (76, .iload 4, 2), (78, .ireturn, 1)]
theorem o_X8_addPupil : tb_X8_addPupil.all (fun q => decide (decode cX8_addPupil q.1 = .ok q.2)) = true := by decide +kernel
def m_X8_hasPupil : sk_MI := (yX8_hasPupil, cX8_hasPupil, 2, some .boolean, 0, 0)
def tb_X8_hasPupil : List (Nat × Instr × Nat) := [(0, .iload_n 1, 1), (1, .iconst 0, 1), (2, .bipush 19, 2), (4, .invokestatic 85, 3), (7, .ifCond .eq 19, 3), (10, .aload_n 0, 1), (11, .getfield 11, 3), (14, .iload_n 1, 1), (15, .aaload, 1), (16, .getfield 108, 3), (19, .ifCond .eq 7, 3), (22, .iconst 1, 1), (23, .goto 4, 3), (26, .iconst 0, 1), (27, .ireturn, 1)]
theorem o_X8_hasPupil : tb_X8_hasPupil.all (fun q => decide (decode cX8_hasPupil q.1 = .ok q.2)) = true := by decide +kernel
def m_X8_pupils : sk_MI := (yX8_pupils, cX8_pupils, 3, some .int, 0, 0)
def tb_X8_pupils : List (Nat × Instr × Nat) := [(0, .iconst 0, 1), (1, .istore_n 1, 1), (2, .iconst 0, 1), (3, .istore_n 2, 1), (4, .iload_n 2, 1), (5, .bipush 20, 2), (7, .if_icmp .ge 24, 3), (10, .aload_n 0, 1), (11, .getfield 11, 3), (14, .iload_n 2, 1), (15, .aaload, 1), (16, .getfield 108, 3), (19, .ifCond .eq 6, 3), (22, .iinc 1 1, 3), (25, .iinc 2 1, 3), (28, .goto (-24), 3), (31, .iload_n 1, 1), (32, .ireturn, 1)]
theorem o_X8_pupils : tb_X8_pupils.all (fun q => decide (decode cX8_pupils q.1 = .ok q.2)) = true := by decide +kernel
def m_X8_removePupil : sk_MI := (yX8_removePupil, cX8_removePupil, 2, some .int, 0, 0)
def tb_X8_removePupil : List (Nat × Instr × Nat) := [(0, .aload_n 0, 1), (1, .iload_n 1, 1), (2, .invokevirtual 105, 3), (5, .ifCond .ne 5, 3), (8, .iconst (-1), 1), (9, .ireturn, 1), (10, .aload_n 0, 1), (11, .getfield 11, 3), (14, .iload_n 1, 1), (15, .aaload, 1), (16, .iconst 0, 1), (17, .putfield 108, 3), (20, .aload_n 0, 1), (21, .invokevirtual 112, 3), (24, .ireturn, 1)]
theorem o_X8_removePupil : tb_X8_removePupil.all (fun q => decide (decode cX8_removePupil q.1 = .ok q.2)) = true := by decide +kernel
def m_X8_level : sk_MI := (yX8_level, cX8_level, 2, some .int, 0, 0)
def tb_X8_level : List (Nat × Instr × Nat) := [(0, .aload_n 0, 1), (1, .iload_n 1, 1), (2, .invokevirtual 105, 3), (5, .ifCond .eq 15, 3), (8, .aload_n 0, 1), (9, .getfield 11, 3), (12, .iload_n 1, 1), (13, .aaload, 1), (14, .getfield 115, 3), (17, .goto 4, 3), (20, .iconst (-1), 1), (21, .ireturn, 1)]
theorem o_X8_level : tb_X8_level.all (fun q => decide (decode cX8_level q.1 = .ok q.2)) = true := by decide +kernel
def m_X8_languages : sk_MI := (yX8_languages, cX8_languages, 2, some .int, 0, 0)
def tb_X8_languages : List (Nat × Instr × Nat) := [(0, .aload_n 0, 1), (1, .iload_n 1, 1), (2, .invokevirtual 105, 3), (5, .ifCond .eq 15, 3), (8, .aload_n 0, 1), (9, .getfield 11, 3), (12, .iload_n 1, 1), (13, .aaload, 1), (14, .getfield 118, 3), (17, .goto 4, 3), (20, .iconst (-1), 1), (21, .ireturn, 1)]
theorem o_X8_languages : tb_X8_languages.all (fun q => decide (decode cX8_languages q.1 = .ok q.2)) = true := by decide +kernel
def m_X8_family : sk_MI := (yX8_family, cX8_family, 2, some .int, 0, 0)
def tb_X8_family : List (Nat × Instr × Nat) := [(0, .aload_n 0, 1), (1, .iload_n 1, 1), (2, .invokevirtual 105, 3), (5, .ifCond .eq 15, 3), (8, .aload_n 0, 1), (9, .getfield 11, 3), (12, .iload_n 1, 1), (13, .aaload, 1), (14, .getfield 121, 3), (17, .goto 4, 3), (20, .iconst (-1), 1), (21, .ireturn, 1)]
theorem o_X8_family : tb_X8_family.all (fun q => decide (decode cX8_family q.1 = .ok q.2)) = true := by decide +kernel
def m_X8_group : sk_MI := (yX8_group, cX8_group, 2, some .int, 0, 0)
def tb_X8_group : List (Nat × Instr × Nat) := [(0, .aload_n 0, 1), (1, .iload_n 1, 1), (2, .invokevirtual 105, 3), (5, .ifCond .eq 15, 3), (8, .aload_n 0, 1), (9, .getfield 11, 3), (12, .iload_n 1, 1), (13, .aaload, 1), (14, .getfield 124, 3), (17, .goto 4, 3), (20, .iconst (-1), 1), (21, .ireturn, 1)]
theorem o_X8_group : tb_X8_group.all (fun q => decide (decode cX8_group q.1 = .ok q.2)) = true := by decide +kernel
def m_X8_setTogether : sk_MI := (yX8_setTogether, cX8_setTogether, 3, some .int, 0, 0)
def tb_X8_setTogether : List (Nat × Instr × Nat) := [(0, .iload_n 1, 1), (1, .invokestatic 89, 3), (4, .ifCond .ne 5, 3), (7, .iconst (-1), 1), (8, .ireturn, 1), (9, .aload_n 0, 1), (10, .getfield 33, 3), (13, .iload_n 1, 1), (14, .iload_n 2, 1), (15, .bastore, 1), (16, .aload_n 0, 1), (17, .iload_n 1, 1), (18, .invokevirtual 101, 3), (21, .ireturn, 1)]
theorem o_X8_setTogether : tb_X8_setTogether.all (fun q => decide (decode cX8_setTogether q.1 = .ok q.2)) = true := by decide +kernel
def m_X8_spread : sk_MI := (yX8_spread, cX8_spread, 5, some .int, 0, 0)
def tb_X8_spread : List (Nat × Instr × Nat) := [(0, .iload_n 1, 1), (1, .invokestatic 89, 3), (4, .ifCond .ne 5, 3), (7, .iconst (-1), 1), (8, .ireturn, 1), (9, .bipush 8, 2), (11, .istore_n 2, 1), (12, .iconst (-1), 1), (13, .istore_n 3, 1), (14, .iconst 0, 1), (15, .istore 4, 2), (17, .iload 4, 2), (19, .bipush 20, 2), (21, .if_icmp .ge 53, 3), (24, .aload_n 0, 1), (25, .getfield 11, 3), (28, .iload 4, 2), (30, .aaload, 1), (31, .iload_n 1, 1), (32, .invokevirtual 127, 3), (35, .ifCond .eq 33, 3), (38, .iload_n 2, 1), (39, .aload_n 0, 1), (40, .getfield 11, 3), (43, .iload 4, 2), (45, .aaload, 1), (46, .getfield 115, 3), (49, .invokestatic 130, 3), (52, .istore_n 2, 1), (53, .iload_n 3, 1), (54, .aload_n 0, 1), (55, .getfield 11, 3), (58, .iload 4, 2), (60, .aaload, 1), (61, .getfield 115, 3), (64, .invokestatic 136, 3), (67, .istore_n 3, 1), (68, .iinc 4 1, 3), (71, .goto (-54), 3), (74, .iload_n 3, 1), (75, .ifCond .ge 8, 3), (78, .bipush (-9), 2), (80, .goto 6, 3), (83, .iload_n 3, 1), (84, .iload_n 2, 1), (85, .isub, 1), (86, .ireturn, 1)]
theorem o_X8_spread : tb_X8_spread.all (fun q => decide (decode cX8_spread q.1 = .ok q.2)) = true := by decide +kernel
def m_X8_isExercise : sk_MI := (yX8_isExercise, cX8_isExercise, 1, some .boolean, 0, 0)
def tb_X8_isExercise : List (Nat × Instr × Nat) := [(0, .iload_n 0, 1), (1, .iconst 0, 1), (2, .iconst 3, 1), (3, .invokestatic 85, 3), (6, .ireturn, 1)]
theorem o_X8_isExercise : tb_X8_isExercise.all (fun q => decide (decode cX8_isExercise q.1 = .ok q.2)) = true := by decide +kernel
def m_X8_score : sk_MI := (yX8_score, cX8_score, 4, some .int, 0, 0)
def tb_X8_score : List (Nat × Instr × Nat) := [(0, .aload_n 0, 1), (1, .iload_n 1, 1), (2, .invokevirtual 105, 3), (5, .ifCond .eq 20, 3), (8, .iload_n 2, 1), (9, .invokestatic 139, 3), (12, .ifCond .eq 13, 3), (15, .iload_n 3, 1), (16, .iconst 0, 1), (17, .bipush 10, 2), (19, .invokestatic 85, 3), (22, .ifCond .ne 5, 3), (25, .iconst (-1), 1), (26, .ireturn, 1), (27, .aload_n 0, 1), (28, .getfield 11, 3), (31, .iload_n 1, 1), (32, .aaload, 1), (33, .getfield 142, 3), (36, .iload_n 2, 1), (37, .iload_n 3, 1), (38, .iastore, 1), (39, .aload_n 0, 1), (40, .getfield 11, 3), (43, .iload_n 1, 1), (44, .aaload, 1), (45, .invokevirtual 146, 3), (48, .ireturn, 1)]
theorem o_X8_score : tb_X8_score.all (fun q => decide (decode cX8_score q.1 = .ok q.2)) = true := by decide +kernel
def m_X8_scoreOf : sk_MI := (yX8_scoreOf, cX8_scoreOf, 3, some .int, 0, 0)
def tb_X8_scoreOf : List (Nat × Instr × Nat) := [(0, .aload_n 0, 1), (1, .iload_n 1, 1), (2, .invokevirtual 105, 3), (5, .ifCond .eq 10, 3), (8, .iload_n 2, 1), (9, .invokestatic 139, 3), (12, .ifCond .ne 5, 3), (15, .iconst (-1), 1), (16, .ireturn, 1), (17, .aload_n 0, 1), (18, .getfield 11, 3), (21, .iload_n 1, 1), (22, .aaload, 1), (23, .getfield 142, 3), (26, .iload_n 2, 1), (27, .iaload, 1), (28, .ireturn, 1)]
theorem o_X8_scoreOf : tb_X8_scoreOf.all (fun q => decide (decode cX8_scoreOf q.1 = .ok q.2)) = true := by decide +kernel
def m_X8_setMarks : sk_MI := (yX8_setMarks, cX8_setMarks, 5, some .int, 0, 0)
def tb_X8_setMarks : List (Nat × Instr × Nat) := [(0, .iload_n 1, 1), (1, .iconst 0, 1), (2, .bipush 40, 2), (4, .invokestatic 85, 3), (7, .ifCond .eq 22, 3), (10, .iload_n 2, 1), (11, .iconst 0, 1), (12, .bipush 10, 2), (14, .invokestatic 85, 3), (17, .ifCond .eq 12, 3), (20, .iload_n 3, 1), (21, .iconst 0, 1), (22, .iload_n 1, 1), (23, .invokestatic 85, 3), (26, .ifCond .ne 5, 3), (29, .iconst (-1), 1), (30, .ireturn, 1), (31, .aload_n 0, 1), (32, .getfield 69, 3), (35, .istore 4, 2), (37, .aload_n 0, 1), (38, .iload_n 1, 1), (39, .putfield 69, 3), (42, .aload_n 0, 1), (43, .iload_n 2, 1), (44, .putfield 72, 3), (47, .aload_n 0, 1), (48, .iload_n 3, 1), (49, .putfield 75, 3), (52, .iload 4, 2), (54, .ireturn, 1)]
theorem o_X8_setMarks : tb_X8_setMarks.all (fun q => decide (decode cX8_setMarks q.1 = .ok q.2)) = true := by decide +kernel
def m_X8_levelAfterTest : sk_MI := (yX8_levelAfterTest, cX8_levelAfterTest, 3, some .int, 0, 0)
def tb_X8_levelAfterTest : List (Nat × Instr × Nat) := [(0, .aload_n 1, 1), (1, .invokevirtual 384, 3), (4, .istore_n 2, 1), (5, .iload_n 2, 1), (6, .aload_n 0, 1), (7, .getfield 69, 3), (10, .if_icmp .lt 26, 3), (13, .aload_n 1, 1), (14, .invokevirtual 387, 3), (17, .aload_n 0, 1), (18, .getfield 72, 3), (21, .if_icmp .lt 15, 3), (24, .aload_n 1, 1), (25, .getfield 115, 3), (28, .iconst 1, 1), (29, .iadd, 1), (30, .bipush 7, 2), (32, .invokestatic 130, 3), (35, .ireturn, 1), (36, .iload_n 2, 1), (37, .aload_n 0, 1), (38, .getfield 75, 3), (41, .if_icmp .ge 16, 3), (44, .aload_n 1, 1), (45, .getfield 115, 3), (48, .iconst 1, 1), (49, .isub, 1), (50, .iconst 0, 1), (51, .invokestatic 136, 3), (54, .goto 7, 3), (57, .aload_n 1, 1), (58, .getfield 115, 3), (61, .ireturn, 1)]
theorem o_X8_levelAfterTest : tb_X8_levelAfterTest.all (fun q => decide (decode cX8_levelAfterTest q.1 = .ok q.2)) = true := by decide +kernel
def m_X8_hasGroup : sk_MI := (yX8_hasGroup, cX8_hasGroup, 2, some .boolean, 0, 0)
def tb_X8_hasGroup : List (Nat × Instr × Nat) := [(0, .iload_n 1, 1), (1, .iconst 0, 1), (2, .iconst 3, 1), (3, .invokestatic 85, 3), (6, .ifCond .eq 19, 3), (9, .aload_n 0, 1), (10, .getfield 17, 3), (13, .iload_n 1, 1), (14, .aaload, 1), (15, .getfield 181, 3), (18, .ifCond .eq 7, 3), (21, .iconst 1, 1), (22, .goto 4, 3), (25, .iconst 0, 1), (26, .ireturn, 1)]
theorem o_X8_hasGroup : tb_X8_hasGroup.all (fun q => decide (decode cX8_hasGroup q.1 = .ok q.2)) = true := by decide +kernel
def m_X8_grade : sk_MI := (yX8_grade, cX8_grade, 3, some .int, 0, 0)
def tb_X8_grade : List (Nat × Instr × Nat) := [(0, .aload_n 0, 1), (1, .iload_n 1, 1), (2, .invokevirtual 105, 3), (5, .ifCond .ne 5, 3), (8, .iconst (-1), 1), (9, .ireturn, 1), (10, .aload_n 0, 1), (11, .getfield 11, 3), (14, .iload_n 1, 1), (15, .aaload, 1), (16, .astore_n 2, 1), (17, .aload_n 2, 1), (18, .invokevirtual 146, 3), (21, .iconst 4, 1), (22, .if_icmp .lt 14, 3), (25, .aload_n 2, 1), (26, .getfield 149, 3), (29, .aload_n 0, 1), (30, .getfield 78, 3), (33, .if_icmp .ne 6, 3), (36, .bipush (-2), 2), (38, .ireturn, 1), (39, .aload_n 2, 1), (40, .aload_n 0, 1), (41, .aload_n 2, 1), (42, .invokevirtual 152, 3), (45, .putfield 115, 3), (48, .aload_n 2, 1), (49, .invokevirtual 156, 3), (52, .aload_n 2, 1), (53, .aload_n 0, 1), (54, .getfield 78, 3), (57, .putfield 149, 3), (60, .aload_n 0, 1), (61, .aload_n 2, 1), (62, .getfield 124, 3), (65, .invokevirtual 159, 3), (68, .ifCond .eq 34, 3), (71, .aload_n 0, 1), (72, .getfield 17, 3), (75, .aload_n 2, 1), (76, .getfield 124, 3), (79, .aaload, 1), (80, .aload_n 2, 1), (81, .invokevirtual 162, 3), (84, .ifCond .ne 18, 3), (87, .aload_n 2, 1), (88, .bipush (-9), 2), (90, .putfield 124, 3), (93, .aload_n 0, 1), (94, .aload_n 2, 1), (95, .getfield 121, 3), (98, .invokevirtual 101, 3), (101, .pop, 1), (102, .aload_n 2, 1), (103, .getfield 115, 3), (106, .ireturn, 1)]
theorem o_X8_grade : tb_X8_grade.all (fun q => decide (decode cX8_grade q.1 = .ok q.2)) = true := by decide +kernel
def m_X8_nextDay : sk_MI := (yX8_nextDay, cX8_nextDay, 1, some .int, 0, 0)
def tb_X8_nextDay : List (Nat × Instr × Nat) := [(0, .aload_n 0, 1), (1, .dup, 1), (2, .getfield 78, 3), (5, .iconst 1, 1), (6, .iadd, 1), (7, .putfield 78, 3), (10, .aload_n 0, 1), (11, .getfield 78, 3), (14, .ireturn, 1)]
theorem o_X8_nextDay : tb_X8_nextDay.all (fun q => decide (decode cX8_nextDay q.1 = .ok q.2)) = true := by decide +kernel
def m_X8_isGroupKind : sk_MI := (yX8_isGroupKind, cX8_isGroupKind, 3, some .boolean, 0, 0)
def tb_X8_isGroupKind : List (Nat × Instr × Nat) := [(0, .iload_n 0, 1), (1, .iconst 0, 1), (2, .bipush 7, 2), (4, .invokestatic 85, 3), (7, .ifCond .eq 26, 3), (10, .iload_n 1, 1), (11, .iconst 0, 1), (12, .iconst 5, 1), (13, .invokestatic 85, 3), (16, .ifCond .eq 17, 3), (19, .iload_n 2, 1), (20, .iconst 1, 1), (21, .bipush 6, 2), (23, .invokestatic 85, 3), (26, .ifCond .eq 7, 3), (29, .iconst 1, 1), (30, .goto 4, 3), (33, .iconst 0, 1), (34, .ireturn, 1)]
theorem o_X8_isGroupKind : tb_X8_isGroupKind.all (fun q => decide (decode cX8_isGroupKind q.1 = .ok q.2)) = true := by decide +kernel
def m_X8_freeGroupNumber : sk_MI := (yX8_freeGroupNumber, cX8_freeGroupNumber, 2, some .int, 0, 0)
def tb_X8_freeGroupNumber : List (Nat × Instr × Nat) := [(0, .iconst 0, 1), (1, .istore_n 1, 1), (2, .iload_n 1, 1), (3, .iconst 4, 1), (4, .if_icmp .ge 23, 3), (7, .aload_n 0, 1), (8, .getfield 17, 3), (11, .iload_n 1, 1), (12, .aaload, 1), (13, .getfield 181, 3), (16, .ifCond .ne 5, 3), (19, .iload_n 1, 1), (20, .ireturn, 1), (21, .iinc 1 1, 3), (24, .goto (-22), 3), (27, .bipush (-9), 2), (29, .ireturn, 1)]
theorem o_X8_freeGroupNumber : tb_X8_freeGroupNumber.all (fun q => decide (decode cX8_freeGroupNumber q.1 = .ok q.2)) = true := by decide +kernel
def m_X8_openGroup : sk_MI := (yX8_openGroup, cX8_openGroup, 5, some .int, 0, 0)
def tb_X8_openGroup : List (Nat × Instr × Nat) := [(0, .iload_n 1, 1), (1, .iload_n 2, 1), (2, .iload_n 3, 1), (3, .invokestatic 166, 3), (6, .ifCond .ne 5, 3), (9, .iconst (-1), 1), (10, .ireturn, 1), (11, .aload_n 0, 1), (12, .invokevirtual 169, 3), (15, .istore 4, 2), (17, .iload 4, 2), (19, .iconst 0, 1), (20, .iconst 3, 1), (21, .invokestatic 85, 3), (24, .ifCond .ne 6, 3), (27, .bipush (-3), 2), (29, .ireturn, 1), (30, .aload_n 0, 1), (31, .getfield 17, 3), (34, .iload 4, 2), (36, .aaload, 1), (37, .iload_n 1, 1), (38, .iload_n 2, 1), (39, .iload_n 3, 1), (40, .invokevirtual 172, 3), (43, .iload 4, 2), (45, .ireturn, 1)]
theorem o_X8_openGroup : tb_X8_openGroup.all (fun q => decide (decode cX8_openGroup q.1 = .ok q.2)) = true := by decide +kernel
def m_X8_closeGroup : sk_MI := (yX8_closeGroup, cX8_closeGroup, 4, some .int, 0, 0)
def tb_X8_closeGroup : List (Nat × Instr × Nat) := [(0, .aload_n 0, 1), (1, .iload_n 1, 1), (2, .invokevirtual 159, 3), (5, .ifCond .ne 5, 3), (8, .iconst (-1), 1), (9, .ireturn, 1), (10, .iconst 0, 1), (11, .istore_n 2, 1), (12, .iconst 0, 1), (13, .istore_n 3, 1), (14, .iload_n 3, 1), (15, .bipush 20, 2), (17, .if_icmp .ge 36, 3), (20, .aload_n 0, 1), (21, .getfield 11, 3), (24, .iload_n 3, 1), (25, .aaload, 1), (26, .iload_n 1, 1), (27, .invokevirtual 175, 3), (30, .ifCond .eq 17, 3), (33, .aload_n 0, 1), (34, .getfield 11, 3), (37, .iload_n 3, 1), (38, .aaload, 1), (39, .bipush (-9), 2), (41, .putfield 124, 3), (44, .iinc 2 1, 3), (47, .iinc 3 1, 3), (50, .goto (-36), 3), (53, .aload_n 0, 1), (54, .getfield 17, 3), (57, .iload_n 1, 1), (58, .aaload, 1), (59, .invokevirtual 178, 3), (62, .iload_n 2, 1), (63, .ireturn, 1)]
theorem o_X8_closeGroup : tb_X8_closeGroup.all (fun q => decide (decode cX8_closeGroup q.1 = .ok q.2)) = true := by decide +kernel
def m_X8_groups : sk_MI := (yX8_groups, cX8_groups, 3, some .int, 0, 0)
def tb_X8_groups : List (Nat × Instr × Nat) := [(0, .iconst 0, 1), (1, .istore_n 1, 1), (2, .iconst 0, 1), (3, .istore_n 2, 1), (4, .iload_n 2, 1), (5, .iconst 4, 1), (6, .if_icmp .ge 24, 3), (9, .aload_n 0, 1), (10, .getfield 17, 3), (13, .iload_n 2, 1), (14, .aaload, 1), (15, .getfield 181, 3), (18, .ifCond .eq 6, 3), (21, .iinc 1 1, 3), (24, .iinc 2 1, 3), (27, .goto (-23), 3), (30, .iload_n 1, 1), (31, .ireturn, 1)]
theorem o_X8_groups : tb_X8_groups.all (fun q => decide (decode cX8_groups q.1 = .ok q.2)) = true := by decide +kernel
def m_X8_groupLevel : sk_MI := (yX8_groupLevel, cX8_groupLevel, 2, some .int, 0, 0)
def tb_X8_groupLevel : List (Nat × Instr × Nat) := [(0, .aload_n 0, 1), (1, .iload_n 1, 1), (2, .invokevirtual 159, 3), (5, .ifCond .eq 15, 3), (8, .aload_n 0, 1), (9, .getfield 17, 3), (12, .iload_n 1, 1), (13, .aaload, 1), (14, .getfield 184, 3), (17, .goto 4, 3), (20, .iconst (-1), 1), (21, .ireturn, 1)]
theorem o_X8_groupLevel : tb_X8_groupLevel.all (fun q => decide (decode cX8_groupLevel q.1 = .ok q.2)) = true := by decide +kernel
def m_X8_countPupilsIn : sk_MI := (yX8_countPupilsIn, cX8_countPupilsIn, 4, some .int, 0, 0)
def tb_X8_countPupilsIn : List (Nat × Instr × Nat) := [(0, .iconst 0, 1), (1, .istore_n 2, 1), (2, .iconst 0, 1), (3, .istore_n 3, 1), (4, .iload_n 3, 1), (5, .bipush 20, 2), (7, .if_icmp .ge 25, 3), (10, .aload_n 0, 1), (11, .getfield 11, 3), (14, .iload_n 3, 1), (15, .aaload, 1), (16, .iload_n 1, 1), (17, .invokevirtual 175, 3), (20, .ifCond .eq 6, 3), (23, .iinc 2 1, 3), (26, .iinc 3 1, 3), (29, .goto (-25), 3), (32, .iload_n 2, 1), (33, .ireturn, 1)]
theorem o_X8_countPupilsIn : tb_X8_countPupilsIn.all (fun q => decide (decode cX8_countPupilsIn q.1 = .ok q.2)) = true := by decide +kernel
def m_X8_size : sk_MI := (yX8_size, cX8_size, 2, some .int, 0, 0)
def tb_X8_size : List (Nat × Instr × Nat) := [(0, .aload_n 0, 1), (1, .iload_n 1, 1), (2, .invokevirtual 159, 3), (5, .ifCond .eq 11, 3), (8, .aload_n 0, 1), (9, .iload_n 1, 1), (10, .invokevirtual 185, 3), (13, .goto 4, 3), (16, .iconst (-1), 1), (17, .ireturn, 1)]
theorem o_X8_size : tb_X8_size.all (fun q => decide (decode cX8_size q.1 = .ok q.2)) = true := by decide +kernel
def m_X8_instructor : sk_MI := (yX8_instructor, cX8_instructor, 2, some .int, 0, 0)
def tb_X8_instructor : List (Nat × Instr × Nat) := [(0, .aload_n 0, 1), (1, .iload_n 1, 1), (2, .invokevirtual 159, 3), (5, .ifCond .eq 15, 3), (8, .aload_n 0, 1), (9, .getfield 17, 3), (12, .iload_n 1, 1), (13, .aaload, 1), (14, .getfield 188, 3), (17, .goto 4, 3), (20, .iconst (-1), 1), (21, .ireturn, 1)]
theorem o_X8_instructor : tb_X8_instructor.all (fun q => decide (decode cX8_instructor q.1 = .ok q.2)) = true := by decide +kernel
def m_X8_assign : sk_MI := (yX8_assign, cX8_assign, 3, some .int, 0, 0)
def tb_X8_assign : List (Nat × Instr × Nat) := [(0, .aload_n 0, 1), (1, .getfield 40, 3), (4, .aload_n 0, 1), (5, .getfield 11, 3), (8, .aload_n 0, 1), (9, .getfield 17, 3), (12, .aload_n 0, 1), (13, .getfield 33, 3), (16, .invokevirtual 191, 3), (19, .istore_n 1, 1), (20, .iconst 0, 1), (21, .istore_n 2, 1), (22, .iload_n 2, 1), (23, .bipush 20, 2), (25, .if_icmp .ge 38, 3), (28, .aload_n 0, 1), (29, .getfield 11, 3), (32, .iload_n 2, 1), (33, .aaload, 1), (34, .getfield 108, 3), (37, .ifCond .eq 20, 3), (40, .aload_n 0, 1), (41, .getfield 11, 3), (44, .iload_n 2, 1), (45, .aaload, 1), (46, .aload_n 0, 1), (47, .getfield 40, 3), (50, .iload_n 2, 1), (51, .invokevirtual 195, 3), (54, .putfield 124, 3), (57, .iinc 2 1, 3), (60, .goto (-38), 3), (63, .iload_n 1, 1), (64, .ireturn, 1)]
theorem o_X8_assign : tb_X8_assign.all (fun q => decide (decode cX8_assign q.1 = .ok q.2)) = true := by decide +kernel
def m_X8_placed : sk_MI := (yX8_placed, cX8_placed, 3, some .int, 0, 0)
def tb_X8_placed : List (Nat × Instr × Nat) := [(0, .iconst 0, 1), (1, .istore_n 1, 1), (2, .iconst 0, 1), (3, .istore_n 2, 1), (4, .iload_n 2, 1), (5, .bipush 20, 2), (7, .if_icmp .ge 38, 3), (10, .aload_n 0, 1), (11, .getfield 11, 3), (14, .iload_n 2, 1), (15, .aaload, 1), (16, .getfield 108, 3), (19, .ifCond .eq 20, 3), (22, .aload_n 0, 1), (23, .getfield 11, 3), (26, .iload_n 2, 1), (27, .aaload, 1), (28, .getfield 124, 3), (31, .bipush (-9), 2), (33, .if_icmp .eq 6, 3), (36, .iinc 1 1, 3), (39, .iinc 2 1, 3), (42, .goto (-38), 3), (45, .iload_n 1, 1), (46, .ireturn, 1)]
theorem o_X8_placed : tb_X8_placed.all (fun q => decide (decode cX8_placed q.1 = .ok q.2)) = true := by decide +kernel
def m_X8_outOfLevel : sk_MI := (yX8_outOfLevel, cX8_outOfLevel, 4, some .int, 0, 0)
def tb_X8_outOfLevel : List (Nat × Instr × Nat) := [(0, .iconst 0, 1), (1, .istore_n 1, 1), (2, .iconst 0, 1), (3, .istore_n 2, 1), (4, .iload_n 2, 1), (5, .bipush 20, 2), (7, .if_icmp .ge 56, 3), (10, .aload_n 0, 1), (11, .getfield 11, 3), (14, .iload_n 2, 1), (15, .aaload, 1), (16, .astore_n 3, 1), (17, .aload_n 3, 1), (18, .getfield 108, 3), (21, .ifCond .eq 36, 3), (24, .aload_n 0, 1), (25, .aload_n 3, 1), (26, .getfield 124, 3), (29, .invokevirtual 159, 3), (32, .ifCond .eq 25, 3), (35, .aload_n 0, 1), (36, .getfield 17, 3), (39, .aload_n 3, 1), (40, .getfield 124, 3), (43, .aaload, 1), (44, .getfield 184, 3), (47, .aload_n 3, 1), (48, .getfield 115, 3), (51, .if_icmp .eq 6, 3), (54, .iinc 1 1, 3), (57, .iinc 2 1, 3), (60, .goto (-56), 3), (63, .iload_n 1, 1), (64, .ireturn, 1)]
theorem o_X8_outOfLevel : tb_X8_outOfLevel.all (fun q => decide (decode cX8_outOfLevel q.1 = .ok q.2)) = true := by decide +kernel
def m_X8_extraPlaced : sk_MI := (yX8_extraPlaced, cX8_extraPlaced, 7, some .int, 0, 0)
def tb_X8_extraPlaced : List (Nat × Instr × Nat) := [(0, .iload_n 1, 1), (1, .iload_n 2, 1), (2, .iload_n 3, 1), (3, .invokestatic 166, 3), (6, .ifCond .ne 5, 3), (9, .iconst (-1), 1), (10, .ireturn, 1), (11, .aload_n 0, 1), (12, .invokevirtual 169, 3), (15, .istore 4, 2), (17, .iload 4, 2), (19, .iconst 0, 1), (20, .iconst 3, 1), (21, .invokestatic 85, 3), (24, .ifCond .ne 6, 3), (27, .bipush (-3), 2), (29, .ireturn, 1), (30, .aload_n 0, 1), (31, .getfield 40, 3), (34, .aload_n 0, 1), (35, .getfield 11, 3), (38, .aload_n 0, 1), (39, .getfield 17, 3), (42, .aload_n 0, 1), (43, .getfield 33, 3), (46, .invokevirtual 191, 3), (49, .istore 5, 2), (51, .aload_n 0, 1), (52, .getfield 17, 3), (55, .iload 4, 2), (57, .aaload, 1), (58, .iload_n 1, 1), (59, .iload_n 2, 1), (60, .iload_n 3, 1), (61, .invokevirtual 172, 3), (64, .aload_n 0, 1), (65, .getfield 40, 3), (68, .aload_n 0, 1), (69, .getfield 11, 3), (72, .aload_n 0, 1), (73, .getfield 17, 3), (76, .aload_n 0, 1), (77, .getfield 33, 3), (80, .invokevirtual 191, 3), (83, .istore 6, 2), (85, .aload_n 0, 1), (86, .getfield 17, 3), (89, .iload 4, 2), (91, .aaload, 1), (92, .invokevirtual 178, 3), (95, .iload 6, 2), (97, .iload 5, 2), (99, .isub, 1), (100, .ireturn, 1)]
theorem o_X8_extraPlaced : tb_X8_extraPlaced.all (fun q => decide (decode cX8_extraPlaced q.1 = .ok q.2)) = true := by decide +kernel
def m_X8_splitGain : sk_MI := (yX8_splitGain, cX8_splitGain, 4, some .int, 0, 0)
def tb_X8_splitGain : List (Nat × Instr × Nat) := [(0, .iload_n 1, 1), (1, .invokestatic 89, 3), (4, .ifCond .ne 5, 3), (7, .iconst (-1), 1), (8, .ireturn, 1), (9, .aload_n 0, 1), (10, .getfield 33, 3), (13, .iload_n 1, 1), (14, .baload, 1), (15, .ifCond .ne 5, 3), (18, .iconst 0, 1), (19, .ireturn, 1), (20, .aload_n 0, 1), (21, .getfield 40, 3), (24, .aload_n 0, 1), (25, .getfield 11, 3), (28, .aload_n 0, 1), (29, .getfield 17, 3), (32, .aload_n 0, 1), (33, .getfield 33, 3), (36, .invokevirtual 191, 3), (39, .istore_n 2, 1), (40, .aload_n 0, 1), (41, .getfield 33, 3), (44, .iload_n 1, 1), (45, .iconst 0, 1), (46, .bastore, 1), (47, .aload_n 0, 1), (48, .getfield 40, 3), (51, .aload_n 0, 1), (52, .getfield 11, 3), (55, .aload_n 0, 1), (56, .getfield 17, 3), (59, .aload_n 0, 1), (60, .getfield 33, 3), (63, .invokevirtual 191, 3), (66, .istore_n 3, 1), (67, .aload_n 0, 1), (68, .getfield 33, 3), (71, .iload_n 1, 1), (72, .iconst 1, 1), (73, .bastore, 1), (74, .iload_n 3, 1), (75, .iload_n 2, 1), (76, .isub, 1), (77, .ireturn, 1)]
theorem o_X8_splitGain : tb_X8_splitGain.all (fun q => decide (decode cX8_splitGain q.1 = .ok q.2)) = true := by decide +kernel
def m_X8_freeInstructorNumber : sk_MI := (yX8_freeInstructorNumber, cX8_freeInstructorNumber, 2, some .int, 0, 0)
def tb_X8_freeInstructorNumber : List (Nat × Instr × Nat) := [(0, .iconst 0, 1), (1, .istore_n 1, 1), (2, .iload_n 1, 1), (3, .bipush 8, 2), (5, .if_icmp .ge 23, 3), (8, .aload_n 0, 1), (9, .getfield 23, 3), (12, .iload_n 1, 1), (13, .aaload, 1), (14, .getfield 208, 3), (17, .ifCond .ne 5, 3), (20, .iload_n 1, 1), (21, .ireturn, 1), (22, .iinc 1 1, 3), (25, .goto (-23), 3), (28, .bipush (-9), 2), (30, .ireturn, 1)]
theorem o_X8_freeInstructorNumber : tb_X8_freeInstructorNumber.all (fun q => decide (decode cX8_freeInstructorNumber q.1 = .ok q.2)) = true := by decide +kernel
def m_X8_hire : sk_MI := (yX8_hire, cX8_hire, 6, some .int, 0, 0)
def tb_X8_hire : List (Nat × Instr × Nat) := [(0, .iload_n 1, 1), (1, .iconst 1, 1), (2, .bipush 63, 2), (4, .invokestatic 85, 3), (7, .ifCond .eq 14, 3), (10, .iload 4, 2), (12, .iconst 1, 1), (13, .ldc 198, 2), (15, .invokestatic 85, 3), (18, .ifCond .ne 5, 3), (21, .iconst (-1), 1), (22, .ireturn, 1), (23, .iload_n 2, 1), (24, .iconst 0, 1), (25, .bipush 7, 2), (27, .invokestatic 85, 3), (30, .ifCond .eq 13, 3), (33, .iload_n 3, 1), (34, .iload_n 2, 1), (35, .bipush 7, 2), (37, .invokestatic 85, 3), (40, .ifCond .ne 5, 3), (43, .iconst (-1), 1), (44, .ireturn, 1), (45, .aload_n 0, 1), (46, .invokevirtual 199, 3), (49, .istore 5, 2), (51, .iload 5, 2), (53, .iconst 0, 1), (54, .bipush 7, 2), (56, .invokestatic 85, 3), (59, .ifCond .ne 6, 3), (62, .bipush (-3), 2), (64, .ireturn, 1), (65, .aload_n 0, 1), (66, .getfield 23, 3), (69, .iload 5, 2), (71, .aaload, 1), (72, .iload_n 1, 1), (73, .iload_n 2, 1), (74, .iload_n 3, 1), (75, .iload 4, 2), (77, .invokevirtual 202, 3), (80, .iload 5, 2), (82, .ireturn, 1)]
theorem o_X8_hire : tb_X8_hire.all (fun q => decide (decode cX8_hire q.1 = .ok q.2)) = true := by decide +kernel
def m_X8_hasInstructor : sk_MI := (yX8_hasInstructor, cX8_hasInstructor, 2, some .boolean, 0, 0)
def tb_X8_hasInstructor : List (Nat × Instr × Nat) := [(0, .iload_n 1, 1), (1, .iconst 0, 1), (2, .bipush 7, 2), (4, .invokestatic 85, 3), (7, .ifCond .eq 19, 3), (10, .aload_n 0, 1), (11, .getfield 23, 3), (14, .iload_n 1, 1), (15, .aaload, 1), (16, .getfield 208, 3), (19, .ifCond .eq 7, 3), (22, .iconst 1, 1), (23, .goto 4, 3), (26, .iconst 0, 1), (27, .ireturn, 1)]
theorem o_X8_hasInstructor : tb_X8_hasInstructor.all (fun q => decide (decode cX8_hasInstructor q.1 = .ok q.2)) = true := by decide +kernel
def m_X8_dismiss : sk_MI := (yX8_dismiss, cX8_dismiss, 3, some .int, 0, 0)
def tb_X8_dismiss : List (Nat × Instr × Nat) := [(0, .aload_n 0, 1), (1, .iload_n 1, 1), (2, .invokevirtual 205, 3), (5, .ifCond .ne 5, 3), (8, .iconst (-1), 1), (9, .ireturn, 1), (10, .aload_n 0, 1), (11, .getfield 23, 3), (14, .iload_n 1, 1), (15, .aaload, 1), (16, .iconst 0, 1), (17, .putfield 208, 3), (20, .iconst 0, 1), (21, .istore_n 2, 1), (22, .iload_n 2, 1), (23, .iconst 4, 1), (24, .if_icmp .ge 47, 3), (27, .aload_n 0, 1), (28, .getfield 17, 3), (31, .iload_n 2, 1), (32, .aaload, 1), (33, .getfield 181, 3), (36, .ifCond .eq 29, 3), (39, .aload_n 0, 1), (40, .getfield 17, 3), (43, .iload_n 2, 1), (44, .aaload, 1), (45, .getfield 188, 3), (48, .iload_n 1, 1), (49, .if_icmp .ne 16, 3), (52, .aload_n 0, 1), (53, .getfield 17, 3), (56, .iload_n 2, 1), (57, .aaload, 1), (58, .bipush (-9), 2), (60, .putfield 188, 3), (63, .iload_n 2, 1), (64, .ireturn, 1), (65, .iinc 2 1, 3), (68, .goto (-46), 3), (71, .bipush (-9), 2), (73, .ireturn, 1)]
theorem o_X8_dismiss : tb_X8_dismiss.all (fun q => decide (decode cX8_dismiss q.1 = .ok q.2)) = true := by decide +kernel
def m_X8_instructors : sk_MI := (yX8_instructors, cX8_instructors, 3, some .int, 0, 0)
def tb_X8_instructors : List (Nat × Instr × Nat) := [(0, .iconst 0, 1), (1, .istore_n 1, 1), (2, .iconst 0, 1), (3, .istore_n 2, 1), (4, .iload_n 2, 1), (5, .bipush 8, 2), (7, .if_icmp .ge 24, 3), (10, .aload_n 0, 1), (11, .getfield 23, 3), (14, .iload_n 2, 1), (15, .aaload, 1), (16, .getfield 208, 3), (19, .ifCond .eq 6, 3), (22, .iinc 1 1, 3), (25, .iinc 2 1, 3), (28, .goto (-24), 3), (31, .iload_n 1, 1), (32, .ireturn, 1)]
theorem o_X8_instructors : tb_X8_instructors.all (fun q => decide (decode cX8_instructors q.1 = .ok q.2)) = true := by decide +kernel
def m_X8_canTeach : sk_MI := (yX8_canTeach, cX8_canTeach, 3, some .int, 0, 0)
def tb_X8_canTeach : List (Nat × Instr × Nat) := [(0, .aload_n 0, 1), (1, .iload_n 1, 1), (2, .invokevirtual 205, 3), (5, .ifCond .eq 11, 3), (8, .aload_n 0, 1), (9, .iload_n 2, 1), (10, .invokevirtual 159, 3), (13, .ifCond .ne 5, 3), (16, .iconst (-1), 1), (17, .ireturn, 1), (18, .aload_n 0, 1), (19, .getfield 23, 3), (22, .iload_n 1, 1), (23, .aaload, 1), (24, .aload_n 0, 1), (25, .getfield 17, 3), (28, .iload_n 2, 1), (29, .aaload, 1), (30, .invokevirtual 211, 3), (33, .ifCond .eq 7, 3), (36, .iconst 1, 1), (37, .goto 4, 3), (40, .iconst 0, 1), (41, .ireturn, 1)]
theorem o_X8_canTeach : tb_X8_canTeach.all (fun q => decide (decode cX8_canTeach q.1 = .ok q.2)) = true := by decide +kernel
def m_X8_isActive : sk_MI := (yX8_isActive, cX8_isActive, 2, some .boolean, 0, 0)
def tb_X8_isActive : List (Nat × Instr × Nat) := [(0, .aload_n 0, 1), (1, .iload_n 1, 1), (2, .invokevirtual 159, 3), (5, .ifCond .eq 15, 3), (8, .aload_n 0, 1), (9, .iload_n 1, 1), (10, .invokevirtual 185, 3), (13, .ifCond .le 7, 3), (16, .iconst 1, 1), (17, .goto 4, 3), (20, .iconst 0, 1), (21, .ireturn, 1)]
theorem o_X8_isActive : tb_X8_isActive.all (fun q => decide (decode cX8_isActive q.1 = .ok q.2)) = true := by decide +kernel
def m_X8_staff : sk_MI := (yX8_staff, cX8_staff, 3, some .int, 0, 0)
def tb_X8_staff : List (Nat × Instr × Nat) := [(0, .iconst 0, 1), (1, .istore_n 1, 1), (2, .iload_n 1, 1), (3, .iconst 4, 1), (4, .if_icmp .ge 23, 3), (7, .aload_n 0, 1), (8, .getfield 47, 3), (11, .getfield 215, 3), (14, .iload_n 1, 1), (15, .aload_n 0, 1), (16, .iload_n 1, 1), (17, .invokevirtual 218, 3), (20, .bastore, 1), (21, .iinc 1 1, 3), (24, .goto (-22), 3), (27, .aload_n 0, 1), (28, .getfield 47, 3), (31, .aload_n 0, 1), (32, .getfield 17, 3), (35, .aload_n 0, 1), (36, .getfield 23, 3), (39, .invokevirtual 221, 3), (42, .istore_n 1, 1), (43, .iload_n 1, 1), (44, .bipush (-9), 2), (46, .if_icmp .ne 6, 3), (49, .bipush (-2), 2), (51, .ireturn, 1), (52, .iconst 0, 1), (53, .istore_n 2, 1), (54, .iload_n 2, 1), (55, .iconst 4, 1), (56, .if_icmp .ge 27, 3), (59, .aload_n 0, 1), (60, .getfield 17, 3), (63, .iload_n 2, 1), (64, .aaload, 1), (65, .aload_n 0, 1), (66, .getfield 47, 3), (69, .getfield 224, 3), (72, .iload_n 2, 1), (73, .iaload, 1), (74, .putfield 188, 3), (77, .iinc 2 1, 3), (80, .goto (-26), 3), (83, .iload_n 1, 1), (84, .ireturn, 1)]
theorem o_X8_staff : tb_X8_staff.all (fun q => decide (decode cX8_staff q.1 = .ok q.2)) = true := by decide +kernel
def m_X8_isPaid : sk_MI := (yX8_isPaid, cX8_isPaid, 2, some .boolean, 0, 0)
def tb_X8_isPaid : List (Nat × Instr × Nat) := [(0, .aload_n 0, 1), (1, .iload_n 1, 1), (2, .invokevirtual 218, 3), (5, .ifCond .eq 23, 3), (8, .aload_n 0, 1), (9, .aload_n 0, 1), (10, .getfield 17, 3), (13, .iload_n 1, 1), (14, .aaload, 1), (15, .getfield 188, 3), (18, .invokevirtual 205, 3), (21, .ifCond .eq 7, 3), (24, .iconst 1, 1), (25, .goto 4, 3), (28, .iconst 0, 1), (29, .ireturn, 1)]
theorem o_X8_isPaid : tb_X8_isPaid.all (fun q => decide (decode cX8_isPaid q.1 = .ok q.2)) = true := by decide +kernel
def m_X8_pay : sk_MI := (yX8_pay, cX8_pay, 5, some .int, 0, 0)
def tb_X8_pay : List (Nat × Instr × Nat) := [(0, .iload_n 1, 1), (1, .iconst 1, 1), (2, .bipush 100, 2), (4, .invokestatic 85, 3), (7, .ifCond .ne 5, 3), (10, .iconst (-1), 1), (11, .ireturn, 1), (12, .iconst 0, 1), (13, .istore_n 2, 1), (14, .iload_n 2, 1), (15, .iconst 4, 1), (16, .if_icmp .ge 41, 3), (19, .aload_n 0, 1), (20, .iload_n 2, 1), (21, .invokevirtual 227, 3), (24, .ifCond .eq 27, 3), (27, .aload_n 0, 1), (28, .getfield 23, 3), (31, .aload_n 0, 1), (32, .getfield 17, 3), (35, .iload_n 2, 1), (36, .aaload, 1), (37, .getfield 188, 3), (40, .aaload, 1), (41, .iload_n 1, 1), (42, .invokevirtual 230, 3), (45, .ifCond .ne 6, 3), (48, .bipush (-3), 2), (50, .ireturn, 1), (51, .iinc 2 1, 3), (54, .goto (-40), 3), (57, .iconst 0, 1), (58, .istore_n 2, 1), (59, .iconst 0, 1), (60, .istore_n 3, 1), (61, .iload_n 3, 1), (62, .iconst 4, 1), (63, .if_icmp .ge 60, 3), (66, .aload_n 0, 1), (67, .iload_n 3, 1), (68, .invokevirtual 227, 3), (71, .ifCond .eq 46, 3), (74, .aload_n 0, 1), (75, .getfield 23, 3), (78, .aload_n 0, 1), (79, .getfield 17, 3), (82, .iload_n 3, 1), (83, .aaload, 1), (84, .getfield 188, 3), (87, .aaload, 1), (88, .astore 4, 2), (90, .aload 4, 2), (92, .dup, 1), (93, .getfield 233, 3), (96, .aload 4, 2), (98, .getfield 236, 3), (101, .iload_n 1, 1), (102, .imul, 1), (103, .iadd, 1), (104, .putfield 233, 3), (107, .iload_n 2, 1), (108, .aload 4, 2), (110, .getfield 236, 3), (113, .iload_n 1, 1), (114, .imul, 1), (115, .iadd, 1), (116, .istore_n 2, 1), (117, .iinc 3 1, 3), (120, .goto (-59), 3), (123, .iload_n 2, 1), (124, .ireturn, 1)]
theorem o_X8_pay : tb_X8_pay.all (fun q => decide (decode cX8_pay q.1 = .ok q.2)) = true := by decide +kernel
def m_X8_earnings : sk_MI := (yX8_earnings, cX8_earnings, 2, some .int, 0, 0)
def tb_X8_earnings : List (Nat × Instr × Nat) := [(0, .aload_n 0, 1), (1, .iload_n 1, 1), (2, .invokevirtual 205, 3), (5, .ifCond .eq 15, 3), (8, .aload_n 0, 1), (9, .getfield 23, 3), (12, .iload_n 1, 1), (13, .aaload, 1), (14, .getfield 233, 3), (17, .goto 4, 3), (20, .iconst (-1), 1), (21, .ireturn, 1)]
theorem o_X8_earnings : tb_X8_earnings.all (fun q => decide (decode cX8_earnings q.1 = .ok q.2)) = true := by decide +kernel
def m_X8_addLift : sk_MI := (yX8_addLift, cX8_addLift, 5, some .int, 0, 0)
def tb_X8_addLift : List (Nat × Instr × Nat) := [(0, .iload_n 1, 1), (1, .iconst 1, 1), (2, .bipush 8, 2), (4, .invokestatic 85, 3), (7, .ifCond .eq 23, 3), (10, .iload_n 2, 1), (11, .iconst 1, 1), (12, .bipush 10, 2), (14, .invokestatic 85, 3), (17, .ifCond .eq 13, 3), (20, .iload_n 3, 1), (21, .iconst 1, 1), (22, .bipush 20, 2), (24, .invokestatic 85, 3), (27, .ifCond .ne 5, 3), (30, .iconst (-1), 1), (31, .ireturn, 1), (32, .aload_n 0, 1), (33, .getfield 65, 3), (36, .iconst 0, 1), (37, .iconst 2, 1), (38, .invokestatic 85, 3), (41, .ifCond .ne 6, 3), (44, .bipush (-3), 2), (46, .ireturn, 1), (47, .aload_n 0, 1), (48, .getfield 29, 3), (51, .aload_n 0, 1), (52, .getfield 65, 3), (55, .aaload, 1), (56, .astore 4, 2), (58, .aload 4, 2), (60, .iload_n 1, 1), (61, .putfield 239, 3), (64, .aload 4, 2), (66, .iload_n 2, 1), (67, .putfield 242, 3), (70, .aload 4, 2), (72, .iload_n 3, 1), (73, .putfield 245, 3), (76, .aload_n 0, 1), (77, .dup, 1), (78, .getfield 65, 3), (81, .iconst 1, 1), (82, .iadd, 1), (83, .putfield 65, 3), (86, .aload_n 0, 1), (87, .getfield 65, 3), (90, .iconst 1, 1), (91, .isub, 1), (92, .ireturn, 1)]
theorem o_X8_addLift : tb_X8_addLift.all (fun q => decide (decode cX8_addLift q.1 = .ok q.2)) = true := by decide +kernel
def m_X8_hasLift : sk_MI := (yX8_hasLift, cX8_hasLift, 2, some .boolean, 0, 0)
def tb_X8_hasLift : List (Nat × Instr × Nat) := [(0, .iload_n 1, 1), (1, .iconst 0, 1), (2, .iconst 2, 1), (3, .invokestatic 85, 3), (6, .ifCond .eq 15, 3), (9, .iload_n 1, 1), (10, .aload_n 0, 1), (11, .getfield 65, 3), (14, .if_icmp .ge 7, 3), (17, .iconst 1, 1), (18, .goto 4, 3), (21, .iconst 0, 1), (22, .ireturn, 1)]
theorem o_X8_hasLift : tb_X8_hasLift.all (fun q => decide (decode cX8_hasLift q.1 = .ok q.2)) = true := by decide +kernel
def m_X8_addStop : sk_MI := (yX8_addStop, cX8_addStop, 5, some .int, 0, 0)
def tb_X8_addStop : List (Nat × Instr × Nat) := [(0, .aload_n 0, 1), (1, .iload_n 1, 1), (2, .invokevirtual 159, 3), (5, .ifCond .eq 21, 3), (8, .aload_n 0, 1), (9, .iload_n 2, 1), (10, .invokevirtual 248, 3), (13, .ifCond .eq 13, 3), (16, .iload_n 3, 1), (17, .iconst 1, 1), (18, .bipush 20, 2), (20, .invokestatic 85, 3), (23, .ifCond .ne 5, 3), (26, .iconst (-1), 1), (27, .ireturn, 1), (28, .aload_n 0, 1), (29, .getfield 17, 3), (32, .iload_n 1, 1), (33, .aaload, 1), (34, .astore 4, 2), (36, .aload 4, 2), (38, .getfield 251, 3), (41, .iconst 0, 1), (42, .iconst 3, 1), (43, .invokestatic 85, 3), (46, .ifCond .ne 6, 3), (49, .bipush (-3), 2), (51, .ireturn, 1), (52, .aload 4, 2), (54, .getfield 254, 3), (57, .aload 4, 2), (59, .getfield 251, 3), (62, .iload_n 2, 1), (63, .iastore, 1), (64, .aload 4, 2), (66, .getfield 257, 3), (69, .aload 4, 2), (71, .getfield 251, 3), (74, .iload_n 3, 1), (75, .iastore, 1), (76, .aload 4, 2), (78, .dup, 1), (79, .getfield 251, 3), (82, .iconst 1, 1), (83, .iadd, 1), (84, .putfield 251, 3), (87, .aload 4, 2), (89, .getfield 251, 3), (92, .ireturn, 1)]
theorem o_X8_addStop : tb_X8_addStop.all (fun q => decide (decode cX8_addStop q.1 = .ok q.2)) = true := by decide +kernel
def m_X8_clearStops : sk_MI := (yX8_clearStops, cX8_clearStops, 3, some .int, 0, 0)
def tb_X8_clearStops : List (Nat × Instr × Nat) := [(0, .aload_n 0, 1), (1, .iload_n 1, 1), (2, .invokevirtual 159, 3), (5, .ifCond .ne 5, 3), (8, .iconst (-1), 1), (9, .ireturn, 1), (10, .aload_n 0, 1), (11, .getfield 17, 3), (14, .iload_n 1, 1), (15, .aaload, 1), (16, .getfield 251, 3), (19, .istore_n 2, 1), (20, .aload_n 0, 1), (21, .getfield 17, 3), (24, .iload_n 1, 1), (25, .aaload, 1), (26, .iconst 0, 1), (27, .putfield 251, 3), (30, .iload_n 2, 1), (31, .ireturn, 1)]
theorem o_X8_clearStops : tb_X8_clearStops.all (fun q => decide (decode cX8_clearStops q.1 = .ok q.2)) = true := by decide +kernel
def m_X8_setStart : sk_MI := (yX8_setStart, cX8_setStart, 4, some .int, 0, 0)
def tb_X8_setStart : List (Nat × Instr × Nat) := [(0, .aload_n 0, 1), (1, .iload_n 1, 1), (2, .invokevirtual 159, 3), (5, .ifCond .eq 13, 3), (8, .iload_n 2, 1), (9, .iconst 0, 1), (10, .bipush 60, 2), (12, .invokestatic 85, 3), (15, .ifCond .ne 5, 3), (18, .iconst (-1), 1), (19, .ireturn, 1), (20, .aload_n 0, 1), (21, .getfield 17, 3), (24, .iload_n 1, 1), (25, .aaload, 1), (26, .getfield 260, 3), (29, .istore_n 3, 1), (30, .aload_n 0, 1), (31, .getfield 17, 3), (34, .iload_n 1, 1), (35, .aaload, 1), (36, .iload_n 2, 1), (37, .putfield 260, 3), (40, .iload_n 3, 1), (41, .ireturn, 1)]
theorem o_X8_setStart : tb_X8_setStart.all (fun q => decide (decode cX8_setStart q.1 = .ok q.2)) = true := by decide +kernel
def m_X8_takesPart : sk_MI := (yX8_takesPart, cX8_takesPart, 2, some .boolean, 0, 0)
def tb_X8_takesPart : List (Nat × Instr × Nat) := [(0, .aload_n 0, 1), (1, .iload_n 1, 1), (2, .invokevirtual 218, 3), (5, .ifCond .eq 19, 3), (8, .aload_n 0, 1), (9, .getfield 17, 3), (12, .iload_n 1, 1), (13, .aaload, 1), (14, .getfield 251, 3), (17, .ifCond .le 7, 3), (20, .iconst 1, 1), (21, .goto 4, 3), (24, .iconst 0, 1), (25, .ireturn, 1)]
theorem o_X8_takesPart : tb_X8_takesPart.all (fun q => decide (decode cX8_takesPart q.1 = .ok q.2)) = true := by decide +kernel
def m_X8_countPersons : sk_MI := (yX8_countPersons, cX8_countPersons, 3, none, 0, 0)
def tb_X8_countPersons : List (Nat × Instr × Nat) := [(0, .iconst 0, 1), (1, .istore_n 1, 1), (2, .iload_n 1, 1), (3, .iconst 4, 1), (4, .if_icmp .ge 61, 3), (7, .aload_n 0, 1), (8, .iload_n 1, 1), (9, .invokevirtual 288, 3), (12, .ifCond .eq 11, 3), (15, .aload_n 0, 1), (16, .iload_n 1, 1), (17, .invokevirtual 185, 3), (20, .goto 4, 3), (23, .iconst 0, 1), (24, .istore_n 2, 1), (25, .aload_n 0, 1), (26, .getfield 54, 3), (29, .getfield 390, 3), (32, .iload_n 1, 1), (33, .iload_n 2, 1), (34, .ifCond .le 23, 3), (37, .aload_n 0, 1), (38, .getfield 17, 3), (41, .iload_n 1, 1), (42, .aaload, 1), (43, .getfield 188, 3), (46, .bipush (-9), 2), (48, .if_icmp .eq 9, 3), (51, .iload_n 2, 1), (52, .iconst 1, 1), (53, .iadd, 1), (54, .goto 4, 3), (57, .iload_n 2, 1), (58, .iastore, 1), (59, .iinc 1 1, 3), (62, .goto (-60), 3), (65, .return_, 1)]
theorem o_X8_countPersons : tb_X8_countPersons.all (fun q => decide (decode cX8_countPersons q.1 = .ok q.2)) = true := by decide +kernel
def m_X8_keepResults : sk_MI := (yX8_keepResults, cX8_keepResults, 2, none, 0, 0)
def tb_X8_keepResults : List (Nat × Instr × Nat) := [(0, .iconst 0, 1), (1, .istore_n 1, 1), (2, .iload_n 1, 1), (3, .iconst 4, 1), (4, .if_icmp .ge 45, 3), (7, .aload_n 0, 1), (8, .getfield 17, 3), (11, .iload_n 1, 1), (12, .aaload, 1), (13, .aload_n 0, 1), (14, .getfield 54, 3), (17, .getfield 294, 3), (20, .iload_n 1, 1), (21, .iaload, 1), (22, .putfield 276, 3), (25, .aload_n 0, 1), (26, .getfield 17, 3), (29, .iload_n 1, 1), (30, .aaload, 1), (31, .aload_n 0, 1), (32, .getfield 54, 3), (35, .getfield 393, 3), (38, .iload_n 1, 1), (39, .iaload, 1), (40, .putfield 279, 3), (43, .iinc 1 1, 3), (46, .goto (-44), 3), (49, .iconst 0, 1), (50, .istore_n 1, 1), (51, .iload_n 1, 1), (52, .iconst 3, 1), (53, .if_icmp .ge 45, 3), (56, .aload_n 0, 1), (57, .getfield 29, 3), (60, .iload_n 1, 1), (61, .aaload, 1), (62, .aload_n 0, 1), (63, .getfield 54, 3), (66, .getfield 395, 3), (69, .iload_n 1, 1), (70, .iaload, 1), (71, .putfield 282, 3), (74, .aload_n 0, 1), (75, .getfield 29, 3), (78, .iload_n 1, 1), (79, .aaload, 1), (80, .aload_n 0, 1), (81, .getfield 54, 3), (84, .getfield 397, 3), (87, .iload_n 1, 1), (88, .iaload, 1), (89, .putfield 285, 3), (92, .iinc 1 1, 3), (95, .goto (-44), 3), (98, .return_, 1)]
theorem o_X8_keepResults : tb_X8_keepResults.all (fun q => decide (decode cX8_keepResults q.1 = .ok q.2)) = true := by decide +kernel
def m_X8_simulate : sk_MI := (yX8_simulate, cX8_simulate, 4, some .int, 0, 0)
def tb_X8_simulate : List (Nat × Instr × Nat) := [(0, .iload_n 1, 1), (1, .iconst 1, 1), (2, .sipush 180, 3), (5, .invokestatic 85, 3), (8, .ifCond .ne 5, 3), (11, .iconst (-1), 1), (12, .ireturn, 1), (13, .aload_n 0, 1), (14, .invokevirtual 263, 3), (17, .aload_n 0, 1), (18, .getfield 54, 3), (21, .aload_n 0, 1), (22, .getfield 17, 3), (25, .invokevirtual 266, 3), (28, .aload_n 0, 1), (29, .getfield 54, 3), (32, .aload_n 0, 1), (33, .getfield 17, 3), (36, .aload_n 0, 1), (37, .getfield 29, 3), (40, .aload_n 0, 1), (41, .getfield 65, 3), (44, .iload_n 1, 1), (45, .invokevirtual 269, 3), (48, .aload_n 0, 1), (49, .invokevirtual 273, 3), (52, .iconst 0, 1), (53, .istore_n 2, 1), (54, .iconst 0, 1), (55, .istore_n 3, 1), (56, .iload_n 3, 1), (57, .iconst 4, 1), (58, .if_icmp .ge 21, 3), (61, .iload_n 2, 1), (62, .aload_n 0, 1), (63, .getfield 17, 3), (66, .iload_n 3, 1), (67, .aaload, 1), (68, .getfield 276, 3), (71, .iadd, 1), (72, .istore_n 2, 1), (73, .iinc 3 1, 3), (76, .goto (-20), 3), (79, .iload_n 2, 1), (80, .ireturn, 1)]
theorem o_X8_simulate : tb_X8_simulate.all (fun q => decide (decode cX8_simulate q.1 = .ok q.2)) = true := by decide +kernel
def m_X8_waited : sk_MI := (yX8_waited, cX8_waited, 2, some .int, 0, 0)
def tb_X8_waited : List (Nat × Instr × Nat) := [(0, .aload_n 0, 1), (1, .iload_n 1, 1), (2, .invokevirtual 159, 3), (5, .ifCond .eq 15, 3), (8, .aload_n 0, 1), (9, .getfield 17, 3), (12, .iload_n 1, 1), (13, .aaload, 1), (14, .getfield 276, 3), (17, .goto 4, 3), (20, .iconst (-1), 1), (21, .ireturn, 1)]
theorem o_X8_waited : tb_X8_waited.all (fun q => decide (decode cX8_waited q.1 = .ok q.2)) = true := by decide +kernel
def m_X8_rides : sk_MI := (yX8_rides, cX8_rides, 2, some .int, 0, 0)
def tb_X8_rides : List (Nat × Instr × Nat) := [(0, .aload_n 0, 1), (1, .iload_n 1, 1), (2, .invokevirtual 159, 3), (5, .ifCond .eq 15, 3), (8, .aload_n 0, 1), (9, .getfield 17, 3), (12, .iload_n 1, 1), (13, .aaload, 1), (14, .getfield 279, 3), (17, .goto 4, 3), (20, .iconst (-1), 1), (21, .ireturn, 1)]
theorem o_X8_rides : tb_X8_rides.all (fun q => decide (decode cX8_rides q.1 = .ok q.2)) = true := by decide +kernel
def m_X8_longestQueue : sk_MI := (yX8_longestQueue, cX8_longestQueue, 2, some .int, 0, 0)
def tb_X8_longestQueue : List (Nat × Instr × Nat) := [(0, .aload_n 0, 1), (1, .iload_n 1, 1), (2, .invokevirtual 248, 3), (5, .ifCond .eq 15, 3), (8, .aload_n 0, 1), (9, .getfield 29, 3), (12, .iload_n 1, 1), (13, .aaload, 1), (14, .getfield 282, 3), (17, .goto 4, 3), (20, .iconst (-1), 1), (21, .ireturn, 1)]
theorem o_X8_longestQueue : tb_X8_longestQueue.all (fun q => decide (decode cX8_longestQueue q.1 = .ok q.2)) = true := by decide +kernel
def m_X8_carried : sk_MI := (yX8_carried, cX8_carried, 2, some .int, 0, 0)
def tb_X8_carried : List (Nat × Instr × Nat) := [(0, .aload_n 0, 1), (1, .iload_n 1, 1), (2, .invokevirtual 248, 3), (5, .ifCond .eq 15, 3), (8, .aload_n 0, 1), (9, .getfield 29, 3), (12, .iload_n 1, 1), (13, .aaload, 1), (14, .getfield 285, 3), (17, .goto 4, 3), (20, .iconst (-1), 1), (21, .ireturn, 1)]
theorem o_X8_carried : tb_X8_carried.all (fun q => decide (decode cX8_carried q.1 = .ok q.2)) = true := by decide +kernel
def m_X8_bestStart : sk_MI := (yX8_bestStart, cX8_bestStart, 6, some .int, 0, 0)
def tb_X8_bestStart : List (Nat × Instr × Nat) := [(0, .aload_n 0, 1), (1, .iload_n 1, 1), (2, .invokevirtual 159, 3), (5, .ifCond .eq 14, 3), (8, .iload_n 2, 1), (9, .iconst 1, 1), (10, .sipush 180, 3), (13, .invokestatic 85, 3), (16, .ifCond .ne 5, 3), (19, .iconst (-1), 1), (20, .ireturn, 1), (21, .aload_n 0, 1), (22, .iload_n 1, 1), (23, .invokevirtual 288, 3), (26, .ifCond .ne 6, 3), (29, .bipush (-2), 2), (31, .ireturn, 1), (32, .aload_n 0, 1), (33, .invokevirtual 263, 3), (36, .iconst 0, 1), (37, .istore_n 3, 1), (38, .bipush (-9), 2), (40, .istore 4, 2), (42, .iconst 0, 1), (43, .istore 5, 2), (45, .iload 5, 2), (47, .bipush 30, 2), (49, .if_icmp .gt 86, 3), (52, .aload_n 0, 1), (53, .getfield 54, 3), (56, .aload_n 0, 1), (57, .getfield 17, 3), (60, .invokevirtual 266, 3), (63, .aload_n 0, 1), (64, .getfield 54, 3), (67, .getfield 291, 3), (70, .iload_n 1, 1), (71, .iload 5, 2), (73, .iastore, 1), (74, .aload_n 0, 1), (75, .getfield 54, 3), (78, .aload_n 0, 1), (79, .getfield 17, 3), (82, .aload_n 0, 1), (83, .getfield 29, 3), (86, .aload_n 0, 1), (87, .getfield 65, 3), (90, .iload_n 2, 1), (91, .invokevirtual 269, 3), (94, .iload 4, 2), (96, .bipush (-9), 2), (98, .if_icmp .eq 17, 3), (101, .aload_n 0, 1), (102, .getfield 54, 3), (105, .getfield 294, 3), (108, .iload_n 1, 1), (109, .iaload, 1), (110, .iload 4, 2), (112, .if_icmp .ge 17, 3), (115, .aload_n 0, 1), (116, .getfield 54, 3), (119, .getfield 294, 3), (122, .iload_n 1, 1), (123, .iaload, 1), (124, .istore 4, 2), (126, .iload 5, 2), (128, .istore_n 3, 1), (129, .iinc 5 1, 3), (132, .goto (-87), 3), (135, .iload_n 3, 1), (136, .ireturn, 1)]
theorem o_X8_bestStart : tb_X8_bestStart.all (fun q => decide (decode cX8_bestStart q.1 = .ok q.2)) = true := by decide +kernel
def m_X8_type : sk_MI := (yX8_type, cX8_type, 2, some .int, 0, 0)
def tb_X8_type : List (Nat × Instr × Nat) := [(0, .iload_n 1, 1), (1, .bipush 32, 2), (3, .bipush 126, 2), (5, .invokestatic 85, 3), (8, .ifCond .ne 5, 3), (11, .iconst (-1), 1), (12, .ireturn, 1), (13, .aload_n 0, 1), (14, .getfield 61, 3), (17, .getfield 296, 3), (20, .iconst 0, 1), (21, .bipush 99, 2), (23, .invokestatic 85, 3), (26, .ifCond .ne 6, 3), (29, .bipush (-3), 2), (31, .ireturn, 1), (32, .aload_n 0, 1), (33, .getfield 61, 3), (36, .getfield 299, 3), (39, .aload_n 0, 1), (40, .getfield 61, 3), (43, .getfield 296, 3), (46, .iload_n 1, 1), (47, .i2c, 1), (48, .castore, 1), (49, .aload_n 0, 1), (50, .getfield 61, 3), (53, .dup, 1), (54, .getfield 296, 3), (57, .iconst 1, 1), (58, .iadd, 1), (59, .putfield 296, 3), (62, .aload_n 0, 1), (63, .getfield 61, 3), (66, .getfield 296, 3), (69, .ireturn, 1)]
theorem o_X8_type : tb_X8_type.all (fun q => decide (decode cX8_type q.1 = .ok q.2)) = true := by decide +kernel
def m_X8_clearText : sk_MI := (yX8_clearText, cX8_clearText, 2, some .int, 0, 0)
def tb_X8_clearText : List (Nat × Instr × Nat) := [(0, .aload_n 0, 1), (1, .getfield 61, 3), (4, .getfield 296, 3), (7, .istore_n 1, 1), (8, .aload_n 0, 1), (9, .getfield 61, 3), (12, .iconst 0, 1), (13, .putfield 296, 3), (16, .iload_n 1, 1), (17, .ireturn, 1)]
theorem o_X8_clearText : tb_X8_clearText.all (fun q => decide (decode cX8_clearText q.1 = .ok q.2)) = true := by decide +kernel
def m_X8_carryOutEntry : sk_MI := (yX8_carryOutEntry, cX8_carryOutEntry, 1, some .int, 0, 0)
def tb_X8_carryOutEntry : List (Nat × Instr × Nat) := [(0, .aload_n 0, 1), (1, .getfield 61, 3), (4, .getfield 399, 3), (7, .bipush 112, 2), (9, .if_icmp .ne 29, 3), (12, .aload_n 0, 1), (13, .aload_n 0, 1), (14, .getfield 61, 3), (17, .getfield 403, 3), (20, .aload_n 0, 1), (21, .getfield 61, 3), (24, .getfield 404, 3), (27, .aload_n 0, 1), (28, .getfield 61, 3), (31, .getfield 405, 3), (34, .invokevirtual 406, 3), (37, .ireturn, 1), (38, .aload_n 0, 1), (39, .getfield 61, 3), (42, .getfield 399, 3), (45, .bipush 103, 2), (47, .if_icmp .ne 29, 3), (50, .aload_n 0, 1), (51, .aload_n 0, 1), (52, .getfield 61, 3), (55, .getfield 403, 3), (58, .aload_n 0, 1), (59, .getfield 61, 3), (62, .getfield 410, 3), (65, .aload_n 0, 1), (66, .getfield 61, 3), (69, .getfield 413, 3), (72, .invokevirtual 416, 3), (75, .ireturn, 1), (76, .aload_n 0, 1), (77, .aload_n 0, 1), (78, .getfield 61, 3), (81, .getfield 404, 3), (84, .aload_n 0, 1), (85, .getfield 61, 3), (88, .getfield 419, 3), (91, .aload_n 0, 1), (92, .getfield 61, 3), (95, .getfield 422, 3), (98, .aload_n 0, 1), (99, .getfield 61, 3), (102, .getfield 425, 3), (105, .invokevirtual 426, 3), (108, .ireturn, 1)]
theorem o_X8_carryOutEntry : tb_X8_carryOutEntry.all (fun q => decide (decode cX8_carryOutEntry q.1 = .ok q.2)) = true := by decide +kernel
def m_X8_load : sk_MI := (yX8_load, cX8_load, 4, some .int, 0, 0)
def tb_X8_load : List (Nat × Instr × Nat) := [(0, .aload_n 0, 1), (1, .getfield 61, 3), (4, .invokevirtual 303, 3), (7, .istore_n 1, 1), (8, .iload_n 1, 1), (9, .bipush (-9), 2), (11, .if_icmp .eq 8, 3), (14, .bipush (-10), 2), (16, .iload_n 1, 1), (17, .isub, 1), (18, .ireturn, 1), (19, .iconst 0, 1), (20, .istore_n 2, 1), (21, .aload_n 0, 1), (22, .getfield 61, 3), (25, .iconst 0, 1), (26, .putfield 306, 3), (29, .iconst 0, 1), (30, .istore_n 3, 1), (31, .iload_n 3, 1), (32, .bipush 100, 2), (34, .if_icmp .ge 33, 3), (37, .aload_n 0, 1), (38, .getfield 61, 3), (41, .invokevirtual 309, 3), (44, .ifCond .eq 23, 3), (47, .aload_n 0, 1), (48, .invokevirtual 313, 3), (51, .bipush (-3), 2), (53, .if_icmp .ne 5, 3), (56, .iload_n 2, 1), (57, .ireturn, 1), (58, .iinc 2 1, 3), (61, .iinc 3 1, 3), (64, .goto (-33), 3), (67, .iload_n 2, 1), (68, .ireturn, 1)]
theorem o_X8_load : tb_X8_load.all (fun q => decide (decode cX8_load q.1 = .ok q.2)) = true := by decide +kernel
def m_X8_mix : sk_MI := (yX8_mix, cX8_mix, 3, some .long, 0, 0)
def tb_X8_mix : List (Nat × Instr × Nat) := [(0, .ldc2_w 347, 3), (3, .lload_n 0, 1), (4, .lmul, 1), (5, .iload_n 2, 1), (6, .i2l, 1), (7, .ladd, 1), (8, .lreturn, 1)]
theorem o_X8_mix : tb_X8_mix.all (fun q => decide (decode cX8_mix q.1 = .ok q.2)) = true := by decide +kernel
def m_X8_mixPupils : sk_MI := (yX8_mixPupils, cX8_mixPupils, 7, some .long, 0, 0)
def tb_X8_mixPupils : List (Nat × Instr × Nat) := [(0, .lload_n 1, 1), (1, .lstore_n 3, 1), (2, .iconst 0, 1), (3, .istore 5, 2), (5, .iload 5, 2), (7, .bipush 20, 2), (9, .if_icmp .ge 101, 3), (12, .aload_n 0, 1), (13, .getfield 11, 3), (16, .iload 5, 2), (18, .aaload, 1), (19, .getfield 108, 3), (22, .ifCond .eq 82, 3), (25, .lload_n 3, 1), (26, .iload 5, 2), (28, .invokestatic 318, 3), (31, .lstore_n 3, 1), (32, .lload_n 3, 1), (33, .aload_n 0, 1), (34, .iload 5, 2), (36, .invokevirtual 349, 3), (39, .invokestatic 318, 3), (42, .lstore_n 3, 1), (43, .lload_n 3, 1), (44, .aload_n 0, 1), (45, .iload 5, 2), (47, .invokevirtual 351, 3), (50, .invokestatic 318, 3), (53, .lstore_n 3, 1), (54, .lload_n 3, 1), (55, .aload_n 0, 1), (56, .iload 5, 2), (58, .invokevirtual 353, 3), (61, .invokestatic 318, 3), (64, .lstore_n 3, 1), (65, .lload_n 3, 1), (66, .aload_n 0, 1), (67, .iload 5, 2), (69, .invokevirtual 355, 3), (72, .invokestatic 318, 3), (75, .lstore_n 3, 1), (76, .iconst 0, 1), (77, .istore 6, 2), (79, .iload 6, 2), (81, .iconst 4, 1), (82, .if_icmp .ge 22, 3), (85, .lload_n 3, 1), (86, .aload_n 0, 1), (87, .iload 5, 2), (89, .iload 6, 2), (91, .invokevirtual 357, 3), (94, .invokestatic 318, 3), (97, .lstore_n 3, 1), (98, .iinc 6 1, 3), (101, .goto (-22), 3), (104, .iinc 5 1, 3), (107, .goto (-102), 3), (110, .lload_n 3, 1), (111, .lreturn, 1)]
theorem o_X8_mixPupils : tb_X8_mixPupils.all (fun q => decide (decode cX8_mixPupils q.1 = .ok q.2)) = true := by decide +kernel
def m_X8_mixGroups : sk_MI := (yX8_mixGroups, cX8_mixGroups, 6, some .long, 0, 0)
def tb_X8_mixGroups : List (Nat × Instr × Nat) := [(0, .lload_n 1, 1), (1, .lstore_n 3, 1), (2, .iconst 0, 1), (3, .istore 5, 2), (5, .iload 5, 2), (7, .iconst 4, 1), (8, .if_icmp .ge 84, 3), (11, .aload_n 0, 1), (12, .getfield 17, 3), (15, .iload 5, 2), (17, .aaload, 1), (18, .getfield 181, 3), (21, .ifCond .eq 65, 3), (24, .lload_n 3, 1), (25, .iload 5, 2), (27, .invokestatic 318, 3), (30, .lstore_n 3, 1), (31, .lload_n 3, 1), (32, .aload_n 0, 1), (33, .iload 5, 2), (35, .invokevirtual 360, 3), (38, .invokestatic 318, 3), (41, .lstore_n 3, 1), (42, .lload_n 3, 1), (43, .aload_n 0, 1), (44, .iload 5, 2), (46, .invokevirtual 363, 3), (49, .invokestatic 318, 3), (52, .lstore_n 3, 1), (53, .lload_n 3, 1), (54, .aload_n 0, 1), (55, .iload 5, 2), (57, .invokevirtual 366, 3), (60, .invokestatic 318, 3), (63, .lstore_n 3, 1), (64, .lload_n 3, 1), (65, .aload_n 0, 1), (66, .iload 5, 2), (68, .invokevirtual 368, 3), (71, .invokestatic 318, 3), (74, .lstore_n 3, 1), (75, .lload_n 3, 1), (76, .aload_n 0, 1), (77, .iload 5, 2), (79, .invokevirtual 370, 3), (82, .invokestatic 318, 3), (85, .lstore_n 3, 1), (86, .iinc 5 1, 3), (89, .goto (-84), 3), (92, .lload_n 3, 1), (93, .lreturn, 1)]
theorem o_X8_mixGroups : tb_X8_mixGroups.all (fun q => decide (decode cX8_mixGroups q.1 = .ok q.2)) = true := by decide +kernel
def m_X8_mixInstructorsAndLifts : sk_MI := (yX8_mixInstructorsAndLifts, cX8_mixInstructorsAndLifts, 6, some .long, 0, 0)
def tb_X8_mixInstructorsAndLifts : List (Nat × Instr × Nat) := [(0, .lload_n 1, 1), (1, .lstore_n 3, 1), (2, .iconst 0, 1), (3, .istore 5, 2), (5, .iload 5, 2), (7, .bipush 8, 2), (9, .if_icmp .ge 40, 3), (12, .aload_n 0, 1), (13, .getfield 23, 3), (16, .iload 5, 2), (18, .aaload, 1), (19, .getfield 208, 3), (22, .ifCond .eq 21, 3), (25, .lload_n 3, 1), (26, .iload 5, 2), (28, .invokestatic 318, 3), (31, .lstore_n 3, 1), (32, .lload_n 3, 1), (33, .aload_n 0, 1), (34, .iload 5, 2), (36, .invokevirtual 372, 3), (39, .invokestatic 318, 3), (42, .lstore_n 3, 1), (43, .iinc 5 1, 3), (46, .goto (-41), 3), (49, .iconst 0, 1), (50, .istore 5, 2), (52, .iload 5, 2), (54, .aload_n 0, 1), (55, .getfield 65, 3), (58, .if_icmp .ge 31, 3), (61, .lload_n 3, 1), (62, .aload_n 0, 1), (63, .iload 5, 2), (65, .invokevirtual 375, 3), (68, .invokestatic 318, 3), (71, .lstore_n 3, 1), (72, .lload_n 3, 1), (73, .aload_n 0, 1), (74, .iload 5, 2), (76, .invokevirtual 378, 3), (79, .invokestatic 318, 3), (82, .lstore_n 3, 1), (83, .iinc 5 1, 3), (86, .goto (-34), 3), (89, .lload_n 3, 1), (90, .lreturn, 1)]
theorem o_X8_mixInstructorsAndLifts : tb_X8_mixInstructorsAndLifts.all (fun q => decide (decode cX8_mixInstructorsAndLifts q.1 = .ok q.2)) = true := by decide +kernel
def m_X8_digest : sk_MI := (yX8_digest, cX8_digest, 4, some .long, 0, 0)
def tb_X8_digest : List (Nat × Instr × Nat) := [(0, .ldc2_w 316, 3), (3, .lstore_n 1, 1), (4, .lload_n 1, 1), (5, .aload_n 0, 1), (6, .getfield 78, 3), (9, .invokestatic 318, 3), (12, .lstore_n 1, 1), (13, .lload_n 1, 1), (14, .aload_n 0, 1), (15, .invokevirtual 112, 3), (18, .invokestatic 318, 3), (21, .lstore_n 1, 1), (22, .lload_n 1, 1), (23, .aload_n 0, 1), (24, .invokevirtual 322, 3), (27, .invokestatic 318, 3), (30, .lstore_n 1, 1), (31, .lload_n 1, 1), (32, .aload_n 0, 1), (33, .invokevirtual 325, 3), (36, .invokestatic 318, 3), (39, .lstore_n 1, 1), (40, .aload_n 0, 1), (41, .lload_n 1, 1), (42, .invokevirtual 328, 3), (45, .lstore_n 1, 1), (46, .iconst 0, 1), (47, .istore_n 3, 1), (48, .iload_n 3, 1), (49, .bipush 8, 2), (51, .if_icmp .ge 19, 3), (54, .lload_n 1, 1), (55, .aload_n 0, 1), (56, .iload_n 3, 1), (57, .invokevirtual 332, 3), (60, .invokestatic 318, 3), (63, .lstore_n 1, 1), (64, .iinc 3 1, 3), (67, .goto (-19), 3), (70, .aload_n 0, 1), (71, .lload_n 1, 1), (72, .invokevirtual 335, 3), (75, .lstore_n 1, 1), (76, .aload_n 0, 1), (77, .lload_n 1, 1), (78, .invokevirtual 338, 3), (81, .lstore_n 1, 1), (82, .lload_n 1, 1), (83, .aload_n 0, 1), (84, .invokevirtual 341, 3), (87, .invokestatic 318, 3), (90, .lstore_n 1, 1), (91, .lload_n 1, 1), (92, .aload_n 0, 1), (93, .invokevirtual 344, 3), (96, .invokestatic 318, 3), (99, .lstore_n 1, 1), (100, .lload_n 1, 1), (101, .aload_n 0, 1), (102, .getfield 61, 3), (105, .getfield 296, 3), (108, .invokestatic 318, 3), (111, .lreturn, 1)]
theorem o_X8_digest : tb_X8_digest.all (fun q => decide (decode cX8_digest q.1 = .ok q.2)) = true := by decide +kernel
def m_X9_within : sk_MI := (yX9_within, cX9_within, 3, some .boolean, 0, 0)
def tb_X9_within : List (Nat × Instr × Nat) := [(0, .iload_n 0, 1), (1, .iload_n 1, 1), (2, .if_icmp .lt 12, 3), (5, .iload_n 0, 1), (6, .iload_n 2, 1), (7, .if_icmp .gt 7, 3), (10, .iconst 1, 1), (11, .goto 4, 3), (14, .iconst 0, 1), (15, .ireturn, 1)]
theorem o_X9_within : tb_X9_within.all (fun q => decide (decode cX9_within q.1 = .ok q.2)) = true := by decide +kernel
def m_X9_hasPupil : sk_MI := (yX9_hasPupil, cX9_hasPupil, 2, some .boolean, 0, 0)
def tb_X9_hasPupil : List (Nat × Instr × Nat) := [(0, .iload_n 1, 1), (1, .iconst 0, 1), (2, .bipush 19, 2), (4, .invokestatic 168, 3), (7, .ifCond .eq 17, 3), (10, .aload_n 0, 1), (11, .getfield 19, 3), (14, .iload_n 1, 1), (15, .iaload, 1), (16, .iconst 1, 1), (17, .if_icmp .ne 7, 3), (20, .iconst 1, 1), (21, .goto 4, 3), (24, .iconst 0, 1), (25, .ireturn, 1)]
theorem o_X9_hasPupil : tb_X9_hasPupil.all (fun q => decide (decode cX9_hasPupil q.1 = .ok q.2)) = true := by decide +kernel
def m_X9_isLevel : sk_MI := (yX9_isLevel, cX9_isLevel, 1, some .boolean, 0, 0)
def tb_X9_isLevel : List (Nat × Instr × Nat) := [(0, .iload_n 0, 1), (1, .iconst 0, 1), (2, .bipush 7, 2), (4, .invokestatic 168, 3), (7, .ireturn, 1)]
theorem o_X9_isLevel : tb_X9_isLevel.all (fun q => decide (decode cX9_isLevel q.1 = .ok q.2)) = true := by decide +kernel
def m_X9_isLanguages : sk_MI := (yX9_isLanguages, cX9_isLanguages, 1, some .boolean, 0, 0)
def tb_X9_isLanguages : List (Nat × Instr × Nat) := [(0, .iload_n 0, 1), (1, .iconst 1, 1), (2, .bipush 63, 2), (4, .invokestatic 168, 3), (7, .ireturn, 1)]
theorem o_X9_isLanguages : tb_X9_isLanguages.all (fun q => decide (decode cX9_isLanguages q.1 = .ok q.2)) = true := by decide +kernel
def m_X9_isFamily : sk_MI := (yX9_isFamily, cX9_isFamily, 1, some .boolean, 0, 0)
def tb_X9_isFamily : List (Nat × Instr × Nat) := [(0, .iload_n 0, 1), (1, .iconst 0, 1), (2, .bipush 7, 2), (4, .invokestatic 168, 3), (7, .ireturn, 1)]
theorem o_X9_isFamily : tb_X9_isFamily.all (fun q => decide (decode cX9_isFamily q.1 = .ok q.2)) = true := by decide +kernel
def m_X9_isOf : sk_MI := (yX9_isOf, cX9_isOf, 3, some .boolean, 0, 0)
def tb_X9_isOf : List (Nat × Instr × Nat) := [(0, .aload_n 0, 1), (1, .getfield 19, 3), (4, .iload_n 1, 1), (5, .iaload, 1), (6, .iconst 1, 1), (7, .if_icmp .ne 17, 3), (10, .aload_n 0, 1), (11, .getfield 29, 3), (14, .iload_n 1, 1), (15, .iaload, 1), (16, .iload_n 2, 1), (17, .if_icmp .ne 7, 3), (20, .iconst 1, 1), (21, .goto 4, 3), (24, .iconst 0, 1), (25, .ireturn, 1)]
theorem o_X9_isOf : tb_X9_isOf.all (fun q => decide (decode cX9_isOf q.1 = .ok q.2)) = true := by decide +kernel
def m_X9_leaveAll : sk_MI := (yX9_leaveAll, cX9_leaveAll, 4, some .int, 0, 0)
def tb_X9_leaveAll : List (Nat × Instr × Nat) := [(0, .iconst 0, 1), (1, .istore_n 2, 1), (2, .iconst 0, 1), (3, .istore_n 3, 1), (4, .iload_n 3, 1), (5, .bipush 20, 2), (7, .if_icmp .ge 40, 3), (10, .aload_n 0, 1), (11, .iload_n 3, 1), (12, .iload_n 1, 1), (13, .invokevirtual 172, 3), (16, .ifCond .eq 25, 3), (19, .aload_n 0, 1), (20, .getfield 32, 3), (23, .iload_n 3, 1), (24, .iaload, 1), (25, .bipush (-9), 2), (27, .if_icmp .eq 14, 3), (30, .aload_n 0, 1), (31, .getfield 32, 3), (34, .iload_n 3, 1), (35, .bipush (-9), 2), (37, .iastore, 1), (38, .iinc 2 1, 3), (41, .iinc 3 1, 3), (44, .goto (-40), 3), (47, .iload_n 2, 1), (48, .ireturn, 1)]
theorem o_X9_leaveAll : tb_X9_leaveAll.all (fun q => decide (decode cX9_leaveAll q.1 = .ok q.2)) = true := by decide +kernel
def m_X9_keepRule : sk_MI := (yX9_keepRule, cX9_keepRule, 5, some .int, 0, 0)
def tb_X9_keepRule : List (Nat × Instr × Nat) := [(0, .iload_n 1, 1), (1, .bipush (-9), 2), (3, .if_icmp .eq 12, 3), (6, .aload_n 0, 1), (7, .getfield 41, 3), (10, .iload_n 1, 1), (11, .iaload, 1), (12, .ifCond .ne 5, 3), (15, .iconst 0, 1), (16, .ireturn, 1), (17, .iconst 0, 1), (18, .istore_n 2, 1), (19, .iconst (-1), 1), (20, .istore_n 3, 1), (21, .iconst 0, 1), (22, .istore 4, 2), (24, .iload 4, 2), (26, .bipush 20, 2), (28, .if_icmp .ge 53, 3), (31, .aload_n 0, 1), (32, .iload 4, 2), (34, .iload_n 1, 1), (35, .invokevirtual 172, 3), (38, .ifCond .eq 37, 3), (41, .iload_n 2, 1), (42, .ifCond .ne 19, 3), (45, .iload_n 3, 1), (46, .iconst (-1), 1), (47, .if_icmp .eq 18, 3), (50, .iload_n 3, 1), (51, .aload_n 0, 1), (52, .getfield 32, 3), (55, .iload 4, 2), (57, .iaload, 1), (58, .if_icmp .eq 7, 3), (61, .iconst 1, 1), (62, .goto 4, 3), (65, .iconst 0, 1), (66, .istore_n 2, 1), (67, .aload_n 0, 1), (68, .getfield 32, 3), (71, .iload 4, 2), (73, .iaload, 1), (74, .istore_n 3, 1), (75, .iinc 4 1, 3), (78, .goto (-54), 3), (81, .iload_n 2, 1), (82, .ifCond .eq 11, 3), (85, .aload_n 0, 1), (86, .iload_n 1, 1), (87, .invokevirtual 176, 3), (90, .goto 4, 3), (93, .iconst 0, 1), (94, .ireturn, 1)]
theorem o_X9_keepRule : tb_X9_keepRule.all (fun q => decide (decode cX9_keepRule q.1 = .ok q.2)) = true := by decide +kernel
def m_X9_pupilMany : sk_MI := (yX9_pupilMany, cX9_pupilMany, 3, some .int, 0, 0)
def tb_X9_pupilMany : List (Nat × Instr × Nat) := [(0, .iconst 0, 1), (1, .istore_n 1, 1), (2, .iconst 0, 1), (3, .istore_n 2, 1), (4, .iload_n 2, 1), (5, .bipush 20, 2), (7, .if_icmp .ge 18, 3), (10, .iload_n 1, 1), (11, .aload_n 0, 1), (12, .getfield 19, 3), (15, .iload_n 2, 1), (16, .iaload, 1), (17, .iadd, 1), (18, .istore_n 1, 1), (19, .iinc 2 1, 3), (22, .goto (-18), 3), (25, .iload_n 1, 1), (26, .ireturn, 1)]
theorem o_X9_pupilMany : tb_X9_pupilMany.all (fun q => decide (decode cX9_pupilMany q.1 = .ok q.2)) = true := by decide +kernel
def m_X9_addPupil : sk_MI := (yX9_addPupil, cX9_addPupil, 6, some .int, 0, 0)
def tb_X9_addPupil : List (Nat × Instr × Nat) := [(0, .iload_n 1, 1), (1, .invokestatic 180, 3), (4, .ifCond .eq 23, 3), (7, .iload_n 2, 1), (8, .invokestatic 184, 3), (11, .ifCond .eq 16, 3), (14, .iload_n 3, 1), (15, .bipush (-9), 2), (17, .if_icmp .eq 12, 3), (20, .iload_n 3, 1), (21, .invokestatic 187, 3), (24, .ifCond .ne 5, 3), (27, .iconst (-1), 1), (28, .ireturn, 1), (29, .aload_n 0, 1), (30, .invokevirtual 190, 3), (33, .bipush 20, 2), (35, .if_icmp .ne 6, 3), (38, .bipush (-3), 2), (40, .ireturn, 1), (41, .iconst 0, 1), (42, .istore 4, 2), (44, .aload_n 0, 1), (45, .getfield 19, 3), (48, .iload 4, 2), (50, .iaload, 1), (51, .iconst 1, 1), (52, .if_icmp .ne 9, 3), (55, .iinc 4 1, 3), (58, .goto (-14), 3), (61, .aload_n 0, 1), (62, .getfield 19, 3), (65, .iload 4, 2), (67, .iconst 1, 1), (68, .iastore, 1), (69, .aload_n 0, 1), (70, .getfield 23, 3), (73, .iload 4, 2), (75, .iload_n 1, 1), (76, .iastore, 1), (77, .aload_n 0, 1), (78, .getfield 26, 3), (81, .iload 4, 2), (83, .iload_n 2, 1), (84, .iastore, 1), (85, .aload_n 0, 1), (86, .getfield 29, 3), (89, .iload 4, 2), (91, .iload_n 3, 1), (92, .iastore, 1), (93, .aload_n 0, 1), (94, .getfield 32, 3), (97, .iload 4, 2), (99, .bipush (-9), 2), (101, .iastore, 1), (102, .aload_n 0, 1), (103, .getfield 38, 3), (106, .iload 4, 2), (108, .bipush (-9), 2), (110, .iastore, 1), (111, .iconst 0, 1), (112, .istore 5, 2), (114, .iload 5, 2), (116, .iconst 4, 1), (117, .if_icmp .ge 23, 3), (120, .aload_n 0, 1), (121, .getfield 35, 3), (124, .iconst 4, 1), (125, .iload 4, 2), (127, .imul, 1), (128, .iload 5, 2), (130, .iadd, 1), (131, .bipush (-9), 2), (133, .iastore, 1), (134, .iinc 5 1, 3), (137, .goto (-23), 3), (140, .aload_n 0, 1), (141, .iload_n 3, 1), (142, .invokevirtual 194, 3), (145, .pop, 1), (146, .iload 4, 2), (148, .ireturn, 1)]
theorem o_X9_addPupil : tb_X9_addPupil.all (fun q => decide (decode cX9_addPupil q.1 = .ok q.2)) = true := by decide +kernel
def m_X9_removePupil : sk_MI := (yX9_removePupil, cX9_removePupil, 2, some .int, 0, 0)
def tb_X9_removePupil : List (Nat × Instr × Nat) := [(0, .aload_n 0, 1), (1, .iload_n 1, 1), (2, .invokevirtual 197, 3), (5, .ifCond .ne 5, 3), (8, .iconst (-1), 1), (9, .ireturn, 1), (10, .aload_n 0, 1), (11, .getfield 19, 3), (14, .iload_n 1, 1), (15, .iconst 0, 1), (16, .iastore, 1), (17, .aload_n 0, 1), (18, .invokevirtual 190, 3), (21, .ireturn, 1)]
theorem o_X9_removePupil : tb_X9_removePupil.all (fun q => decide (decode cX9_removePupil q.1 = .ok q.2)) = true := by decide +kernel
def m_X9_pupils : sk_MI := (yX9_pupils, cX9_pupils, 1, some .int, 0, 0)
def tb_X9_pupils : List (Nat × Instr × Nat) := [(0, .aload_n 0, 1), (1, .invokevirtual 190, 3), (4, .ireturn, 1)]
theorem o_X9_pupils : tb_X9_pupils.all (fun q => decide (decode cX9_pupils q.1 = .ok q.2)) = true := by decide +kernel
def m_X9_level : sk_MI := (yX9_level, cX9_level, 2, some .int, 0, 0)
def tb_X9_level : List (Nat × Instr × Nat) := [(0, .aload_n 0, 1), (1, .iload_n 1, 1), (2, .invokevirtual 197, 3), (5, .ifCond .eq 12, 3), (8, .aload_n 0, 1), (9, .getfield 23, 3), (12, .iload_n 1, 1), (13, .iaload, 1), (14, .goto 4, 3), (17, .iconst (-1), 1), (18, .ireturn, 1)]
theorem o_X9_level : tb_X9_level.all (fun q => decide (decode cX9_level q.1 = .ok q.2)) = true := by decide +kernel
def m_X9_languages : sk_MI := (yX9_languages, cX9_languages, 2, some .int, 0, 0)
def tb_X9_languages : List (Nat × Instr × Nat) := [(0, .aload_n 0, 1), (1, .iload_n 1, 1), (2, .invokevirtual 197, 3), (5, .ifCond .eq 12, 3), (8, .aload_n 0, 1), (9, .getfield 26, 3), (12, .iload_n 1, 1), (13, .iaload, 1), (14, .goto 4, 3), (17, .iconst (-1), 1), (18, .ireturn, 1)]
theorem o_X9_languages : tb_X9_languages.all (fun q => decide (decode cX9_languages q.1 = .ok q.2)) = true := by decide +kernel
def m_X9_family : sk_MI := (yX9_family, cX9_family, 2, some .int, 0, 0)
def tb_X9_family : List (Nat × Instr × Nat) := [(0, .aload_n 0, 1), (1, .iload_n 1, 1), (2, .invokevirtual 197, 3), (5, .ifCond .eq 12, 3), (8, .aload_n 0, 1), (9, .getfield 29, 3), (12, .iload_n 1, 1), (13, .iaload, 1), (14, .goto 4, 3), (17, .iconst (-1), 1), (18, .ireturn, 1)]
theorem o_X9_family : tb_X9_family.all (fun q => decide (decode cX9_family q.1 = .ok q.2)) = true := by decide +kernel
def m_X9_group : sk_MI := (yX9_group, cX9_group, 2, some .int, 0, 0)
def tb_X9_group : List (Nat × Instr × Nat) := [(0, .aload_n 0, 1), (1, .iload_n 1, 1), (2, .invokevirtual 197, 3), (5, .ifCond .eq 12, 3), (8, .aload_n 0, 1), (9, .getfield 32, 3), (12, .iload_n 1, 1), (13, .iaload, 1), (14, .goto 4, 3), (17, .iconst (-1), 1), (18, .ireturn, 1)]
theorem o_X9_group : tb_X9_group.all (fun q => decide (decode cX9_group q.1 = .ok q.2)) = true := by decide +kernel
def m_X9_setTogether : sk_MI := (yX9_setTogether, cX9_setTogether, 3, some .int, 0, 0)
def tb_X9_setTogether : List (Nat × Instr × Nat) := [(0, .iload_n 1, 1), (1, .invokestatic 187, 3), (4, .ifCond .ne 5, 3), (7, .iconst (-1), 1), (8, .ireturn, 1), (9, .aload_n 0, 1), (10, .getfield 41, 3), (13, .iload_n 1, 1), (14, .iload_n 2, 1), (15, .ifCond .eq 7, 3), (18, .iconst 1, 1), (19, .goto 4, 3), (22, .iconst 0, 1), (23, .iastore, 1), (24, .aload_n 0, 1), (25, .iload_n 1, 1), (26, .invokevirtual 194, 3), (29, .ireturn, 1)]
theorem o_X9_setTogether : tb_X9_setTogether.all (fun q => decide (decode cX9_setTogether q.1 = .ok q.2)) = true := by decide +kernel
def m_X9_spreadOf : sk_MI := (yX9_spreadOf, cX9_spreadOf, 5, some .int, 0, 0)
def tb_X9_spreadOf : List (Nat × Instr × Nat) := [(0, .bipush 8, 2), (2, .istore_n 2, 1), (3, .iconst (-1), 1), (4, .istore_n 3, 1), (5, .iconst 0, 1), (6, .istore 4, 2), (8, .iload 4, 2), (10, .bipush 20, 2), (12, .if_icmp .ge 65, 3), (15, .aload_n 0, 1), (16, .iload 4, 2), (18, .iload_n 1, 1), (19, .invokevirtual 172, 3), (22, .ifCond .eq 49, 3), (25, .aload_n 0, 1), (26, .getfield 23, 3), (29, .iload 4, 2), (31, .iaload, 1), (32, .iload_n 2, 1), (33, .if_icmp .ge 13, 3), (36, .aload_n 0, 1), (37, .getfield 23, 3), (40, .iload 4, 2), (42, .iaload, 1), (43, .goto 4, 3), (46, .iload_n 2, 1), (47, .istore_n 2, 1), (48, .aload_n 0, 1), (49, .getfield 23, 3), (52, .iload 4, 2), (54, .iaload, 1), (55, .iload_n 3, 1), (56, .if_icmp .le 13, 3), (59, .aload_n 0, 1), (60, .getfield 23, 3), (63, .iload 4, 2), (65, .iaload, 1), (66, .goto 4, 3), (69, .iload_n 3, 1), (70, .istore_n 3, 1), (71, .iinc 4 1, 3), (74, .goto (-66), 3), (77, .iload_n 3, 1), (78, .ifCond .ge 8, 3), (81, .bipush (-9), 2), (83, .goto 6, 3), (86, .iload_n 3, 1), (87, .iload_n 2, 1), (88, .isub, 1), (89, .ireturn, 1)]
theorem o_X9_spreadOf : tb_X9_spreadOf.all (fun q => decide (decode cX9_spreadOf q.1 = .ok q.2)) = true := by decide +kernel
def m_X9_spread : sk_MI := (yX9_spread, cX9_spread, 2, some .int, 0, 0)
def tb_X9_spread : List (Nat × Instr × Nat) := [(0, .iload_n 1, 1), (1, .invokestatic 187, 3), (4, .ifCond .eq 11, 3), (7, .aload_n 0, 1), (8, .iload_n 1, 1), (9, .invokevirtual 200, 3), (12, .goto 4, 3), (15, .iconst (-1), 1), (16, .ireturn, 1)]
theorem o_X9_spread : tb_X9_spread.all (fun q => decide (decode cX9_spread q.1 = .ok q.2)) = true := by decide +kernel
def m_X9_isExercise : sk_MI := (yX9_isExercise, cX9_isExercise, 1, some .boolean, 0, 0)
def tb_X9_isExercise : List (Nat × Instr × Nat) := [(0, .iload_n 0, 1), (1, .iconst 0, 1), (2, .iconst 3, 1), (3, .invokestatic 168, 3), (6, .ireturn, 1)]
theorem o_X9_isExercise : tb_X9_isExercise.all (fun q => decide (decode cX9_isExercise q.1 = .ok q.2)) = true := by decide +kernel
def m_X9_scoreMany : sk_MI := (yX9_scoreMany, cX9_scoreMany, 4, some .int, 0, 0)
def tb_X9_scoreMany : List (Nat × Instr × Nat) := [(0, .iconst 0, 1), (1, .istore_n 2, 1), (2, .iconst 0, 1), (3, .istore_n 3, 1), (4, .iload_n 3, 1), (5, .iconst 4, 1), (6, .if_icmp .ge 32, 3), (9, .iload_n 2, 1), (10, .aload_n 0, 1), (11, .getfield 35, 3), (14, .iconst 4, 1), (15, .iload_n 1, 1), (16, .imul, 1), (17, .iload_n 3, 1), (18, .iadd, 1), (19, .iaload, 1), (20, .bipush (-9), 2), (22, .if_icmp .ne 7, 3), (25, .iconst 0, 1), (26, .goto 4, 3), (29, .iconst 1, 1), (30, .iadd, 1), (31, .istore_n 2, 1), (32, .iinc 3 1, 3), (35, .goto (-31), 3), (38, .iload_n 2, 1), (39, .ireturn, 1)]
theorem o_X9_scoreMany : tb_X9_scoreMany.all (fun q => decide (decode cX9_scoreMany q.1 = .ok q.2)) = true := by decide +kernel
def m_X9_score : sk_MI := (yX9_score, cX9_score, 4, some .int, 0, 0)
def tb_X9_score : List (Nat × Instr × Nat) := [(0, .aload_n 0, 1), (1, .iload_n 1, 1), (2, .invokevirtual 197, 3), (5, .ifCond .eq 20, 3), (8, .iload_n 2, 1), (9, .invokestatic 203, 3), (12, .ifCond .eq 13, 3), (15, .iload_n 3, 1), (16, .iconst 0, 1), (17, .bipush 10, 2), (19, .invokestatic 168, 3), (22, .ifCond .ne 5, 3), (25, .iconst (-1), 1), (26, .ireturn, 1), (27, .aload_n 0, 1), (28, .getfield 35, 3), (31, .iconst 4, 1), (32, .iload_n 1, 1), (33, .imul, 1), (34, .iload_n 2, 1), (35, .iadd, 1), (36, .iload_n 3, 1), (37, .iastore, 1), (38, .aload_n 0, 1), (39, .iload_n 1, 1), (40, .invokevirtual 206, 3), (43, .ireturn, 1)]
theorem o_X9_score : tb_X9_score.all (fun q => decide (decode cX9_score q.1 = .ok q.2)) = true := by decide +kernel
def m_X9_scoreOf : sk_MI := (yX9_scoreOf, cX9_scoreOf, 3, some .int, 0, 0)
def tb_X9_scoreOf : List (Nat × Instr × Nat) := [(0, .aload_n 0, 1), (1, .iload_n 1, 1), (2, .invokevirtual 197, 3), (5, .ifCond .eq 23, 3), (8, .iload_n 2, 1), (9, .invokestatic 203, 3), (12, .ifCond .eq 16, 3), (15, .aload_n 0, 1), (16, .getfield 35, 3), (19, .iconst 4, 1), (20, .iload_n 1, 1), (21, .imul, 1), (22, .iload_n 2, 1), (23, .iadd, 1), (24, .iaload, 1), (25, .goto 4, 3), (28, .iconst (-1), 1), (29, .ireturn, 1)]
theorem o_X9_scoreOf : tb_X9_scoreOf.all (fun q => decide (decode cX9_scoreOf q.1 = .ok q.2)) = true := by decide +kernel
def m_X9_setMarks : sk_MI := (yX9_setMarks, cX9_setMarks, 5, some .int, 0, 0)
def tb_X9_setMarks : List (Nat × Instr × Nat) := [(0, .iload_n 1, 1), (1, .iconst 0, 1), (2, .bipush 40, 2), (4, .invokestatic 168, 3), (7, .ifCond .eq 22, 3), (10, .iload_n 2, 1), (11, .iconst 0, 1), (12, .bipush 10, 2), (14, .invokestatic 168, 3), (17, .ifCond .eq 12, 3), (20, .iload_n 3, 1), (21, .iconst 0, 1), (22, .iload_n 1, 1), (23, .invokestatic 168, 3), (26, .ifCond .ne 5, 3), (29, .iconst (-1), 1), (30, .ireturn, 1), (31, .aload_n 0, 1), (32, .getfield 7, 3), (35, .istore 4, 2), (37, .aload_n 0, 1), (38, .iload_n 1, 1), (39, .putfield 7, 3), (42, .aload_n 0, 1), (43, .iload_n 2, 1), (44, .putfield 13, 3), (47, .aload_n 0, 1), (48, .iload_n 3, 1), (49, .putfield 16, 3), (52, .iload 4, 2), (54, .ireturn, 1)]
theorem o_X9_setMarks : tb_X9_setMarks.all (fun q => decide (decode cX9_setMarks q.1 = .ok q.2)) = true := by decide +kernel
def m_X9_isFitting : sk_MI := (yX9_isFitting, cX9_isFitting, 5, some .boolean, 0, 0)
def tb_X9_isFitting : List (Nat × Instr × Nat) := [(0, .aload_n 0, 1), (1, .getfield 23, 3), (4, .iload_n 1, 1), (5, .iaload, 1), (6, .iload_n 2, 1), (7, .isub, 1), (8, .istore 4, 2), (10, .iload 4, 2), (12, .iconst (-1), 1), (13, .iconst 1, 1), (14, .invokestatic 168, 3), (17, .ifCond .eq 21, 3), (20, .aload_n 0, 1), (21, .getfield 26, 3), (24, .iload_n 1, 1), (25, .iaload, 1), (26, .iload_n 3, 1), (27, .ishr, 1), (28, .iconst 1, 1), (29, .iand, 1), (30, .iconst 1, 1), (31, .if_icmp .ne 7, 3), (34, .iconst 1, 1), (35, .goto 4, 3), (38, .iconst 0, 1), (39, .ireturn, 1)]
theorem o_X9_isFitting : tb_X9_isFitting.all (fun q => decide (decode cX9_isFitting q.1 = .ok q.2)) = true := by decide +kernel
def m_X9_grade : sk_MI := (yX9_grade, cX9_grade, 7, some .int, 0, 0)
def tb_X9_grade : List (Nat × Instr × Nat) := [(0, .aload_n 0, 1), (1, .iload_n 1, 1), (2, .invokevirtual 197, 3), (5, .ifCond .ne 5, 3), (8, .iconst (-1), 1), (9, .ireturn, 1), (10, .aload_n 0, 1), (11, .iload_n 1, 1), (12, .invokevirtual 206, 3), (15, .iconst 4, 1), (16, .if_icmp .lt 16, 3), (19, .aload_n 0, 1), (20, .getfield 38, 3), (23, .iload_n 1, 1), (24, .iaload, 1), (25, .aload_n 0, 1), (26, .getfield 209, 3), (29, .if_icmp .ne 6, 3), (32, .bipush (-2), 2), (34, .ireturn, 1), (35, .iconst 0, 1), (36, .istore_n 2, 1), (37, .iconst 1, 1), (38, .istore_n 3, 1), (39, .iconst 0, 1), (40, .istore 4, 2), (42, .iload 4, 2), (44, .iconst 4, 1), (45, .if_icmp .ge 64, 3), (48, .iload_n 2, 1), (49, .aload_n 0, 1), (50, .getfield 35, 3), (53, .iconst 4, 1), (54, .iload_n 1, 1), (55, .imul, 1), (56, .iload 4, 2), (58, .iadd, 1), (59, .iaload, 1), (60, .iadd, 1), (61, .istore_n 2, 1), (62, .iload_n 3, 1), (63, .ifCond .eq 25, 3), (66, .aload_n 0, 1), (67, .getfield 35, 3), (70, .iconst 4, 1), (71, .iload_n 1, 1), (72, .imul, 1), (73, .iload 4, 2), (75, .iadd, 1), (76, .iaload, 1), (77, .aload_n 0, 1), (78, .getfield 13, 3), (81, .if_icmp .lt 7, 3), (84, .iconst 1, 1), (85, .goto 4, 3), (88, .iconst 0, 1), (89, .istore_n 3, 1), (90, .aload_n 0, 1), (91, .getfield 35, 3), (94, .iconst 4, 1), (95, .iload_n 1, 1), (96, .imul, 1), (97, .iload 4, 2), (99, .iadd, 1), (100, .bipush (-9), 2), (102, .iastore, 1), (103, .iinc 4 1, 3), (106, .goto (-64), 3), (109, .iload_n 3, 1), (110, .ifCond .eq 15, 3), (113, .iload_n 2, 1), (114, .aload_n 0, 1), (115, .getfield 7, 3), (118, .if_icmp .lt 7, 3), (121, .iconst 1, 1), (122, .goto 4, 3), (125, .iconst 0, 1), (126, .istore 4, 2), (128, .aload_n 0, 1), (129, .getfield 23, 3), (132, .iload_n 1, 1), (133, .iaload, 1), (134, .istore 5, 2), (136, .iload 4, 2), (138, .ifCond .eq 28, 3), (141, .aload_n 0, 1), (142, .getfield 23, 3), (145, .iload_n 1, 1), (146, .iload 5, 2), (148, .bipush 7, 2), (150, .if_icmp .ge 10, 3), (153, .iload 5, 2), (155, .iconst 1, 1), (156, .iadd, 1), (157, .goto 5, 3), (160, .bipush 7, 2), (162, .iastore, 1), (163, .goto 30, 3), (166, .iload_n 2, 1), (167, .aload_n 0, 1), (168, .getfield 16, 3), (171, .if_icmp .ge 22, 3), (174, .aload_n 0, 1), (175, .getfield 23, 3), (178, .iload_n 1, 1), (179, .iload 5, 2), (181, .ifCond .le 10, 3), (184, .iload 5, 2), (186, .iconst 1, 1), (187, .isub, 1), (188, .goto 4, 3), (191, .iconst 0, 1), (192, .iastore, 1), (193, .aload_n 0, 1), (194, .getfield 38, 3), (197, .iload_n 1, 1), (198, .aload_n 0, 1), (199, .getfield 209, 3), (202, .iastore, 1), (203, .aload_n 0, 1), (204, .getfield 32, 3), (207, .iload_n 1, 1), (208, .iaload, 1), (209, .istore 6, 2), (211, .iload 6, 2), (213, .bipush (-9), 2), (215, .if_icmp .eq 44, 3), (218, .aload_n 0, 1), (219, .iload_n 1, 1), (220, .aload_n 0, 1), (221, .getfield 47, 3), (224, .iload 6, 2), (226, .iaload, 1), (227, .aload_n 0, 1), (228, .getfield 50, 3), (231, .iload 6, 2), (233, .iaload, 1), (234, .invokevirtual 212, 3), (237, .ifCond .ne 22, 3), (240, .aload_n 0, 1), (241, .getfield 32, 3), (244, .iload_n 1, 1), (245, .bipush (-9), 2), (247, .iastore, 1), (248, .aload_n 0, 1), (249, .aload_n 0, 1), (250, .getfield 29, 3), (253, .iload_n 1, 1), (254, .iaload, 1), (255, .invokevirtual 194, 3), (258, .pop, 1), (259, .aload_n 0, 1), (260, .getfield 23, 3), (263, .iload_n 1, 1), (264, .iaload, 1), (265, .ireturn, 1)]
theorem o_X9_grade : tb_X9_grade.all (fun q => decide (decode cX9_grade q.1 = .ok q.2)) = true := by decide +kernel
def m_X9_nextDay : sk_MI := (yX9_nextDay, cX9_nextDay, 1, some .int, 0, 0)
def tb_X9_nextDay : List (Nat × Instr × Nat) := [(0, .aload_n 0, 1), (1, .dup, 1), (2, .getfield 209, 3), (5, .iconst 1, 1), (6, .iadd, 1), (7, .putfield 209, 3), (10, .aload_n 0, 1), (11, .getfield 209, 3), (14, .ireturn, 1)]
theorem o_X9_nextDay : tb_X9_nextDay.all (fun q => decide (decode cX9_nextDay q.1 = .ok q.2)) = true := by decide +kernel
def m_X9_hasGroup : sk_MI := (yX9_hasGroup, cX9_hasGroup, 2, some .boolean, 0, 0)
def tb_X9_hasGroup : List (Nat × Instr × Nat) := [(0, .iload_n 1, 1), (1, .iconst 0, 1), (2, .iconst 3, 1), (3, .invokestatic 168, 3), (6, .ifCond .eq 17, 3), (9, .aload_n 0, 1), (10, .getfield 44, 3), (13, .iload_n 1, 1), (14, .iaload, 1), (15, .iconst 1, 1), (16, .if_icmp .ne 7, 3), (19, .iconst 1, 1), (20, .goto 4, 3), (23, .iconst 0, 1), (24, .ireturn, 1)]
theorem o_X9_hasGroup : tb_X9_hasGroup.all (fun q => decide (decode cX9_hasGroup q.1 = .ok q.2)) = true := by decide +kernel
def m_X9_areOfGroup : sk_MI := (yX9_areOfGroup, cX9_areOfGroup, 3, some .boolean, 0, 0)
def tb_X9_areOfGroup : List (Nat × Instr × Nat) := [(0, .iload_n 0, 1), (1, .invokestatic 180, 3), (4, .ifCond .eq 26, 3), (7, .iload_n 1, 1), (8, .iconst 0, 1), (9, .iconst 5, 1), (10, .invokestatic 168, 3), (13, .ifCond .eq 17, 3), (16, .iload_n 2, 1), (17, .iconst 1, 1), (18, .bipush 6, 2), (20, .invokestatic 168, 3), (23, .ifCond .eq 7, 3), (26, .iconst 1, 1), (27, .goto 4, 3), (30, .iconst 0, 1), (31, .ireturn, 1)]
theorem o_X9_areOfGroup : tb_X9_areOfGroup.all (fun q => decide (decode cX9_areOfGroup q.1 = .ok q.2)) = true := by decide +kernel
def m_X9_groupMany : sk_MI := (yX9_groupMany, cX9_groupMany, 1, some .int, 0, 0)
def tb_X9_groupMany : List (Nat × Instr × Nat) := [(0, .aload_n 0, 1), (1, .getfield 44, 3), (4, .iconst 0, 1), (5, .iaload, 1), (6, .aload_n 0, 1), (7, .getfield 44, 3), (10, .iconst 1, 1), (11, .iaload, 1), (12, .iadd, 1), (13, .aload_n 0, 1), (14, .getfield 44, 3), (17, .iconst 2, 1), (18, .iaload, 1), (19, .iadd, 1), (20, .aload_n 0, 1), (21, .getfield 44, 3), (24, .iconst 3, 1), (25, .iaload, 1), (26, .iadd, 1), (27, .ireturn, 1)]
theorem o_X9_groupMany : tb_X9_groupMany.all (fun q => decide (decode cX9_groupMany q.1 = .ok q.2)) = true := by decide +kernel
def m_X9_freeGroup : sk_MI := (yX9_freeGroup, cX9_freeGroup, 2, some .int, 0, 0)
def tb_X9_freeGroup : List (Nat × Instr × Nat) := [(0, .iconst 0, 1), (1, .istore_n 1, 1), (2, .aload_n 0, 1), (3, .getfield 44, 3), (6, .iload_n 1, 1), (7, .iaload, 1), (8, .iconst 1, 1), (9, .if_icmp .ne 9, 3), (12, .iinc 1 1, 3), (15, .goto (-13), 3), (18, .iload_n 1, 1), (19, .ireturn, 1)]
theorem o_X9_freeGroup : tb_X9_freeGroup.all (fun q => decide (decode cX9_freeGroup q.1 = .ok q.2)) = true := by decide +kernel
def m_X9_openGroup : sk_MI := (yX9_openGroup, cX9_openGroup, 5, some .int, 0, 0)
def tb_X9_openGroup : List (Nat × Instr × Nat) := [(0, .iload_n 1, 1), (1, .iload_n 2, 1), (2, .iload_n 3, 1), (3, .invokestatic 215, 3), (6, .ifCond .ne 5, 3), (9, .iconst (-1), 1), (10, .ireturn, 1), (11, .aload_n 0, 1), (12, .invokevirtual 218, 3), (15, .iconst 4, 1), (16, .if_icmp .ne 6, 3), (19, .bipush (-3), 2), (21, .ireturn, 1), (22, .aload_n 0, 1), (23, .invokevirtual 221, 3), (26, .istore 4, 2), (28, .aload_n 0, 1), (29, .getfield 44, 3), (32, .iload 4, 2), (34, .iconst 1, 1), (35, .iastore, 1), (36, .aload_n 0, 1), (37, .getfield 47, 3), (40, .iload 4, 2), (42, .iload_n 1, 1), (43, .iastore, 1), (44, .aload_n 0, 1), (45, .getfield 50, 3), (48, .iload 4, 2), (50, .iload_n 2, 1), (51, .iastore, 1), (52, .aload_n 0, 1), (53, .getfield 53, 3), (56, .iload 4, 2), (58, .iload_n 3, 1), (59, .iastore, 1), (60, .aload_n 0, 1), (61, .getfield 56, 3), (64, .iload 4, 2), (66, .bipush (-9), 2), (68, .iastore, 1), (69, .aload_n 0, 1), (70, .getfield 59, 3), (73, .iload 4, 2), (75, .iconst 0, 1), (76, .iastore, 1), (77, .aload_n 0, 1), (78, .getfield 62, 3), (81, .iload 4, 2), (83, .iconst 0, 1), (84, .iastore, 1), (85, .iload 4, 2), (87, .ireturn, 1)]
theorem o_X9_openGroup : tb_X9_openGroup.all (fun q => decide (decode cX9_openGroup q.1 = .ok q.2)) = true := by decide +kernel
def m_X9_sizeOf : sk_MI := (yX9_sizeOf, cX9_sizeOf, 4, some .int, 0, 0)
def tb_X9_sizeOf : List (Nat × Instr × Nat) := [(0, .iconst 0, 1), (1, .istore_n 2, 1), (2, .iconst 0, 1), (3, .istore_n 3, 1), (4, .iload_n 3, 1), (5, .bipush 20, 2), (7, .if_icmp .ge 37, 3), (10, .iload_n 2, 1), (11, .aload_n 0, 1), (12, .getfield 19, 3), (15, .iload_n 3, 1), (16, .iaload, 1), (17, .iconst 1, 1), (18, .if_icmp .ne 17, 3), (21, .aload_n 0, 1), (22, .getfield 32, 3), (25, .iload_n 3, 1), (26, .iaload, 1), (27, .iload_n 1, 1), (28, .if_icmp .ne 7, 3), (31, .iconst 1, 1), (32, .goto 4, 3), (35, .iconst 0, 1), (36, .iadd, 1), (37, .istore_n 2, 1), (38, .iinc 3 1, 3), (41, .goto (-37), 3), (44, .iload_n 2, 1), (45, .ireturn, 1)]
theorem o_X9_sizeOf : tb_X9_sizeOf.all (fun q => decide (decode cX9_sizeOf q.1 = .ok q.2)) = true := by decide +kernel
def m_X9_isActive : sk_MI := (yX9_isActive, cX9_isActive, 2, some .boolean, 0, 0)
def tb_X9_isActive : List (Nat × Instr × Nat) := [(0, .aload_n 0, 1), (1, .getfield 44, 3), (4, .iload_n 1, 1), (5, .iaload, 1), (6, .iconst 1, 1), (7, .if_icmp .ne 15, 3), (10, .aload_n 0, 1), (11, .iload_n 1, 1), (12, .invokevirtual 224, 3), (15, .ifCond .le 7, 3), (18, .iconst 1, 1), (19, .goto 4, 3), (22, .iconst 0, 1), (23, .ireturn, 1)]
theorem o_X9_isActive : tb_X9_isActive.all (fun q => decide (decode cX9_isActive q.1 = .ok q.2)) = true := by decide +kernel
def m_X9_closeGroup : sk_MI := (yX9_closeGroup, cX9_closeGroup, 4, some .int, 0, 0)
def tb_X9_closeGroup : List (Nat × Instr × Nat) := [(0, .aload_n 0, 1), (1, .iload_n 1, 1), (2, .invokevirtual 227, 3), (5, .ifCond .ne 5, 3), (8, .iconst (-1), 1), (9, .ireturn, 1), (10, .aload_n 0, 1), (11, .iload_n 1, 1), (12, .invokevirtual 224, 3), (15, .istore_n 2, 1), (16, .iconst 0, 1), (17, .istore_n 3, 1), (18, .iload_n 3, 1), (19, .bipush 20, 2), (21, .if_icmp .ge 36, 3), (24, .aload_n 0, 1), (25, .getfield 32, 3), (28, .iload_n 3, 1), (29, .aload_n 0, 1), (30, .getfield 32, 3), (33, .iload_n 3, 1), (34, .iaload, 1), (35, .iload_n 1, 1), (36, .if_icmp .ne 8, 3), (39, .bipush (-9), 2), (41, .goto 9, 3), (44, .aload_n 0, 1), (45, .getfield 32, 3), (48, .iload_n 3, 1), (49, .iaload, 1), (50, .iastore, 1), (51, .iinc 3 1, 3), (54, .goto (-36), 3), (57, .aload_n 0, 1), (58, .getfield 44, 3), (61, .iload_n 1, 1), (62, .iconst 0, 1), (63, .iastore, 1), (64, .aload_n 0, 1), (65, .getfield 98, 3), (68, .iload_n 1, 1), (69, .iconst 0, 1), (70, .iastore, 1), (71, .aload_n 0, 1), (72, .getfield 101, 3), (75, .iload_n 1, 1), (76, .iconst 0, 1), (77, .iastore, 1), (78, .iload_n 2, 1), (79, .ireturn, 1)]
theorem o_X9_closeGroup : tb_X9_closeGroup.all (fun q => decide (decode cX9_closeGroup q.1 = .ok q.2)) = true := by decide +kernel
def m_X9_groups : sk_MI := (yX9_groups, cX9_groups, 1, some .int, 0, 0)
def tb_X9_groups : List (Nat × Instr × Nat) := [(0, .aload_n 0, 1), (1, .invokevirtual 218, 3), (4, .ireturn, 1)]
theorem o_X9_groups : tb_X9_groups.all (fun q => decide (decode cX9_groups q.1 = .ok q.2)) = true := by decide +kernel
def m_X9_groupLevel : sk_MI := (yX9_groupLevel, cX9_groupLevel, 2, some .int, 0, 0)
def tb_X9_groupLevel : List (Nat × Instr × Nat) := [(0, .aload_n 0, 1), (1, .iload_n 1, 1), (2, .invokevirtual 227, 3), (5, .ifCond .eq 12, 3), (8, .aload_n 0, 1), (9, .getfield 47, 3), (12, .iload_n 1, 1), (13, .iaload, 1), (14, .goto 4, 3), (17, .iconst (-1), 1), (18, .ireturn, 1)]
theorem o_X9_groupLevel : tb_X9_groupLevel.all (fun q => decide (decode cX9_groupLevel q.1 = .ok q.2)) = true := by decide +kernel
def m_X9_size : sk_MI := (yX9_size, cX9_size, 2, some .int, 0, 0)
def tb_X9_size : List (Nat × Instr × Nat) := [(0, .aload_n 0, 1), (1, .iload_n 1, 1), (2, .invokevirtual 227, 3), (5, .ifCond .eq 11, 3), (8, .aload_n 0, 1), (9, .iload_n 1, 1), (10, .invokevirtual 224, 3), (13, .goto 4, 3), (16, .iconst (-1), 1), (17, .ireturn, 1)]
theorem o_X9_size : tb_X9_size.all (fun q => decide (decode cX9_size q.1 = .ok q.2)) = true := by decide +kernel
def m_X9_instructor : sk_MI := (yX9_instructor, cX9_instructor, 2, some .int, 0, 0)
def tb_X9_instructor : List (Nat × Instr × Nat) := [(0, .aload_n 0, 1), (1, .iload_n 1, 1), (2, .invokevirtual 227, 3), (5, .ifCond .eq 12, 3), (8, .aload_n 0, 1), (9, .getfield 56, 3), (12, .iload_n 1, 1), (13, .iaload, 1), (14, .goto 4, 3), (17, .iconst (-1), 1), (18, .ireturn, 1)]
theorem o_X9_instructor : tb_X9_instructor.all (fun q => decide (decode cX9_instructor q.1 = .ok q.2)) = true := by decide +kernel
def m_X9_power : sk_MI := (yX9_power, cX9_power, 1, some .int, 0, 0)
def tb_X9_power : List (Nat × Instr × Nat) := [(0, .iload_n 0, 1), (1, .ifCond .ne 7, 3), (4, .iconst 1, 1), (5, .goto 26, 3), (8, .iload_n 0, 1), (9, .iconst 1, 1), (10, .if_icmp .ne 8, 3), (13, .bipush 7, 2), (15, .goto 16, 3), (18, .iload_n 0, 1), (19, .iconst 2, 1), (20, .if_icmp .ne 8, 3), (23, .bipush 49, 2), (25, .goto 6, 3), (28, .sipush 343, 3), (31, .ireturn, 1)]
theorem o_X9_power : tb_X9_power.all (fun q => decide (decode cX9_power q.1 = .ok q.2)) = true := by decide +kernel
def m_X9_planGroups : sk_MI := (yX9_planGroups, cX9_planGroups, 2, none, 0, 0)
def tb_X9_planGroups : List (Nat × Instr × Nat) := [(0, .iconst 0, 1), (1, .istore_n 1, 1), (2, .iload_n 1, 1), (3, .iconst 4, 1), (4, .if_icmp .ge 59, 3), (7, .aload_n 0, 1), (8, .getfield 126, 3), (11, .iload_n 1, 1), (12, .aload_n 0, 1), (13, .getfield 47, 3), (16, .iload_n 1, 1), (17, .iaload, 1), (18, .iastore, 1), (19, .aload_n 0, 1), (20, .getfield 129, 3), (23, .iload_n 1, 1), (24, .aload_n 0, 1), (25, .getfield 50, 3), (28, .iload_n 1, 1), (29, .iaload, 1), (30, .iastore, 1), (31, .aload_n 0, 1), (32, .getfield 132, 3), (35, .iload_n 1, 1), (36, .aload_n 0, 1), (37, .getfield 44, 3), (40, .iload_n 1, 1), (41, .iaload, 1), (42, .iconst 1, 1), (43, .if_icmp .ne 12, 3), (46, .aload_n 0, 1), (47, .getfield 53, 3), (50, .iload_n 1, 1), (51, .iaload, 1), (52, .goto 4, 3), (55, .iconst 0, 1), (56, .iastore, 1), (57, .iinc 1 1, 3), (60, .goto (-58), 3), (63, .return_, 1)]
theorem o_X9_planGroups : tb_X9_planGroups.all (fun q => decide (decode cX9_planGroups q.1 = .ok q.2)) = true := by decide +kernel
def m_X9_addOut : sk_MI := (yX9_addOut, cX9_addOut, 4, none, 0, 0)
def tb_X9_addOut : List (Nat × Instr × Nat) := [(0, .aload_n 0, 1), (1, .iload_n 2, 1), (2, .aload_n 0, 1), (3, .getfield 126, 3), (6, .iload_n 3, 1), (7, .iaload, 1), (8, .aload_n 0, 1), (9, .getfield 129, 3), (12, .iload_n 3, 1), (13, .iaload, 1), (14, .invokevirtual 212, 3), (17, .ifCond .ne 14, 3), (20, .aload_n 0, 1), (21, .getfield 119, 3), (24, .iload_n 1, 1), (25, .bipush (-9), 2), (27, .iastore, 1), (28, .goto 43, 3), (31, .aload_n 0, 1), (32, .getfield 119, 3), (35, .iload_n 1, 1), (36, .iaload, 1), (37, .bipush (-9), 2), (39, .if_icmp .eq 32, 3), (42, .aload_n 0, 1), (43, .getfield 119, 3), (46, .iload_n 1, 1), (47, .dup2, 1), (48, .iaload, 1), (49, .aload_n 0, 1), (50, .getfield 23, 3), (53, .iload_n 2, 1), (54, .iaload, 1), (55, .aload_n 0, 1), (56, .getfield 126, 3), (59, .iload_n 3, 1), (60, .iaload, 1), (61, .if_icmp .ne 7, 3), (64, .iconst 0, 1), (65, .goto 4, 3), (68, .iconst 1, 1), (69, .iadd, 1), (70, .iastore, 1), (71, .return_, 1)]
theorem o_X9_addOut : tb_X9_addOut.all (fun q => decide (decode cX9_addOut q.1 = .ok q.2)) = true := by decide +kernel
def m_X9_findUnits : sk_MI := (yX9_findUnits, cX9_findUnits, 7, none, 0, 0)
def tb_X9_findUnits : List (Nat × Instr × Nat) := [(0, .aload_n 0, 1), (1, .iconst 0, 1), (2, .putfield 230, 3), (5, .iconst 0, 1), (6, .istore_n 2, 1), (7, .iload_n 2, 1), (8, .bipush 20, 2), (10, .if_icmp .ge 221, 3), (13, .aload_n 0, 1), (14, .getfield 29, 3), (17, .iload_n 2, 1), (18, .iaload, 1), (19, .istore_n 3, 1), (20, .aload_n 0, 1), (21, .getfield 19, 3), (24, .iload_n 2, 1), (25, .iaload, 1), (26, .iconst 1, 1), (27, .if_icmp .ne 28, 3), (30, .iload_n 3, 1), (31, .bipush (-9), 2), (33, .if_icmp .eq 22, 3), (36, .iload_n 3, 1), (37, .iload_n 1, 1), (38, .if_icmp .eq 17, 3), (41, .aload_n 0, 1), (42, .getfield 41, 3), (45, .iload_n 3, 1), (46, .iaload, 1), (47, .iconst 1, 1), (48, .if_icmp .ne 7, 3), (51, .iconst 1, 1), (52, .goto 4, 3), (55, .iconst 0, 1), (56, .istore 4, 2), (58, .aload_n 0, 1), (59, .getfield 230, 3), (62, .istore 5, 2), (64, .iconst 0, 1), (65, .istore 6, 2), (67, .iload 6, 2), (69, .iload_n 2, 1), (70, .if_icmp .ge 38, 3), (73, .iload 4, 2), (75, .ifCond .eq 33, 3), (78, .aload_n 0, 1), (79, .iload 6, 2), (81, .iload_n 3, 1), (82, .invokevirtual 172, 3), (85, .ifCond .eq 13, 3), (88, .aload_n 0, 1), (89, .getfield 116, 3), (92, .iload 6, 2), (94, .iaload, 1), (95, .goto 5, 3), (98, .iload 5, 2), (100, .istore 5, 2), (102, .iinc 6 1, 3), (105, .goto (-38), 3), (108, .aload_n 0, 1), (109, .getfield 19, 3), (112, .iload_n 2, 1), (113, .iaload, 1), (114, .iconst 1, 1), (115, .if_icmp .ne 110, 3), (118, .iload 5, 2), (120, .aload_n 0, 1), (121, .getfield 230, 3), (124, .if_icmp .ne 53, 3), (127, .aload_n 0, 1), (128, .getfield 113, 3), (131, .aload_n 0, 1), (132, .getfield 230, 3), (135, .iconst 0, 1), (136, .iastore, 1), (137, .iconst 0, 1), (138, .istore 6, 2), (140, .iload 6, 2), (142, .iconst 4, 1), (143, .if_icmp .ge 24, 3), (146, .aload_n 0, 1), (147, .getfield 119, 3), (150, .iconst 4, 1), (151, .aload_n 0, 1), (152, .getfield 230, 3), (155, .imul, 1), (156, .iload 6, 2), (158, .iadd, 1), (159, .iconst 0, 1), (160, .iastore, 1), (161, .iinc 6 1, 3), (164, .goto (-24), 3), (167, .aload_n 0, 1), (168, .dup, 1), (169, .getfield 230, 3), (172, .iconst 1, 1), (173, .iadd, 1), (174, .putfield 230, 3), (177, .aload_n 0, 1), (178, .getfield 116, 3), (181, .iload_n 2, 1), (182, .iload 5, 2), (184, .iastore, 1), (185, .aload_n 0, 1), (186, .getfield 113, 3), (189, .iload 5, 2), (191, .dup2, 1), (192, .iaload, 1), (193, .iconst 1, 1), (194, .iadd, 1), (195, .iastore, 1), (196, .iconst 0, 1), (197, .istore 6, 2), (199, .iload 6, 2), (201, .iconst 4, 1), (202, .if_icmp .ge 23, 3), (205, .aload_n 0, 1), (206, .iconst 4, 1), (207, .iload 5, 2), (209, .imul, 1), (210, .iload 6, 2), (212, .iadd, 1), (213, .iload_n 2, 1), (214, .iload 6, 2), (216, .invokevirtual 233, 3), (219, .iinc 6 1, 3), (222, .goto (-23), 3), (225, .iinc 2 1, 3), (228, .goto (-221), 3), (231, .return_, 1)]
theorem o_X9_findUnits : tb_X9_findUnits.all (fun q => decide (decode cX9_findUnits q.1 = .ok q.2)) = true := by decide +kernel
def m_X9_mayGet : sk_MI := (yX9_mayGet, cX9_mayGet, 4, some .boolean, 0, 0)
def tb_X9_mayGet : List (Nat × Instr × Nat) := [(0, .aload_n 0, 1), (1, .getfield 119, 3), (4, .iconst 4, 1), (5, .iload_n 1, 1), (6, .imul, 1), (7, .iload_n 2, 1), (8, .iadd, 1), (9, .iaload, 1), (10, .bipush (-9), 2), (12, .if_icmp .eq 25, 3), (15, .iload_n 3, 1), (16, .iload_n 2, 1), (17, .invokestatic 237, 3), (20, .idiv, 1), (21, .bipush 7, 2), (23, .irem, 1), (24, .aload_n 0, 1), (25, .getfield 113, 3), (28, .iload_n 1, 1), (29, .iaload, 1), (30, .if_icmp .lt 7, 3), (33, .iconst 1, 1), (34, .goto 4, 3), (37, .iconst 0, 1), (38, .ireturn, 1)]
theorem o_X9_mayGet : tb_X9_mayGet.all (fun q => decide (decode cX9_mayGet q.1 = .ok q.2)) = true := by decide +kernel
def m_X9_worthOf : sk_MI := (yX9_worthOf, cX9_worthOf, 5, some .int, 0, 0)
def tb_X9_worthOf : List (Nat × Instr × Nat) := [(0, .iload_n 3, 1), (1, .aload_n 0, 1), (2, .getfield 113, 3), (5, .iload_n 1, 1), (6, .iaload, 1), (7, .iload_n 2, 1), (8, .invokestatic 237, 3), (11, .imul, 1), (12, .isub, 1), (13, .istore 4, 2), (15, .bipush 100, 2), (17, .aload_n 0, 1), (18, .getfield 113, 3), (21, .iload_n 1, 1), (22, .iaload, 1), (23, .imul, 1), (24, .aload_n 0, 1), (25, .getfield 119, 3), (28, .iconst 4, 1), (29, .iload_n 1, 1), (30, .imul, 1), (31, .iload_n 2, 1), (32, .iadd, 1), (33, .iaload, 1), (34, .isub, 1), (35, .aload_n 0, 1), (36, .getfield 123, 3), (39, .sipush 2401, 3), (42, .iload_n 1, 1), (43, .iconst 1, 1), (44, .iadd, 1), (45, .imul, 1), (46, .iload 4, 2), (48, .iadd, 1), (49, .iaload, 1), (50, .iadd, 1), (51, .ireturn, 1)]
theorem o_X9_worthOf : tb_X9_worthOf.all (fun q => decide (decode cX9_worthOf q.1 = .ok q.2)) = true := by decide +kernel
def m_X9_plan : sk_MI := (yX9_plan, cX9_plan, 7, some .int, 0, 0)
def tb_X9_plan : List (Nat × Instr × Nat) := [(0, .aload_n 0, 1), (1, .iload_n 1, 1), (2, .invokevirtual 240, 3), (5, .iconst 0, 1), (6, .istore_n 2, 1), (7, .iload_n 2, 1), (8, .sipush 2401, 3), (11, .if_icmp .ge 25, 3), (14, .aload_n 0, 1), (15, .getfield 123, 3), (18, .sipush 2401, 3), (21, .aload_n 0, 1), (22, .getfield 230, 3), (25, .imul, 1), (26, .iload_n 2, 1), (27, .iadd, 1), (28, .iconst 0, 1), (29, .iastore, 1), (30, .iinc 2 1, 3), (33, .goto (-26), 3), (36, .aload_n 0, 1), (37, .getfield 230, 3), (40, .iconst 1, 1), (41, .isub, 1), (42, .istore_n 2, 1), (43, .iload_n 2, 1), (44, .ifCond .lt 110, 3), (47, .iconst 0, 1), (48, .istore_n 3, 1), (49, .iload_n 3, 1), (50, .sipush 2401, 3), (53, .if_icmp .ge 95, 3), (56, .aload_n 0, 1), (57, .getfield 123, 3), (60, .sipush 2401, 3), (63, .iload_n 2, 1), (64, .iconst 1, 1), (65, .iadd, 1), (66, .imul, 1), (67, .iload_n 3, 1), (68, .iadd, 1), (69, .iaload, 1), (70, .istore 4, 2), (72, .iconst 0, 1), (73, .istore 5, 2), (75, .iload 5, 2), (77, .iconst 4, 1), (78, .if_icmp .ge 50, 3), (81, .aload_n 0, 1), (82, .iload_n 2, 1), (83, .iload 5, 2), (85, .iload_n 3, 1), (86, .invokevirtual 244, 3), (89, .ifCond .eq 14, 3), (92, .aload_n 0, 1), (93, .iload_n 2, 1), (94, .iload 5, 2), (96, .iload_n 3, 1), (97, .invokevirtual 247, 3), (100, .goto 4, 3), (103, .iconst (-1), 1), (104, .istore 6, 2), (106, .iload 6, 2), (108, .iload 4, 2), (110, .if_icmp .le 8, 3), (113, .iload 6, 2), (115, .goto 5, 3), (118, .iload 4, 2), (120, .istore 4, 2), (122, .iinc 5 1, 3), (125, .goto (-50), 3), (128, .aload_n 0, 1), (129, .getfield 123, 3), (132, .sipush 2401, 3), (135, .iload_n 2, 1), (136, .imul, 1), (137, .iload_n 3, 1), (138, .iadd, 1), (139, .iload 4, 2), (141, .iastore, 1), (142, .iinc 3 1, 3), (145, .goto (-96), 3), (148, .iinc 2 (-1), 3), (151, .goto (-108), 3), (154, .iconst 0, 1), (155, .istore_n 2, 1), (156, .iconst 0, 1), (157, .istore_n 3, 1), (158, .iload_n 3, 1), (159, .iconst 4, 1), (160, .if_icmp .ge 23, 3), (163, .iload_n 2, 1), (164, .aload_n 0, 1), (165, .getfield 132, 3), (168, .iload_n 3, 1), (169, .iaload, 1), (170, .iload_n 3, 1), (171, .invokestatic 237, 3), (174, .imul, 1), (175, .iadd, 1), (176, .istore_n 2, 1), (177, .iinc 3 1, 3), (180, .goto (-22), 3), (183, .iconst 0, 1), (184, .istore_n 3, 1), (185, .iconst 0, 1), (186, .istore 4, 2), (188, .iload 4, 2), (190, .aload_n 0, 1), (191, .getfield 230, 3), (194, .if_icmp .ge 143, 3), (197, .aload_n 0, 1), (198, .getfield 135, 3), (201, .iload 4, 2), (203, .bipush (-9), 2), (205, .iastore, 1), (206, .iconst 3, 1), (207, .istore 5, 2), (209, .iload 5, 2), (211, .ifCond .lt 77, 3), (214, .aload_n 0, 1), (215, .iload 4, 2), (217, .iload 5, 2), (219, .iload_n 2, 1), (220, .invokevirtual 244, 3), (223, .ifCond .eq 32, 3), (226, .aload_n 0, 1), (227, .iload 4, 2), (229, .iload 5, 2), (231, .iload_n 2, 1), (232, .invokevirtual 247, 3), (235, .aload_n 0, 1), (236, .getfield 123, 3), (239, .sipush 2401, 3), (242, .iload 4, 2), (244, .imul, 1), (245, .iload_n 2, 1), (246, .iadd, 1), (247, .iaload, 1), (248, .if_icmp .ne 7, 3), (251, .iconst 1, 1), (252, .goto 4, 3), (255, .iconst 0, 1), (256, .istore 6, 2), (258, .aload_n 0, 1), (259, .getfield 135, 3), (262, .iload 4, 2), (264, .iload 6, 2), (266, .ifCond .eq 8, 3), (269, .iload 5, 2), (271, .goto 10, 3), (274, .aload_n 0, 1), (275, .getfield 135, 3), (278, .iload 4, 2), (280, .iaload, 1), (281, .iastore, 1), (282, .iinc 5 (-1), 3), (285, .goto (-76), 3), (288, .aload_n 0, 1), (289, .getfield 135, 3), (292, .iload 4, 2), (294, .iaload, 1), (295, .bipush (-9), 2), (297, .if_icmp .eq 34, 3), (300, .iload_n 2, 1), (301, .aload_n 0, 1), (302, .getfield 113, 3), (305, .iload 4, 2), (307, .iaload, 1), (308, .aload_n 0, 1), (309, .getfield 135, 3), (312, .iload 4, 2), (314, .iaload, 1), (315, .invokestatic 237, 3), (318, .imul, 1), (319, .isub, 1), (320, .istore_n 2, 1), (321, .iload_n 3, 1), (322, .aload_n 0, 1), (323, .getfield 113, 3), (326, .iload 4, 2), (328, .iaload, 1), (329, .iadd, 1), (330, .istore_n 3, 1), (331, .iinc 4 1, 3), (334, .goto (-146), 3), (337, .iload_n 3, 1), (338, .ireturn, 1)]
theorem o_X9_plan : tb_X9_plan.all (fun q => decide (decode cX9_plan q.1 = .ok q.2)) = true := by decide +kernel
def m_X9_assign : sk_MI := (yX9_assign, cX9_assign, 3, some .int, 0, 0)
def tb_X9_assign : List (Nat × Instr × Nat) := [(0, .aload_n 0, 1), (1, .invokevirtual 251, 3), (4, .aload_n 0, 1), (5, .bipush (-9), 2), (7, .invokevirtual 254, 3), (10, .istore_n 1, 1), (11, .iconst 0, 1), (12, .istore_n 2, 1), (13, .iload_n 2, 1), (14, .bipush 20, 2), (16, .if_icmp .ge 41, 3), (19, .aload_n 0, 1), (20, .getfield 32, 3), (23, .iload_n 2, 1), (24, .aload_n 0, 1), (25, .getfield 19, 3), (28, .iload_n 2, 1), (29, .iaload, 1), (30, .iconst 1, 1), (31, .if_icmp .ne 17, 3), (34, .aload_n 0, 1), (35, .getfield 135, 3), (38, .aload_n 0, 1), (39, .getfield 116, 3), (42, .iload_n 2, 1), (43, .iaload, 1), (44, .iaload, 1), (45, .goto 5, 3), (48, .bipush (-9), 2), (50, .iastore, 1), (51, .iinc 2 1, 3), (54, .goto (-41), 3), (57, .iload_n 1, 1), (58, .ireturn, 1)]
theorem o_X9_assign : tb_X9_assign.all (fun q => decide (decode cX9_assign q.1 = .ok q.2)) = true := by decide +kernel
def m_X9_placedMany : sk_MI := (yX9_placedMany, cX9_placedMany, 3, some .int, 0, 0)
def tb_X9_placedMany : List (Nat × Instr × Nat) := [(0, .iconst 0, 1), (1, .istore_n 1, 1), (2, .iconst 0, 1), (3, .istore_n 2, 1), (4, .iload_n 2, 1), (5, .bipush 20, 2), (7, .if_icmp .ge 38, 3), (10, .iload_n 1, 1), (11, .aload_n 0, 1), (12, .getfield 19, 3), (15, .iload_n 2, 1), (16, .iaload, 1), (17, .iconst 1, 1), (18, .if_icmp .ne 18, 3), (21, .aload_n 0, 1), (22, .getfield 32, 3), (25, .iload_n 2, 1), (26, .iaload, 1), (27, .bipush (-9), 2), (29, .if_icmp .eq 7, 3), (32, .iconst 1, 1), (33, .goto 4, 3), (36, .iconst 0, 1), (37, .iadd, 1), (38, .istore_n 1, 1), (39, .iinc 2 1, 3), (42, .goto (-38), 3), (45, .iload_n 1, 1), (46, .ireturn, 1)]
theorem o_X9_placedMany : tb_X9_placedMany.all (fun q => decide (decode cX9_placedMany q.1 = .ok q.2)) = true := by decide +kernel
def m_X9_placed : sk_MI := (yX9_placed, cX9_placed, 1, some .int, 0, 0)
def tb_X9_placed : List (Nat × Instr × Nat) := [(0, .aload_n 0, 1), (1, .invokevirtual 257, 3), (4, .ireturn, 1)]
theorem o_X9_placed : tb_X9_placed.all (fun q => decide (decode cX9_placed q.1 = .ok q.2)) = true := by decide +kernel
def m_X9_outMany : sk_MI := (yX9_outMany, cX9_outMany, 4, some .int, 0, 0)
def tb_X9_outMany : List (Nat × Instr × Nat) := [(0, .iconst 0, 1), (1, .istore_n 1, 1), (2, .iconst 0, 1), (3, .istore_n 2, 1), (4, .iload_n 2, 1), (5, .bipush 20, 2), (7, .if_icmp .ge 60, 3), (10, .aload_n 0, 1), (11, .getfield 19, 3), (14, .iload_n 2, 1), (15, .iaload, 1), (16, .iconst 1, 1), (17, .if_icmp .ne 12, 3), (20, .aload_n 0, 1), (21, .getfield 32, 3), (24, .iload_n 2, 1), (25, .iaload, 1), (26, .goto 5, 3), (29, .bipush (-9), 2), (31, .istore_n 3, 1), (32, .iload_n 1, 1), (33, .iload_n 3, 1), (34, .bipush (-9), 2), (36, .if_icmp .eq 22, 3), (39, .aload_n 0, 1), (40, .getfield 47, 3), (43, .iload_n 3, 1), (44, .iaload, 1), (45, .aload_n 0, 1), (46, .getfield 23, 3), (49, .iload_n 2, 1), (50, .iaload, 1), (51, .if_icmp .eq 7, 3), (54, .iconst 1, 1), (55, .goto 4, 3), (58, .iconst 0, 1), (59, .iadd, 1), (60, .istore_n 1, 1), (61, .iinc 2 1, 3), (64, .goto (-60), 3), (67, .iload_n 1, 1), (68, .ireturn, 1)]
theorem o_X9_outMany : tb_X9_outMany.all (fun q => decide (decode cX9_outMany q.1 = .ok q.2)) = true := by decide +kernel
def m_X9_outOfLevel : sk_MI := (yX9_outOfLevel, cX9_outOfLevel, 1, some .int, 0, 0)
def tb_X9_outOfLevel : List (Nat × Instr × Nat) := [(0, .aload_n 0, 1), (1, .invokevirtual 260, 3), (4, .ireturn, 1)]
theorem o_X9_outOfLevel : tb_X9_outOfLevel.all (fun q => decide (decode cX9_outOfLevel q.1 = .ok q.2)) = true := by decide +kernel
def m_X9_extraPlaced : sk_MI := (yX9_extraPlaced, cX9_extraPlaced, 6, some .int, 0, 0)
def tb_X9_extraPlaced : List (Nat × Instr × Nat) := [(0, .iload_n 1, 1), (1, .iload_n 2, 1), (2, .iload_n 3, 1), (3, .invokestatic 215, 3), (6, .ifCond .ne 5, 3), (9, .iconst (-1), 1), (10, .ireturn, 1), (11, .aload_n 0, 1), (12, .invokevirtual 218, 3), (15, .iconst 4, 1), (16, .if_icmp .ne 6, 3), (19, .bipush (-3), 2), (21, .ireturn, 1), (22, .aload_n 0, 1), (23, .invokevirtual 251, 3), (26, .aload_n 0, 1), (27, .bipush (-9), 2), (29, .invokevirtual 254, 3), (32, .istore 4, 2), (34, .aload_n 0, 1), (35, .invokevirtual 221, 3), (38, .istore 5, 2), (40, .aload_n 0, 1), (41, .getfield 126, 3), (44, .iload 5, 2), (46, .iload_n 1, 1), (47, .iastore, 1), (48, .aload_n 0, 1), (49, .getfield 129, 3), (52, .iload 5, 2), (54, .iload_n 2, 1), (55, .iastore, 1), (56, .aload_n 0, 1), (57, .getfield 132, 3), (60, .iload 5, 2), (62, .iload_n 3, 1), (63, .iastore, 1), (64, .aload_n 0, 1), (65, .bipush (-9), 2), (67, .invokevirtual 254, 3), (70, .iload 4, 2), (72, .isub, 1), (73, .ireturn, 1)]
theorem o_X9_extraPlaced : tb_X9_extraPlaced.all (fun q => decide (decode cX9_extraPlaced q.1 = .ok q.2)) = true := by decide +kernel
def m_X9_splitGain : sk_MI := (yX9_splitGain, cX9_splitGain, 3, some .int, 0, 0)
def tb_X9_splitGain : List (Nat × Instr × Nat) := [(0, .iload_n 1, 1), (1, .invokestatic 187, 3), (4, .ifCond .ne 5, 3), (7, .iconst (-1), 1), (8, .ireturn, 1), (9, .aload_n 0, 1), (10, .invokevirtual 251, 3), (13, .aload_n 0, 1), (14, .bipush (-9), 2), (16, .invokevirtual 254, 3), (19, .istore_n 2, 1), (20, .aload_n 0, 1), (21, .iload_n 1, 1), (22, .invokevirtual 254, 3), (25, .iload_n 2, 1), (26, .isub, 1), (27, .ireturn, 1)]
theorem o_X9_splitGain : tb_X9_splitGain.all (fun q => decide (decode cX9_splitGain q.1 = .ok q.2)) = true := by decide +kernel
def m_X9_hasInstructor : sk_MI := (yX9_hasInstructor, cX9_hasInstructor, 2, some .boolean, 0, 0)
def tb_X9_hasInstructor : List (Nat × Instr × Nat) := [(0, .iload_n 1, 1), (1, .iconst 0, 1), (2, .bipush 7, 2), (4, .invokestatic 168, 3), (7, .ifCond .eq 17, 3), (10, .aload_n 0, 1), (11, .getfield 71, 3), (14, .iload_n 1, 1), (15, .iaload, 1), (16, .iconst 1, 1), (17, .if_icmp .ne 7, 3), (20, .iconst 1, 1), (21, .goto 4, 3), (24, .iconst 0, 1), (25, .ireturn, 1)]
theorem o_X9_hasInstructor : tb_X9_hasInstructor.all (fun q => decide (decode cX9_hasInstructor q.1 = .ok q.2)) = true := by decide +kernel
def m_X9_instructorMany : sk_MI := (yX9_instructorMany, cX9_instructorMany, 3, some .int, 0, 0)
def tb_X9_instructorMany : List (Nat × Instr × Nat) := [(0, .iconst 0, 1), (1, .istore_n 1, 1), (2, .iconst 0, 1), (3, .istore_n 2, 1), (4, .iload_n 2, 1), (5, .bipush 8, 2), (7, .if_icmp .ge 18, 3), (10, .iload_n 1, 1), (11, .aload_n 0, 1), (12, .getfield 71, 3), (15, .iload_n 2, 1), (16, .iaload, 1), (17, .iadd, 1), (18, .istore_n 1, 1), (19, .iinc 2 1, 3), (22, .goto (-18), 3), (25, .iload_n 1, 1), (26, .ireturn, 1)]
theorem o_X9_instructorMany : tb_X9_instructorMany.all (fun q => decide (decode cX9_instructorMany q.1 = .ok q.2)) = true := by decide +kernel
def m_X9_hire : sk_MI := (yX9_hire, cX9_hire, 6, some .int, 0, 0)
def tb_X9_hire : List (Nat × Instr × Nat) := [(0, .iload_n 1, 1), (1, .invokestatic 184, 3), (4, .ifCond .eq 32, 3), (7, .iload_n 2, 1), (8, .invokestatic 180, 3), (11, .ifCond .eq 25, 3), (14, .iload_n 3, 1), (15, .iload_n 2, 1), (16, .bipush 7, 2), (18, .invokestatic 168, 3), (21, .ifCond .eq 15, 3), (24, .iload 4, 2), (26, .iconst 1, 1), (27, .ldc_w 263, 3), (30, .invokestatic 168, 3), (33, .ifCond .ne 5, 3), (36, .iconst (-1), 1), (37, .ireturn, 1), (38, .aload_n 0, 1), (39, .invokevirtual 264, 3), (42, .bipush 8, 2), (44, .if_icmp .ne 6, 3), (47, .bipush (-3), 2), (49, .ireturn, 1), (50, .iconst 0, 1), (51, .istore 5, 2), (53, .aload_n 0, 1), (54, .getfield 71, 3), (57, .iload 5, 2), (59, .iaload, 1), (60, .iconst 1, 1), (61, .if_icmp .ne 9, 3), (64, .iinc 5 1, 3), (67, .goto (-14), 3), (70, .aload_n 0, 1), (71, .getfield 71, 3), (74, .iload 5, 2), (76, .iconst 1, 1), (77, .iastore, 1), (78, .aload_n 0, 1), (79, .getfield 74, 3), (82, .iload 5, 2), (84, .iload_n 1, 1), (85, .iastore, 1), (86, .aload_n 0, 1), (87, .getfield 77, 3), (90, .iload 5, 2), (92, .iload_n 2, 1), (93, .iastore, 1), (94, .aload_n 0, 1), (95, .getfield 80, 3), (98, .iload 5, 2), (100, .iload_n 3, 1), (101, .iastore, 1), (102, .aload_n 0, 1), (103, .getfield 83, 3), (106, .iload 5, 2), (108, .iload 4, 2), (110, .iastore, 1), (111, .aload_n 0, 1), (112, .getfield 86, 3), (115, .iload 5, 2), (117, .iconst 0, 1), (118, .iastore, 1), (119, .iload 5, 2), (121, .ireturn, 1)]
theorem o_X9_hire : tb_X9_hire.all (fun q => decide (decode cX9_hire q.1 = .ok q.2)) = true := by decide +kernel
def m_X9_dismiss : sk_MI := (yX9_dismiss, cX9_dismiss, 4, some .int, 0, 0)
def tb_X9_dismiss : List (Nat × Instr × Nat) := [(0, .aload_n 0, 1), (1, .iload_n 1, 1), (2, .invokevirtual 267, 3), (5, .ifCond .ne 5, 3), (8, .iconst (-1), 1), (9, .ireturn, 1), (10, .bipush (-9), 2), (12, .istore_n 2, 1), (13, .iconst 0, 1), (14, .istore_n 3, 1), (15, .iload_n 3, 1), (16, .iconst 4, 1), (17, .if_icmp .ge 39, 3), (20, .aload_n 0, 1), (21, .getfield 44, 3), (24, .iload_n 3, 1), (25, .iaload, 1), (26, .iconst 1, 1), (27, .if_icmp .ne 23, 3), (30, .aload_n 0, 1), (31, .getfield 56, 3), (34, .iload_n 3, 1), (35, .iaload, 1), (36, .iload_n 1, 1), (37, .if_icmp .ne 13, 3), (40, .aload_n 0, 1), (41, .getfield 56, 3), (44, .iload_n 3, 1), (45, .bipush (-9), 2), (47, .iastore, 1), (48, .iload_n 3, 1), (49, .istore_n 2, 1), (50, .iinc 3 1, 3), (53, .goto (-38), 3), (56, .aload_n 0, 1), (57, .getfield 71, 3), (60, .iload_n 1, 1), (61, .iconst 0, 1), (62, .iastore, 1), (63, .iload_n 2, 1), (64, .ireturn, 1)]
theorem o_X9_dismiss : tb_X9_dismiss.all (fun q => decide (decode cX9_dismiss q.1 = .ok q.2)) = true := by decide +kernel
def m_X9_instructors : sk_MI := (yX9_instructors, cX9_instructors, 1, some .int, 0, 0)
def tb_X9_instructors : List (Nat × Instr × Nat) := [(0, .aload_n 0, 1), (1, .invokevirtual 264, 3), (4, .ireturn, 1)]
theorem o_X9_instructors : tb_X9_instructors.all (fun q => decide (decode cX9_instructors q.1 = .ok q.2)) = true := by decide +kernel
def m_X9_isTeaching : sk_MI := (yX9_isTeaching, cX9_isTeaching, 3, some .boolean, 0, 0)
def tb_X9_isTeaching : List (Nat × Instr × Nat) := [(0, .aload_n 0, 1), (1, .getfield 71, 3), (4, .iload_n 1, 1), (5, .iaload, 1), (6, .iconst 1, 1), (7, .if_icmp .ne 50, 3), (10, .aload_n 0, 1), (11, .getfield 74, 3), (14, .iload_n 1, 1), (15, .iaload, 1), (16, .aload_n 0, 1), (17, .getfield 50, 3), (20, .iload_n 2, 1), (21, .iaload, 1), (22, .ishr, 1), (23, .iconst 1, 1), (24, .iand, 1), (25, .iconst 1, 1), (26, .if_icmp .ne 31, 3), (29, .aload_n 0, 1), (30, .getfield 47, 3), (33, .iload_n 2, 1), (34, .iaload, 1), (35, .aload_n 0, 1), (36, .getfield 77, 3), (39, .iload_n 1, 1), (40, .iaload, 1), (41, .aload_n 0, 1), (42, .getfield 80, 3), (45, .iload_n 1, 1), (46, .iaload, 1), (47, .invokestatic 168, 3), (50, .ifCond .eq 7, 3), (53, .iconst 1, 1), (54, .goto 4, 3), (57, .iconst 0, 1), (58, .ireturn, 1)]
theorem o_X9_isTeaching : tb_X9_isTeaching.all (fun q => decide (decode cX9_isTeaching q.1 = .ok q.2)) = true := by decide +kernel
def m_X9_canTeach : sk_MI := (yX9_canTeach, cX9_canTeach, 3, some .int, 0, 0)
def tb_X9_canTeach : List (Nat × Instr × Nat) := [(0, .aload_n 0, 1), (1, .iload_n 1, 1), (2, .invokevirtual 267, 3), (5, .ifCond .eq 11, 3), (8, .aload_n 0, 1), (9, .iload_n 2, 1), (10, .invokevirtual 227, 3), (13, .ifCond .ne 7, 3), (16, .iconst (-1), 1), (17, .goto 17, 3), (20, .aload_n 0, 1), (21, .iload_n 1, 1), (22, .iload_n 2, 1), (23, .invokevirtual 270, 3), (26, .ifCond .eq 7, 3), (29, .iconst 1, 1), (30, .goto 4, 3), (33, .iconst 0, 1), (34, .ireturn, 1)]
theorem o_X9_canTeach : tb_X9_canTeach.all (fun q => decide (decode cX9_canTeach q.1 = .ok q.2)) = true := by decide +kernel
def m_X9_staffIn : sk_MI := (yX9_staffIn, cX9_staffIn, 2, some .int, 0, 0)
def tb_X9_staffIn : List (Nat × Instr × Nat) := [(0, .iload_n 0, 1), (1, .iconst 3, 1), (2, .iconst 3, 1), (3, .iload_n 1, 1), (4, .isub, 1), (5, .imul, 1), (6, .ishr, 1), (7, .bipush 7, 2), (9, .iand, 1), (10, .ireturn, 1)]
theorem o_X9_staffIn : tb_X9_staffIn.all (fun q => decide (decode cX9_staffIn q.1 = .ok q.2)) = true := by decide +kernel
def m_X9_costOf : sk_MI := (yX9_costOf, cX9_costOf, 7, some .int, 0, 0)
def tb_X9_costOf : List (Nat × Instr × Nat) := [(0, .iconst 0, 1), (1, .istore_n 2, 1), (2, .iconst 0, 1), (3, .istore_n 3, 1), (4, .iconst 1, 1), (5, .istore 4, 2), (7, .iconst 0, 1), (8, .istore 5, 2), (10, .iload 5, 2), (12, .iconst 4, 1), (13, .if_icmp .ge 90, 3), (16, .iload 4, 2), (18, .ifCond .eq 85, 3), (21, .iload_n 1, 1), (22, .iload 5, 2), (24, .invokestatic 273, 3), (27, .istore 6, 2), (29, .aload_n 0, 1), (30, .iload 5, 2), (32, .invokevirtual 277, 3), (35, .ifCond .eq 50, 3), (38, .aload_n 0, 1), (39, .iload 6, 2), (41, .iload 5, 2), (43, .invokevirtual 270, 3), (46, .ifCond .eq 16, 3), (49, .iload_n 3, 1), (50, .iload 6, 2), (52, .ishr, 1), (53, .iconst 1, 1), (54, .iand, 1), (55, .ifCond .ne 7, 3), (58, .iconst 1, 1), (59, .goto 4, 3), (62, .iconst 0, 1), (63, .istore 4, 2), (65, .iload_n 3, 1), (66, .iconst 1, 1), (67, .iload 6, 2), (69, .ishl, 1), (70, .ior, 1), (71, .istore_n 3, 1), (72, .iload_n 2, 1), (73, .aload_n 0, 1), (74, .getfield 83, 3), (77, .iload 6, 2), (79, .iaload, 1), (80, .iadd, 1), (81, .istore_n 2, 1), (82, .goto 15, 3), (85, .iload 6, 2), (87, .ifCond .ne 7, 3), (90, .iconst 1, 1), (91, .goto 4, 3), (94, .iconst 0, 1), (95, .istore 4, 2), (97, .iinc 5 1, 3), (100, .goto (-90), 3), (103, .iload 4, 2), (105, .ifCond .eq 7, 3), (108, .iload_n 2, 1), (109, .goto 4, 3), (112, .iconst (-1), 1), (113, .ireturn, 1)]
theorem o_X9_costOf : tb_X9_costOf.all (fun q => decide (decode cX9_costOf q.1 = .ok q.2)) = true := by decide +kernel
def m_X9_staff : sk_MI := (yX9_staff, cX9_staff, 6, some .int, 0, 0)
def tb_X9_staff : List (Nat × Instr × Nat) := [(0, .bipush (-9), 2), (2, .istore_n 1, 1), (3, .iconst (-1), 1), (4, .istore_n 2, 1), (5, .iconst 0, 1), (6, .istore_n 3, 1), (7, .iload_n 3, 1), (8, .sipush 4096, 3), (11, .if_icmp .ge 63, 3), (14, .aload_n 0, 1), (15, .iload_n 3, 1), (16, .invokevirtual 280, 3), (19, .istore 4, 2), (21, .iload 4, 2), (23, .ifCond .lt 19, 3), (26, .iload_n 1, 1), (27, .bipush (-9), 2), (29, .if_icmp .eq 9, 3), (32, .iload 4, 2), (34, .iload_n 2, 1), (35, .if_icmp .ge 7, 3), (38, .iconst 1, 1), (39, .goto 4, 3), (42, .iconst 0, 1), (43, .istore 5, 2), (45, .iload 5, 2), (47, .ifCond .eq 7, 3), (50, .iload_n 3, 1), (51, .goto 4, 3), (54, .iload_n 1, 1), (55, .istore_n 1, 1), (56, .iload 5, 2), (58, .ifCond .eq 8, 3), (61, .iload 4, 2), (63, .goto 4, 3), (66, .iload_n 2, 1), (67, .istore_n 2, 1), (68, .iinc 3 1, 3), (71, .goto (-64), 3), (74, .iload_n 1, 1), (75, .bipush (-9), 2), (77, .if_icmp .ne 6, 3), (80, .bipush (-2), 2), (82, .ireturn, 1), (83, .iconst 0, 1), (84, .istore_n 3, 1), (85, .iload_n 3, 1), (86, .iconst 4, 1), (87, .if_icmp .ge 33, 3), (90, .aload_n 0, 1), (91, .getfield 56, 3), (94, .iload_n 3, 1), (95, .aload_n 0, 1), (96, .iload_n 3, 1), (97, .invokevirtual 277, 3), (100, .ifCond .eq 11, 3), (103, .iload_n 1, 1), (104, .iload_n 3, 1), (105, .invokestatic 273, 3), (108, .goto 5, 3), (111, .bipush (-9), 2), (113, .iastore, 1), (114, .iinc 3 1, 3), (117, .goto (-32), 3), (120, .iload_n 2, 1), (121, .ireturn, 1)]
theorem o_X9_staff : tb_X9_staff.all (fun q => decide (decode cX9_staff q.1 = .ok q.2)) = true := by decide +kernel
def m_X9_pay : sk_MI := (yX9_pay, cX9_pay, 6, some .int, 0, 0)
def tb_X9_pay : List (Nat × Instr × Nat) := [(0, .iload_n 1, 1), (1, .iconst 1, 1), (2, .bipush 100, 2), (4, .invokestatic 168, 3), (7, .ifCond .ne 5, 3), (10, .iconst (-1), 1), (11, .ireturn, 1), (12, .iconst 0, 1), (13, .istore_n 2, 1), (14, .iconst 0, 1), (15, .istore_n 3, 1), (16, .iconst 0, 1), (17, .istore 4, 2), (19, .iload 4, 2), (21, .iconst 4, 1), (22, .if_icmp .ge 84, 3), (25, .aload_n 0, 1), (26, .iload 4, 2), (28, .invokevirtual 277, 3), (31, .ifCond .eq 69, 3), (34, .aload_n 0, 1), (35, .getfield 56, 3), (38, .iload 4, 2), (40, .iaload, 1), (41, .bipush (-9), 2), (43, .if_icmp .eq 57, 3), (46, .aload_n 0, 1), (47, .getfield 56, 3), (50, .iload 4, 2), (52, .iaload, 1), (53, .istore 5, 2), (55, .iload_n 2, 1), (56, .iload_n 1, 1), (57, .aload_n 0, 1), (58, .getfield 83, 3), (61, .iload 5, 2), (63, .iaload, 1), (64, .imul, 1), (65, .iadd, 1), (66, .istore_n 2, 1), (67, .iload_n 3, 1), (68, .ifCond .ne 26, 3), (71, .aload_n 0, 1), (72, .getfield 86, 3), (75, .iload 5, 2), (77, .iaload, 1), (78, .ldc_w 283, 3), (81, .iload_n 1, 1), (82, .aload_n 0, 1), (83, .getfield 83, 3), (86, .iload 5, 2), (88, .iaload, 1), (89, .imul, 1), (90, .isub, 1), (91, .if_icmp .le 7, 3), (94, .iconst 1, 1), (95, .goto 4, 3), (98, .iconst 0, 1), (99, .istore_n 3, 1), (100, .iinc 4 1, 3), (103, .goto (-84), 3), (106, .iconst 0, 1), (107, .istore 4, 2), (109, .iload 4, 2), (111, .iconst 4, 1), (112, .if_icmp .ge 63, 3), (115, .iload_n 3, 1), (116, .ifCond .ne 59, 3), (119, .aload_n 0, 1), (120, .iload 4, 2), (122, .invokevirtual 277, 3), (125, .ifCond .eq 44, 3), (128, .aload_n 0, 1), (129, .getfield 56, 3), (132, .iload 4, 2), (134, .iaload, 1), (135, .bipush (-9), 2), (137, .if_icmp .eq 32, 3), (140, .aload_n 0, 1), (141, .getfield 86, 3), (144, .aload_n 0, 1), (145, .getfield 56, 3), (148, .iload 4, 2), (150, .iaload, 1), (151, .dup2, 1), (152, .iaload, 1), (153, .iload_n 1, 1), (154, .aload_n 0, 1), (155, .getfield 83, 3), (158, .aload_n 0, 1), (159, .getfield 56, 3), (162, .iload 4, 2), (164, .iaload, 1), (165, .iaload, 1), (166, .imul, 1), (167, .iadd, 1), (168, .iastore, 1), (169, .iinc 4 1, 3), (172, .goto (-63), 3), (175, .iload_n 3, 1), (176, .ifCond .eq 8, 3), (179, .bipush (-3), 2), (181, .goto 4, 3), (184, .iload_n 2, 1), (185, .ireturn, 1)]
theorem o_X9_pay : tb_X9_pay.all (fun q => decide (decode cX9_pay q.1 = .ok q.2)) = true := by decide +kernel
def m_X9_earnings : sk_MI := (yX9_earnings, cX9_earnings, 2, some .int, 0, 0)
def tb_X9_earnings : List (Nat × Instr × Nat) := [(0, .aload_n 0, 1), (1, .iload_n 1, 1), (2, .invokevirtual 267, 3), (5, .ifCond .eq 12, 3), (8, .aload_n 0, 1), (9, .getfield 86, 3), (12, .iload_n 1, 1), (13, .iaload, 1), (14, .goto 4, 3), (17, .iconst (-1), 1), (18, .ireturn, 1)]
theorem o_X9_earnings : tb_X9_earnings.all (fun q => decide (decode cX9_earnings q.1 = .ok q.2)) = true := by decide +kernel
def m_X9_hasLift : sk_MI := (yX9_hasLift, cX9_hasLift, 2, some .boolean, 0, 0)
def tb_X9_hasLift : List (Nat × Instr × Nat) := [(0, .iload_n 1, 1), (1, .iconst 0, 1), (2, .aload_n 0, 1), (3, .getfield 284, 3), (6, .iconst 1, 1), (7, .isub, 1), (8, .invokestatic 168, 3), (11, .ireturn, 1)]
theorem o_X9_hasLift : tb_X9_hasLift.all (fun q => decide (decode cX9_hasLift q.1 = .ok q.2)) = true := by decide +kernel
def m_X9_addLift : sk_MI := (yX9_addLift, cX9_addLift, 4, some .int, 0, 0)
def tb_X9_addLift : List (Nat × Instr × Nat) := [(0, .iload_n 1, 1), (1, .iconst 1, 1), (2, .bipush 8, 2), (4, .invokestatic 168, 3), (7, .ifCond .eq 23, 3), (10, .iload_n 2, 1), (11, .iconst 1, 1), (12, .bipush 10, 2), (14, .invokestatic 168, 3), (17, .ifCond .eq 13, 3), (20, .iload_n 3, 1), (21, .iconst 1, 1), (22, .bipush 20, 2), (24, .invokestatic 168, 3), (27, .ifCond .ne 5, 3), (30, .iconst (-1), 1), (31, .ireturn, 1), (32, .aload_n 0, 1), (33, .getfield 284, 3), (36, .iconst 3, 1), (37, .if_icmp .ne 6, 3), (40, .bipush (-3), 2), (42, .ireturn, 1), (43, .aload_n 0, 1), (44, .getfield 89, 3), (47, .aload_n 0, 1), (48, .getfield 284, 3), (51, .iload_n 1, 1), (52, .iastore, 1), (53, .aload_n 0, 1), (54, .getfield 92, 3), (57, .aload_n 0, 1), (58, .getfield 284, 3), (61, .iload_n 2, 1), (62, .iastore, 1), (63, .aload_n 0, 1), (64, .getfield 95, 3), (67, .aload_n 0, 1), (68, .getfield 284, 3), (71, .iload_n 3, 1), (72, .iastore, 1), (73, .aload_n 0, 1), (74, .dup, 1), (75, .getfield 284, 3), (78, .iconst 1, 1), (79, .iadd, 1), (80, .putfield 284, 3), (83, .aload_n 0, 1), (84, .getfield 284, 3), (87, .iconst 1, 1), (88, .isub, 1), (89, .ireturn, 1)]
theorem o_X9_addLift : tb_X9_addLift.all (fun q => decide (decode cX9_addLift q.1 = .ok q.2)) = true := by decide +kernel
def m_X9_addStop : sk_MI := (yX9_addStop, cX9_addStop, 4, some .int, 0, 0)
def tb_X9_addStop : List (Nat × Instr × Nat) := [(0, .aload_n 0, 1), (1, .iload_n 1, 1), (2, .invokevirtual 227, 3), (5, .ifCond .eq 21, 3), (8, .aload_n 0, 1), (9, .iload_n 2, 1), (10, .invokevirtual 287, 3), (13, .ifCond .eq 13, 3), (16, .iload_n 3, 1), (17, .iconst 1, 1), (18, .bipush 20, 2), (20, .invokestatic 168, 3), (23, .ifCond .ne 5, 3), (26, .iconst (-1), 1), (27, .ireturn, 1), (28, .aload_n 0, 1), (29, .getfield 62, 3), (32, .iload_n 1, 1), (33, .iaload, 1), (34, .iconst 4, 1), (35, .if_icmp .ne 6, 3), (38, .bipush (-3), 2), (40, .ireturn, 1), (41, .aload_n 0, 1), (42, .getfield 65, 3), (45, .iconst 4, 1), (46, .iload_n 1, 1), (47, .imul, 1), (48, .aload_n 0, 1), (49, .getfield 62, 3), (52, .iload_n 1, 1), (53, .iaload, 1), (54, .iadd, 1), (55, .iload_n 2, 1), (56, .iastore, 1), (57, .aload_n 0, 1), (58, .getfield 68, 3), (61, .iconst 4, 1), (62, .iload_n 1, 1), (63, .imul, 1), (64, .aload_n 0, 1), (65, .getfield 62, 3), (68, .iload_n 1, 1), (69, .iaload, 1), (70, .iadd, 1), (71, .iload_n 3, 1), (72, .iastore, 1), (73, .aload_n 0, 1), (74, .getfield 62, 3), (77, .iload_n 1, 1), (78, .dup2, 1), (79, .iaload, 1), (80, .iconst 1, 1), (81, .iadd, 1), (82, .iastore, 1), (83, .aload_n 0, 1), (84, .getfield 62, 3), (87, .iload_n 1, 1), (88, .iaload, 1), (89, .ireturn, 1)]
theorem o_X9_addStop : tb_X9_addStop.all (fun q => decide (decode cX9_addStop q.1 = .ok q.2)) = true := by decide +kernel
def m_X9_clearStops : sk_MI := (yX9_clearStops, cX9_clearStops, 3, some .int, 0, 0)
def tb_X9_clearStops : List (Nat × Instr × Nat) := [(0, .aload_n 0, 1), (1, .iload_n 1, 1), (2, .invokevirtual 227, 3), (5, .ifCond .ne 5, 3), (8, .iconst (-1), 1), (9, .ireturn, 1), (10, .aload_n 0, 1), (11, .getfield 62, 3), (14, .iload_n 1, 1), (15, .iaload, 1), (16, .istore_n 2, 1), (17, .aload_n 0, 1), (18, .getfield 62, 3), (21, .iload_n 1, 1), (22, .iconst 0, 1), (23, .iastore, 1), (24, .iload_n 2, 1), (25, .ireturn, 1)]
theorem o_X9_clearStops : tb_X9_clearStops.all (fun q => decide (decode cX9_clearStops q.1 = .ok q.2)) = true := by decide +kernel
def m_X9_setStart : sk_MI := (yX9_setStart, cX9_setStart, 4, some .int, 0, 0)
def tb_X9_setStart : List (Nat × Instr × Nat) := [(0, .aload_n 0, 1), (1, .iload_n 1, 1), (2, .invokevirtual 227, 3), (5, .ifCond .eq 13, 3), (8, .iload_n 2, 1), (9, .iconst 0, 1), (10, .bipush 60, 2), (12, .invokestatic 168, 3), (15, .ifCond .ne 5, 3), (18, .iconst (-1), 1), (19, .ireturn, 1), (20, .aload_n 0, 1), (21, .getfield 59, 3), (24, .iload_n 1, 1), (25, .iaload, 1), (26, .istore_n 3, 1), (27, .aload_n 0, 1), (28, .getfield 59, 3), (31, .iload_n 1, 1), (32, .iload_n 2, 1), (33, .iastore, 1), (34, .iload_n 3, 1), (35, .ireturn, 1)]
theorem o_X9_setStart : tb_X9_setStart.all (fun q => decide (decode cX9_setStart q.1 = .ok q.2)) = true := by decide +kernel
def m_X9_takesPart : sk_MI := (yX9_takesPart, cX9_takesPart, 2, some .boolean, 0, 0)
def tb_X9_takesPart : List (Nat × Instr × Nat) := [(0, .aload_n 0, 1), (1, .iload_n 1, 1), (2, .invokevirtual 277, 3), (5, .ifCond .eq 16, 3), (8, .aload_n 0, 1), (9, .getfield 62, 3), (12, .iload_n 1, 1), (13, .iaload, 1), (14, .ifCond .le 7, 3), (17, .iconst 1, 1), (18, .goto 4, 3), (21, .iconst 0, 1), (22, .ireturn, 1)]
theorem o_X9_takesPart : tb_X9_takesPart.all (fun q => decide (decode cX9_takesPart q.1 = .ok q.2)) = true := by decide +kernel
def m_X9_begin : sk_MI := (yX9_begin, cX9_begin, 3, none, 0, 0)
def tb_X9_begin : List (Nat × Instr × Nat) := [(0, .iconst 0, 1), (1, .istore_n 1, 1), (2, .iload_n 1, 1), (3, .iconst 4, 1), (4, .if_icmp .ge 102, 3), (7, .aload_n 0, 1), (8, .iload_n 1, 1), (9, .invokevirtual 290, 3), (12, .istore_n 2, 1), (13, .aload_n 0, 1), (14, .getfield 138, 3), (17, .iload_n 1, 1), (18, .iload_n 2, 1), (19, .ifCond .eq 28, 3), (22, .aload_n 0, 1), (23, .iload_n 1, 1), (24, .invokevirtual 224, 3), (27, .aload_n 0, 1), (28, .getfield 56, 3), (31, .iload_n 1, 1), (32, .iaload, 1), (33, .bipush (-9), 2), (35, .if_icmp .ne 7, 3), (38, .iconst 0, 1), (39, .goto 4, 3), (42, .iconst 1, 1), (43, .iadd, 1), (44, .goto 4, 3), (47, .iconst 0, 1), (48, .iastore, 1), (49, .aload_n 0, 1), (50, .getfield 141, 3), (53, .iload_n 1, 1), (54, .iconst 0, 1), (55, .iastore, 1), (56, .aload_n 0, 1), (57, .getfield 144, 3), (60, .iload_n 1, 1), (61, .iload_n 2, 1), (62, .ifCond .eq 12, 3), (65, .aload_n 0, 1), (66, .getfield 59, 3), (69, .iload_n 1, 1), (70, .iaload, 1), (71, .goto 5, 3), (74, .bipush (-9), 2), (76, .iastore, 1), (77, .aload_n 0, 1), (78, .getfield 147, 3), (81, .iload_n 1, 1), (82, .iconst 4, 1), (83, .iload_n 1, 1), (84, .imul, 1), (85, .iastore, 1), (86, .aload_n 0, 1), (87, .getfield 156, 3), (90, .iload_n 1, 1), (91, .iconst 0, 1), (92, .iastore, 1), (93, .aload_n 0, 1), (94, .getfield 159, 3), (97, .iload_n 1, 1), (98, .iconst 0, 1), (99, .iastore, 1), (100, .iinc 1 1, 3), (103, .goto (-101), 3), (106, .iconst 0, 1), (107, .istore_n 1, 1), (108, .iload_n 1, 1), (109, .iconst 3, 1), (110, .if_icmp .ge 30, 3), (113, .aload_n 0, 1), (114, .getfield 153, 3), (117, .iload_n 1, 1), (118, .iconst 0, 1), (119, .iastore, 1), (120, .aload_n 0, 1), (121, .getfield 162, 3), (124, .iload_n 1, 1), (125, .iconst 0, 1), (126, .iastore, 1), (127, .aload_n 0, 1), (128, .getfield 165, 3), (131, .iload_n 1, 1), (132, .iconst 0, 1), (133, .iastore, 1), (134, .iinc 1 1, 3), (137, .goto (-29), 3), (140, .return_, 1)]
theorem o_X9_begin : tb_X9_begin.all (fun q => decide (decode cX9_begin q.1 = .ok q.2)) = true := by decide +kernel
def m_X9_leave : sk_MI := (yX9_leave, cX9_leave, 5, none, 0, 0)
def tb_X9_leave : List (Nat × Instr × Nat) := [(0, .aload_n 0, 1), (1, .getfield 150, 3), (4, .iconst 4, 1), (5, .iload_n 1, 1), (6, .imul, 1), (7, .iaload, 1), (8, .istore_n 3, 1), (9, .iconst 1, 1), (10, .istore 4, 2), (12, .iload 4, 2), (14, .aload_n 0, 1), (15, .getfield 153, 3), (18, .iload_n 1, 1), (19, .iaload, 1), (20, .if_icmp .ge 33, 3), (23, .aload_n 0, 1), (24, .getfield 150, 3), (27, .iconst 4, 1), (28, .iload_n 1, 1), (29, .imul, 1), (30, .iload 4, 2), (32, .iadd, 1), (33, .iconst 1, 1), (34, .isub, 1), (35, .aload_n 0, 1), (36, .getfield 150, 3), (39, .iconst 4, 1), (40, .iload_n 1, 1), (41, .imul, 1), (42, .iload 4, 2), (44, .iadd, 1), (45, .iaload, 1), (46, .iastore, 1), (47, .iinc 4 1, 3), (50, .goto (-38), 3), (53, .aload_n 0, 1), (54, .getfield 153, 3), (57, .iload_n 1, 1), (58, .dup2, 1), (59, .iaload, 1), (60, .iconst 1, 1), (61, .isub, 1), (62, .iastore, 1), (63, .aload_n 0, 1), (64, .getfield 159, 3), (67, .iload_n 3, 1), (68, .dup2, 1), (69, .iaload, 1), (70, .iconst 1, 1), (71, .iadd, 1), (72, .iastore, 1), (73, .aload_n 0, 1), (74, .getfield 144, 3), (77, .iload_n 3, 1), (78, .iload_n 2, 1), (79, .aload_n 0, 1), (80, .getfield 95, 3), (83, .iload_n 1, 1), (84, .iaload, 1), (85, .iadd, 1), (86, .aload_n 0, 1), (87, .getfield 68, 3), (90, .aload_n 0, 1), (91, .getfield 147, 3), (94, .iload_n 3, 1), (95, .iaload, 1), (96, .iaload, 1), (97, .iadd, 1), (98, .iastore, 1), (99, .aload_n 0, 1), (100, .getfield 147, 3), (103, .iload_n 3, 1), (104, .aload_n 0, 1), (105, .getfield 147, 3), (108, .iload_n 3, 1), (109, .iaload, 1), (110, .iconst 1, 1), (111, .iadd, 1), (112, .iconst 4, 1), (113, .iload_n 3, 1), (114, .imul, 1), (115, .aload_n 0, 1), (116, .getfield 62, 3), (119, .iload_n 3, 1), (120, .iaload, 1), (121, .iadd, 1), (122, .if_icmp .ne 9, 3), (125, .iconst 4, 1), (126, .iload_n 3, 1), (127, .imul, 1), (128, .goto 11, 3), (131, .aload_n 0, 1), (132, .getfield 147, 3), (135, .iload_n 3, 1), (136, .iaload, 1), (137, .iconst 1, 1), (138, .iadd, 1), (139, .iastore, 1), (140, .return_, 1)]
theorem o_X9_leave : tb_X9_leave.all (fun q => decide (decode cX9_leave q.1 = .ok q.2)) = true := by decide +kernel
def m_X9_depart : sk_MI := (yX9_depart, cX9_depart, 6, none, 0, 0)
def tb_X9_depart : List (Nat × Instr × Nat) := [(0, .aload_n 0, 1), (1, .getfield 89, 3), (4, .iload_n 1, 1), (5, .iaload, 1), (6, .istore_n 3, 1), (7, .iload_n 3, 1), (8, .ifCond .le 93, 3), (11, .aload_n 0, 1), (12, .getfield 153, 3), (15, .iload_n 1, 1), (16, .iaload, 1), (17, .ifCond .le 84, 3), (20, .aload_n 0, 1), (21, .getfield 150, 3), (24, .iconst 4, 1), (25, .iload_n 1, 1), (26, .imul, 1), (27, .iaload, 1), (28, .istore 4, 2), (30, .aload_n 0, 1), (31, .getfield 141, 3), (34, .iload 4, 2), (36, .iaload, 1), (37, .iload_n 3, 1), (38, .if_icmp .ge 13, 3), (41, .aload_n 0, 1), (42, .getfield 141, 3), (45, .iload 4, 2), (47, .iaload, 1), (48, .goto 4, 3), (51, .iload_n 3, 1), (52, .istore 5, 2), (54, .aload_n 0, 1), (55, .getfield 141, 3), (58, .iload 4, 2), (60, .dup2, 1), (61, .iaload, 1), (62, .iload 5, 2), (64, .isub, 1), (65, .iastore, 1), (66, .iload_n 3, 1), (67, .iload 5, 2), (69, .isub, 1), (70, .istore_n 3, 1), (71, .aload_n 0, 1), (72, .getfield 165, 3), (75, .iload_n 1, 1), (76, .dup2, 1), (77, .iaload, 1), (78, .iload 5, 2), (80, .iadd, 1), (81, .iastore, 1), (82, .aload_n 0, 1), (83, .getfield 141, 3), (86, .iload 4, 2), (88, .iaload, 1), (89, .ifCond .ne 9, 3), (92, .aload_n 0, 1), (93, .iload_n 1, 1), (94, .iload_n 2, 1), (95, .invokevirtual 293, 3), (98, .goto (-91), 3), (101, .return_, 1)]
theorem o_X9_depart : tb_X9_depart.all (fun q => decide (decode cX9_depart q.1 = .ok q.2)) = true := by decide +kernel
def m_X9_goThrough : sk_MI := (yX9_goThrough, cX9_goThrough, 6, none, 0, 0)
def tb_X9_goThrough : List (Nat × Instr × Nat) := [(0, .aload_n 0, 1), (1, .invokevirtual 297, 3), (4, .iconst 0, 1), (5, .istore_n 2, 1), (6, .iload_n 2, 1), (7, .iload_n 1, 1), (8, .if_icmp .ge 227, 3), (11, .iconst 0, 1), (12, .istore_n 3, 1), (13, .iload_n 3, 1), (14, .iconst 4, 1), (15, .if_icmp .ge 81, 3), (18, .aload_n 0, 1), (19, .getfield 144, 3), (22, .iload_n 3, 1), (23, .iaload, 1), (24, .iload_n 2, 1), (25, .if_icmp .ne 65, 3), (28, .aload_n 0, 1), (29, .getfield 65, 3), (32, .aload_n 0, 1), (33, .getfield 147, 3), (36, .iload_n 3, 1), (37, .iaload, 1), (38, .iaload, 1), (39, .istore 4, 2), (41, .aload_n 0, 1), (42, .getfield 150, 3), (45, .iconst 4, 1), (46, .iload 4, 2), (48, .imul, 1), (49, .aload_n 0, 1), (50, .getfield 153, 3), (53, .iload 4, 2), (55, .iaload, 1), (56, .iadd, 1), (57, .iload_n 3, 1), (58, .iastore, 1), (59, .aload_n 0, 1), (60, .getfield 153, 3), (63, .iload 4, 2), (65, .dup2, 1), (66, .iaload, 1), (67, .iconst 1, 1), (68, .iadd, 1), (69, .iastore, 1), (70, .aload_n 0, 1), (71, .getfield 141, 3), (74, .iload_n 3, 1), (75, .aload_n 0, 1), (76, .getfield 138, 3), (79, .iload_n 3, 1), (80, .iaload, 1), (81, .iastore, 1), (82, .aload_n 0, 1), (83, .getfield 144, 3), (86, .iload_n 3, 1), (87, .bipush (-9), 2), (89, .iastore, 1), (90, .iinc 3 1, 3), (93, .goto (-80), 3), (96, .iconst 0, 1), (97, .istore_n 3, 1), (98, .iload_n 3, 1), (99, .aload_n 0, 1), (100, .getfield 284, 3), (103, .if_icmp .ge 98, 3), (106, .iload_n 2, 1), (107, .aload_n 0, 1), (108, .getfield 92, 3), (111, .iload_n 3, 1), (112, .iaload, 1), (113, .irem, 1), (114, .ifCond .ne 9, 3), (117, .aload_n 0, 1), (118, .iload_n 3, 1), (119, .iload_n 2, 1), (120, .invokevirtual 300, 3), (123, .iconst 0, 1), (124, .istore 4, 2), (126, .iconst 0, 1), (127, .istore 5, 2), (129, .iload 5, 2), (131, .aload_n 0, 1), (132, .getfield 153, 3), (135, .iload_n 3, 1), (136, .iaload, 1), (137, .if_icmp .ge 30, 3), (140, .iload 4, 2), (142, .aload_n 0, 1), (143, .getfield 141, 3), (146, .aload_n 0, 1), (147, .getfield 150, 3), (150, .iconst 4, 1), (151, .iload_n 3, 1), (152, .imul, 1), (153, .iload 5, 2), (155, .iadd, 1), (156, .iaload, 1), (157, .iaload, 1), (158, .iadd, 1), (159, .istore 4, 2), (161, .iinc 5 1, 3), (164, .goto (-35), 3), (167, .aload_n 0, 1), (168, .getfield 162, 3), (171, .iload_n 3, 1), (172, .iload 4, 2), (174, .aload_n 0, 1), (175, .getfield 162, 3), (178, .iload_n 3, 1), (179, .iaload, 1), (180, .if_icmp .le 8, 3), (183, .iload 4, 2), (185, .goto 9, 3), (188, .aload_n 0, 1), (189, .getfield 162, 3), (192, .iload_n 3, 1), (193, .iaload, 1), (194, .iastore, 1), (195, .iinc 3 1, 3), (198, .goto (-100), 3), (201, .iconst 0, 1), (202, .istore_n 3, 1), (203, .iload_n 3, 1), (204, .iconst 4, 1), (205, .if_icmp .ge 24, 3), (208, .aload_n 0, 1), (209, .getfield 156, 3), (212, .iload_n 3, 1), (213, .dup2, 1), (214, .iaload, 1), (215, .aload_n 0, 1), (216, .getfield 141, 3), (219, .iload_n 3, 1), (220, .iaload, 1), (221, .iadd, 1), (222, .iastore, 1), (223, .iinc 3 1, 3), (226, .goto (-23), 3), (229, .iinc 2 1, 3), (232, .goto (-226), 3), (235, .return_, 1)]
theorem o_X9_goThrough : tb_X9_goThrough.all (fun q => decide (decode cX9_goThrough q.1 = .ok q.2)) = true := by decide +kernel
def m_X9_isTime : sk_MI := (yX9_isTime, cX9_isTime, 1, some .boolean, 0, 0)
def tb_X9_isTime : List (Nat × Instr × Nat) := [(0, .iload_n 0, 1), (1, .iconst 1, 1), (2, .sipush 180, 3), (5, .invokestatic 168, 3), (8, .ireturn, 1)]
theorem o_X9_isTime : tb_X9_isTime.all (fun q => decide (decode cX9_isTime q.1 = .ok q.2)) = true := by decide +kernel
def m_X9_simulate : sk_MI := (yX9_simulate, cX9_simulate, 4, some .int, 0, 0)
def tb_X9_simulate : List (Nat × Instr × Nat) := [(0, .iload_n 1, 1), (1, .invokestatic 303, 3), (4, .ifCond .ne 5, 3), (7, .iconst (-1), 1), (8, .ireturn, 1), (9, .aload_n 0, 1), (10, .iload_n 1, 1), (11, .invokevirtual 306, 3), (14, .iconst 0, 1), (15, .istore_n 2, 1), (16, .iconst 0, 1), (17, .istore_n 3, 1), (18, .iload_n 3, 1), (19, .iconst 4, 1), (20, .if_icmp .ge 42, 3), (23, .aload_n 0, 1), (24, .getfield 98, 3), (27, .iload_n 3, 1), (28, .aload_n 0, 1), (29, .getfield 156, 3), (32, .iload_n 3, 1), (33, .iaload, 1), (34, .iastore, 1), (35, .aload_n 0, 1), (36, .getfield 101, 3), (39, .iload_n 3, 1), (40, .aload_n 0, 1), (41, .getfield 159, 3), (44, .iload_n 3, 1), (45, .iaload, 1), (46, .iastore, 1), (47, .iload_n 2, 1), (48, .aload_n 0, 1), (49, .getfield 156, 3), (52, .iload_n 3, 1), (53, .iaload, 1), (54, .iadd, 1), (55, .istore_n 2, 1), (56, .iinc 3 1, 3), (59, .goto (-41), 3), (62, .iconst 0, 1), (63, .istore_n 3, 1), (64, .iload_n 3, 1), (65, .iconst 3, 1), (66, .if_icmp .ge 33, 3), (69, .aload_n 0, 1), (70, .getfield 104, 3), (73, .iload_n 3, 1), (74, .aload_n 0, 1), (75, .getfield 162, 3), (78, .iload_n 3, 1), (79, .iaload, 1), (80, .iastore, 1), (81, .aload_n 0, 1), (82, .getfield 107, 3), (85, .iload_n 3, 1), (86, .aload_n 0, 1), (87, .getfield 165, 3), (90, .iload_n 3, 1), (91, .iaload, 1), (92, .iastore, 1), (93, .iinc 3 1, 3), (96, .goto (-32), 3), (99, .iload_n 2, 1), (100, .ireturn, 1)]
theorem o_X9_simulate : tb_X9_simulate.all (fun q => decide (decode cX9_simulate q.1 = .ok q.2)) = true := by decide +kernel
def m_X9_waited : sk_MI := (yX9_waited, cX9_waited, 2, some .int, 0, 0)
def tb_X9_waited : List (Nat × Instr × Nat) := [(0, .aload_n 0, 1), (1, .iload_n 1, 1), (2, .invokevirtual 227, 3), (5, .ifCond .eq 12, 3), (8, .aload_n 0, 1), (9, .getfield 98, 3), (12, .iload_n 1, 1), (13, .iaload, 1), (14, .goto 4, 3), (17, .iconst (-1), 1), (18, .ireturn, 1)]
theorem o_X9_waited : tb_X9_waited.all (fun q => decide (decode cX9_waited q.1 = .ok q.2)) = true := by decide +kernel
def m_X9_rides : sk_MI := (yX9_rides, cX9_rides, 2, some .int, 0, 0)
def tb_X9_rides : List (Nat × Instr × Nat) := [(0, .aload_n 0, 1), (1, .iload_n 1, 1), (2, .invokevirtual 227, 3), (5, .ifCond .eq 12, 3), (8, .aload_n 0, 1), (9, .getfield 101, 3), (12, .iload_n 1, 1), (13, .iaload, 1), (14, .goto 4, 3), (17, .iconst (-1), 1), (18, .ireturn, 1)]
theorem o_X9_rides : tb_X9_rides.all (fun q => decide (decode cX9_rides q.1 = .ok q.2)) = true := by decide +kernel
def m_X9_longestQueue : sk_MI := (yX9_longestQueue, cX9_longestQueue, 2, some .int, 0, 0)
def tb_X9_longestQueue : List (Nat × Instr × Nat) := [(0, .aload_n 0, 1), (1, .iload_n 1, 1), (2, .invokevirtual 287, 3), (5, .ifCond .eq 12, 3), (8, .aload_n 0, 1), (9, .getfield 104, 3), (12, .iload_n 1, 1), (13, .iaload, 1), (14, .goto 4, 3), (17, .iconst (-1), 1), (18, .ireturn, 1)]
theorem o_X9_longestQueue : tb_X9_longestQueue.all (fun q => decide (decode cX9_longestQueue q.1 = .ok q.2)) = true := by decide +kernel
def m_X9_carried : sk_MI := (yX9_carried, cX9_carried, 2, some .int, 0, 0)
def tb_X9_carried : List (Nat × Instr × Nat) := [(0, .aload_n 0, 1), (1, .iload_n 1, 1), (2, .invokevirtual 287, 3), (5, .ifCond .eq 12, 3), (8, .aload_n 0, 1), (9, .getfield 107, 3), (12, .iload_n 1, 1), (13, .iaload, 1), (14, .goto 4, 3), (17, .iconst (-1), 1), (18, .ireturn, 1)]
theorem o_X9_carried : tb_X9_carried.all (fun q => decide (decode cX9_carried q.1 = .ok q.2)) = true := by decide +kernel
def m_X9_bestStart : sk_MI := (yX9_bestStart, cX9_bestStart, 8, some .int, 0, 0)
def tb_X9_bestStart : List (Nat × Instr × Nat) := [(0, .aload_n 0, 1), (1, .iload_n 1, 1), (2, .invokevirtual 227, 3), (5, .ifCond .eq 10, 3), (8, .iload_n 2, 1), (9, .invokestatic 303, 3), (12, .ifCond .ne 5, 3), (15, .iconst (-1), 1), (16, .ireturn, 1), (17, .aload_n 0, 1), (18, .iload_n 1, 1), (19, .invokevirtual 290, 3), (22, .ifCond .ne 6, 3), (25, .bipush (-2), 2), (27, .ireturn, 1), (28, .aload_n 0, 1), (29, .getfield 59, 3), (32, .iload_n 1, 1), (33, .iaload, 1), (34, .istore_n 3, 1), (35, .iconst 0, 1), (36, .istore 4, 2), (38, .iconst (-1), 1), (39, .istore 5, 2), (41, .iconst 0, 1), (42, .istore 6, 2), (44, .iload 6, 2), (46, .bipush 30, 2), (48, .if_icmp .gt 77, 3), (51, .aload_n 0, 1), (52, .getfield 59, 3), (55, .iload_n 1, 1), (56, .iload 6, 2), (58, .iastore, 1), (59, .aload_n 0, 1), (60, .iload_n 2, 1), (61, .invokevirtual 306, 3), (64, .iload 5, 2), (66, .ifCond .lt 14, 3), (69, .aload_n 0, 1), (70, .getfield 156, 3), (73, .iload_n 1, 1), (74, .iaload, 1), (75, .iload 5, 2), (77, .if_icmp .ge 7, 3), (80, .iconst 1, 1), (81, .goto 4, 3), (84, .iconst 0, 1), (85, .istore 7, 2), (87, .iload 7, 2), (89, .ifCond .eq 8, 3), (92, .iload 6, 2), (94, .goto 5, 3), (97, .iload 4, 2), (99, .istore 4, 2), (101, .iload 7, 2), (103, .ifCond .eq 12, 3), (106, .aload_n 0, 1), (107, .getfield 156, 3), (110, .iload_n 1, 1), (111, .iaload, 1), (112, .goto 5, 3), (115, .iload 5, 2), (117, .istore 5, 2), (119, .iinc 6 1, 3), (122, .goto (-78), 3), (125, .aload_n 0, 1), (126, .getfield 59, 3), (129, .iload_n 1, 1), (130, .iload_n 3, 1), (131, .iastore, 1), (132, .iload 4, 2), (134, .ireturn, 1)]
theorem o_X9_bestStart : tb_X9_bestStart.all (fun q => decide (decode cX9_bestStart q.1 = .ok q.2)) = true := by decide +kernel
def m_X9_type : sk_MI := (yX9_type, cX9_type, 2, some .int, 0, 0)
def tb_X9_type : List (Nat × Instr × Nat) := [(0, .iload_n 1, 1), (1, .bipush 32, 2), (3, .bipush 126, 2), (5, .invokestatic 168, 3), (8, .ifCond .ne 5, 3), (11, .iconst (-1), 1), (12, .ireturn, 1), (13, .aload_n 0, 1), (14, .getfield 309, 3), (17, .bipush 100, 2), (19, .if_icmp .ne 6, 3), (22, .bipush (-3), 2), (24, .ireturn, 1), (25, .aload_n 0, 1), (26, .getfield 110, 3), (29, .aload_n 0, 1), (30, .getfield 309, 3), (33, .iload_n 1, 1), (34, .iastore, 1), (35, .aload_n 0, 1), (36, .dup, 1), (37, .getfield 309, 3), (40, .iconst 1, 1), (41, .iadd, 1), (42, .putfield 309, 3), (45, .aload_n 0, 1), (46, .getfield 309, 3), (49, .ireturn, 1)]
theorem o_X9_type : tb_X9_type.all (fun q => decide (decode cX9_type q.1 = .ok q.2)) = true := by decide +kernel
def m_X9_clearText : sk_MI := (yX9_clearText, cX9_clearText, 2, some .int, 0, 0)
def tb_X9_clearText : List (Nat × Instr × Nat) := [(0, .aload_n 0, 1), (1, .getfield 309, 3), (4, .istore_n 1, 1), (5, .aload_n 0, 1), (6, .iconst 0, 1), (7, .putfield 309, 3), (10, .iload_n 1, 1), (11, .ireturn, 1)]
theorem o_X9_clearText : tb_X9_clearText.all (fun q => decide (decode cX9_clearText q.1 = .ok q.2)) = true := by decide +kernel
def m_X9_next : sk_MI := (yX9_next, cX9_next, 1, some .int, 0, 0)
def tb_X9_next : List (Nat × Instr × Nat) := [(0, .aload_n 0, 1), (1, .getfield 312, 3), (4, .aload_n 0, 1), (5, .getfield 309, 3), (8, .if_icmp .ge 15, 3), (11, .aload_n 0, 1), (12, .getfield 110, 3), (15, .aload_n 0, 1), (16, .getfield 312, 3), (19, .iaload, 1), (20, .goto 4, 3), (23, .iconst (-1), 1), (24, .ireturn, 1)]
theorem o_X9_next : tb_X9_next.all (fun q => decide (decode cX9_next q.1 = .ok q.2)) = true := by decide +kernel
def m_X9_takes : sk_MI := (yX9_takes, cX9_takes, 3, some .boolean, 0, 0)
def tb_X9_takes : List (Nat × Instr × Nat) := [(0, .aload_n 0, 1), (1, .invokevirtual 315, 3), (4, .iload_n 1, 1), (5, .if_icmp .ne 7, 3), (8, .iconst 1, 1), (9, .goto 4, 3), (12, .iconst 0, 1), (13, .istore_n 2, 1), (14, .aload_n 0, 1), (15, .dup, 1), (16, .getfield 312, 3), (19, .iload_n 2, 1), (20, .ifCond .eq 7, 3), (23, .iconst 1, 1), (24, .goto 4, 3), (27, .iconst 0, 1), (28, .iadd, 1), (29, .putfield 312, 3), (32, .iload_n 2, 1), (33, .ireturn, 1)]
theorem o_X9_takes : tb_X9_takes.all (fun q => decide (decode cX9_takes q.1 = .ok q.2)) = true := by decide +kernel
def m_X9_readsDigit : sk_MI := (yX9_readsDigit, cX9_readsDigit, 4, some .boolean, 0, 0)
def tb_X9_readsDigit : List (Nat × Instr × Nat) := [(0, .aload_n 0, 1), (1, .aload_n 0, 1), (2, .invokevirtual 315, 3), (5, .bipush 48, 2), (7, .isub, 1), (8, .putfield 318, 3), (11, .aload_n 0, 1), (12, .invokevirtual 315, 3), (15, .ifCond .lt 19, 3), (18, .aload_n 0, 1), (19, .getfield 318, 3), (22, .iload_n 1, 1), (23, .iload_n 2, 1), (24, .invokestatic 168, 3), (27, .ifCond .eq 7, 3), (30, .iconst 1, 1), (31, .goto 4, 3), (34, .iconst 0, 1), (35, .istore_n 3, 1), (36, .aload_n 0, 1), (37, .dup, 1), (38, .getfield 312, 3), (41, .iload_n 3, 1), (42, .ifCond .eq 7, 3), (45, .iconst 1, 1), (46, .goto 4, 3), (49, .iconst 0, 1), (50, .iadd, 1), (51, .putfield 312, 3), (54, .iload_n 3, 1), (55, .ireturn, 1)]
theorem o_X9_readsDigit : tb_X9_readsDigit.all (fun q => decide (decode cX9_readsDigit q.1 = .ok q.2)) = true := by decide +kernel
def m_X9_readsSet : sk_MI := (yX9_readsSet, cX9_readsSet, 3, some .boolean, 0, 0)
def tb_X9_readsSet : List (Nat × Instr × Nat) := [(0, .aload_n 0, 1), (1, .iconst 0, 1), (2, .putfield 321, 3), (5, .bipush 97, 2), (7, .istore_n 1, 1), (8, .iconst 0, 1), (9, .istore_n 2, 1), (10, .iload_n 2, 1), (11, .bipush 6, 2), (13, .if_icmp .ge 57, 3), (16, .aload_n 0, 1), (17, .invokevirtual 315, 3), (20, .iload_n 1, 1), (21, .bipush 102, 2), (23, .invokestatic 168, 3), (26, .ifCond .eq 44, 3), (29, .aload_n 0, 1), (30, .dup, 1), (31, .getfield 321, 3), (34, .iconst 1, 1), (35, .aload_n 0, 1), (36, .invokevirtual 315, 3), (39, .bipush 97, 2), (41, .isub, 1), (42, .ishl, 1), (43, .ior, 1), (44, .putfield 321, 3), (47, .aload_n 0, 1), (48, .invokevirtual 315, 3), (51, .iconst 1, 1), (52, .iadd, 1), (53, .istore_n 1, 1), (54, .aload_n 0, 1), (55, .dup, 1), (56, .getfield 312, 3), (59, .iconst 1, 1), (60, .iadd, 1), (61, .putfield 312, 3), (64, .iinc 2 1, 3), (67, .goto (-57), 3), (70, .aload_n 0, 1), (71, .getfield 321, 3), (74, .ifCond .le 7, 3), (77, .iconst 1, 1), (78, .goto 4, 3), (81, .iconst 0, 1), (82, .ireturn, 1)]
theorem o_X9_readsSet : tb_X9_readsSet.all (fun q => decide (decode cX9_readsSet q.1 = .ok q.2)) = true := by decide +kernel
def m_X9_readsWage : sk_MI := (yX9_readsWage, cX9_readsWage, 3, some .boolean, 0, 0)
def tb_X9_readsWage : List (Nat × Instr × Nat) := [(0, .aload_n 0, 1), (1, .iconst 1, 1), (2, .bipush 9, 2), (4, .invokevirtual 324, 3), (7, .ifCond .ne 5, 3), (10, .iconst 0, 1), (11, .ireturn, 1), (12, .aload_n 0, 1), (13, .getfield 318, 3), (16, .istore_n 1, 1), (17, .iconst 0, 1), (18, .istore_n 2, 1), (19, .iload_n 2, 1), (20, .iconst 5, 1), (21, .if_icmp .ge 46, 3), (24, .aload_n 0, 1), (25, .invokevirtual 315, 3), (28, .bipush 48, 2), (30, .bipush 57, 2), (32, .invokestatic 168, 3), (35, .ifCond .eq 32, 3), (38, .bipush 10, 2), (40, .iload_n 1, 1), (41, .imul, 1), (42, .aload_n 0, 1), (43, .invokevirtual 315, 3), (46, .iadd, 1), (47, .bipush 48, 2), (49, .isub, 1), (50, .istore_n 1, 1), (51, .aload_n 0, 1), (52, .dup, 1), (53, .getfield 312, 3), (56, .iconst 1, 1), (57, .iadd, 1), (58, .putfield 312, 3), (61, .iinc 2 1, 3), (64, .goto (-45), 3), (67, .aload_n 0, 1), (68, .iload_n 1, 1), (69, .putfield 318, 3), (72, .iconst 1, 1), (73, .ireturn, 1)]
theorem o_X9_readsWage : tb_X9_readsWage.all (fun q => decide (decode cX9_readsWage q.1 = .ok q.2)) = true := by decide +kernel
def m_X9_readsPupil : sk_MI := (yX9_readsPupil, cX9_readsPupil, 1, some .boolean, 0, 0)
def tb_X9_readsPupil : List (Nat × Instr × Nat) := [(0, .aload_n 0, 1), (1, .iconst 0, 1), (2, .bipush 7, 2), (4, .invokevirtual 324, 3), (7, .ifCond .ne 5, 3), (10, .iconst 0, 1), (11, .ireturn, 1), (12, .aload_n 0, 1), (13, .aload_n 0, 1), (14, .getfield 318, 3), (17, .putfield 327, 3), (20, .aload_n 0, 1), (21, .invokevirtual 330, 3), (24, .ifCond .ne 5, 3), (27, .iconst 0, 1), (28, .ireturn, 1), (29, .aload_n 0, 1), (30, .bipush (-9), 2), (32, .putfield 334, 3), (35, .aload_n 0, 1), (36, .bipush 47, 2), (38, .invokevirtual 337, 3), (41, .ifCond .eq 23, 3), (44, .aload_n 0, 1), (45, .iconst 0, 1), (46, .bipush 7, 2), (48, .invokevirtual 324, 3), (51, .ifCond .ne 5, 3), (54, .iconst 0, 1), (55, .ireturn, 1), (56, .aload_n 0, 1), (57, .aload_n 0, 1), (58, .getfield 318, 3), (61, .putfield 334, 3), (64, .aload_n 0, 1), (65, .bipush 59, 2), (67, .invokevirtual 337, 3), (70, .ireturn, 1)]
theorem o_X9_readsPupil : tb_X9_readsPupil.all (fun q => decide (decode cX9_readsPupil q.1 = .ok q.2)) = true := by decide +kernel
def m_X9_readsGroup : sk_MI := (yX9_readsGroup, cX9_readsGroup, 1, some .boolean, 0, 0)
def tb_X9_readsGroup : List (Nat × Instr × Nat) := [(0, .aload_n 0, 1), (1, .iconst 0, 1), (2, .bipush 7, 2), (4, .invokevirtual 324, 3), (7, .ifCond .ne 5, 3), (10, .iconst 0, 1), (11, .ireturn, 1), (12, .aload_n 0, 1), (13, .aload_n 0, 1), (14, .getfield 318, 3), (17, .putfield 327, 3), (20, .aload_n 0, 1), (21, .invokevirtual 315, 3), (24, .bipush 97, 2), (26, .bipush 102, 2), (28, .invokestatic 168, 3), (31, .ifCond .ne 5, 3), (34, .iconst 0, 1), (35, .ireturn, 1), (36, .aload_n 0, 1), (37, .aload_n 0, 1), (38, .invokevirtual 315, 3), (41, .bipush 97, 2), (43, .isub, 1), (44, .putfield 334, 3), (47, .aload_n 0, 1), (48, .dup, 1), (49, .getfield 312, 3), (52, .iconst 1, 1), (53, .iadd, 1), (54, .putfield 312, 3), (57, .aload_n 0, 1), (58, .iconst 1, 1), (59, .bipush 6, 2), (61, .invokevirtual 324, 3), (64, .ifCond .eq 16, 3), (67, .aload_n 0, 1), (68, .bipush 59, 2), (70, .invokevirtual 337, 3), (73, .ifCond .eq 7, 3), (76, .iconst 1, 1), (77, .goto 4, 3), (80, .iconst 0, 1), (81, .ireturn, 1)]
theorem o_X9_readsGroup : tb_X9_readsGroup.all (fun q => decide (decode cX9_readsGroup q.1 = .ok q.2)) = true := by decide +kernel
def m_X9_readsInstructor : sk_MI := (yX9_readsInstructor, cX9_readsInstructor, 1, some .boolean, 0, 0)
def tb_X9_readsInstructor : List (Nat × Instr × Nat) := [(0, .aload_n 0, 1), (1, .invokevirtual 330, 3), (4, .ifCond .eq 13, 3), (7, .aload_n 0, 1), (8, .iconst 0, 1), (9, .bipush 7, 2), (11, .invokevirtual 324, 3), (14, .ifCond .ne 5, 3), (17, .iconst 0, 1), (18, .ireturn, 1), (19, .aload_n 0, 1), (20, .aload_n 0, 1), (21, .getfield 318, 3), (24, .putfield 327, 3), (27, .aload_n 0, 1), (28, .aload_n 0, 1), (29, .getfield 327, 3), (32, .bipush 7, 2), (34, .invokevirtual 324, 3), (37, .ifCond .ne 5, 3), (40, .iconst 0, 1), (41, .ireturn, 1), (42, .aload_n 0, 1), (43, .aload_n 0, 1), (44, .getfield 318, 3), (47, .putfield 334, 3), (50, .aload_n 0, 1), (51, .bipush 58, 2), (53, .invokevirtual 337, 3), (56, .ifCond .eq 23, 3), (59, .aload_n 0, 1), (60, .invokevirtual 340, 3), (63, .ifCond .eq 16, 3), (66, .aload_n 0, 1), (67, .bipush 59, 2), (69, .invokevirtual 337, 3), (72, .ifCond .eq 7, 3), (75, .iconst 1, 1), (76, .goto 4, 3), (79, .iconst 0, 1), (80, .ireturn, 1)]
theorem o_X9_readsInstructor : tb_X9_readsInstructor.all (fun q => decide (decode cX9_readsInstructor q.1 = .ok q.2)) = true := by decide +kernel
def m_X9_entry : sk_MI := (yX9_entry, cX9_entry, 2, some .int, 0, 0)
def tb_X9_entry : List (Nat × Instr × Nat) := [(0, .aload_n 0, 1), (1, .bipush 112, 2), (3, .invokevirtual 337, 3), (6, .ifCond .eq 39, 3), (9, .aload_n 0, 1), (10, .invokevirtual 343, 3), (13, .ifCond .ne 7, 3), (16, .iconst (-1), 1), (17, .goto 27, 3), (20, .iload_n 1, 1), (21, .ifCond .ne 7, 3), (24, .iconst 0, 1), (25, .goto 19, 3), (28, .aload_n 0, 1), (29, .aload_n 0, 1), (30, .getfield 327, 3), (33, .aload_n 0, 1), (34, .getfield 321, 3), (37, .aload_n 0, 1), (38, .getfield 334, 3), (41, .invokevirtual 346, 3), (44, .ireturn, 1), (45, .aload_n 0, 1), (46, .bipush 103, 2), (48, .invokevirtual 337, 3), (51, .ifCond .eq 39, 3), (54, .aload_n 0, 1), (55, .invokevirtual 349, 3), (58, .ifCond .ne 7, 3), (61, .iconst (-1), 1), (62, .goto 27, 3), (65, .iload_n 1, 1), (66, .ifCond .ne 7, 3), (69, .iconst 0, 1), (70, .goto 19, 3), (73, .aload_n 0, 1), (74, .aload_n 0, 1), (75, .getfield 327, 3), (78, .aload_n 0, 1), (79, .getfield 334, 3), (82, .aload_n 0, 1), (83, .getfield 318, 3), (86, .invokevirtual 352, 3), (89, .ireturn, 1), (90, .aload_n 0, 1), (91, .bipush 105, 2), (93, .invokevirtual 337, 3), (96, .ifCond .eq 43, 3), (99, .aload_n 0, 1), (100, .invokevirtual 355, 3), (103, .ifCond .ne 7, 3), (106, .iconst (-1), 1), (107, .goto 31, 3), (110, .iload_n 1, 1), (111, .ifCond .ne 7, 3), (114, .iconst 0, 1), (115, .goto 23, 3), (118, .aload_n 0, 1), (119, .aload_n 0, 1), (120, .getfield 321, 3), (123, .aload_n 0, 1), (124, .getfield 327, 3), (127, .aload_n 0, 1), (128, .getfield 334, 3), (131, .aload_n 0, 1), (132, .getfield 318, 3), (135, .invokevirtual 358, 3), (138, .ireturn, 1), (139, .iconst (-1), 1), (140, .ireturn, 1)]
theorem o_X9_entry : tb_X9_entry.all (fun q => decide (decode cX9_entry q.1 = .ok q.2)) = true := by decide +kernel
def m_X9_load : sk_MI := (yX9_load, cX9_load, 4, some .int, 0, 0)
def tb_X9_load : List (Nat × Instr × Nat) := [(0, .aload_n 0, 1), (1, .iconst 0, 1), (2, .putfield 312, 3), (5, .iconst 1, 1), (6, .istore_n 1, 1), (7, .iload_n 1, 1), (8, .ifCond .eq 31, 3), (11, .aload_n 0, 1), (12, .getfield 312, 3), (15, .aload_n 0, 1), (16, .getfield 309, 3), (19, .if_icmp .ge 20, 3), (22, .aload_n 0, 1), (23, .iconst 0, 1), (24, .invokevirtual 362, 3), (27, .ifCond .ne 7, 3), (30, .iconst 1, 1), (31, .goto 4, 3), (34, .iconst 0, 1), (35, .istore_n 1, 1), (36, .goto (-29), 3), (39, .iload_n 1, 1), (40, .ifCond .ne 11, 3), (43, .bipush (-10), 2), (45, .aload_n 0, 1), (46, .getfield 312, 3), (49, .isub, 1), (50, .ireturn, 1), (51, .aload_n 0, 1), (52, .iconst 0, 1), (53, .putfield 312, 3), (56, .iconst 0, 1), (57, .istore_n 2, 1), (58, .iconst 1, 1), (59, .istore_n 3, 1), (60, .iload_n 3, 1), (61, .ifCond .eq 43, 3), (64, .aload_n 0, 1), (65, .getfield 312, 3), (68, .aload_n 0, 1), (69, .getfield 309, 3), (72, .if_icmp .ge 32, 3), (75, .aload_n 0, 1), (76, .iconst 1, 1), (77, .invokevirtual 362, 3), (80, .ifCond .lt 7, 3), (83, .iconst 1, 1), (84, .goto 4, 3), (87, .iconst 0, 1), (88, .istore_n 3, 1), (89, .iload_n 2, 1), (90, .iload_n 3, 1), (91, .ifCond .eq 7, 3), (94, .iconst 1, 1), (95, .goto 4, 3), (98, .iconst 0, 1), (99, .iadd, 1), (100, .istore_n 2, 1), (101, .goto (-41), 3), (104, .iload_n 2, 1), (105, .ireturn, 1)]
theorem o_X9_load : tb_X9_load.all (fun q => decide (decode cX9_load q.1 = .ok q.2)) = true := by decide +kernel
def m_X9_digest : sk_MI := (yX9_digest, cX9_digest, 5, some .long, 0, 0)
def tb_X9_digest : List (Nat × Instr × Nat) := [(0, .ldc2_w 366, 3), (3, .aload_n 0, 1), (4, .getfield 209, 3), (7, .i2l, 1), (8, .ladd, 1), (9, .lstore_n 1, 1), (10, .ldc2_w 368, 3), (13, .lload_n 1, 1), (14, .lmul, 1), (15, .aload_n 0, 1), (16, .invokevirtual 190, 3), (19, .i2l, 1), (20, .ladd, 1), (21, .lstore_n 1, 1), (22, .ldc2_w 368, 3), (25, .lload_n 1, 1), (26, .lmul, 1), (27, .aload_n 0, 1), (28, .invokevirtual 218, 3), (31, .i2l, 1), (32, .ladd, 1), (33, .lstore_n 1, 1), (34, .ldc2_w 368, 3), (37, .lload_n 1, 1), (38, .lmul, 1), (39, .aload_n 0, 1), (40, .invokevirtual 264, 3), (43, .i2l, 1), (44, .ladd, 1), (45, .lstore_n 1, 1), (46, .iconst 0, 1), (47, .istore_n 3, 1), (48, .iload_n 3, 1), (49, .bipush 20, 2), (51, .if_icmp .ge 118, 3), (54, .aload_n 0, 1), (55, .getfield 19, 3), (58, .iload_n 3, 1), (59, .iaload, 1), (60, .iconst 1, 1), (61, .if_icmp .ne 102, 3), (64, .ldc2_w 368, 3), (67, .lload_n 1, 1), (68, .lmul, 1), (69, .iload_n 3, 1), (70, .i2l, 1), (71, .ladd, 1), (72, .lstore_n 1, 1), (73, .ldc2_w 368, 3), (76, .lload_n 1, 1), (77, .lmul, 1), (78, .aload_n 0, 1), (79, .getfield 23, 3), (82, .iload_n 3, 1), (83, .iaload, 1), (84, .i2l, 1), (85, .ladd, 1), (86, .lstore_n 1, 1), (87, .ldc2_w 368, 3), (90, .lload_n 1, 1), (91, .lmul, 1), (92, .aload_n 0, 1), (93, .getfield 26, 3), (96, .iload_n 3, 1), (97, .iaload, 1), (98, .i2l, 1), (99, .ladd, 1), (100, .lstore_n 1, 1), (101, .ldc2_w 368, 3), (104, .lload_n 1, 1), (105, .lmul, 1), (106, .aload_n 0, 1), (107, .getfield 29, 3), (110, .iload_n 3, 1), (111, .iaload, 1), (112, .i2l, 1), (113, .ladd, 1), (114, .lstore_n 1, 1), (115, .ldc2_w 368, 3), (118, .lload_n 1, 1), (119, .lmul, 1), (120, .aload_n 0, 1), (121, .getfield 32, 3), (124, .iload_n 3, 1), (125, .iaload, 1), (126, .i2l, 1), (127, .ladd, 1), (128, .lstore_n 1, 1), (129, .iconst 0, 1), (130, .istore 4, 2), (132, .iload 4, 2), (134, .iconst 4, 1), (135, .if_icmp .ge 28, 3), (138, .ldc2_w 368, 3), (141, .lload_n 1, 1), (142, .lmul, 1), (143, .aload_n 0, 1), (144, .getfield 35, 3), (147, .iconst 4, 1), (148, .iload_n 3, 1), (149, .imul, 1), (150, .iload 4, 2), (152, .iadd, 1), (153, .iaload, 1), (154, .i2l, 1), (155, .ladd, 1), (156, .lstore_n 1, 1), (157, .iinc 4 1, 3), (160, .goto (-28), 3), (163, .iinc 3 1, 3), (166, .goto (-118), 3), (169, .iconst 0, 1), (170, .istore_n 3, 1), (171, .iload_n 3, 1), (172, .bipush 8, 2), (174, .if_icmp .ge 22, 3), (177, .ldc2_w 368, 3), (180, .lload_n 1, 1), (181, .lmul, 1), (182, .aload_n 0, 1), (183, .iload_n 3, 1), (184, .invokevirtual 200, 3), (187, .i2l, 1), (188, .ladd, 1), (189, .lstore_n 1, 1), (190, .iinc 3 1, 3), (193, .goto (-22), 3), (196, .iconst 0, 1), (197, .istore_n 3, 1), (198, .iload_n 3, 1), (199, .iconst 4, 1), (200, .if_icmp .ge 97, 3), (203, .aload_n 0, 1), (204, .getfield 44, 3), (207, .iload_n 3, 1), (208, .iaload, 1), (209, .iconst 1, 1), (210, .if_icmp .ne 81, 3), (213, .ldc2_w 368, 3), (216, .lload_n 1, 1), (217, .lmul, 1), (218, .iload_n 3, 1), (219, .i2l, 1), (220, .ladd, 1), (221, .lstore_n 1, 1), (222, .ldc2_w 368, 3), (225, .lload_n 1, 1), (226, .lmul, 1), (227, .aload_n 0, 1), (228, .getfield 47, 3), (231, .iload_n 3, 1), (232, .iaload, 1), (233, .i2l, 1), (234, .ladd, 1), (235, .lstore_n 1, 1), (236, .ldc2_w 368, 3), (239, .lload_n 1, 1), (240, .lmul, 1), (241, .aload_n 0, 1), (242, .iload_n 3, 1), (243, .invokevirtual 224, 3), (246, .i2l, 1), (247, .ladd, 1), (248, .lstore_n 1, 1), (249, .ldc2_w 368, 3), (252, .lload_n 1, 1), (253, .lmul, 1), (254, .aload_n 0, 1), (255, .getfield 56, 3), (258, .iload_n 3, 1), (259, .iaload, 1), (260, .i2l, 1), (261, .ladd, 1), (262, .lstore_n 1, 1), (263, .ldc2_w 368, 3), (266, .lload_n 1, 1), (267, .lmul, 1), (268, .aload_n 0, 1), (269, .getfield 98, 3), (272, .iload_n 3, 1), (273, .iaload, 1), (274, .i2l, 1), (275, .ladd, 1), (276, .lstore_n 1, 1), (277, .ldc2_w 368, 3), (280, .lload_n 1, 1), (281, .lmul, 1), (282, .aload_n 0, 1), (283, .getfield 101, 3), (286, .iload_n 3, 1), (287, .iaload, 1), (288, .i2l, 1), (289, .ladd, 1), (290, .lstore_n 1, 1), (291, .iinc 3 1, 3), (294, .goto (-96), 3), (297, .iconst 0, 1), (298, .istore_n 3, 1), (299, .iload_n 3, 1), (300, .bipush 8, 2), (302, .if_icmp .ge 42, 3), (305, .aload_n 0, 1), (306, .getfield 71, 3), (309, .iload_n 3, 1), (310, .iaload, 1), (311, .iconst 1, 1), (312, .if_icmp .ne 26, 3), (315, .ldc2_w 368, 3), (318, .lload_n 1, 1), (319, .lmul, 1), (320, .iload_n 3, 1), (321, .i2l, 1), (322, .ladd, 1), (323, .lstore_n 1, 1), (324, .ldc2_w 368, 3), (327, .lload_n 1, 1), (328, .lmul, 1), (329, .aload_n 0, 1), (330, .getfield 86, 3), (333, .iload_n 3, 1), (334, .iaload, 1), (335, .i2l, 1), (336, .ladd, 1), (337, .lstore_n 1, 1), (338, .iinc 3 1, 3), (341, .goto (-42), 3), (344, .iconst 0, 1), (345, .istore_n 3, 1), (346, .iload_n 3, 1), (347, .aload_n 0, 1), (348, .getfield 284, 3), (351, .if_icmp .ge 37, 3), (354, .ldc2_w 368, 3), (357, .lload_n 1, 1), (358, .lmul, 1), (359, .aload_n 0, 1), (360, .getfield 104, 3), (363, .iload_n 3, 1), (364, .iaload, 1), (365, .i2l, 1), (366, .ladd, 1), (367, .lstore_n 1, 1), (368, .ldc2_w 368, 3), (371, .lload_n 1, 1), (372, .lmul, 1), (373, .aload_n 0, 1), (374, .getfield 107, 3), (377, .iload_n 3, 1), (378, .iaload, 1), (379, .i2l, 1), (380, .ladd, 1), (381, .lstore_n 1, 1), (382, .iinc 3 1, 3), (385, .goto (-39), 3), (388, .ldc2_w 368, 3), (391, .lload_n 1, 1), (392, .lmul, 1), (393, .aload_n 0, 1), (394, .invokevirtual 257, 3), (397, .i2l, 1), (398, .ladd, 1), (399, .lstore_n 1, 1), (400, .ldc2_w 368, 3), (403, .lload_n 1, 1), (404, .lmul, 1), (405, .aload_n 0, 1), (406, .invokevirtual 260, 3), (409, .i2l, 1), (410, .ladd, 1), (411, .lstore_n 1, 1), (412, .ldc2_w 368, 3), (415, .lload_n 1, 1), (416, .lmul, 1), (417, .aload_n 0, 1), (418, .getfield 309, 3), (421, .i2l, 1), (422, .ladd, 1), (423, .lreturn, 1)]
theorem o_X9_digest : tb_X9_digest.all (fun q => decide (decode cX9_digest q.1 = .ok q.2)) = true := by decide +kernel
theorem kc_X1_43 : Cond.constantLong RX1 43 (2147483647 : Int64) ∈ sk_tg := sk_in 797 (by decide +kernel) (by decide +kernel)
theorem kc_X7_22 : Cond.constant RX7 22 (3999997 : Int32) ∈ sk_tg := sk_in 170 (by decide +kernel) (by decide +kernel)
theorem kc_X8_198 : Cond.constant RX8 198 (999999 : Int32) ∈ sk_tg := sk_in 738 (by decide +kernel) (by decide +kernel)
theorem kc_X8_316 : Cond.constantLong RX8 316 (43053 : Int64) ∈ sk_tg := sk_in 962 (by decide +kernel) (by decide +kernel)
theorem kc_X8_347 : Cond.constantLong RX8 347 (31 : Int64) ∈ sk_tg := sk_in 966 (by decide +kernel) (by decide +kernel)
theorem kc_X9_263 : Cond.constant RX9 263 (999999 : Int32) ∈ sk_tg := sk_in 1393 (by decide +kernel) (by decide +kernel)
theorem kc_X9_283 : Cond.constant RX9 283 (2147483647 : Int32) ∈ sk_tg := sk_in 1437 (by decide +kernel) (by decide +kernel)
theorem kc_X9_366 : Cond.constantLong RX9 366 (1334643 : Int64) ∈ sk_tg := sk_in 1564 (by decide +kernel) (by decide +kernel)
theorem kc_X9_368 : Cond.constantLong RX9 368 (31 : Int64) ∈ sk_tg := sk_in 1565 (by decide +kernel) (by decide +kernel)
theorem kf_X0_15 : sk_fl RX0 15 0 1 := sk_fl_of 333 (by decide +kernel)
theorem kf_X0_19 : sk_fl RX0 19 0 2 := sk_fl_of 337 (by decide +kernel)
theorem kf_X0_47 : sk_fl RX0 47 4 1 := sk_fl_of 295 (by decide +kernel)
theorem kf_X0_56 : sk_fl RX0 56 4 2 := sk_fl_of 299 (by decide +kernel)
theorem kf_X1_15 : sk_fl RX1 15 1 1 := sk_fl_of 390 (by decide +kernel)
theorem kf_X1_19 : sk_fl RX1 19 1 2 := sk_fl_of 391 (by decide +kernel)
theorem kf_X1_22 : sk_fl RX1 22 1 3 := sk_fl_of 392 (by decide +kernel)
theorem kf_X1_25 : sk_fl RX1 25 1 4 := sk_fl_of 393 (by decide +kernel)
theorem kf_X1_28 : sk_fl RX1 28 1 5 := sk_fl_of 396 (by decide +kernel)
theorem kf_X1_31 : sk_fl RX1 31 0 2 := sk_fl_of 338 (by decide +kernel)
theorem kf_X1_36 : sk_fl RX1 36 0 1 := sk_fl_of 334 (by decide +kernel)
theorem kf_X2_13 : sk_fl RX2 13 2 1 := sk_fl_of 419 (by decide +kernel)
theorem kf_X3_9 : sk_fl RX3 9 3 0 := sk_fl_of 121 (by decide +kernel)
theorem kf_X3_15 : sk_fl RX3 15 3 1 := sk_fl_of 122 (by decide +kernel)
theorem kf_X3_18 : sk_fl RX3 18 3 2 := sk_fl_of 123 (by decide +kernel)
theorem kf_X3_22 : sk_fl RX3 22 3 3 := sk_fl_of 124 (by decide +kernel)
theorem kf_X3_27 : sk_fl RX3 27 3 4 := sk_fl_of 125 (by decide +kernel)
theorem kf_X3_30 : sk_fl RX3 30 3 5 := sk_fl_of 126 (by decide +kernel)
theorem kf_X3_33 : sk_fl RX3 33 3 6 := sk_fl_of 127 (by decide +kernel)
theorem kf_X3_36 : sk_fl RX3 36 3 7 := sk_fl_of 128 (by decide +kernel)
theorem kf_X3_39 : sk_fl RX3 39 3 8 := sk_fl_of 129 (by decide +kernel)
theorem kf_X3_42 : sk_fl RX3 42 3 9 := sk_fl_of 130 (by decide +kernel)
theorem kf_X3_45 : sk_fl RX3 45 3 10 := sk_fl_of 131 (by decide +kernel)
theorem kf_X3_48 : sk_fl RX3 48 3 11 := sk_fl_of 132 (by decide +kernel)
theorem kf_X3_51 : sk_fl RX3 51 3 12 := sk_fl_of 133 (by decide +kernel)
theorem kf_X3_80 : sk_fl RX3 80 4 0 := sk_fl_of 293 (by decide +kernel)
theorem kf_X3_86 : sk_fl RX3 86 4 3 := sk_fl_of 302 (by decide +kernel)
theorem kf_X3_111 : sk_fl RX3 111 0 0 := sk_fl_of 331 (by decide +kernel)
theorem kf_X3_120 : sk_fl RX3 120 0 1 := sk_fl_of 335 (by decide +kernel)
theorem kf_X3_123 : sk_fl RX3 123 4 1 := sk_fl_of 297 (by decide +kernel)
theorem kf_X3_124 : sk_fl RX3 124 0 3 := sk_fl_of 340 (by decide +kernel)
theorem kf_X4_9 : sk_fl RX4 9 4 0 := sk_fl_of 291 (by decide +kernel)
theorem kf_X4_22 : sk_fl RX4 22 4 3 := sk_fl_of 301 (by decide +kernel)
theorem kf_X4_25 : sk_fl RX4 25 4 4 := sk_fl_of 304 (by decide +kernel)
theorem kf_X4_31 : sk_fl RX4 31 4 6 := sk_fl_of 308 (by decide +kernel)
theorem kf_X5_9 : sk_fl RX5 9 5 0 := sk_fl_of 236 (by decide +kernel)
theorem kf_X5_15 : sk_fl RX5 15 5 1 := sk_fl_of 238 (by decide +kernel)
theorem kf_X5_19 : sk_fl RX5 19 5 2 := sk_fl_of 240 (by decide +kernel)
theorem kf_X5_26 : sk_fl RX5 26 5 4 := sk_fl_of 244 (by decide +kernel)
theorem kf_X5_29 : sk_fl RX5 29 5 5 := sk_fl_of 246 (by decide +kernel)
theorem kf_X5_32 : sk_fl RX5 32 5 6 := sk_fl_of 248 (by decide +kernel)
theorem kf_X5_35 : sk_fl RX5 35 5 7 := sk_fl_of 250 (by decide +kernel)
theorem kf_X5_38 : sk_fl RX5 38 5 8 := sk_fl_of 252 (by decide +kernel)
theorem kf_X5_41 : sk_fl RX5 41 5 9 := sk_fl_of 254 (by decide +kernel)
theorem kf_X5_44 : sk_fl RX5 44 5 10 := sk_fl_of 256 (by decide +kernel)
theorem kf_X5_47 : sk_fl RX5 47 5 11 := sk_fl_of 258 (by decide +kernel)
theorem kf_X6_9 : sk_fl RX6 9 6 0 := sk_fl_of 193 (by decide +kernel)
theorem kf_X6_15 : sk_fl RX6 15 6 1 := sk_fl_of 195 (by decide +kernel)
theorem kf_X6_18 : sk_fl RX6 18 6 2 := sk_fl_of 197 (by decide +kernel)
theorem kf_X6_21 : sk_fl RX6 21 6 3 := sk_fl_of 199 (by decide +kernel)
theorem kf_X6_24 : sk_fl RX6 24 6 4 := sk_fl_of 201 (by decide +kernel)
theorem kf_X6_27 : sk_fl RX6 27 6 5 := sk_fl_of 203 (by decide +kernel)
theorem kf_X6_30 : sk_fl RX6 30 6 6 := sk_fl_of 205 (by decide +kernel)
theorem kf_X6_33 : sk_fl RX6 33 6 7 := sk_fl_of 206 (by decide +kernel)
theorem kf_X6_38 : sk_fl RX6 38 6 8 := sk_fl_of 207 (by decide +kernel)
theorem kf_X6_41 : sk_fl RX6 41 6 9 := sk_fl_of 208 (by decide +kernel)
theorem kf_X6_44 : sk_fl RX6 44 0 5 := sk_fl_of 344 (by decide +kernel)
theorem kf_X6_84 : sk_fl RX6 84 0 7 := sk_fl_of 350 (by decide +kernel)
theorem kf_X6_87 : sk_fl RX6 87 2 0 := sk_fl_of 417 (by decide +kernel)
theorem kf_X6_93 : sk_fl RX6 93 2 2 := sk_fl_of 422 (by decide +kernel)
theorem kf_X6_100 : sk_fl RX6 100 0 8 := sk_fl_of 353 (by decide +kernel)
theorem kf_X6_103 : sk_fl RX6 103 0 6 := sk_fl_of 347 (by decide +kernel)
theorem kf_X7_9 : sk_fl RX7 9 7 0 := sk_fl_of 171 (by decide +kernel)
theorem kf_X7_15 : sk_fl RX7 15 7 1 := sk_fl_of 173 (by decide +kernel)
theorem kf_X7_19 : sk_fl RX7 19 7 2 := sk_fl_of 175 (by decide +kernel)
theorem kf_X7_23 : sk_fl RX7 23 7 3 := sk_fl_of 176 (by decide +kernel)
theorem kf_X7_37 : sk_fl RX7 37 1 0 := sk_fl_of 388 (by decide +kernel)
theorem kf_X7_47 : sk_fl RX7 47 1 4 := sk_fl_of 394 (by decide +kernel)
theorem kf_X8_11 : sk_fl RX8 11 8 0 := sk_fl_of 439 (by decide +kernel)
theorem kf_X8_17 : sk_fl RX8 17 8 1 := sk_fl_of 440 (by decide +kernel)
theorem kf_X8_23 : sk_fl RX8 23 8 2 := sk_fl_of 441 (by decide +kernel)
theorem kf_X8_29 : sk_fl RX8 29 8 3 := sk_fl_of 442 (by decide +kernel)
theorem kf_X8_33 : sk_fl RX8 33 8 4 := sk_fl_of 443 (by decide +kernel)
theorem kf_X8_40 : sk_fl RX8 40 8 5 := sk_fl_of 444 (by decide +kernel)
theorem kf_X8_47 : sk_fl RX8 47 8 6 := sk_fl_of 445 (by decide +kernel)
theorem kf_X8_54 : sk_fl RX8 54 8 7 := sk_fl_of 446 (by decide +kernel)
theorem kf_X8_61 : sk_fl RX8 61 8 8 := sk_fl_of 447 (by decide +kernel)
theorem kf_X8_65 : sk_fl RX8 65 8 9 := sk_fl_of 448 (by decide +kernel)
theorem kf_X8_69 : sk_fl RX8 69 8 10 := sk_fl_of 449 (by decide +kernel)
theorem kf_X8_72 : sk_fl RX8 72 8 11 := sk_fl_of 450 (by decide +kernel)
theorem kf_X8_75 : sk_fl RX8 75 8 12 := sk_fl_of 451 (by decide +kernel)
theorem kf_X8_78 : sk_fl RX8 78 8 13 := sk_fl_of 452 (by decide +kernel)
theorem kf_X8_108 : sk_fl RX8 108 4 0 := sk_fl_of 292 (by decide +kernel)
theorem kf_X8_115 : sk_fl RX8 115 4 1 := sk_fl_of 296 (by decide +kernel)
theorem kf_X8_118 : sk_fl RX8 118 4 2 := sk_fl_of 300 (by decide +kernel)
theorem kf_X8_121 : sk_fl RX8 121 4 3 := sk_fl_of 303 (by decide +kernel)
theorem kf_X8_124 : sk_fl RX8 124 4 4 := sk_fl_of 305 (by decide +kernel)
theorem kf_X8_142 : sk_fl RX8 142 4 6 := sk_fl_of 309 (by decide +kernel)
theorem kf_X8_149 : sk_fl RX8 149 4 5 := sk_fl_of 307 (by decide +kernel)
theorem kf_X8_181 : sk_fl RX8 181 0 0 := sk_fl_of 332 (by decide +kernel)
theorem kf_X8_184 : sk_fl RX8 184 0 1 := sk_fl_of 336 (by decide +kernel)
theorem kf_X8_188 : sk_fl RX8 188 0 4 := sk_fl_of 342 (by decide +kernel)
theorem kf_X8_208 : sk_fl RX8 208 1 0 := sk_fl_of 389 (by decide +kernel)
theorem kf_X8_215 : sk_fl RX8 215 7 0 := sk_fl_of 172 (by decide +kernel)
theorem kf_X8_224 : sk_fl RX8 224 7 1 := sk_fl_of 174 (by decide +kernel)
theorem kf_X8_233 : sk_fl RX8 233 1 5 := sk_fl_of 397 (by decide +kernel)
theorem kf_X8_236 : sk_fl RX8 236 1 4 := sk_fl_of 395 (by decide +kernel)
theorem kf_X8_251 : sk_fl RX8 251 0 6 := sk_fl_of 348 (by decide +kernel)
theorem kf_X8_254 : sk_fl RX8 254 0 7 := sk_fl_of 351 (by decide +kernel)
theorem kf_X8_257 : sk_fl RX8 257 0 8 := sk_fl_of 354 (by decide +kernel)
theorem kf_X8_260 : sk_fl RX8 260 0 5 := sk_fl_of 345 (by decide +kernel)
theorem kf_X8_276 : sk_fl RX8 276 0 9 := sk_fl_of 356 (by decide +kernel)
theorem kf_X8_279 : sk_fl RX8 279 0 10 := sk_fl_of 358 (by decide +kernel)
theorem kf_X8_282 : sk_fl RX8 282 2 3 := sk_fl_of 425 (by decide +kernel)
theorem kf_X8_285 : sk_fl RX8 285 2 4 := sk_fl_of 427 (by decide +kernel)
theorem kf_X8_291 : sk_fl RX8 291 6 1 := sk_fl_of 196 (by decide +kernel)
theorem kf_X8_294 : sk_fl RX8 294 6 2 := sk_fl_of 198 (by decide +kernel)
theorem kf_X8_296 : sk_fl RX8 296 5 1 := sk_fl_of 239 (by decide +kernel)
theorem kf_X8_299 : sk_fl RX8 299 5 0 := sk_fl_of 237 (by decide +kernel)
theorem kf_X8_390 : sk_fl RX8 390 6 0 := sk_fl_of 194 (by decide +kernel)
theorem kf_X8_393 : sk_fl RX8 393 6 3 := sk_fl_of 200 (by decide +kernel)
theorem kf_X8_395 : sk_fl RX8 395 6 4 := sk_fl_of 202 (by decide +kernel)
theorem kf_X8_397 : sk_fl RX8 397 6 5 := sk_fl_of 204 (by decide +kernel)
theorem kf_X8_399 : sk_fl RX8 399 5 3 := sk_fl_of 243 (by decide +kernel)
theorem kf_X8_403 : sk_fl RX8 403 5 4 := sk_fl_of 245 (by decide +kernel)
theorem kf_X8_404 : sk_fl RX8 404 5 5 := sk_fl_of 247 (by decide +kernel)
theorem kf_X8_405 : sk_fl RX8 405 5 6 := sk_fl_of 249 (by decide +kernel)
theorem kf_X8_410 : sk_fl RX8 410 5 7 := sk_fl_of 251 (by decide +kernel)
theorem kf_X8_413 : sk_fl RX8 413 5 8 := sk_fl_of 253 (by decide +kernel)
theorem kf_X8_419 : sk_fl RX8 419 5 9 := sk_fl_of 255 (by decide +kernel)
theorem kf_X8_422 : sk_fl RX8 422 5 10 := sk_fl_of 257 (by decide +kernel)
theorem kf_X8_425 : sk_fl RX8 425 5 11 := sk_fl_of 259 (by decide +kernel)
theorem kf_X9_7 : sk_fl RX9 7 9 1 := sk_fl_of 1005 (by decide +kernel)
theorem kf_X9_13 : sk_fl RX9 13 9 2 := sk_fl_of 1006 (by decide +kernel)
theorem kf_X9_16 : sk_fl RX9 16 9 3 := sk_fl_of 1007 (by decide +kernel)
theorem kf_X9_19 : sk_fl RX9 19 9 4 := sk_fl_of 1008 (by decide +kernel)
theorem kf_X9_23 : sk_fl RX9 23 9 5 := sk_fl_of 1009 (by decide +kernel)
theorem kf_X9_26 : sk_fl RX9 26 9 6 := sk_fl_of 1010 (by decide +kernel)
theorem kf_X9_29 : sk_fl RX9 29 9 7 := sk_fl_of 1011 (by decide +kernel)
theorem kf_X9_32 : sk_fl RX9 32 9 8 := sk_fl_of 1012 (by decide +kernel)
theorem kf_X9_35 : sk_fl RX9 35 9 9 := sk_fl_of 1013 (by decide +kernel)
theorem kf_X9_38 : sk_fl RX9 38 9 10 := sk_fl_of 1014 (by decide +kernel)
theorem kf_X9_41 : sk_fl RX9 41 9 11 := sk_fl_of 1015 (by decide +kernel)
theorem kf_X9_44 : sk_fl RX9 44 9 12 := sk_fl_of 1016 (by decide +kernel)
theorem kf_X9_47 : sk_fl RX9 47 9 13 := sk_fl_of 1017 (by decide +kernel)
theorem kf_X9_50 : sk_fl RX9 50 9 14 := sk_fl_of 1018 (by decide +kernel)
theorem kf_X9_53 : sk_fl RX9 53 9 15 := sk_fl_of 1019 (by decide +kernel)
theorem kf_X9_56 : sk_fl RX9 56 9 16 := sk_fl_of 1020 (by decide +kernel)
theorem kf_X9_59 : sk_fl RX9 59 9 17 := sk_fl_of 1021 (by decide +kernel)
theorem kf_X9_62 : sk_fl RX9 62 9 18 := sk_fl_of 1022 (by decide +kernel)
theorem kf_X9_65 : sk_fl RX9 65 9 19 := sk_fl_of 1023 (by decide +kernel)
theorem kf_X9_68 : sk_fl RX9 68 9 20 := sk_fl_of 1024 (by decide +kernel)
theorem kf_X9_71 : sk_fl RX9 71 9 21 := sk_fl_of 1025 (by decide +kernel)
theorem kf_X9_74 : sk_fl RX9 74 9 22 := sk_fl_of 1026 (by decide +kernel)
theorem kf_X9_77 : sk_fl RX9 77 9 23 := sk_fl_of 1027 (by decide +kernel)
theorem kf_X9_80 : sk_fl RX9 80 9 24 := sk_fl_of 1028 (by decide +kernel)
theorem kf_X9_83 : sk_fl RX9 83 9 25 := sk_fl_of 1029 (by decide +kernel)
theorem kf_X9_86 : sk_fl RX9 86 9 26 := sk_fl_of 1030 (by decide +kernel)
theorem kf_X9_89 : sk_fl RX9 89 9 28 := sk_fl_of 1032 (by decide +kernel)
theorem kf_X9_92 : sk_fl RX9 92 9 29 := sk_fl_of 1033 (by decide +kernel)
theorem kf_X9_95 : sk_fl RX9 95 9 30 := sk_fl_of 1034 (by decide +kernel)
theorem kf_X9_98 : sk_fl RX9 98 9 31 := sk_fl_of 1035 (by decide +kernel)
theorem kf_X9_101 : sk_fl RX9 101 9 32 := sk_fl_of 1036 (by decide +kernel)
theorem kf_X9_104 : sk_fl RX9 104 9 33 := sk_fl_of 1037 (by decide +kernel)
theorem kf_X9_107 : sk_fl RX9 107 9 34 := sk_fl_of 1038 (by decide +kernel)
theorem kf_X9_110 : sk_fl RX9 110 9 35 := sk_fl_of 1039 (by decide +kernel)
theorem kf_X9_113 : sk_fl RX9 113 9 38 := sk_fl_of 1042 (by decide +kernel)
theorem kf_X9_116 : sk_fl RX9 116 9 39 := sk_fl_of 1043 (by decide +kernel)
theorem kf_X9_119 : sk_fl RX9 119 9 40 := sk_fl_of 1044 (by decide +kernel)
theorem kf_X9_123 : sk_fl RX9 123 9 41 := sk_fl_of 1045 (by decide +kernel)
theorem kf_X9_126 : sk_fl RX9 126 9 42 := sk_fl_of 1046 (by decide +kernel)
theorem kf_X9_129 : sk_fl RX9 129 9 43 := sk_fl_of 1047 (by decide +kernel)
theorem kf_X9_132 : sk_fl RX9 132 9 44 := sk_fl_of 1048 (by decide +kernel)
theorem kf_X9_135 : sk_fl RX9 135 9 45 := sk_fl_of 1049 (by decide +kernel)
theorem kf_X9_138 : sk_fl RX9 138 9 46 := sk_fl_of 1050 (by decide +kernel)
theorem kf_X9_141 : sk_fl RX9 141 9 47 := sk_fl_of 1051 (by decide +kernel)
theorem kf_X9_144 : sk_fl RX9 144 9 48 := sk_fl_of 1052 (by decide +kernel)
theorem kf_X9_147 : sk_fl RX9 147 9 49 := sk_fl_of 1053 (by decide +kernel)
theorem kf_X9_150 : sk_fl RX9 150 9 50 := sk_fl_of 1054 (by decide +kernel)
theorem kf_X9_153 : sk_fl RX9 153 9 51 := sk_fl_of 1055 (by decide +kernel)
theorem kf_X9_156 : sk_fl RX9 156 9 52 := sk_fl_of 1056 (by decide +kernel)
theorem kf_X9_159 : sk_fl RX9 159 9 53 := sk_fl_of 1057 (by decide +kernel)
theorem kf_X9_162 : sk_fl RX9 162 9 54 := sk_fl_of 1058 (by decide +kernel)
theorem kf_X9_165 : sk_fl RX9 165 9 55 := sk_fl_of 1059 (by decide +kernel)
theorem kf_X9_209 : sk_fl RX9 209 9 0 := sk_fl_of 1004 (by decide +kernel)
theorem kf_X9_230 : sk_fl RX9 230 9 37 := sk_fl_of 1041 (by decide +kernel)
theorem kf_X9_284 : sk_fl RX9 284 9 27 := sk_fl_of 1031 (by decide +kernel)
theorem kf_X9_309 : sk_fl RX9 309 9 36 := sk_fl_of 1040 (by decide +kernel)
theorem kf_X9_312 : sk_fl RX9 312 9 56 := sk_fl_of 1060 (by decide +kernel)
theorem kf_X9_318 : sk_fl RX9 318 9 60 := sk_fl_of 1064 (by decide +kernel)
theorem kf_X9_321 : sk_fl RX9 321 9 57 := sk_fl_of 1061 (by decide +kernel)
theorem kf_X9_327 : sk_fl RX9 327 9 58 := sk_fl_of 1062 (by decide +kernel)
theorem kf_X9_334 : sk_fl RX9 334 9 59 := sk_fl_of 1063 (by decide +kernel)
theorem kp_X0_9 : sk_fp RX0 9 0 0 .boolean := sk_fp_of 330 (by decide +kernel)
theorem kp_X0_15 : sk_fp RX0 15 0 1 .int := sk_fp_of 333 (by decide +kernel)
theorem kp_X0_19 : sk_fp RX0 19 0 2 .int := sk_fp_of 337 (by decide +kernel)
theorem kp_X0_22 : sk_fp RX0 22 0 3 .int := sk_fp_of 339 (by decide +kernel)
theorem kp_X0_25 : sk_fp RX0 25 0 4 .int := sk_fp_of 341 (by decide +kernel)
theorem kp_X0_28 : sk_fp RX0 28 0 5 .int := sk_fp_of 343 (by decide +kernel)
theorem kp_X0_31 : sk_fp RX0 31 0 6 .int := sk_fp_of 346 (by decide +kernel)
theorem kp_X0_41 : sk_fp RX0 41 0 9 .int := sk_fp_of 355 (by decide +kernel)
theorem kp_X0_44 : sk_fp RX0 44 0 10 .int := sk_fp_of 357 (by decide +kernel)
theorem kp_X1_9 : sk_fp RX1 9 1 0 .boolean := sk_fp_of 387 (by decide +kernel)
theorem kp_X1_15 : sk_fp RX1 15 1 1 .int := sk_fp_of 390 (by decide +kernel)
theorem kp_X1_19 : sk_fp RX1 19 1 2 .int := sk_fp_of 391 (by decide +kernel)
theorem kp_X1_22 : sk_fp RX1 22 1 3 .int := sk_fp_of 392 (by decide +kernel)
theorem kp_X1_25 : sk_fp RX1 25 1 4 .int := sk_fp_of 393 (by decide +kernel)
theorem kp_X1_28 : sk_fp RX1 28 1 5 .int := sk_fp_of 396 (by decide +kernel)
theorem kp_X3_9 : sk_fp RX3 9 3 0 .int := sk_fp_of 121 (by decide +kernel)
theorem kp_X3_15 : sk_fp RX3 15 3 1 .int := sk_fp_of 122 (by decide +kernel)
theorem kp_X4_9 : sk_fp RX4 9 4 0 .boolean := sk_fp_of 291 (by decide +kernel)
theorem kp_X4_15 : sk_fp RX4 15 4 1 .int := sk_fp_of 294 (by decide +kernel)
theorem kp_X4_19 : sk_fp RX4 19 4 2 .int := sk_fp_of 298 (by decide +kernel)
theorem kp_X4_22 : sk_fp RX4 22 4 3 .int := sk_fp_of 301 (by decide +kernel)
theorem kp_X4_25 : sk_fp RX4 25 4 4 .int := sk_fp_of 304 (by decide +kernel)
theorem kp_X4_28 : sk_fp RX4 28 4 5 .int := sk_fp_of 306 (by decide +kernel)
theorem kp_X5_19 : sk_fp RX5 19 5 2 .int := sk_fp_of 240 (by decide +kernel)
theorem kp_X5_22 : sk_fp RX5 22 5 3 .char := sk_fp_of 242 (by decide +kernel)
theorem kp_X5_26 : sk_fp RX5 26 5 4 .int := sk_fp_of 244 (by decide +kernel)
theorem kp_X5_29 : sk_fp RX5 29 5 5 .int := sk_fp_of 246 (by decide +kernel)
theorem kp_X5_32 : sk_fp RX5 32 5 6 .int := sk_fp_of 248 (by decide +kernel)
theorem kp_X5_35 : sk_fp RX5 35 5 7 .int := sk_fp_of 250 (by decide +kernel)
theorem kp_X5_38 : sk_fp RX5 38 5 8 .int := sk_fp_of 252 (by decide +kernel)
theorem kp_X5_41 : sk_fp RX5 41 5 9 .int := sk_fp_of 254 (by decide +kernel)
theorem kp_X5_44 : sk_fp RX5 44 5 10 .int := sk_fp_of 256 (by decide +kernel)
theorem kp_X5_47 : sk_fp RX5 47 5 11 .int := sk_fp_of 258 (by decide +kernel)
theorem kp_X7_23 : sk_fp RX7 23 7 3 .int := sk_fp_of 176 (by decide +kernel)
theorem kp_X8_65 : sk_fp RX8 65 8 9 .int := sk_fp_of 448 (by decide +kernel)
theorem kp_X8_69 : sk_fp RX8 69 8 10 .int := sk_fp_of 449 (by decide +kernel)
theorem kp_X8_72 : sk_fp RX8 72 8 11 .int := sk_fp_of 450 (by decide +kernel)
theorem kp_X8_75 : sk_fp RX8 75 8 12 .int := sk_fp_of 451 (by decide +kernel)
theorem kp_X8_78 : sk_fp RX8 78 8 13 .int := sk_fp_of 452 (by decide +kernel)
theorem kp_X8_108 : sk_fp RX8 108 4 0 .boolean := sk_fp_of 292 (by decide +kernel)
theorem kp_X8_115 : sk_fp RX8 115 4 1 .int := sk_fp_of 296 (by decide +kernel)
theorem kp_X8_124 : sk_fp RX8 124 4 4 .int := sk_fp_of 305 (by decide +kernel)
theorem kp_X8_149 : sk_fp RX8 149 4 5 .int := sk_fp_of 307 (by decide +kernel)
theorem kp_X8_188 : sk_fp RX8 188 0 4 .int := sk_fp_of 342 (by decide +kernel)
theorem kp_X8_208 : sk_fp RX8 208 1 0 .boolean := sk_fp_of 389 (by decide +kernel)
theorem kp_X8_233 : sk_fp RX8 233 1 5 .int := sk_fp_of 397 (by decide +kernel)
theorem kp_X8_239 : sk_fp RX8 239 2 0 .int := sk_fp_of 418 (by decide +kernel)
theorem kp_X8_242 : sk_fp RX8 242 2 1 .int := sk_fp_of 420 (by decide +kernel)
theorem kp_X8_245 : sk_fp RX8 245 2 2 .int := sk_fp_of 423 (by decide +kernel)
theorem kp_X8_251 : sk_fp RX8 251 0 6 .int := sk_fp_of 348 (by decide +kernel)
theorem kp_X8_260 : sk_fp RX8 260 0 5 .int := sk_fp_of 345 (by decide +kernel)
theorem kp_X8_276 : sk_fp RX8 276 0 9 .int := sk_fp_of 356 (by decide +kernel)
theorem kp_X8_279 : sk_fp RX8 279 0 10 .int := sk_fp_of 358 (by decide +kernel)
theorem kp_X8_282 : sk_fp RX8 282 2 3 .int := sk_fp_of 425 (by decide +kernel)
theorem kp_X8_285 : sk_fp RX8 285 2 4 .int := sk_fp_of 427 (by decide +kernel)
theorem kp_X8_296 : sk_fp RX8 296 5 1 .int := sk_fp_of 239 (by decide +kernel)
theorem kp_X8_306 : sk_fp RX8 306 5 2 .int := sk_fp_of 241 (by decide +kernel)
theorem kp_X9_7 : sk_fp RX9 7 9 1 .int := sk_fp_of 1005 (by decide +kernel)
theorem kp_X9_13 : sk_fp RX9 13 9 2 .int := sk_fp_of 1006 (by decide +kernel)
theorem kp_X9_16 : sk_fp RX9 16 9 3 .int := sk_fp_of 1007 (by decide +kernel)
theorem kp_X9_209 : sk_fp RX9 209 9 0 .int := sk_fp_of 1004 (by decide +kernel)
theorem kp_X9_230 : sk_fp RX9 230 9 37 .int := sk_fp_of 1041 (by decide +kernel)
theorem kp_X9_284 : sk_fp RX9 284 9 27 .int := sk_fp_of 1031 (by decide +kernel)
theorem kp_X9_309 : sk_fp RX9 309 9 36 .int := sk_fp_of 1040 (by decide +kernel)
theorem kp_X9_312 : sk_fp RX9 312 9 56 .int := sk_fp_of 1060 (by decide +kernel)
theorem kp_X9_318 : sk_fp RX9 318 9 60 .int := sk_fp_of 1064 (by decide +kernel)
theorem kp_X9_321 : sk_fp RX9 321 9 57 .int := sk_fp_of 1061 (by decide +kernel)
theorem kp_X9_327 : sk_fp RX9 327 9 58 .int := sk_fp_of 1062 (by decide +kernel)
theorem kp_X9_334 : sk_fp RX9 334 9 59 .int := sk_fp_of 1063 (by decide +kernel)
theorem ka_X3_131 : Cond.methodLink RX3 131 arraycopyName ∈ sk_tg := sk_in 701 (by decide +kernel) (by decide +kernel)
theorem ka_X7_31 : Cond.methodLink RX7 31 arraycopyName ∈ sk_tg := sk_in 783 (by decide +kernel) (by decide +kernel)
theorem sk_acN : Cond.native arraycopyName ∈ sk_tg := sk_in 703 (by decide +kernel) (by decide +kernel)
theorem sk_acS : Cond.static arraycopyName ∈ sk_tg := sk_in 702 (by decide +kernel) (by decide +kernel)
theorem sk_acI : Cond.initialized "java/lang/System" ∈ sk_tg := sk_in 96 (by decide +kernel) (by decide +kernel)
theorem kM_X0_50 : sk_lkM RX0 50 Lib.Math.abs.name Lib.Math.abs.code 1 := ⟨sk_in 607 (by decide +kernel) (by decide +kernel), sk_in 608 (by decide +kernel) (by decide +kernel), sk_in 95 (by decide +kernel) (by decide +kernel), sk_in 609 (by decide +kernel) (by decide +kernel)⟩
theorem kM_X3_105 : sk_lkM RX3 105 Lib.Math.min.name Lib.Math.min.code 2 := ⟨sk_in 683 (by decide +kernel) (by decide +kernel), sk_in 557 (by decide +kernel) (by decide +kernel), sk_in 95 (by decide +kernel) (by decide +kernel), sk_in 558 (by decide +kernel) (by decide +kernel)⟩
theorem kM_X3_140 : sk_lkM RX3 140 Lib.Math.max.name Lib.Math.max.code 2 := ⟨sk_in 713 (by decide +kernel) (by decide +kernel), sk_in 560 (by decide +kernel) (by decide +kernel), sk_in 95 (by decide +kernel) (by decide +kernel), sk_in 561 (by decide +kernel) (by decide +kernel)⟩
theorem kM_X4_44 : sk_lkM RX4 44 Lib.Math.min.name Lib.Math.min.code 2 := ⟨sk_in 597 (by decide +kernel) (by decide +kernel), sk_in 557 (by decide +kernel) (by decide +kernel), sk_in 95 (by decide +kernel) (by decide +kernel), sk_in 558 (by decide +kernel) (by decide +kernel)⟩
theorem kM_X6_56 : sk_lkM RX6 56 Lib.Math.min.name Lib.Math.min.code 2 := ⟨sk_in 843 (by decide +kernel) (by decide +kernel), sk_in 557 (by decide +kernel) (by decide +kernel), sk_in 95 (by decide +kernel) (by decide +kernel), sk_in 558 (by decide +kernel) (by decide +kernel)⟩
theorem kM_X6_106 : sk_lkM RX6 106 Lib.Math.max.name Lib.Math.max.code 2 := ⟨sk_in 869 (by decide +kernel) (by decide +kernel), sk_in 560 (by decide +kernel) (by decide +kernel), sk_in 95 (by decide +kernel) (by decide +kernel), sk_in 561 (by decide +kernel) (by decide +kernel)⟩
theorem kM_X8_130 : sk_lkM RX8 130 Lib.Math.min.name Lib.Math.min.code 2 := ⟨sk_in 556 (by decide +kernel) (by decide +kernel), sk_in 557 (by decide +kernel) (by decide +kernel), sk_in 95 (by decide +kernel) (by decide +kernel), sk_in 558 (by decide +kernel) (by decide +kernel)⟩
theorem kM_X8_136 : sk_lkM RX8 136 Lib.Math.max.name Lib.Math.max.code 2 := ⟨sk_in 559 (by decide +kernel) (by decide +kernel), sk_in 560 (by decide +kernel) (by decide +kernel), sk_in 95 (by decide +kernel) (by decide +kernel), sk_in 561 (by decide +kernel) (by decide +kernel)⟩
theorem lv_X3_55 : sk_lkV RX3 55 m_X3_gatherUnits 3 := ⟨⟨by decide, by decide, by decide +kernel⟩, sk_in 669 (by decide +kernel) (by decide +kernel), sk_in 671 (by decide +kernel) (by decide +kernel), sk_in 8 (by decide +kernel) (by decide +kernel), sk_in 85 (by decide +kernel) (by decide +kernel), sk_in 672 (by decide +kernel) (by decide +kernel)⟩
theorem lv_X3_59 : sk_lkV RX3 59 m_X3_limitSeats 1 := ⟨⟨by decide, by decide, by decide +kernel⟩, sk_in 689 (by decide +kernel) (by decide +kernel), sk_in 691 (by decide +kernel) (by decide +kernel), sk_in 12 (by decide +kernel) (by decide +kernel), sk_in 85 (by decide +kernel) (by decide +kernel), sk_in 692 (by decide +kernel) (by decide +kernel)⟩
theorem lv_X3_63 : sk_lkV RX3 63 m_X3_chooseFor 1 := ⟨⟨by decide, by decide, by decide +kernel⟩, sk_in 693 (by decide +kernel) (by decide +kernel), sk_in 695 (by decide +kernel) (by decide +kernel), sk_in 13 (by decide +kernel) (by decide +kernel), sk_in 85 (by decide +kernel) (by decide +kernel), sk_in 696 (by decide +kernel) (by decide +kernel)⟩
theorem lv_X3_67 : sk_lkV RX3 67 m_X3_followChoices 0 := ⟨⟨by decide, by decide, by decide +kernel⟩, sk_in 708 (by decide +kernel) (by decide +kernel), sk_in 710 (by decide +kernel) (by decide +kernel), sk_in 16 (by decide +kernel) (by decide +kernel), sk_in 85 (by decide +kernel) (by decide +kernel), sk_in 711 (by decide +kernel) (by decide +kernel)⟩
theorem lv_X3_89 : sk_lkV RX3 89 m_X3_unitFor 2 := ⟨⟨by decide, by decide, by decide +kernel⟩, sk_in 674 (by decide +kernel) (by decide +kernel), sk_in 676 (by decide +kernel) (by decide +kernel), sk_in 9 (by decide +kernel) (by decide +kernel), sk_in 85 (by decide +kernel) (by decide +kernel), sk_in 677 (by decide +kernel) (by decide +kernel)⟩
theorem lv_X3_93 : sk_lkV RX3 93 m_X3_addHead 3 := ⟨⟨by decide, by decide, by decide +kernel⟩, sk_in 684 (by decide +kernel) (by decide +kernel), sk_in 686 (by decide +kernel) (by decide +kernel), sk_in 11 (by decide +kernel) (by decide +kernel), sk_in 85 (by decide +kernel) (by decide +kernel), sk_in 687 (by decide +kernel) (by decide +kernel)⟩
theorem lv_X3_101 : sk_lkV RX3 101 m_X3_newUnit 0 := ⟨⟨by decide, by decide, by decide +kernel⟩, sk_in 679 (by decide +kernel) (by decide +kernel), sk_in 681 (by decide +kernel) (by decide +kernel), sk_in 10 (by decide +kernel) (by decide +kernel), sk_in 85 (by decide +kernel) (by decide +kernel), sk_in 682 (by decide +kernel) (by decide +kernel)⟩
theorem lv_X3_116 : sk_lkV RX3 116 m_X0_suits 1 := ⟨⟨by decide, by decide, by decide +kernel⟩, sk_in 688 (by decide +kernel) (by decide +kernel), sk_in 604 (by decide +kernel) (by decide +kernel), sk_in 605 (by decide +kernel) (by decide +kernel), sk_in 90 (by decide +kernel) (by decide +kernel), sk_in 606 (by decide +kernel) (by decide +kernel)⟩
theorem lv_X3_127 : sk_lkV RX3 127 m_X3_listOptions 1 := ⟨⟨by decide, by decide, by decide +kernel⟩, sk_in 697 (by decide +kernel) (by decide +kernel), sk_in 699 (by decide +kernel) (by decide +kernel), sk_in 14 (by decide +kernel) (by decide +kernel), sk_in 85 (by decide +kernel) (by decide +kernel), sk_in 700 (by decide +kernel) (by decide +kernel)⟩
theorem lv_X3_137 : sk_lkV RX3 137 m_X3_countDown 0 := ⟨⟨by decide, by decide, by decide +kernel⟩, sk_in 704 (by decide +kernel) (by decide +kernel), sk_in 706 (by decide +kernel) (by decide +kernel), sk_in 15 (by decide +kernel) (by decide +kernel), sk_in 85 (by decide +kernel) (by decide +kernel), sk_in 707 (by decide +kernel) (by decide +kernel)⟩
theorem lv_X4_35 : sk_lkV RX4 35 m_X4_clearScores 0 := ⟨⟨by decide, by decide, by decide +kernel⟩, sk_in 500 (by decide +kernel) (by decide +kernel), sk_in 501 (by decide +kernel) (by decide +kernel), sk_in 502 (by decide +kernel) (by decide +kernel), sk_in 89 (by decide +kernel) (by decide +kernel), sk_in 503 (by decide +kernel) (by decide +kernel)⟩
theorem lv_X5_50 : sk_lkV RX5 50 m_X5_readEntry 0 := ⟨⟨by decide, by decide, by decide +kernel⟩, sk_in 910 (by decide +kernel) (by decide +kernel), sk_in 911 (by decide +kernel) (by decide +kernel), sk_in 912 (by decide +kernel) (by decide +kernel), sk_in 88 (by decide +kernel) (by decide +kernel), sk_in 913 (by decide +kernel) (by decide +kernel)⟩
theorem lv_X5_54 : sk_lkV RX5 54 m_X5_skip 1 := ⟨⟨by decide, by decide, by decide +kernel⟩, sk_in 914 (by decide +kernel) (by decide +kernel), sk_in 916 (by decide +kernel) (by decide +kernel), sk_in 30 (by decide +kernel) (by decide +kernel), sk_in 88 (by decide +kernel) (by decide +kernel), sk_in 917 (by decide +kernel) (by decide +kernel)⟩
theorem lv_X5_58 : sk_lkV RX5 58 m_X5_readPupil 0 := ⟨⟨by decide, by decide, by decide +kernel⟩, sk_in 922 (by decide +kernel) (by decide +kernel), sk_in 924 (by decide +kernel) (by decide +kernel), sk_in 32 (by decide +kernel) (by decide +kernel), sk_in 88 (by decide +kernel) (by decide +kernel), sk_in 925 (by decide +kernel) (by decide +kernel)⟩
theorem lv_X5_61 : sk_lkV RX5 61 m_X5_readGroup 0 := ⟨⟨by decide, by decide, by decide +kernel⟩, sk_in 938 (by decide +kernel) (by decide +kernel), sk_in 940 (by decide +kernel) (by decide +kernel), sk_in 36 (by decide +kernel) (by decide +kernel), sk_in 88 (by decide +kernel) (by decide +kernel), sk_in 941 (by decide +kernel) (by decide +kernel)⟩
theorem lv_X5_64 : sk_lkV RX5 64 m_X5_readInstructor 0 := ⟨⟨by decide, by decide, by decide +kernel⟩, sk_in 942 (by decide +kernel) (by decide +kernel), sk_in 944 (by decide +kernel) (by decide +kernel), sk_in 37 (by decide +kernel) (by decide +kernel), sk_in 88 (by decide +kernel) (by decide +kernel), sk_in 945 (by decide +kernel) (by decide +kernel)⟩
theorem lv_X5_67 : sk_lkV RX5 67 m_X5_readDigit 2 := ⟨⟨by decide, by decide, by decide +kernel⟩, sk_in 926 (by decide +kernel) (by decide +kernel), sk_in 928 (by decide +kernel) (by decide +kernel), sk_in 33 (by decide +kernel) (by decide +kernel), sk_in 88 (by decide +kernel) (by decide +kernel), sk_in 929 (by decide +kernel) (by decide +kernel)⟩
theorem lv_X5_71 : sk_lkV RX5 71 m_X5_readLanguages 0 := ⟨⟨by decide, by decide, by decide +kernel⟩, sk_in 930 (by decide +kernel) (by decide +kernel), sk_in 932 (by decide +kernel) (by decide +kernel), sk_in 34 (by decide +kernel) (by decide +kernel), sk_in 88 (by decide +kernel) (by decide +kernel), sk_in 933 (by decide +kernel) (by decide +kernel)⟩
theorem lv_X5_74 : sk_lkV RX5 74 m_X5_readLanguage 1 := ⟨⟨by decide, by decide, by decide +kernel⟩, sk_in 934 (by decide +kernel) (by decide +kernel), sk_in 936 (by decide +kernel) (by decide +kernel), sk_in 35 (by decide +kernel) (by decide +kernel), sk_in 88 (by decide +kernel) (by decide +kernel), sk_in 937 (by decide +kernel) (by decide +kernel)⟩
theorem lv_X5_78 : sk_lkV RX5 78 m_X5_readWage 0 := ⟨⟨by decide, by decide, by decide +kernel⟩, sk_in 946 (by decide +kernel) (by decide +kernel), sk_in 948 (by decide +kernel) (by decide +kernel), sk_in 38 (by decide +kernel) (by decide +kernel), sk_in 88 (by decide +kernel) (by decide +kernel), sk_in 949 (by decide +kernel) (by decide +kernel)⟩
theorem lv_X5_81 : sk_lkV RX5 81 m_X5_readSign 2 := ⟨⟨by decide, by decide, by decide +kernel⟩, sk_in 918 (by decide +kernel) (by decide +kernel), sk_in 920 (by decide +kernel) (by decide +kernel), sk_in 31 (by decide +kernel) (by decide +kernel), sk_in 88 (by decide +kernel) (by decide +kernel), sk_in 921 (by decide +kernel) (by decide +kernel)⟩
theorem lv_X6_62 : sk_lkV RX6 62 m_X6_joinQueues 2 := ⟨⟨by decide, by decide, by decide +kernel⟩, sk_in 844 (by decide +kernel) (by decide +kernel), sk_in 846 (by decide +kernel) (by decide +kernel), sk_in 24 (by decide +kernel) (by decide +kernel), sk_in 87 (by decide +kernel) (by decide +kernel), sk_in 847 (by decide +kernel) (by decide +kernel)⟩
theorem lv_X6_66 : sk_lkV RX6 66 m_X2_departsAt 1 := ⟨⟨by decide, by decide, by decide +kernel⟩, sk_in 849 (by decide +kernel) (by decide +kernel), sk_in 850 (by decide +kernel) (by decide +kernel), sk_in 851 (by decide +kernel) (by decide +kernel), sk_in 92 (by decide +kernel) (by decide +kernel), sk_in 852 (by decide +kernel) (by decide +kernel)⟩
theorem lv_X6_72 : sk_lkV RX6 72 m_X6_depart 4 := ⟨⟨by decide, by decide, by decide +kernel⟩, sk_in 853 (by decide +kernel) (by decide +kernel), sk_in 855 (by decide +kernel) (by decide +kernel), sk_in 25 (by decide +kernel) (by decide +kernel), sk_in 87 (by decide +kernel) (by decide +kernel), sk_in 856 (by decide +kernel) (by decide +kernel)⟩
theorem lv_X6_76 : sk_lkV RX6 76 m_X6_waitAMinute 1 := ⟨⟨by decide, by decide, by decide +kernel⟩, sk_in 865 (by decide +kernel) (by decide +kernel), sk_in 867 (by decide +kernel) (by decide +kernel), sk_in 28 (by decide +kernel) (by decide +kernel), sk_in 87 (by decide +kernel) (by decide +kernel), sk_in 868 (by decide +kernel) (by decide +kernel)⟩
theorem lv_X6_90 : sk_lkV RX6 90 m_X6_leaveQueue 1 := ⟨⟨by decide, by decide, by decide +kernel⟩, sk_in 857 (by decide +kernel) (by decide +kernel), sk_in 859 (by decide +kernel) (by decide +kernel), sk_in 26 (by decide +kernel) (by decide +kernel), sk_in 87 (by decide +kernel) (by decide +kernel), sk_in 860 (by decide +kernel) (by decide +kernel)⟩
theorem lv_X6_96 : sk_lkV RX6 96 m_X6_completeRide 3 := ⟨⟨by decide, by decide, by decide +kernel⟩, sk_in 861 (by decide +kernel) (by decide +kernel), sk_in 863 (by decide +kernel) (by decide +kernel), sk_in 27 (by decide +kernel) (by decide +kernel), sk_in 87 (by decide +kernel) (by decide +kernel), sk_in 864 (by decide +kernel) (by decide +kernel)⟩
theorem lv_X7_43 : sk_lkV RX7 43 m_X1_teaches 1 := ⟨⟨by decide, by decide, by decide +kernel⟩, sk_in 784 (by decide +kernel) (by decide +kernel), sk_in 764 (by decide +kernel) (by decide +kernel), sk_in 765 (by decide +kernel) (by decide +kernel), sk_in 91 (by decide +kernel) (by decide +kernel), sk_in 766 (by decide +kernel) (by decide +kernel)⟩
theorem lv_X8_93 : sk_lkV RX8 93 m_X8_freePupilNumber 0 := ⟨⟨by decide, by decide, by decide +kernel⟩, sk_in 492 (by decide +kernel) (by decide +kernel), sk_in 494 (by decide +kernel) (by decide +kernel), sk_in 0 (by decide +kernel) (by decide +kernel), sk_in 84 (by decide +kernel) (by decide +kernel), sk_in 495 (by decide +kernel) (by decide +kernel)⟩
theorem lv_X8_97 : sk_lkV RX8 97 m_X4_enrol 3 := ⟨⟨by decide, by decide, by decide +kernel⟩, sk_in 496 (by decide +kernel) (by decide +kernel), sk_in 497 (by decide +kernel) (by decide +kernel), sk_in 498 (by decide +kernel) (by decide +kernel), sk_in 89 (by decide +kernel) (by decide +kernel), sk_in 499 (by decide +kernel) (by decide +kernel)⟩
theorem lv_X8_101 : sk_lkV RX8 101 m_X8_separateIfBroken 1 := ⟨⟨by decide, by decide, by decide +kernel⟩, sk_in 507 (by decide +kernel) (by decide +kernel), sk_in 509 (by decide +kernel) (by decide +kernel), sk_in 1 (by decide +kernel) (by decide +kernel), sk_in 84 (by decide +kernel) (by decide +kernel), sk_in 510 (by decide +kernel) (by decide +kernel)⟩
theorem lv_X8_105 : sk_lkV RX8 105 m_X8_hasPupil 1 := ⟨⟨by decide, by decide, by decide +kernel⟩, sk_in 523 (by decide +kernel) (by decide +kernel), sk_in 525 (by decide +kernel) (by decide +kernel), sk_in 3 (by decide +kernel) (by decide +kernel), sk_in 84 (by decide +kernel) (by decide +kernel), sk_in 526 (by decide +kernel) (by decide +kernel)⟩
theorem lv_X8_112 : sk_lkV RX8 112 m_X8_pupils 0 := ⟨⟨by decide, by decide, by decide +kernel⟩, sk_in 527 (by decide +kernel) (by decide +kernel), sk_in 528 (by decide +kernel) (by decide +kernel), sk_in 529 (by decide +kernel) (by decide +kernel), sk_in 84 (by decide +kernel) (by decide +kernel), sk_in 530 (by decide +kernel) (by decide +kernel)⟩
theorem lv_X8_127 : sk_lkV RX8 127 m_X4_isMember 1 := ⟨⟨by decide, by decide, by decide +kernel⟩, sk_in 515 (by decide +kernel) (by decide +kernel), sk_in 516 (by decide +kernel) (by decide +kernel), sk_in 517 (by decide +kernel) (by decide +kernel), sk_in 89 (by decide +kernel) (by decide +kernel), sk_in 518 (by decide +kernel) (by decide +kernel)⟩
theorem lv_X8_146 : sk_lkV RX8 146 m_X4_countScores 0 := ⟨⟨by decide, by decide, by decide +kernel⟩, sk_in 569 (by decide +kernel) (by decide +kernel), sk_in 570 (by decide +kernel) (by decide +kernel), sk_in 571 (by decide +kernel) (by decide +kernel), sk_in 89 (by decide +kernel) (by decide +kernel), sk_in 572 (by decide +kernel) (by decide +kernel)⟩
theorem lv_X8_152 : sk_lkV RX8 152 m_X8_levelAfterTest 1 := ⟨⟨by decide, by decide, by decide +kernel⟩, sk_in 585 (by decide +kernel) (by decide +kernel), sk_in 587 (by decide +kernel) (by decide +kernel), sk_in 4 (by decide +kernel) (by decide +kernel), sk_in 84 (by decide +kernel) (by decide +kernel), sk_in 588 (by decide +kernel) (by decide +kernel)⟩
theorem lv_X8_156 : sk_lkV RX8 156 m_X4_clearScores 0 := ⟨⟨by decide, by decide, by decide +kernel⟩, sk_in 598 (by decide +kernel) (by decide +kernel), sk_in 501 (by decide +kernel) (by decide +kernel), sk_in 502 (by decide +kernel) (by decide +kernel), sk_in 89 (by decide +kernel) (by decide +kernel), sk_in 503 (by decide +kernel) (by decide +kernel)⟩
theorem lv_X8_159 : sk_lkV RX8 159 m_X8_hasGroup 1 := ⟨⟨by decide, by decide, by decide +kernel⟩, sk_in 599 (by decide +kernel) (by decide +kernel), sk_in 601 (by decide +kernel) (by decide +kernel), sk_in 5 (by decide +kernel) (by decide +kernel), sk_in 84 (by decide +kernel) (by decide +kernel), sk_in 602 (by decide +kernel) (by decide +kernel)⟩
theorem lv_X8_162 : sk_lkV RX8 162 m_X0_suits 1 := ⟨⟨by decide, by decide, by decide +kernel⟩, sk_in 603 (by decide +kernel) (by decide +kernel), sk_in 604 (by decide +kernel) (by decide +kernel), sk_in 605 (by decide +kernel) (by decide +kernel), sk_in 90 (by decide +kernel) (by decide +kernel), sk_in 606 (by decide +kernel) (by decide +kernel)⟩
theorem lv_X8_169 : sk_lkV RX8 169 m_X8_freeGroupNumber 0 := ⟨⟨by decide, by decide, by decide +kernel⟩, sk_in 621 (by decide +kernel) (by decide +kernel), sk_in 623 (by decide +kernel) (by decide +kernel), sk_in 6 (by decide +kernel) (by decide +kernel), sk_in 84 (by decide +kernel) (by decide +kernel), sk_in 624 (by decide +kernel) (by decide +kernel)⟩
theorem lv_X8_172 : sk_lkV RX8 172 m_X0_begin 3 := ⟨⟨by decide, by decide, by decide +kernel⟩, sk_in 625 (by decide +kernel) (by decide +kernel), sk_in 626 (by decide +kernel) (by decide +kernel), sk_in 627 (by decide +kernel) (by decide +kernel), sk_in 90 (by decide +kernel) (by decide +kernel), sk_in 628 (by decide +kernel) (by decide +kernel)⟩
theorem lv_X8_175 : sk_lkV RX8 175 m_X4_isIn 1 := ⟨⟨by decide, by decide, by decide +kernel⟩, sk_in 633 (by decide +kernel) (by decide +kernel), sk_in 634 (by decide +kernel) (by decide +kernel), sk_in 635 (by decide +kernel) (by decide +kernel), sk_in 89 (by decide +kernel) (by decide +kernel), sk_in 636 (by decide +kernel) (by decide +kernel)⟩
theorem lv_X8_178 : sk_lkV RX8 178 m_X0_end 0 := ⟨⟨by decide, by decide, by decide +kernel⟩, sk_in 637 (by decide +kernel) (by decide +kernel), sk_in 638 (by decide +kernel) (by decide +kernel), sk_in 639 (by decide +kernel) (by decide +kernel), sk_in 90 (by decide +kernel) (by decide +kernel), sk_in 640 (by decide +kernel) (by decide +kernel)⟩
theorem lv_X8_185 : sk_lkV RX8 185 m_X8_countPupilsIn 1 := ⟨⟨by decide, by decide, by decide +kernel⟩, sk_in 653 (by decide +kernel) (by decide +kernel), sk_in 655 (by decide +kernel) (by decide +kernel), sk_in 7 (by decide +kernel) (by decide +kernel), sk_in 84 (by decide +kernel) (by decide +kernel), sk_in 656 (by decide +kernel) (by decide +kernel)⟩
theorem lv_X8_191 : sk_lkV RX8 191 m_X3_findBest 3 := ⟨⟨by decide, by decide, by decide +kernel⟩, sk_in 665 (by decide +kernel) (by decide +kernel), sk_in 666 (by decide +kernel) (by decide +kernel), sk_in 667 (by decide +kernel) (by decide +kernel), sk_in 85 (by decide +kernel) (by decide +kernel), sk_in 668 (by decide +kernel) (by decide +kernel)⟩
theorem lv_X8_195 : sk_lkV RX8 195 m_X3_groupOf 1 := ⟨⟨by decide, by decide, by decide +kernel⟩, sk_in 714 (by decide +kernel) (by decide +kernel), sk_in 715 (by decide +kernel) (by decide +kernel), sk_in 716 (by decide +kernel) (by decide +kernel), sk_in 85 (by decide +kernel) (by decide +kernel), sk_in 717 (by decide +kernel) (by decide +kernel)⟩
theorem lv_X8_199 : sk_lkV RX8 199 m_X8_freeInstructorNumber 0 := ⟨⟨by decide, by decide, by decide +kernel⟩, sk_in 739 (by decide +kernel) (by decide +kernel), sk_in 741 (by decide +kernel) (by decide +kernel), sk_in 17 (by decide +kernel) (by decide +kernel), sk_in 84 (by decide +kernel) (by decide +kernel), sk_in 742 (by decide +kernel) (by decide +kernel)⟩
theorem lv_X8_202 : sk_lkV RX8 202 m_X1_begin 4 := ⟨⟨by decide, by decide, by decide +kernel⟩, sk_in 743 (by decide +kernel) (by decide +kernel), sk_in 744 (by decide +kernel) (by decide +kernel), sk_in 745 (by decide +kernel) (by decide +kernel), sk_in 91 (by decide +kernel) (by decide +kernel), sk_in 746 (by decide +kernel) (by decide +kernel)⟩
theorem lv_X8_205 : sk_lkV RX8 205 m_X8_hasInstructor 1 := ⟨⟨by decide, by decide, by decide +kernel⟩, sk_in 751 (by decide +kernel) (by decide +kernel), sk_in 753 (by decide +kernel) (by decide +kernel), sk_in 18 (by decide +kernel) (by decide +kernel), sk_in 84 (by decide +kernel) (by decide +kernel), sk_in 754 (by decide +kernel) (by decide +kernel)⟩
theorem lv_X8_211 : sk_lkV RX8 211 m_X1_teaches 1 := ⟨⟨by decide, by decide, by decide +kernel⟩, sk_in 763 (by decide +kernel) (by decide +kernel), sk_in 764 (by decide +kernel) (by decide +kernel), sk_in 765 (by decide +kernel) (by decide +kernel), sk_in 91 (by decide +kernel) (by decide +kernel), sk_in 766 (by decide +kernel) (by decide +kernel)⟩
theorem lv_X8_218 : sk_lkV RX8 218 m_X8_isActive 1 := ⟨⟨by decide, by decide, by decide +kernel⟩, sk_in 772 (by decide +kernel) (by decide +kernel), sk_in 774 (by decide +kernel) (by decide +kernel), sk_in 19 (by decide +kernel) (by decide +kernel), sk_in 84 (by decide +kernel) (by decide +kernel), sk_in 775 (by decide +kernel) (by decide +kernel)⟩
theorem lv_X8_221 : sk_lkV RX8 221 m_X7_findBest 2 := ⟨⟨by decide, by decide, by decide +kernel⟩, sk_in 776 (by decide +kernel) (by decide +kernel), sk_in 777 (by decide +kernel) (by decide +kernel), sk_in 778 (by decide +kernel) (by decide +kernel), sk_in 86 (by decide +kernel) (by decide +kernel), sk_in 779 (by decide +kernel) (by decide +kernel)⟩
theorem lv_X8_227 : sk_lkV RX8 227 m_X8_isPaid 1 := ⟨⟨by decide, by decide, by decide +kernel⟩, sk_in 789 (by decide +kernel) (by decide +kernel), sk_in 791 (by decide +kernel) (by decide +kernel), sk_in 20 (by decide +kernel) (by decide +kernel), sk_in 84 (by decide +kernel) (by decide +kernel), sk_in 792 (by decide +kernel) (by decide +kernel)⟩
theorem lv_X8_230 : sk_lkV RX8 230 m_X1_hasRoomFor 1 := ⟨⟨by decide, by decide, by decide +kernel⟩, sk_in 793 (by decide +kernel) (by decide +kernel), sk_in 794 (by decide +kernel) (by decide +kernel), sk_in 795 (by decide +kernel) (by decide +kernel), sk_in 91 (by decide +kernel) (by decide +kernel), sk_in 796 (by decide +kernel) (by decide +kernel)⟩
theorem lv_X8_248 : sk_lkV RX8 248 m_X8_hasLift 1 := ⟨⟨by decide, by decide, by decide +kernel⟩, sk_in 810 (by decide +kernel) (by decide +kernel), sk_in 812 (by decide +kernel) (by decide +kernel), sk_in 21 (by decide +kernel) (by decide +kernel), sk_in 84 (by decide +kernel) (by decide +kernel), sk_in 813 (by decide +kernel) (by decide +kernel)⟩
theorem lv_X8_263 : sk_lkV RX8 263 m_X8_countPersons 0 := ⟨⟨by decide, by decide, by decide +kernel⟩, sk_in 826 (by decide +kernel) (by decide +kernel), sk_in 828 (by decide +kernel) (by decide +kernel), sk_in 22 (by decide +kernel) (by decide +kernel), sk_in 84 (by decide +kernel) (by decide +kernel), sk_in 829 (by decide +kernel) (by decide +kernel)⟩
theorem lv_X8_266 : sk_lkV RX8 266 m_X6_begin 1 := ⟨⟨by decide, by decide, by decide +kernel⟩, sk_in 834 (by decide +kernel) (by decide +kernel), sk_in 835 (by decide +kernel) (by decide +kernel), sk_in 836 (by decide +kernel) (by decide +kernel), sk_in 87 (by decide +kernel) (by decide +kernel), sk_in 837 (by decide +kernel) (by decide +kernel)⟩
theorem lv_X8_269 : sk_lkV RX8 269 m_X6_run 4 := ⟨⟨by decide, by decide, by decide +kernel⟩, sk_in 839 (by decide +kernel) (by decide +kernel), sk_in 840 (by decide +kernel) (by decide +kernel), sk_in 841 (by decide +kernel) (by decide +kernel), sk_in 87 (by decide +kernel) (by decide +kernel), sk_in 842 (by decide +kernel) (by decide +kernel)⟩
theorem lv_X8_273 : sk_lkV RX8 273 m_X8_keepResults 0 := ⟨⟨by decide, by decide, by decide +kernel⟩, sk_in 870 (by decide +kernel) (by decide +kernel), sk_in 872 (by decide +kernel) (by decide +kernel), sk_in 29 (by decide +kernel) (by decide +kernel), sk_in 84 (by decide +kernel) (by decide +kernel), sk_in 873 (by decide +kernel) (by decide +kernel)⟩
theorem lv_X8_288 : sk_lkV RX8 288 m_X8_takesPart 1 := ⟨⟨by decide, by decide, by decide +kernel⟩, sk_in 830 (by decide +kernel) (by decide +kernel), sk_in 832 (by decide +kernel) (by decide +kernel), sk_in 23 (by decide +kernel) (by decide +kernel), sk_in 84 (by decide +kernel) (by decide +kernel), sk_in 833 (by decide +kernel) (by decide +kernel)⟩
theorem lv_X8_303 : sk_lkV RX8 303 m_X5_findFault 0 := ⟨⟨by decide, by decide, by decide +kernel⟩, sk_in 906 (by decide +kernel) (by decide +kernel), sk_in 907 (by decide +kernel) (by decide +kernel), sk_in 908 (by decide +kernel) (by decide +kernel), sk_in 88 (by decide +kernel) (by decide +kernel), sk_in 909 (by decide +kernel) (by decide +kernel)⟩
theorem lv_X8_309 : sk_lkV RX8 309 m_X5_readEntry 0 := ⟨⟨by decide, by decide, by decide +kernel⟩, sk_in 950 (by decide +kernel) (by decide +kernel), sk_in 911 (by decide +kernel) (by decide +kernel), sk_in 912 (by decide +kernel) (by decide +kernel), sk_in 88 (by decide +kernel) (by decide +kernel), sk_in 913 (by decide +kernel) (by decide +kernel)⟩
theorem lv_X8_313 : sk_lkV RX8 313 m_X8_carryOutEntry 0 := ⟨⟨by decide, by decide, by decide +kernel⟩, sk_in 951 (by decide +kernel) (by decide +kernel), sk_in 953 (by decide +kernel) (by decide +kernel), sk_in 39 (by decide +kernel) (by decide +kernel), sk_in 84 (by decide +kernel) (by decide +kernel), sk_in 954 (by decide +kernel) (by decide +kernel)⟩
theorem lv_X8_322 : sk_lkV RX8 322 m_X8_groups 0 := ⟨⟨by decide, by decide, by decide +kernel⟩, sk_in 967 (by decide +kernel) (by decide +kernel), sk_in 642 (by decide +kernel) (by decide +kernel), sk_in 643 (by decide +kernel) (by decide +kernel), sk_in 84 (by decide +kernel) (by decide +kernel), sk_in 644 (by decide +kernel) (by decide +kernel)⟩
theorem lv_X8_325 : sk_lkV RX8 325 m_X8_instructors 0 := ⟨⟨by decide, by decide, by decide +kernel⟩, sk_in 968 (by decide +kernel) (by decide +kernel), sk_in 756 (by decide +kernel) (by decide +kernel), sk_in 757 (by decide +kernel) (by decide +kernel), sk_in 84 (by decide +kernel) (by decide +kernel), sk_in 758 (by decide +kernel) (by decide +kernel)⟩
theorem lv_X8_328 : sk_lkV RX8 328 m_X8_mixPupils 1 := ⟨⟨by decide, by decide, by decide +kernel⟩, sk_in 969 (by decide +kernel) (by decide +kernel), sk_in 971 (by decide +kernel) (by decide +kernel), sk_in 40 (by decide +kernel) (by decide +kernel), sk_in 84 (by decide +kernel) (by decide +kernel), sk_in 972 (by decide +kernel) (by decide +kernel)⟩
theorem lv_X8_332 : sk_lkV RX8 332 m_X8_spread 1 := ⟨⟨by decide, by decide, by decide +kernel⟩, sk_in 978 (by decide +kernel) (by decide +kernel), sk_in 553 (by decide +kernel) (by decide +kernel), sk_in 554 (by decide +kernel) (by decide +kernel), sk_in 84 (by decide +kernel) (by decide +kernel), sk_in 555 (by decide +kernel) (by decide +kernel)⟩
theorem lv_X8_335 : sk_lkV RX8 335 m_X8_mixGroups 1 := ⟨⟨by decide, by decide, by decide +kernel⟩, sk_in 979 (by decide +kernel) (by decide +kernel), sk_in 981 (by decide +kernel) (by decide +kernel), sk_in 41 (by decide +kernel) (by decide +kernel), sk_in 84 (by decide +kernel) (by decide +kernel), sk_in 982 (by decide +kernel) (by decide +kernel)⟩
theorem lv_X8_338 : sk_lkV RX8 338 m_X8_mixInstructorsAndLifts 1 := ⟨⟨by decide, by decide, by decide +kernel⟩, sk_in 988 (by decide +kernel) (by decide +kernel), sk_in 990 (by decide +kernel) (by decide +kernel), sk_in 42 (by decide +kernel) (by decide +kernel), sk_in 84 (by decide +kernel) (by decide +kernel), sk_in 991 (by decide +kernel) (by decide +kernel)⟩
theorem lv_X8_341 : sk_lkV RX8 341 m_X8_placed 0 := ⟨⟨by decide, by decide, by decide +kernel⟩, sk_in 995 (by decide +kernel) (by decide +kernel), sk_in 719 (by decide +kernel) (by decide +kernel), sk_in 720 (by decide +kernel) (by decide +kernel), sk_in 84 (by decide +kernel) (by decide +kernel), sk_in 721 (by decide +kernel) (by decide +kernel)⟩
theorem lv_X8_344 : sk_lkV RX8 344 m_X8_outOfLevel 0 := ⟨⟨by decide, by decide, by decide +kernel⟩, sk_in 996 (by decide +kernel) (by decide +kernel), sk_in 723 (by decide +kernel) (by decide +kernel), sk_in 724 (by decide +kernel) (by decide +kernel), sk_in 84 (by decide +kernel) (by decide +kernel), sk_in 725 (by decide +kernel) (by decide +kernel)⟩
theorem lv_X8_349 : sk_lkV RX8 349 m_X8_level 1 := ⟨⟨by decide, by decide, by decide +kernel⟩, sk_in 973 (by decide +kernel) (by decide +kernel), sk_in 533 (by decide +kernel) (by decide +kernel), sk_in 534 (by decide +kernel) (by decide +kernel), sk_in 84 (by decide +kernel) (by decide +kernel), sk_in 535 (by decide +kernel) (by decide +kernel)⟩
theorem lv_X8_351 : sk_lkV RX8 351 m_X8_languages 1 := ⟨⟨by decide, by decide, by decide +kernel⟩, sk_in 974 (by decide +kernel) (by decide +kernel), sk_in 537 (by decide +kernel) (by decide +kernel), sk_in 538 (by decide +kernel) (by decide +kernel), sk_in 84 (by decide +kernel) (by decide +kernel), sk_in 539 (by decide +kernel) (by decide +kernel)⟩
theorem lv_X8_353 : sk_lkV RX8 353 m_X8_family 1 := ⟨⟨by decide, by decide, by decide +kernel⟩, sk_in 975 (by decide +kernel) (by decide +kernel), sk_in 541 (by decide +kernel) (by decide +kernel), sk_in 542 (by decide +kernel) (by decide +kernel), sk_in 84 (by decide +kernel) (by decide +kernel), sk_in 543 (by decide +kernel) (by decide +kernel)⟩
theorem lv_X8_355 : sk_lkV RX8 355 m_X8_group 1 := ⟨⟨by decide, by decide, by decide +kernel⟩, sk_in 976 (by decide +kernel) (by decide +kernel), sk_in 545 (by decide +kernel) (by decide +kernel), sk_in 546 (by decide +kernel) (by decide +kernel), sk_in 84 (by decide +kernel) (by decide +kernel), sk_in 547 (by decide +kernel) (by decide +kernel)⟩
theorem lv_X8_357 : sk_lkV RX8 357 m_X8_scoreOf 2 := ⟨⟨by decide, by decide, by decide +kernel⟩, sk_in 977 (by decide +kernel) (by decide +kernel), sk_in 574 (by decide +kernel) (by decide +kernel), sk_in 575 (by decide +kernel) (by decide +kernel), sk_in 84 (by decide +kernel) (by decide +kernel), sk_in 576 (by decide +kernel) (by decide +kernel)⟩
theorem lv_X8_360 : sk_lkV RX8 360 m_X8_groupLevel 1 := ⟨⟨by decide, by decide, by decide +kernel⟩, sk_in 983 (by decide +kernel) (by decide +kernel), sk_in 646 (by decide +kernel) (by decide +kernel), sk_in 647 (by decide +kernel) (by decide +kernel), sk_in 84 (by decide +kernel) (by decide +kernel), sk_in 648 (by decide +kernel) (by decide +kernel)⟩
theorem lv_X8_363 : sk_lkV RX8 363 m_X8_size 1 := ⟨⟨by decide, by decide, by decide +kernel⟩, sk_in 984 (by decide +kernel) (by decide +kernel), sk_in 650 (by decide +kernel) (by decide +kernel), sk_in 651 (by decide +kernel) (by decide +kernel), sk_in 84 (by decide +kernel) (by decide +kernel), sk_in 652 (by decide +kernel) (by decide +kernel)⟩
theorem lv_X8_366 : sk_lkV RX8 366 m_X8_instructor 1 := ⟨⟨by decide, by decide, by decide +kernel⟩, sk_in 985 (by decide +kernel) (by decide +kernel), sk_in 658 (by decide +kernel) (by decide +kernel), sk_in 659 (by decide +kernel) (by decide +kernel), sk_in 84 (by decide +kernel) (by decide +kernel), sk_in 660 (by decide +kernel) (by decide +kernel)⟩
theorem lv_X8_368 : sk_lkV RX8 368 m_X8_waited 1 := ⟨⟨by decide, by decide, by decide +kernel⟩, sk_in 986 (by decide +kernel) (by decide +kernel), sk_in 875 (by decide +kernel) (by decide +kernel), sk_in 876 (by decide +kernel) (by decide +kernel), sk_in 84 (by decide +kernel) (by decide +kernel), sk_in 877 (by decide +kernel) (by decide +kernel)⟩
theorem lv_X8_370 : sk_lkV RX8 370 m_X8_rides 1 := ⟨⟨by decide, by decide, by decide +kernel⟩, sk_in 987 (by decide +kernel) (by decide +kernel), sk_in 879 (by decide +kernel) (by decide +kernel), sk_in 880 (by decide +kernel) (by decide +kernel), sk_in 84 (by decide +kernel) (by decide +kernel), sk_in 881 (by decide +kernel) (by decide +kernel)⟩
theorem lv_X8_372 : sk_lkV RX8 372 m_X8_earnings 1 := ⟨⟨by decide, by decide, by decide +kernel⟩, sk_in 992 (by decide +kernel) (by decide +kernel), sk_in 799 (by decide +kernel) (by decide +kernel), sk_in 800 (by decide +kernel) (by decide +kernel), sk_in 84 (by decide +kernel) (by decide +kernel), sk_in 801 (by decide +kernel) (by decide +kernel)⟩
theorem lv_X8_375 : sk_lkV RX8 375 m_X8_longestQueue 1 := ⟨⟨by decide, by decide, by decide +kernel⟩, sk_in 993 (by decide +kernel) (by decide +kernel), sk_in 883 (by decide +kernel) (by decide +kernel), sk_in 884 (by decide +kernel) (by decide +kernel), sk_in 84 (by decide +kernel) (by decide +kernel), sk_in 885 (by decide +kernel) (by decide +kernel)⟩
theorem lv_X8_378 : sk_lkV RX8 378 m_X8_carried 1 := ⟨⟨by decide, by decide, by decide +kernel⟩, sk_in 994 (by decide +kernel) (by decide +kernel), sk_in 887 (by decide +kernel) (by decide +kernel), sk_in 888 (by decide +kernel) (by decide +kernel), sk_in 84 (by decide +kernel) (by decide +kernel), sk_in 889 (by decide +kernel) (by decide +kernel)⟩
theorem lv_X8_381 : sk_lkV RX8 381 m_X8_isInOnePlace 1 := ⟨⟨by decide, by decide, by decide +kernel⟩, sk_in 511 (by decide +kernel) (by decide +kernel), sk_in 513 (by decide +kernel) (by decide +kernel), sk_in 2 (by decide +kernel) (by decide +kernel), sk_in 84 (by decide +kernel) (by decide +kernel), sk_in 514 (by decide +kernel) (by decide +kernel)⟩
theorem lv_X8_384 : sk_lkV RX8 384 m_X4_sumScores 0 := ⟨⟨by decide, by decide, by decide +kernel⟩, sk_in 589 (by decide +kernel) (by decide +kernel), sk_in 590 (by decide +kernel) (by decide +kernel), sk_in 591 (by decide +kernel) (by decide +kernel), sk_in 89 (by decide +kernel) (by decide +kernel), sk_in 592 (by decide +kernel) (by decide +kernel)⟩
theorem lv_X8_387 : sk_lkV RX8 387 m_X4_lowestScore 0 := ⟨⟨by decide, by decide, by decide +kernel⟩, sk_in 593 (by decide +kernel) (by decide +kernel), sk_in 594 (by decide +kernel) (by decide +kernel), sk_in 595 (by decide +kernel) (by decide +kernel), sk_in 89 (by decide +kernel) (by decide +kernel), sk_in 596 (by decide +kernel) (by decide +kernel)⟩
theorem lv_X8_406 : sk_lkV RX8 406 m_X8_addPupil 3 := ⟨⟨by decide, by decide, by decide +kernel⟩, sk_in 955 (by decide +kernel) (by decide +kernel), sk_in 483 (by decide +kernel) (by decide +kernel), sk_in 484 (by decide +kernel) (by decide +kernel), sk_in 84 (by decide +kernel) (by decide +kernel), sk_in 485 (by decide +kernel) (by decide +kernel)⟩
theorem lv_X8_416 : sk_lkV RX8 416 m_X8_openGroup 3 := ⟨⟨by decide, by decide, by decide +kernel⟩, sk_in 956 (by decide +kernel) (by decide +kernel), sk_in 615 (by decide +kernel) (by decide +kernel), sk_in 616 (by decide +kernel) (by decide +kernel), sk_in 84 (by decide +kernel) (by decide +kernel), sk_in 617 (by decide +kernel) (by decide +kernel)⟩
theorem lv_X8_426 : sk_lkV RX8 426 m_X8_hire 4 := ⟨⟨by decide, by decide, by decide +kernel⟩, sk_in 957 (by decide +kernel) (by decide +kernel), sk_in 735 (by decide +kernel) (by decide +kernel), sk_in 736 (by decide +kernel) (by decide +kernel), sk_in 84 (by decide +kernel) (by decide +kernel), sk_in 737 (by decide +kernel) (by decide +kernel)⟩
theorem lv_X9_172 : sk_lkV RX9 172 m_X9_isOf 2 := ⟨⟨by decide, by decide, by decide +kernel⟩, sk_in 1212 (by decide +kernel) (by decide +kernel), sk_in 1214 (by decide +kernel) (by decide +kernel), sk_in 45 (by decide +kernel) (by decide +kernel), sk_in 93 (by decide +kernel) (by decide +kernel), sk_in 1215 (by decide +kernel) (by decide +kernel)⟩
theorem lv_X9_176 : sk_lkV RX9 176 m_X9_leaveAll 1 := ⟨⟨by decide, by decide, by decide +kernel⟩, sk_in 1216 (by decide +kernel) (by decide +kernel), sk_in 1218 (by decide +kernel) (by decide +kernel), sk_in 46 (by decide +kernel) (by decide +kernel), sk_in 93 (by decide +kernel) (by decide +kernel), sk_in 1219 (by decide +kernel) (by decide +kernel)⟩
theorem lv_X9_190 : sk_lkV RX9 190 m_X9_pupilMany 0 := ⟨⟨by decide, by decide, by decide +kernel⟩, sk_in 1204 (by decide +kernel) (by decide +kernel), sk_in 1206 (by decide +kernel) (by decide +kernel), sk_in 43 (by decide +kernel) (by decide +kernel), sk_in 93 (by decide +kernel) (by decide +kernel), sk_in 1207 (by decide +kernel) (by decide +kernel)⟩
theorem lv_X9_194 : sk_lkV RX9 194 m_X9_keepRule 1 := ⟨⟨by decide, by decide, by decide +kernel⟩, sk_in 1208 (by decide +kernel) (by decide +kernel), sk_in 1210 (by decide +kernel) (by decide +kernel), sk_in 44 (by decide +kernel) (by decide +kernel), sk_in 93 (by decide +kernel) (by decide +kernel), sk_in 1211 (by decide +kernel) (by decide +kernel)⟩
theorem lv_X9_197 : sk_lkV RX9 197 m_X9_hasPupil 1 := ⟨⟨by decide, by decide, by decide +kernel⟩, sk_in 1224 (by decide +kernel) (by decide +kernel), sk_in 1226 (by decide +kernel) (by decide +kernel), sk_in 47 (by decide +kernel) (by decide +kernel), sk_in 93 (by decide +kernel) (by decide +kernel), sk_in 1227 (by decide +kernel) (by decide +kernel)⟩
theorem lv_X9_200 : sk_lkV RX9 200 m_X9_spreadOf 1 := ⟨⟨by decide, by decide, by decide +kernel⟩, sk_in 1256 (by decide +kernel) (by decide +kernel), sk_in 1258 (by decide +kernel) (by decide +kernel), sk_in 48 (by decide +kernel) (by decide +kernel), sk_in 93 (by decide +kernel) (by decide +kernel), sk_in 1259 (by decide +kernel) (by decide +kernel)⟩
theorem lv_X9_206 : sk_lkV RX9 206 m_X9_scoreMany 1 := ⟨⟨by decide, by decide, by decide +kernel⟩, sk_in 1267 (by decide +kernel) (by decide +kernel), sk_in 1269 (by decide +kernel) (by decide +kernel), sk_in 49 (by decide +kernel) (by decide +kernel), sk_in 93 (by decide +kernel) (by decide +kernel), sk_in 1270 (by decide +kernel) (by decide +kernel)⟩
theorem lv_X9_212 : sk_lkV RX9 212 m_X9_isFitting 3 := ⟨⟨by decide, by decide, by decide +kernel⟩, sk_in 1283 (by decide +kernel) (by decide +kernel), sk_in 1285 (by decide +kernel) (by decide +kernel), sk_in 50 (by decide +kernel) (by decide +kernel), sk_in 93 (by decide +kernel) (by decide +kernel), sk_in 1286 (by decide +kernel) (by decide +kernel)⟩
theorem lv_X9_218 : sk_lkV RX9 218 m_X9_groupMany 0 := ⟨⟨by decide, by decide, by decide +kernel⟩, sk_in 1298 (by decide +kernel) (by decide +kernel), sk_in 1300 (by decide +kernel) (by decide +kernel), sk_in 51 (by decide +kernel) (by decide +kernel), sk_in 93 (by decide +kernel) (by decide +kernel), sk_in 1301 (by decide +kernel) (by decide +kernel)⟩
theorem lv_X9_221 : sk_lkV RX9 221 m_X9_freeGroup 0 := ⟨⟨by decide, by decide, by decide +kernel⟩, sk_in 1302 (by decide +kernel) (by decide +kernel), sk_in 1304 (by decide +kernel) (by decide +kernel), sk_in 52 (by decide +kernel) (by decide +kernel), sk_in 93 (by decide +kernel) (by decide +kernel), sk_in 1305 (by decide +kernel) (by decide +kernel)⟩
theorem lv_X9_224 : sk_lkV RX9 224 m_X9_sizeOf 1 := ⟨⟨by decide, by decide, by decide +kernel⟩, sk_in 1314 (by decide +kernel) (by decide +kernel), sk_in 1316 (by decide +kernel) (by decide +kernel), sk_in 54 (by decide +kernel) (by decide +kernel), sk_in 93 (by decide +kernel) (by decide +kernel), sk_in 1317 (by decide +kernel) (by decide +kernel)⟩
theorem lv_X9_227 : sk_lkV RX9 227 m_X9_hasGroup 1 := ⟨⟨by decide, by decide, by decide +kernel⟩, sk_in 1310 (by decide +kernel) (by decide +kernel), sk_in 1312 (by decide +kernel) (by decide +kernel), sk_in 53 (by decide +kernel) (by decide +kernel), sk_in 93 (by decide +kernel) (by decide +kernel), sk_in 1313 (by decide +kernel) (by decide +kernel)⟩
theorem lv_X9_233 : sk_lkV RX9 233 m_X9_addOut 3 := ⟨⟨by decide, by decide, by decide +kernel⟩, sk_in 1350 (by decide +kernel) (by decide +kernel), sk_in 1352 (by decide +kernel) (by decide +kernel), sk_in 58 (by decide +kernel) (by decide +kernel), sk_in 93 (by decide +kernel) (by decide +kernel), sk_in 1353 (by decide +kernel) (by decide +kernel)⟩
theorem lv_X9_240 : sk_lkV RX9 240 m_X9_findUnits 1 := ⟨⟨by decide, by decide, by decide +kernel⟩, sk_in 1346 (by decide +kernel) (by decide +kernel), sk_in 1348 (by decide +kernel) (by decide +kernel), sk_in 57 (by decide +kernel) (by decide +kernel), sk_in 93 (by decide +kernel) (by decide +kernel), sk_in 1349 (by decide +kernel) (by decide +kernel)⟩
theorem lv_X9_244 : sk_lkV RX9 244 m_X9_mayGet 3 := ⟨⟨by decide, by decide, by decide +kernel⟩, sk_in 1354 (by decide +kernel) (by decide +kernel), sk_in 1356 (by decide +kernel) (by decide +kernel), sk_in 59 (by decide +kernel) (by decide +kernel), sk_in 93 (by decide +kernel) (by decide +kernel), sk_in 1357 (by decide +kernel) (by decide +kernel)⟩
theorem lv_X9_247 : sk_lkV RX9 247 m_X9_worthOf 3 := ⟨⟨by decide, by decide, by decide +kernel⟩, sk_in 1361 (by decide +kernel) (by decide +kernel), sk_in 1363 (by decide +kernel) (by decide +kernel), sk_in 60 (by decide +kernel) (by decide +kernel), sk_in 93 (by decide +kernel) (by decide +kernel), sk_in 1364 (by decide +kernel) (by decide +kernel)⟩
theorem lv_X9_251 : sk_lkV RX9 251 m_X9_planGroups 0 := ⟨⟨by decide, by decide, by decide +kernel⟩, sk_in 1338 (by decide +kernel) (by decide +kernel), sk_in 1340 (by decide +kernel) (by decide +kernel), sk_in 55 (by decide +kernel) (by decide +kernel), sk_in 93 (by decide +kernel) (by decide +kernel), sk_in 1341 (by decide +kernel) (by decide +kernel)⟩
theorem lv_X9_254 : sk_lkV RX9 254 m_X9_plan 1 := ⟨⟨by decide, by decide, by decide +kernel⟩, sk_in 1342 (by decide +kernel) (by decide +kernel), sk_in 1344 (by decide +kernel) (by decide +kernel), sk_in 56 (by decide +kernel) (by decide +kernel), sk_in 93 (by decide +kernel) (by decide +kernel), sk_in 1345 (by decide +kernel) (by decide +kernel)⟩
theorem lv_X9_257 : sk_lkV RX9 257 m_X9_placedMany 0 := ⟨⟨by decide, by decide, by decide +kernel⟩, sk_in 1369 (by decide +kernel) (by decide +kernel), sk_in 1371 (by decide +kernel) (by decide +kernel), sk_in 61 (by decide +kernel) (by decide +kernel), sk_in 93 (by decide +kernel) (by decide +kernel), sk_in 1372 (by decide +kernel) (by decide +kernel)⟩
theorem lv_X9_260 : sk_lkV RX9 260 m_X9_outMany 0 := ⟨⟨by decide, by decide, by decide +kernel⟩, sk_in 1377 (by decide +kernel) (by decide +kernel), sk_in 1379 (by decide +kernel) (by decide +kernel), sk_in 62 (by decide +kernel) (by decide +kernel), sk_in 93 (by decide +kernel) (by decide +kernel), sk_in 1380 (by decide +kernel) (by decide +kernel)⟩
theorem lv_X9_264 : sk_lkV RX9 264 m_X9_instructorMany 0 := ⟨⟨by decide, by decide, by decide +kernel⟩, sk_in 1394 (by decide +kernel) (by decide +kernel), sk_in 1396 (by decide +kernel) (by decide +kernel), sk_in 63 (by decide +kernel) (by decide +kernel), sk_in 93 (by decide +kernel) (by decide +kernel), sk_in 1397 (by decide +kernel) (by decide +kernel)⟩
theorem lv_X9_267 : sk_lkV RX9 267 m_X9_hasInstructor 1 := ⟨⟨by decide, by decide, by decide +kernel⟩, sk_in 1402 (by decide +kernel) (by decide +kernel), sk_in 1404 (by decide +kernel) (by decide +kernel), sk_in 64 (by decide +kernel) (by decide +kernel), sk_in 93 (by decide +kernel) (by decide +kernel), sk_in 1405 (by decide +kernel) (by decide +kernel)⟩
theorem lv_X9_270 : sk_lkV RX9 270 m_X9_isTeaching 2 := ⟨⟨by decide, by decide, by decide +kernel⟩, sk_in 1414 (by decide +kernel) (by decide +kernel), sk_in 1416 (by decide +kernel) (by decide +kernel), sk_in 65 (by decide +kernel) (by decide +kernel), sk_in 93 (by decide +kernel) (by decide +kernel), sk_in 1417 (by decide +kernel) (by decide +kernel)⟩
theorem lv_X9_277 : sk_lkV RX9 277 m_X9_isActive 1 := ⟨⟨by decide, by decide, by decide +kernel⟩, sk_in 1429 (by decide +kernel) (by decide +kernel), sk_in 1431 (by decide +kernel) (by decide +kernel), sk_in 67 (by decide +kernel) (by decide +kernel), sk_in 93 (by decide +kernel) (by decide +kernel), sk_in 1432 (by decide +kernel) (by decide +kernel)⟩
theorem lv_X9_280 : sk_lkV RX9 280 m_X9_costOf 1 := ⟨⟨by decide, by decide, by decide +kernel⟩, sk_in 1422 (by decide +kernel) (by decide +kernel), sk_in 1424 (by decide +kernel) (by decide +kernel), sk_in 66 (by decide +kernel) (by decide +kernel), sk_in 93 (by decide +kernel) (by decide +kernel), sk_in 1425 (by decide +kernel) (by decide +kernel)⟩
theorem lv_X9_287 : sk_lkV RX9 287 m_X9_hasLift 1 := ⟨⟨by decide, by decide, by decide +kernel⟩, sk_in 1450 (by decide +kernel) (by decide +kernel), sk_in 1452 (by decide +kernel) (by decide +kernel), sk_in 68 (by decide +kernel) (by decide +kernel), sk_in 93 (by decide +kernel) (by decide +kernel), sk_in 1453 (by decide +kernel) (by decide +kernel)⟩
theorem lv_X9_290 : sk_lkV RX9 290 m_X9_takesPart 1 := ⟨⟨by decide, by decide, by decide +kernel⟩, sk_in 1477 (by decide +kernel) (by decide +kernel), sk_in 1479 (by decide +kernel) (by decide +kernel), sk_in 71 (by decide +kernel) (by decide +kernel), sk_in 93 (by decide +kernel) (by decide +kernel), sk_in 1480 (by decide +kernel) (by decide +kernel)⟩
theorem lv_X9_293 : sk_lkV RX9 293 m_X9_leave 2 := ⟨⟨by decide, by decide, by decide +kernel⟩, sk_in 1485 (by decide +kernel) (by decide +kernel), sk_in 1487 (by decide +kernel) (by decide +kernel), sk_in 73 (by decide +kernel) (by decide +kernel), sk_in 93 (by decide +kernel) (by decide +kernel), sk_in 1488 (by decide +kernel) (by decide +kernel)⟩
theorem lv_X9_297 : sk_lkV RX9 297 m_X9_begin 0 := ⟨⟨by decide, by decide, by decide +kernel⟩, sk_in 1473 (by decide +kernel) (by decide +kernel), sk_in 1475 (by decide +kernel) (by decide +kernel), sk_in 70 (by decide +kernel) (by decide +kernel), sk_in 93 (by decide +kernel) (by decide +kernel), sk_in 1476 (by decide +kernel) (by decide +kernel)⟩
theorem lv_X9_300 : sk_lkV RX9 300 m_X9_depart 2 := ⟨⟨by decide, by decide, by decide +kernel⟩, sk_in 1481 (by decide +kernel) (by decide +kernel), sk_in 1483 (by decide +kernel) (by decide +kernel), sk_in 72 (by decide +kernel) (by decide +kernel), sk_in 93 (by decide +kernel) (by decide +kernel), sk_in 1484 (by decide +kernel) (by decide +kernel)⟩
theorem lv_X9_306 : sk_lkV RX9 306 m_X9_goThrough 1 := ⟨⟨by decide, by decide, by decide +kernel⟩, sk_in 1469 (by decide +kernel) (by decide +kernel), sk_in 1471 (by decide +kernel) (by decide +kernel), sk_in 69 (by decide +kernel) (by decide +kernel), sk_in 93 (by decide +kernel) (by decide +kernel), sk_in 1472 (by decide +kernel) (by decide +kernel)⟩
theorem lv_X9_315 : sk_lkV RX9 315 m_X9_next 0 := ⟨⟨by decide, by decide, by decide +kernel⟩, sk_in 1529 (by decide +kernel) (by decide +kernel), sk_in 1531 (by decide +kernel) (by decide +kernel), sk_in 76 (by decide +kernel) (by decide +kernel), sk_in 93 (by decide +kernel) (by decide +kernel), sk_in 1532 (by decide +kernel) (by decide +kernel)⟩
theorem lv_X9_324 : sk_lkV RX9 324 m_X9_readsDigit 2 := ⟨⟨by decide, by decide, by decide +kernel⟩, sk_in 1537 (by decide +kernel) (by decide +kernel), sk_in 1539 (by decide +kernel) (by decide +kernel), sk_in 78 (by decide +kernel) (by decide +kernel), sk_in 93 (by decide +kernel) (by decide +kernel), sk_in 1540 (by decide +kernel) (by decide +kernel)⟩
theorem lv_X9_330 : sk_lkV RX9 330 m_X9_readsSet 0 := ⟨⟨by decide, by decide, by decide +kernel⟩, sk_in 1541 (by decide +kernel) (by decide +kernel), sk_in 1543 (by decide +kernel) (by decide +kernel), sk_in 79 (by decide +kernel) (by decide +kernel), sk_in 93 (by decide +kernel) (by decide +kernel), sk_in 1544 (by decide +kernel) (by decide +kernel)⟩
theorem lv_X9_337 : sk_lkV RX9 337 m_X9_takes 1 := ⟨⟨by decide, by decide, by decide +kernel⟩, sk_in 1525 (by decide +kernel) (by decide +kernel), sk_in 1527 (by decide +kernel) (by decide +kernel), sk_in 75 (by decide +kernel) (by decide +kernel), sk_in 93 (by decide +kernel) (by decide +kernel), sk_in 1528 (by decide +kernel) (by decide +kernel)⟩
theorem lv_X9_340 : sk_lkV RX9 340 m_X9_readsWage 0 := ⟨⟨by decide, by decide, by decide +kernel⟩, sk_in 1555 (by decide +kernel) (by decide +kernel), sk_in 1557 (by decide +kernel) (by decide +kernel), sk_in 82 (by decide +kernel) (by decide +kernel), sk_in 93 (by decide +kernel) (by decide +kernel), sk_in 1558 (by decide +kernel) (by decide +kernel)⟩
theorem lv_X9_343 : sk_lkV RX9 343 m_X9_readsPupil 0 := ⟨⟨by decide, by decide, by decide +kernel⟩, sk_in 1533 (by decide +kernel) (by decide +kernel), sk_in 1535 (by decide +kernel) (by decide +kernel), sk_in 77 (by decide +kernel) (by decide +kernel), sk_in 93 (by decide +kernel) (by decide +kernel), sk_in 1536 (by decide +kernel) (by decide +kernel)⟩
theorem lv_X9_346 : sk_lkV RX9 346 m_X9_addPupil 3 := ⟨⟨by decide, by decide, by decide +kernel⟩, sk_in 1545 (by decide +kernel) (by decide +kernel), sk_in 1189 (by decide +kernel) (by decide +kernel), sk_in 1190 (by decide +kernel) (by decide +kernel), sk_in 93 (by decide +kernel) (by decide +kernel), sk_in 1191 (by decide +kernel) (by decide +kernel)⟩
theorem lv_X9_349 : sk_lkV RX9 349 m_X9_readsGroup 0 := ⟨⟨by decide, by decide, by decide +kernel⟩, sk_in 1546 (by decide +kernel) (by decide +kernel), sk_in 1548 (by decide +kernel) (by decide +kernel), sk_in 80 (by decide +kernel) (by decide +kernel), sk_in 93 (by decide +kernel) (by decide +kernel), sk_in 1549 (by decide +kernel) (by decide +kernel)⟩
theorem lv_X9_352 : sk_lkV RX9 352 m_X9_openGroup 3 := ⟨⟨by decide, by decide, by decide +kernel⟩, sk_in 1550 (by decide +kernel) (by decide +kernel), sk_in 1292 (by decide +kernel) (by decide +kernel), sk_in 1293 (by decide +kernel) (by decide +kernel), sk_in 93 (by decide +kernel) (by decide +kernel), sk_in 1294 (by decide +kernel) (by decide +kernel)⟩
theorem lv_X9_355 : sk_lkV RX9 355 m_X9_readsInstructor 0 := ⟨⟨by decide, by decide, by decide +kernel⟩, sk_in 1551 (by decide +kernel) (by decide +kernel), sk_in 1553 (by decide +kernel) (by decide +kernel), sk_in 81 (by decide +kernel) (by decide +kernel), sk_in 93 (by decide +kernel) (by decide +kernel), sk_in 1554 (by decide +kernel) (by decide +kernel)⟩
theorem lv_X9_358 : sk_lkV RX9 358 m_X9_hire 4 := ⟨⟨by decide, by decide, by decide +kernel⟩, sk_in 1559 (by decide +kernel) (by decide +kernel), sk_in 1390 (by decide +kernel) (by decide +kernel), sk_in 1391 (by decide +kernel) (by decide +kernel), sk_in 93 (by decide +kernel) (by decide +kernel), sk_in 1392 (by decide +kernel) (by decide +kernel)⟩
theorem lv_X9_362 : sk_lkV RX9 362 m_X9_entry 1 := ⟨⟨by decide, by decide, by decide +kernel⟩, sk_in 1521 (by decide +kernel) (by decide +kernel), sk_in 1523 (by decide +kernel) (by decide +kernel), sk_in 74 (by decide +kernel) (by decide +kernel), sk_in 93 (by decide +kernel) (by decide +kernel), sk_in 1524 (by decide +kernel) (by decide +kernel)⟩
theorem ls_X3_74 : sk_lkS RX3 74 m_J7_fill_53178 2 := ⟨⟨by decide, by decide, by decide +kernel⟩, sk_in 673 (by decide +kernel) (by decide +kernel), sk_in 505 (by decide +kernel) (by decide +kernel), sk_in 94 (by decide +kernel) (by decide +kernel), sk_in 506 (by decide +kernel) (by decide +kernel)⟩
theorem ls_X4_38 : sk_lkS RX4 38 m_J7_fill_53178 2 := ⟨⟨by decide, by decide, by decide +kernel⟩, sk_in 504 (by decide +kernel) (by decide +kernel), sk_in 505 (by decide +kernel) (by decide +kernel), sk_in 94 (by decide +kernel) (by decide +kernel), sk_in 506 (by decide +kernel) (by decide +kernel)⟩
theorem ls_X6_50 : sk_lkS RX6 50 m_J7_fill_53178 2 := ⟨⟨by decide, by decide, by decide +kernel⟩, sk_in 838 (by decide +kernel) (by decide +kernel), sk_in 505 (by decide +kernel) (by decide +kernel), sk_in 94 (by decide +kernel) (by decide +kernel), sk_in 506 (by decide +kernel) (by decide +kernel)⟩
theorem ls_X7_27 : sk_lkS RX7 27 m_X7_tryFrom 6 := ⟨⟨by decide, by decide, by decide +kernel⟩, sk_in 780 (by decide +kernel) (by decide +kernel), sk_in 781 (by decide +kernel) (by decide +kernel), sk_in 86 (by decide +kernel) (by decide +kernel), sk_in 782 (by decide +kernel) (by decide +kernel)⟩
theorem ls_X8_85 : sk_lkS RX8 85 m_X8_within 3 := ⟨⟨by decide, by decide, by decide +kernel⟩, sk_in 486 (by decide +kernel) (by decide +kernel), sk_in 487 (by decide +kernel) (by decide +kernel), sk_in 84 (by decide +kernel) (by decide +kernel), sk_in 488 (by decide +kernel) (by decide +kernel)⟩
theorem ls_X8_89 : sk_lkS RX8 89 m_X8_isFamily 1 := ⟨⟨by decide, by decide, by decide +kernel⟩, sk_in 489 (by decide +kernel) (by decide +kernel), sk_in 490 (by decide +kernel) (by decide +kernel), sk_in 84 (by decide +kernel) (by decide +kernel), sk_in 491 (by decide +kernel) (by decide +kernel)⟩
theorem ls_X8_139 : sk_lkS RX8 139 m_X8_isExercise 1 := ⟨⟨by decide, by decide, by decide +kernel⟩, sk_in 566 (by decide +kernel) (by decide +kernel), sk_in 567 (by decide +kernel) (by decide +kernel), sk_in 84 (by decide +kernel) (by decide +kernel), sk_in 568 (by decide +kernel) (by decide +kernel)⟩
theorem ls_X8_166 : sk_lkS RX8 166 m_X8_isGroupKind 3 := ⟨⟨by decide, by decide, by decide +kernel⟩, sk_in 618 (by decide +kernel) (by decide +kernel), sk_in 619 (by decide +kernel) (by decide +kernel), sk_in 84 (by decide +kernel) (by decide +kernel), sk_in 620 (by decide +kernel) (by decide +kernel)⟩
theorem ls_X8_318 : sk_lkS RX8 318 m_X8_mix 2 := ⟨⟨by decide, by decide, by decide +kernel⟩, sk_in 963 (by decide +kernel) (by decide +kernel), sk_in 964 (by decide +kernel) (by decide +kernel), sk_in 84 (by decide +kernel) (by decide +kernel), sk_in 965 (by decide +kernel) (by decide +kernel)⟩
theorem ls_X9_168 : sk_lkS RX9 168 m_X9_within 3 := ⟨⟨by decide, by decide, by decide +kernel⟩, sk_in 1195 (by decide +kernel) (by decide +kernel), sk_in 1196 (by decide +kernel) (by decide +kernel), sk_in 93 (by decide +kernel) (by decide +kernel), sk_in 1197 (by decide +kernel) (by decide +kernel)⟩
theorem ls_X9_180 : sk_lkS RX9 180 m_X9_isLevel 1 := ⟨⟨by decide, by decide, by decide +kernel⟩, sk_in 1192 (by decide +kernel) (by decide +kernel), sk_in 1193 (by decide +kernel) (by decide +kernel), sk_in 93 (by decide +kernel) (by decide +kernel), sk_in 1194 (by decide +kernel) (by decide +kernel)⟩
theorem ls_X9_184 : sk_lkS RX9 184 m_X9_isLanguages 1 := ⟨⟨by decide, by decide, by decide +kernel⟩, sk_in 1198 (by decide +kernel) (by decide +kernel), sk_in 1199 (by decide +kernel) (by decide +kernel), sk_in 93 (by decide +kernel) (by decide +kernel), sk_in 1200 (by decide +kernel) (by decide +kernel)⟩
theorem ls_X9_187 : sk_lkS RX9 187 m_X9_isFamily 1 := ⟨⟨by decide, by decide, by decide +kernel⟩, sk_in 1201 (by decide +kernel) (by decide +kernel), sk_in 1202 (by decide +kernel) (by decide +kernel), sk_in 93 (by decide +kernel) (by decide +kernel), sk_in 1203 (by decide +kernel) (by decide +kernel)⟩
theorem ls_X9_203 : sk_lkS RX9 203 m_X9_isExercise 1 := ⟨⟨by decide, by decide, by decide +kernel⟩, sk_in 1264 (by decide +kernel) (by decide +kernel), sk_in 1265 (by decide +kernel) (by decide +kernel), sk_in 93 (by decide +kernel) (by decide +kernel), sk_in 1266 (by decide +kernel) (by decide +kernel)⟩
theorem ls_X9_215 : sk_lkS RX9 215 m_X9_areOfGroup 3 := ⟨⟨by decide, by decide, by decide +kernel⟩, sk_in 1295 (by decide +kernel) (by decide +kernel), sk_in 1296 (by decide +kernel) (by decide +kernel), sk_in 93 (by decide +kernel) (by decide +kernel), sk_in 1297 (by decide +kernel) (by decide +kernel)⟩
theorem ls_X9_237 : sk_lkS RX9 237 m_X9_power 1 := ⟨⟨by decide, by decide, by decide +kernel⟩, sk_in 1358 (by decide +kernel) (by decide +kernel), sk_in 1359 (by decide +kernel) (by decide +kernel), sk_in 93 (by decide +kernel) (by decide +kernel), sk_in 1360 (by decide +kernel) (by decide +kernel)⟩
theorem ls_X9_273 : sk_lkS RX9 273 m_X9_staffIn 2 := ⟨⟨by decide, by decide, by decide +kernel⟩, sk_in 1426 (by decide +kernel) (by decide +kernel), sk_in 1427 (by decide +kernel) (by decide +kernel), sk_in 93 (by decide +kernel) (by decide +kernel), sk_in 1428 (by decide +kernel) (by decide +kernel)⟩
theorem ls_X9_303 : sk_lkS RX9 303 m_X9_isTime 1 := ⟨⟨by decide, by decide, by decide +kernel⟩, sk_in 1466 (by decide +kernel) (by decide +kernel), sk_in 1467 (by decide +kernel) (by decide +kernel), sk_in 93 (by decide +kernel) (by decide +kernel), sk_in 1468 (by decide +kernel) (by decide +kernel)⟩
theorem ln_X1_39 : sk_lkN RX1 39 "SkiSchool" m_X8_within 3 := ⟨⟨by decide, by decide, by decide +kernel⟩, List.mem_of_getElem? (i := 684) (by decide +kernel), sk_in 487 (by decide +kernel) (by decide +kernel), sk_in 84 (by decide +kernel) (by decide +kernel), sk_in 488 (by decide +kernel) (by decide +kernel)⟩
theorem ln_X3_70 : sk_lkN RX3 70 "SkiSchool" m_X8_within 3 := ⟨⟨by decide, by decide, by decide +kernel⟩, List.mem_of_getElem? (i := 629) (by decide +kernel), sk_in 487 (by decide +kernel) (by decide +kernel), sk_in 84 (by decide +kernel) (by decide +kernel), sk_in 488 (by decide +kernel) (by decide +kernel)⟩
theorem ln_X3_97 : sk_lkN RX3 97 "SkiSchool" m_X8_isFamily 1 := ⟨⟨by decide, by decide, by decide +kernel⟩, List.mem_of_getElem? (i := 595) (by decide +kernel), sk_in 490 (by decide +kernel) (by decide +kernel), sk_in 84 (by decide +kernel) (by decide +kernel), sk_in 491 (by decide +kernel) (by decide +kernel)⟩
theorem ln_X6_80 : sk_lkN RX6 80 "SkiSchool" m_X8_within 3 := ⟨⟨by decide, by decide, by decide +kernel⟩, List.mem_of_getElem? (i := 765) (by decide +kernel), sk_in 487 (by decide +kernel) (by decide +kernel), sk_in 84 (by decide +kernel) (by decide +kernel), sk_in 488 (by decide +kernel) (by decide +kernel)⟩
end
section
/-! decompiled: X0_begin X0_end X0_suits X1_begin X8_within X1_teaches X1_hasRoomFor X2_departsAt X8_isFamily X3_newUnit X3_unitFor X3_addHead X3_gatherUnits X3_limitSeats X3_listOptions X3_countDown X3_chooseFor X3_followChoices X3_findBest X3_groupOf X4_clearScores X4_enrol X4_isMember X4_isIn X4_countScores X4_sumScores -/
def q_X0_begin_0 (d : sk_D) (k0 : Nat) (v1 : Int32) (v2 : Int32) (v3 : Int32) : Option (sk_D) :=
  some (sk_wi (sk_wi (sk_wi (sk_wi (sk_wi (sk_wi (sk_wi d 39 k0 0 (1 : Int32)) 39 k0 1 v1) 39 k0 2 v2) 39 k0 3 v3) 39 k0 4 (-9 : Int32)) 39 k0 5 (0 : Int32)) 39 k0 6 (0 : Int32))
set_option maxRecDepth 100000 in
set_option maxHeartbeats 4000000 in
theorem t_X0_begin_0 {l : Launch} {d : sk_D} {k0 : Nat} {v1 : Int32} {v2 : Int32} {v3 : Int32} {res : sk_D} (hq : q_X0_begin_0 d k0 v1 v2 v3 = some res) (hk_k0 : k0 < sk_cnt 39) :
    sk_G l (sk_rm 1 0 0) m_X0_begin sk_Ex0 (sk_Zm m_X0_begin none (sk_mm res)) 0 0 0 [some (.inr (.inr (some (39, k0)))), some (.inl v1), some (.inl v2), some (.inl v3)] [] (sk_mm d) := by
  unfold q_X0_begin_0 at hq
  refine sg_aload_n 1 (sk_td o_X0_begin 0 rfl) rfl rfl ?_
  refine sg_iconst (v := (1 : Int32)) 2 (sk_td o_X0_begin 1 rfl) rfl (by decide) ?_
  refine sm_putZ 5 (sk_td o_X0_begin 2 rfl) rfl kp_X0_9 rfl rfl hk_k0 (by decide) (by decide) ?_
  refine sg_aload_n 6 (sk_td o_X0_begin 3 rfl) rfl rfl ?_
  refine sg_iload_n 7 (sk_td o_X0_begin 4 rfl) rfl rfl ?_
  refine sm_putI 10 (sk_td o_X0_begin 5 rfl) rfl kp_X0_15 rfl rfl hk_k0 ?_
  refine sg_aload_n 11 (sk_td o_X0_begin 6 rfl) rfl rfl ?_
  refine sg_iload_n 12 (sk_td o_X0_begin 7 rfl) rfl rfl ?_
  refine sm_putI 15 (sk_td o_X0_begin 8 rfl) rfl kp_X0_19 rfl rfl hk_k0 ?_
  refine sg_aload_n 16 (sk_td o_X0_begin 9 rfl) rfl rfl ?_
  refine sg_iload_n 17 (sk_td o_X0_begin 10 rfl) rfl rfl ?_
  refine sm_putI 20 (sk_td o_X0_begin 11 rfl) rfl kp_X0_22 rfl rfl hk_k0 ?_
  refine sg_aload_n 21 (sk_td o_X0_begin 12 rfl) rfl rfl ?_
  refine sg_bipush (v := (-9 : Int32)) 23 (sk_td o_X0_begin 13 rfl) rfl (by decide) ?_
  refine sm_putI 26 (sk_td o_X0_begin 14 rfl) rfl kp_X0_25 rfl rfl hk_k0 ?_
  refine sg_aload_n 27 (sk_td o_X0_begin 15 rfl) rfl rfl ?_
  refine sg_iconst (v := (0 : Int32)) 28 (sk_td o_X0_begin 16 rfl) rfl (by decide) ?_
  refine sm_putI 31 (sk_td o_X0_begin 17 rfl) rfl kp_X0_28 rfl rfl hk_k0 ?_
  refine sg_aload_n 32 (sk_td o_X0_begin 18 rfl) rfl rfl ?_
  refine sg_iconst (v := (0 : Int32)) 33 (sk_td o_X0_begin 19 rfl) rfl (by decide) ?_
  refine sm_putI 36 (sk_td o_X0_begin 20 rfl) rfl kp_X0_31 rfl rfl hk_k0 ?_
  cases hq
  exact sg_vret (sk_td o_X0_begin 21 rfl) rfl
def q_X0_begin (d : sk_D) (k0 : Nat) (v1 : Int32) (v2 : Int32) (v3 : Int32) : Option (sk_D) := q_X0_begin_0 d k0 v1 v2 v3 
theorem s_X0_begin {l : Launch} {d : sk_D} {k0 : Nat} {v1 : Int32} {v2 : Int32} {v3 : Int32} {res : sk_D} (hq : q_X0_begin d k0 v1 v2 v3 = some res) (hk_k0 : k0 < sk_cnt 39) : sk_M l 1 m_X0_begin [.inr (.inr (some (39, k0))), .inl v1, .inl v2, .inl v3] (sk_mm d) none (sk_mm res) :=
  sk_enter (by decide) (fun _ => Nat.le_of_ble_eq_true rfl) (Nat.le_of_ble_eq_true rfl) (t_X0_begin_0 hq hk_k0 )
def q_X0_end_0 (d : sk_D) (k0 : Nat) : Option (sk_D) :=
  some (sk_wi (sk_wi (sk_wi (sk_wi d 39 k0 0 (0 : Int32)) 39 k0 4 (-9 : Int32)) 39 k0 9 (0 : Int32)) 39 k0 10 (0 : Int32))
set_option maxRecDepth 100000 in
set_option maxHeartbeats 4000000 in
theorem t_X0_end_0 {l : Launch} {d : sk_D} {k0 : Nat} {res : sk_D} (hq : q_X0_end_0 d k0 = some res) (hk_k0 : k0 < sk_cnt 39) :
    sk_G l (sk_rm 1 0 0) m_X0_end sk_Ex0 (sk_Zm m_X0_end none (sk_mm res)) 0 0 0 [some (.inr (.inr (some (39, k0))))] [] (sk_mm d) := by
  unfold q_X0_end_0 at hq
  refine sg_aload_n 1 (sk_td o_X0_end 0 rfl) rfl rfl ?_
  refine sg_iconst (v := (0 : Int32)) 2 (sk_td o_X0_end 1 rfl) rfl (by decide) ?_
  refine sm_putZ 5 (sk_td o_X0_end 2 rfl) rfl kp_X0_9 rfl rfl hk_k0 (by decide) (by decide) ?_
  refine sg_aload_n 6 (sk_td o_X0_end 3 rfl) rfl rfl ?_
  refine sg_bipush (v := (-9 : Int32)) 8 (sk_td o_X0_end 4 rfl) rfl (by decide) ?_
  refine sm_putI 11 (sk_td o_X0_end 5 rfl) rfl kp_X0_25 rfl rfl hk_k0 ?_
  refine sg_aload_n 12 (sk_td o_X0_end 6 rfl) rfl rfl ?_
  refine sg_iconst (v := (0 : Int32)) 13 (sk_td o_X0_end 7 rfl) rfl (by decide) ?_
  refine sm_putI 16 (sk_td o_X0_end 8 rfl) rfl kp_X0_41 rfl rfl hk_k0 ?_
  refine sg_aload_n 17 (sk_td o_X0_end 9 rfl) rfl rfl ?_
  refine sg_iconst (v := (0 : Int32)) 18 (sk_td o_X0_end 10 rfl) rfl (by decide) ?_
  refine sm_putI 21 (sk_td o_X0_end 11 rfl) rfl kp_X0_44 rfl rfl hk_k0 ?_
  cases hq
  exact sg_vret (sk_td o_X0_end 12 rfl) rfl
def q_X0_end (d : sk_D) (k0 : Nat) : Option (sk_D) := q_X0_end_0 d k0 
theorem s_X0_end {l : Launch} {d : sk_D} {k0 : Nat} {res : sk_D} (hq : q_X0_end d k0 = some res) (hk_k0 : k0 < sk_cnt 39) : sk_M l 1 m_X0_end [.inr (.inr (some (39, k0)))] (sk_mm d) none (sk_mm res) :=
  sk_enter (by decide) (fun _ => Nat.le_of_ble_eq_true rfl) (Nat.le_of_ble_eq_true rfl) (t_X0_end_0 hq hk_k0 )
def q_X0_suits_0 (d : sk_D) (k0 : Nat) (k1 : Nat) : Option (Int32) :=
  if (1 : Int32) < (if 0 ≤ ((d.1 39 k0 1) - (d.1 37 k1 1)) then ((d.1 39 k0 1) - (d.1 37 k1 1)) else 0 - ((d.1 39 k0 1) - (d.1 37 k1 1))) then some (0 : Int32) else if (((d.1 37 k1 2) >>> ((d.1 39 k0 2) &&& 31)) &&& (1 : Int32)) = (1 : Int32) then some (1 : Int32) else some (0 : Int32)
set_option maxRecDepth 100000 in
set_option maxHeartbeats 4000000 in
theorem t_X0_suits_0 {l : Launch} {d : sk_D} {k0 : Nat} {k1 : Nat} {res : Int32} (hq : q_X0_suits_0 d k0 k1 = some res) (hk_k0 : k0 < sk_cnt 39) (hk_k1 : k1 < sk_cnt 37) :
    sk_G l (sk_rm 1 0 0) m_X0_suits sk_Ex0 (sk_Zm m_X0_suits (some (.inl res)) (sk_mm d)) 0 0 0 [some (.inr (.inr (some (39, k0)))), some (.inr (.inr (some (37, k1))))] [] (sk_mm d) := by
  unfold q_X0_suits_0 at hq
  refine sg_aload_n 1 (sk_td o_X0_suits 0 rfl) rfl rfl ?_
  refine sm_getI 4 (sk_td o_X0_suits 1 rfl) rfl kf_X0_15 rfl rfl hk_k0 ?_
  refine sg_aload_n 5 (sk_td o_X0_suits 2 rfl) rfl rfl ?_
  refine sm_getI 8 (sk_td o_X0_suits 3 rfl) rfl kf_X0_47 rfl rfl hk_k1 ?_
  refine sg_isub 9 (sk_td o_X0_suits 4 rfl) rfl ?_
  refine sm_abs 12 (sk_td o_X0_suits 5 rfl) rfl kM_X0_50 (Nat.le_of_ble_eq_true rfl) (Nat.le_of_ble_eq_true rfl) (Nat.le_of_ble_eq_true rfl) ?_
  refine sg_iconst (v := (1 : Int32)) 13 (sk_td o_X0_suits 6 rfl) rfl (by decide) ?_
  refine sg_ic_gt 35 16 (sk_td o_X0_suits 7 rfl) (by decide) rfl (fun hc => ?_) (fun hc => ?_)
  · rw [if_pos hc] at hq
    refine sg_iconst (v := (0 : Int32)) 36 (sk_td o_X0_suits 19 rfl) rfl (by decide) ?_
    cases hq
    exact sg_iret (sk_td o_X0_suits 20 rfl) rfl (by decide)
  · rw [if_neg hc] at hq
    refine sg_aload_n 17 (sk_td o_X0_suits 8 rfl) rfl rfl ?_
    refine sm_getI 20 (sk_td o_X0_suits 9 rfl) rfl kf_X0_56 rfl rfl hk_k1 ?_
    refine sg_aload_n 21 (sk_td o_X0_suits 10 rfl) rfl rfl ?_
    refine sm_getI 24 (sk_td o_X0_suits 11 rfl) rfl kf_X0_19 rfl rfl hk_k0 ?_
    refine sg_ishr 25 (sk_td o_X0_suits 12 rfl) rfl ?_
    refine sg_iconst (v := (1 : Int32)) 26 (sk_td o_X0_suits 13 rfl) rfl (by decide) ?_
    refine sg_iand 27 (sk_td o_X0_suits 14 rfl) rfl ?_
    refine sg_iconst (v := (1 : Int32)) 28 (sk_td o_X0_suits 15 rfl) rfl (by decide) ?_
    refine sg_ic_ne 35 31 (sk_td o_X0_suits 16 rfl) (by decide) rfl (fun hc => ?_) (fun hc => ?_)
    · rw [if_neg hc] at hq
      refine sg_iconst (v := (0 : Int32)) 36 (sk_td o_X0_suits 19 rfl) rfl (by decide) ?_
      cases hq
      exact sg_iret (sk_td o_X0_suits 20 rfl) rfl (by decide)
    · rw [if_pos hc] at hq
      refine sg_iconst (v := (1 : Int32)) 32 (sk_td o_X0_suits 17 rfl) rfl (by decide) ?_
      refine sg_goto 36 (sk_td o_X0_suits 18 rfl) (by decide) ?_
      cases hq
      exact sg_iret (sk_td o_X0_suits 20 rfl) rfl (by decide)
def q_X0_suits (d : sk_D) (k0 : Nat) (k1 : Nat) : Option (Int32) := q_X0_suits_0 d k0 k1 
theorem s_X0_suits {l : Launch} {d : sk_D} {k0 : Nat} {k1 : Nat} {res : Int32} (hq : q_X0_suits d k0 k1 = some res) (hk_k0 : k0 < sk_cnt 39) (hk_k1 : k1 < sk_cnt 37) : sk_M l 1 m_X0_suits [.inr (.inr (some (39, k0))), .inr (.inr (some (37, k1)))] (sk_mm d) (some (.inl res)) (sk_mm d) :=
  sk_enter (by decide) (fun _ => Nat.le_of_ble_eq_true rfl) (Nat.le_of_ble_eq_true rfl) (t_X0_suits_0 hq hk_k0 hk_k1 )
def q_X1_begin_0 (d : sk_D) (k0 : Nat) (v1 : Int32) (v2 : Int32) (v3 : Int32) (v4 : Int32) : Option (sk_D) :=
  some (sk_wi (sk_wi (sk_wi (sk_wi (sk_wi (sk_wi d 42 k0 0 (1 : Int32)) 42 k0 1 v1) 42 k0 2 v2) 42 k0 3 v3) 42 k0 4 v4) 42 k0 5 (0 : Int32))
set_option maxRecDepth 100000 in
set_option maxHeartbeats 4000000 in
theorem t_X1_begin_0 {l : Launch} {d : sk_D} {k0 : Nat} {v1 : Int32} {v2 : Int32} {v3 : Int32} {v4 : Int32} {res : sk_D} (hq : q_X1_begin_0 d k0 v1 v2 v3 v4 = some res) (hk_k0 : k0 < sk_cnt 42) :
    sk_G l (sk_rm 1 0 0) m_X1_begin sk_Ex0 (sk_Zm m_X1_begin none (sk_mm res)) 0 0 0 [some (.inr (.inr (some (42, k0)))), some (.inl v1), some (.inl v2), some (.inl v3), some (.inl v4)] [] (sk_mm d) := by
  unfold q_X1_begin_0 at hq
  refine sg_aload_n 1 (sk_td o_X1_begin 0 rfl) rfl rfl ?_
  refine sg_iconst (v := (1 : Int32)) 2 (sk_td o_X1_begin 1 rfl) rfl (by decide) ?_
  refine sm_putZ 5 (sk_td o_X1_begin 2 rfl) rfl kp_X1_9 rfl rfl hk_k0 (by decide) (by decide) ?_
  refine sg_aload_n 6 (sk_td o_X1_begin 3 rfl) rfl rfl ?_
  refine sg_iload_n 7 (sk_td o_X1_begin 4 rfl) rfl rfl ?_
  refine sm_putI 10 (sk_td o_X1_begin 5 rfl) rfl kp_X1_15 rfl rfl hk_k0 ?_
  refine sg_aload_n 11 (sk_td o_X1_begin 6 rfl) rfl rfl ?_
  refine sg_iload_n 12 (sk_td o_X1_begin 7 rfl) rfl rfl ?_
  refine sm_putI 15 (sk_td o_X1_begin 8 rfl) rfl kp_X1_19 rfl rfl hk_k0 ?_
  refine sg_aload_n 16 (sk_td o_X1_begin 9 rfl) rfl rfl ?_
  refine sg_iload_n 17 (sk_td o_X1_begin 10 rfl) rfl rfl ?_
  refine sm_putI 20 (sk_td o_X1_begin 11 rfl) rfl kp_X1_22 rfl rfl hk_k0 ?_
  refine sg_aload_n 21 (sk_td o_X1_begin 12 rfl) rfl rfl ?_
  refine sg_iload 23 (sk_td o_X1_begin 13 rfl) rfl rfl ?_
  refine sm_putI 26 (sk_td o_X1_begin 14 rfl) rfl kp_X1_25 rfl rfl hk_k0 ?_
  refine sg_aload_n 27 (sk_td o_X1_begin 15 rfl) rfl rfl ?_
  refine sg_iconst (v := (0 : Int32)) 28 (sk_td o_X1_begin 16 rfl) rfl (by decide) ?_
  refine sm_putI 31 (sk_td o_X1_begin 17 rfl) rfl kp_X1_28 rfl rfl hk_k0 ?_
  cases hq
  exact sg_vret (sk_td o_X1_begin 18 rfl) rfl
def q_X1_begin (d : sk_D) (k0 : Nat) (v1 : Int32) (v2 : Int32) (v3 : Int32) (v4 : Int32) : Option (sk_D) := q_X1_begin_0 d k0 v1 v2 v3 v4 
theorem s_X1_begin {l : Launch} {d : sk_D} {k0 : Nat} {v1 : Int32} {v2 : Int32} {v3 : Int32} {v4 : Int32} {res : sk_D} (hq : q_X1_begin d k0 v1 v2 v3 v4 = some res) (hk_k0 : k0 < sk_cnt 42) : sk_M l 1 m_X1_begin [.inr (.inr (some (42, k0))), .inl v1, .inl v2, .inl v3, .inl v4] (sk_mm d) none (sk_mm res) :=
  sk_enter (by decide) (fun _ => Nat.le_of_ble_eq_true rfl) (Nat.le_of_ble_eq_true rfl) (t_X1_begin_0 hq hk_k0 )
def q_X8_within_0 (d : sk_D) (v0 : Int32) (v1 : Int32) (v2 : Int32) : Option (Int32) :=
  if v0 < v1 then some (0 : Int32) else if v2 < v0 then some (0 : Int32) else some (1 : Int32)
set_option maxRecDepth 100000 in
set_option maxHeartbeats 4000000 in
theorem t_X8_within_0 {l : Launch} {d : sk_D} {v0 : Int32} {v1 : Int32} {v2 : Int32} {res : Int32} (hq : q_X8_within_0 d v0 v1 v2 = some res) :
    sk_G l (sk_rm 1 0 0) m_X8_within sk_Ex0 (sk_Zm m_X8_within (some (.inl res)) (sk_mm d)) 0 0 0 [some (.inl v0), some (.inl v1), some (.inl v2)] [] (sk_mm d) := by
  unfold q_X8_within_0 at hq
  refine sg_iload_n 1 (sk_td o_X8_within 0 rfl) rfl rfl ?_
  refine sg_iload_n 2 (sk_td o_X8_within 1 rfl) rfl rfl ?_
  refine sg_ic_lt 14 5 (sk_td o_X8_within 2 rfl) (by decide) rfl (fun hc => ?_) (fun hc => ?_)
  · rw [if_pos hc] at hq
    refine sg_iconst (v := (0 : Int32)) 15 (sk_td o_X8_within 8 rfl) rfl (by decide) ?_
    cases hq
    exact sg_iret (sk_td o_X8_within 9 rfl) rfl (by decide)
  · rw [if_neg hc] at hq
    refine sg_iload_n 6 (sk_td o_X8_within 3 rfl) rfl rfl ?_
    refine sg_iload_n 7 (sk_td o_X8_within 4 rfl) rfl rfl ?_
    refine sg_ic_gt 14 10 (sk_td o_X8_within 5 rfl) (by decide) rfl (fun hc => ?_) (fun hc => ?_)
    · rw [if_pos hc] at hq
      refine sg_iconst (v := (0 : Int32)) 15 (sk_td o_X8_within 8 rfl) rfl (by decide) ?_
      cases hq
      exact sg_iret (sk_td o_X8_within 9 rfl) rfl (by decide)
    · rw [if_neg hc] at hq
      refine sg_iconst (v := (1 : Int32)) 11 (sk_td o_X8_within 6 rfl) rfl (by decide) ?_
      refine sg_goto 15 (sk_td o_X8_within 7 rfl) (by decide) ?_
      cases hq
      exact sg_iret (sk_td o_X8_within 9 rfl) rfl (by decide)
def q_X8_within (d : sk_D) (v0 : Int32) (v1 : Int32) (v2 : Int32) : Option (Int32) := q_X8_within_0 d v0 v1 v2 
theorem s_X8_within {l : Launch} {d : sk_D} {v0 : Int32} {v1 : Int32} {v2 : Int32} {res : Int32} (hq : q_X8_within d v0 v1 v2 = some res) : sk_M l 1 m_X8_within [.inl v0, .inl v1, .inl v2] (sk_mm d) (some (.inl res)) (sk_mm d) :=
  sk_enter (by decide) (fun _ => Nat.le_of_ble_eq_true rfl) (Nat.le_of_ble_eq_true rfl) (t_X8_within_0 hq )
def q_X1_teaches_0 (d : sk_D) (k0 : Nat) (k1 : Nat) : Option (Int32) :=
  if (((d.1 42 k0 1) >>> ((d.1 39 k1 2) &&& 31)) &&& (1 : Int32)) = (1 : Int32) then (q_X8_within d (d.1 39 k1 1) (d.1 42 k0 2) (d.1 42 k0 3)).bind fun x1 => if x1 = 0 then some (0 : Int32) else some (1 : Int32) else some (0 : Int32)
set_option maxRecDepth 100000 in
set_option maxHeartbeats 4000000 in
theorem t_X1_teaches_0 {l : Launch} {d : sk_D} {k0 : Nat} {k1 : Nat} {res : Int32} (hq : q_X1_teaches_0 d k0 k1 = some res) (hk_k0 : k0 < sk_cnt 42) (hk_k1 : k1 < sk_cnt 39) :
    sk_G l (sk_rm 2 0 0) m_X1_teaches sk_Ex0 (sk_Zm m_X1_teaches (some (.inl res)) (sk_mm d)) 0 0 0 [some (.inr (.inr (some (42, k0)))), some (.inr (.inr (some (39, k1))))] [] (sk_mm d) := by
  unfold q_X1_teaches_0 at hq
  refine sg_aload_n 1 (sk_td o_X1_teaches 0 rfl) rfl rfl ?_
  refine sm_getI 4 (sk_td o_X1_teaches 1 rfl) rfl kf_X1_15 rfl rfl hk_k0 ?_
  refine sg_aload_n 5 (sk_td o_X1_teaches 2 rfl) rfl rfl ?_
  refine sm_getI 8 (sk_td o_X1_teaches 3 rfl) rfl kf_X1_31 rfl rfl hk_k1 ?_
  refine sg_ishr 9 (sk_td o_X1_teaches 4 rfl) rfl ?_
  refine sg_iconst (v := (1 : Int32)) 10 (sk_td o_X1_teaches 5 rfl) rfl (by decide) ?_
  refine sg_iand 11 (sk_td o_X1_teaches 6 rfl) rfl ?_
  refine sg_iconst (v := (1 : Int32)) 12 (sk_td o_X1_teaches 7 rfl) rfl (by decide) ?_
  refine sg_ic_ne 37 15 (sk_td o_X1_teaches 8 rfl) (by decide) rfl (fun hc => ?_) (fun hc => ?_)
  · rw [if_neg hc] at hq
    refine sg_iconst (v := (0 : Int32)) 38 (sk_td o_X1_teaches 19 rfl) rfl (by decide) ?_
    cases hq
    exact sg_iret (sk_td o_X1_teaches 20 rfl) rfl (by decide)
  · rw [if_pos hc] at hq
    refine sg_aload_n 16 (sk_td o_X1_teaches 9 rfl) rfl rfl ?_
    refine sm_getI 19 (sk_td o_X1_teaches 10 rfl) rfl kf_X1_36 rfl rfl hk_k1 ?_
    refine sg_aload_n 20 (sk_td o_X1_teaches 11 rfl) rfl rfl ?_
    refine sm_getI 23 (sk_td o_X1_teaches 12 rfl) rfl kf_X1_19 rfl rfl hk_k0 ?_
    refine sg_aload_n 24 (sk_td o_X1_teaches 13 rfl) rfl rfl ?_
    refine sm_getI 27 (sk_td o_X1_teaches 14 rfl) rfl kf_X1_22 rfl rfl hk_k0 ?_
    obtain ⟨x1, hr_x1, hq⟩ := sk_bnd hq
    refine sm_callN3i 30 (s_X8_within hr_x1) (sk_td o_X1_teaches 15 rfl) rfl ln_X1_39 rfl (sk_rok (Nat.le_of_ble_eq_true rfl) (Nat.le_of_ble_eq_true rfl) rfl rfl) (Nat.le_of_ble_eq_true rfl) ?_
    refine sg_if_eq 37 33 (sk_td o_X1_teaches 16 rfl) (by decide) rfl (fun hc => ?_) (fun hc => ?_)
    · rw [if_pos hc] at hq
      refine sg_iconst (v := (0 : Int32)) 38 (sk_td o_X1_teaches 19 rfl) rfl (by decide) ?_
      cases hq
      exact sg_iret (sk_td o_X1_teaches 20 rfl) rfl (by decide)
    · rw [if_neg hc] at hq
      refine sg_iconst (v := (1 : Int32)) 34 (sk_td o_X1_teaches 17 rfl) rfl (by decide) ?_
      refine sg_goto 38 (sk_td o_X1_teaches 18 rfl) (by decide) ?_
      cases hq
      exact sg_iret (sk_td o_X1_teaches 20 rfl) rfl (by decide)
def q_X1_teaches (d : sk_D) (k0 : Nat) (k1 : Nat) : Option (Int32) := q_X1_teaches_0 d k0 k1 
theorem s_X1_teaches {l : Launch} {d : sk_D} {k0 : Nat} {k1 : Nat} {res : Int32} (hq : q_X1_teaches d k0 k1 = some res) (hk_k0 : k0 < sk_cnt 42) (hk_k1 : k1 < sk_cnt 39) : sk_M l 2 m_X1_teaches [.inr (.inr (some (42, k0))), .inr (.inr (some (39, k1)))] (sk_mm d) (some (.inl res)) (sk_mm d) :=
  sk_enter (by decide) (fun _ => Nat.le_of_ble_eq_true rfl) (Nat.le_of_ble_eq_true rfl) (t_X1_teaches_0 hq hk_k0 hk_k1 )
def q_X1_hasRoomFor_0 (d : sk_D) (k0 : Nat) (v1 : Int32) : Option (Int32) :=
  if 0 < (lg_cmp ((d.1 42 k0 5).toInt64 + ((d.1 42 k0 4).toInt64 * v1.toInt64)) (2147483647 : Int64)) then some (0 : Int32) else some (1 : Int32)
set_option maxRecDepth 100000 in
set_option maxHeartbeats 4000000 in
theorem t_X1_hasRoomFor_0 {l : Launch} {d : sk_D} {k0 : Nat} {v1 : Int32} {res : Int32} (hq : q_X1_hasRoomFor_0 d k0 v1 = some res) (hk_k0 : k0 < sk_cnt 42) :
    sk_G l (sk_rm 1 0 0) m_X1_hasRoomFor sk_Ex0 (sk_Zm m_X1_hasRoomFor (some (.inl res)) (sk_mm d)) 0 0 0 [some (.inr (.inr (some (42, k0)))), some (.inl v1)] [] (sk_mm d) := by
  unfold q_X1_hasRoomFor_0 at hq
  refine sg_aload_n 1 (sk_td o_X1_hasRoomFor 0 rfl) rfl rfl ?_
  refine sm_getI 4 (sk_td o_X1_hasRoomFor 1 rfl) rfl kf_X1_28 rfl rfl hk_k0 ?_
  refine sg_i2l 5 (sk_td o_X1_hasRoomFor 2 rfl) rfl ?_
  refine sg_aload_n 6 (sk_td o_X1_hasRoomFor 3 rfl) rfl rfl ?_
  refine sm_getI 9 (sk_td o_X1_hasRoomFor 4 rfl) rfl kf_X1_25 rfl rfl hk_k0 ?_
  refine sg_i2l 10 (sk_td o_X1_hasRoomFor 5 rfl) rfl ?_
  refine sg_iload_n 11 (sk_td o_X1_hasRoomFor 6 rfl) rfl rfl ?_
  refine sg_i2l 12 (sk_td o_X1_hasRoomFor 7 rfl) rfl ?_
  refine sg_lmul 13 (sk_td o_X1_hasRoomFor 8 rfl) rfl ?_
  refine sg_ladd 14 (sk_td o_X1_hasRoomFor 9 rfl) rfl ?_
  refine sg_ldc2 17 (sk_td o_X1_hasRoomFor 10 rfl) rfl kc_X1_43 ?_
  refine sg_lcmp 18 (sk_td o_X1_hasRoomFor 11 rfl) rfl ?_
  refine sg_if_gt 25 21 (sk_td o_X1_hasRoomFor 12 rfl) (by decide) rfl (fun hc => ?_) (fun hc => ?_)
  · rw [if_pos hc] at hq
    refine sg_iconst (v := (0 : Int32)) 26 (sk_td o_X1_hasRoomFor 15 rfl) rfl (by decide) ?_
    cases hq
    exact sg_iret (sk_td o_X1_hasRoomFor 16 rfl) rfl (by decide)
  · rw [if_neg hc] at hq
    refine sg_iconst (v := (1 : Int32)) 22 (sk_td o_X1_hasRoomFor 13 rfl) rfl (by decide) ?_
    refine sg_goto 26 (sk_td o_X1_hasRoomFor 14 rfl) (by decide) ?_
    cases hq
    exact sg_iret (sk_td o_X1_hasRoomFor 16 rfl) rfl (by decide)
def q_X1_hasRoomFor (d : sk_D) (k0 : Nat) (v1 : Int32) : Option (Int32) := q_X1_hasRoomFor_0 d k0 v1 
theorem s_X1_hasRoomFor {l : Launch} {d : sk_D} {k0 : Nat} {v1 : Int32} {res : Int32} (hq : q_X1_hasRoomFor d k0 v1 = some res) (hk_k0 : k0 < sk_cnt 42) : sk_M l 1 m_X1_hasRoomFor [.inr (.inr (some (42, k0))), .inl v1] (sk_mm d) (some (.inl res)) (sk_mm d) :=
  sk_enter (by decide) (fun _ => Nat.le_of_ble_eq_true rfl) (Nat.le_of_ble_eq_true rfl) (t_X1_hasRoomFor_0 hq hk_k0 )
def q_X2_departsAt_0 (d : sk_D) (k0 : Nat) (v1 : Int32) : Option (Int32) :=
  if (d.1 43 k0 1) ≤ 0 then some (0 : Int32) else if ¬ ((d.1 43 k0 1) = 0) then if (v1 - v1 / (d.1 43 k0 1) * (d.1 43 k0 1)) = 0 then some (1 : Int32) else some (0 : Int32) else none
set_option maxRecDepth 100000 in
set_option maxHeartbeats 4000000 in
theorem t_X2_departsAt_0 {l : Launch} {d : sk_D} {k0 : Nat} {v1 : Int32} {res : Int32} (hq : q_X2_departsAt_0 d k0 v1 = some res) (hk_k0 : k0 < sk_cnt 43) :
    sk_G l (sk_rm 1 0 0) m_X2_departsAt sk_Ex0 (sk_Zm m_X2_departsAt (some (.inl res)) (sk_mm d)) 0 0 0 [some (.inr (.inr (some (43, k0)))), some (.inl v1)] [] (sk_mm d) := by
  unfold q_X2_departsAt_0 at hq
  refine sg_aload_n 1 (sk_td o_X2_departsAt 0 rfl) rfl rfl ?_
  refine sm_getI 4 (sk_td o_X2_departsAt 1 rfl) rfl kf_X2_13 rfl rfl hk_k0 ?_
  refine sg_if_le 20 7 (sk_td o_X2_departsAt 2 rfl) (by decide) rfl (fun hc => ?_) (fun hc => ?_)
  · rw [if_pos hc] at hq
    refine sg_iconst (v := (0 : Int32)) 21 (sk_td o_X2_departsAt 10 rfl) rfl (by decide) ?_
    cases hq
    exact sg_iret (sk_td o_X2_departsAt 11 rfl) rfl (by decide)
  · rw [if_neg hc] at hq
    refine sg_iload_n 8 (sk_td o_X2_departsAt 3 rfl) rfl rfl ?_
    refine sg_aload_n 9 (sk_td o_X2_departsAt 4 rfl) rfl rfl ?_
    refine sm_getI 12 (sk_td o_X2_departsAt 5 rfl) rfl kf_X2_13 rfl rfl hk_k0 ?_
    obtain ⟨hz1, hq⟩ := sk_ifn hq
    refine sg_irem 13 (sk_td o_X2_departsAt 6 rfl) rfl hz1 ?_
    refine sg_if_ne 20 16 (sk_td o_X2_departsAt 7 rfl) (by decide) rfl (fun hc => ?_) (fun hc => ?_)
    · rw [if_neg hc] at hq
      refine sg_iconst (v := (0 : Int32)) 21 (sk_td o_X2_departsAt 10 rfl) rfl (by decide) ?_
      cases hq
      exact sg_iret (sk_td o_X2_departsAt 11 rfl) rfl (by decide)
    · rw [if_pos hc] at hq
      refine sg_iconst (v := (1 : Int32)) 17 (sk_td o_X2_departsAt 8 rfl) rfl (by decide) ?_
      refine sg_goto 21 (sk_td o_X2_departsAt 9 rfl) (by decide) ?_
      cases hq
      exact sg_iret (sk_td o_X2_departsAt 11 rfl) rfl (by decide)
def q_X2_departsAt (d : sk_D) (k0 : Nat) (v1 : Int32) : Option (Int32) := q_X2_departsAt_0 d k0 v1 
theorem s_X2_departsAt {l : Launch} {d : sk_D} {k0 : Nat} {v1 : Int32} {res : Int32} (hq : q_X2_departsAt d k0 v1 = some res) (hk_k0 : k0 < sk_cnt 43) : sk_M l 1 m_X2_departsAt [.inr (.inr (some (43, k0))), .inl v1] (sk_mm d) (some (.inl res)) (sk_mm d) :=
  sk_enter (by decide) (fun _ => Nat.le_of_ble_eq_true rfl) (Nat.le_of_ble_eq_true rfl) (t_X2_departsAt_0 hq hk_k0 )
def q_X8_isFamily_0 (d : sk_D) (v0 : Int32) : Option (Int32) :=
  (q_X8_within d v0 (0 : Int32) (7 : Int32)).bind fun x1 => if sk_nb x1 = true then some x1 else none
set_option maxRecDepth 100000 in
set_option maxHeartbeats 4000000 in
theorem t_X8_isFamily_0 {l : Launch} {d : sk_D} {v0 : Int32} {res : Int32} (hq : q_X8_isFamily_0 d v0 = some res) :
    sk_G l (sk_rm 2 0 0) m_X8_isFamily sk_Ex0 (sk_Zm m_X8_isFamily (some (.inl res)) (sk_mm d)) 0 0 0 [some (.inl v0)] [] (sk_mm d) := by
  unfold q_X8_isFamily_0 at hq
  refine sg_iload_n 1 (sk_td o_X8_isFamily 0 rfl) rfl rfl ?_
  refine sg_iconst (v := (0 : Int32)) 2 (sk_td o_X8_isFamily 1 rfl) rfl (by decide) ?_
  refine sg_bipush (v := (7 : Int32)) 4 (sk_td o_X8_isFamily 2 rfl) rfl (by decide) ?_
  obtain ⟨x1, hr_x1, hq⟩ := sk_bnd hq
  refine sm_callS3i 7 (s_X8_within hr_x1) (sk_td o_X8_isFamily 3 rfl) rfl ls_X8_85 rfl (sk_rok (Nat.le_of_ble_eq_true rfl) (Nat.le_of_ble_eq_true rfl) rfl rfl) (Nat.le_of_ble_eq_true rfl) ?_
  obtain ⟨hn2, hq⟩ := sk_ifn hq
  cases hq
  exact sg_iret (sk_td o_X8_isFamily 4 rfl) rfl (sk_nb.z hn2)
def q_X8_isFamily (d : sk_D) (v0 : Int32) : Option (Int32) := q_X8_isFamily_0 d v0 
theorem s_X8_isFamily {l : Launch} {d : sk_D} {v0 : Int32} {res : Int32} (hq : q_X8_isFamily d v0 = some res) : sk_M l 2 m_X8_isFamily [.inl v0] (sk_mm d) (some (.inl res)) (sk_mm d) :=
  sk_enter (by decide) (fun _ => Nat.le_of_ble_eq_true rfl) (Nat.le_of_ble_eq_true rfl) (t_X8_isFamily_0 hq )
def q_X3_newUnit_24 (d : sk_D) (v1 : Int32) (h0 : Nat) : Option (Int32 × sk_D) :=
  some (v1, (sk_wi (sk_fi d 10 h0 4 (0 : Int32)) 6 0 0 (v1 + (1 : Int32))))
set_option maxRecDepth 100000 in
set_option maxHeartbeats 4000000 in
theorem t_X3_newUnit_24 {l : Launch} {d : sk_D} {v1 : Int32} {h0 : Nat} {res : Int32 × sk_D} (hq : q_X3_newUnit_24 d v1 h0 = some res) (hk_h0 : h0 < sk_cnt 10) :
    sk_G l (sk_rm 2 0 0) m_X3_newUnit sk_Ex0 (sk_Zm m_X3_newUnit (some (.inl res.1)) (sk_mm res.2)) 0 0 24 [some (.inr (.inr (some (6, 0)))), some (.inl v1)] [.inl (0 : Int32), .inr (.inr (some (10, h0)))] (sk_mm d) := by
  unfold q_X3_newUnit_24 at hq
  refine sm_callS2v 27 (s_J7_fill_53178 (n := 4) rfl hk_h0 (by decide)) (sk_td o_X3_newUnit 15 rfl) rfl ls_X3_74 rfl (sk_rok (Nat.le_of_ble_eq_true rfl) (Nat.le_of_ble_eq_true rfl) rfl rfl) (Nat.le_of_ble_eq_true rfl) ?_
  refine sg_aload_n 28 (sk_td o_X3_newUnit 16 rfl) rfl rfl ?_
  refine sg_iload_n 29 (sk_td o_X3_newUnit 17 rfl) rfl rfl ?_
  refine sg_iconst (v := (1 : Int32)) 30 (sk_td o_X3_newUnit 18 rfl) rfl (by decide) ?_
  refine sg_iadd 31 (sk_td o_X3_newUnit 19 rfl) rfl ?_
  refine sm_putI 34 (sk_td o_X3_newUnit 20 rfl) rfl kp_X3_9 rfl rfl sz_6 ?_
  refine sg_iload_n 35 (sk_td o_X3_newUnit 21 rfl) rfl rfl ?_
  cases hq
  exact sg_iret (sk_td o_X3_newUnit 22 rfl) rfl rfl
def q_X3_newUnit_0 (d : sk_D) : Option (Int32 × sk_D) :=
  if sk_bi (if (19 : Int32) < (d.1 6 0 0) then (19 : Int32) else (d.1 6 0 0)) 20 = true then if sk_bi (if (19 : Int32) < (d.1 6 0 0) then (19 : Int32) else (d.1 6 0 0)) 20 = true then (q_X3_newUnit_24 (sk_wi d 8 0 (if (19 : Int32) < (d.1 6 0 0) then (19 : Int32) else (d.1 6 0 0)).toNatClampNeg (0 : Int32)) (if (19 : Int32) < (d.1 6 0 0) then (19 : Int32) else (d.1 6 0 0)) (if (19 : Int32) < (d.1 6 0 0) then (19 : Int32) else (d.1 6 0 0)).toNatClampNeg) else none else none
set_option maxRecDepth 100000 in
set_option maxHeartbeats 4000000 in
theorem t_X3_newUnit_0 {l : Launch} {d : sk_D} {res : Int32 × sk_D} (hq : q_X3_newUnit_0 d = some res) :
    sk_G l (sk_rm 2 0 0) m_X3_newUnit sk_Ex0 (sk_Zm m_X3_newUnit (some (.inl res.1)) (sk_mm res.2)) 0 0 0 [some (.inr (.inr (some (6, 0)))), none] [] (sk_mm d) := by
  unfold q_X3_newUnit_0 at hq
  refine sg_aload_n 1 (sk_td o_X3_newUnit 0 rfl) rfl rfl ?_
  refine sm_getI 4 (sk_td o_X3_newUnit 1 rfl) rfl kf_X3_9 rfl rfl sz_6 ?_
  refine sg_bipush (v := (19 : Int32)) 6 (sk_td o_X3_newUnit 2 rfl) rfl (by decide) ?_
  refine sm_min 9 (sk_td o_X3_newUnit 3 rfl) rfl kM_X3_105 (Nat.le_of_ble_eq_true rfl) (Nat.le_of_ble_eq_true rfl) (Nat.le_of_ble_eq_true rfl) ?_
  refine sg_istore_n 10 [some (.inr (.inr (some (6, 0)))), some (.inl (if (19 : Int32) < (d.1 6 0 0) then (19 : Int32) else (d.1 6 0 0)))] (sk_td o_X3_newUnit 4 rfl) rfl rfl (Nat.le_of_ble_eq_true rfl) rfl ?_
  refine sg_aload_n 11 (sk_td o_X3_newUnit 5 rfl) rfl rfl ?_
  refine sm_getR (8, 0) 14 (sk_td o_X3_newUnit 6 rfl) rfl kf_X3_22 rfl rfl sz_6 rfl ?_
  refine sg_iload_n 15 (sk_td o_X3_newUnit 7 rfl) rfl rfl ?_
  refine sg_iconst (v := (0 : Int32)) 16 (sk_td o_X3_newUnit 8 rfl) rfl (by decide) ?_
  obtain ⟨hb1, hq⟩ := sk_ifn hq
  refine sm_iast 17 (sk_td o_X3_newUnit 9 rfl) rfl rfl sz_8 hb1 ?_
  refine sg_aload_n 18 (sk_td o_X3_newUnit 10 rfl) rfl rfl ?_
  refine sm_getR (9, 0) 21 (sk_td o_X3_newUnit 11 rfl) rfl kf_X3_27 rfl rfl sz_6 rfl ?_
  refine sg_iload_n 22 (sk_td o_X3_newUnit 12 rfl) rfl rfl ?_
  obtain ⟨hb2, hq⟩ := sk_ifn hq
  refine sm_aald (10, (if (19 : Int32) < (d.1 6 0 0) then (19 : Int32) else (d.1 6 0 0)).toNatClampNeg) 23 (sk_td o_X3_newUnit 13 rfl) rfl rfl (by decide) sz_9 hb2 (sr_9 (sk_bi.lt hb2)) ?_
  refine sg_iconst (v := (0 : Int32)) 24 (sk_td o_X3_newUnit 14 rfl) rfl (by decide) ?_
  exact t_X3_newUnit_24 hq (sk_bi.lt hb2)
def q_X3_newUnit (d : sk_D) : Option (Int32 × sk_D) := q_X3_newUnit_0 d 
theorem s_X3_newUnit {l : Launch} {d : sk_D} {res : Int32 × sk_D} (hq : q_X3_newUnit d = some res) : sk_M l 2 m_X3_newUnit [.inr (.inr (some (6, 0)))] (sk_mm d) (some (.inl res.1)) (sk_mm res.2) :=
  sk_enter (by decide) (fun _ => Nat.le_of_ble_eq_true rfl) (Nat.le_of_ble_eq_true rfl) (t_X3_newUnit_0 hq )
def q_X3_unitFor_13 (d : sk_D) : Option (Int32 × sk_D) :=
  (q_X3_newUnit d).bind fun x1 => some (x1.1, x1.2)
set_option maxRecDepth 100000 in
set_option maxHeartbeats 4000000 in
theorem t_X3_unitFor_13 {l : Launch} {d : sk_D} {res : Int32 × sk_D} (hq : q_X3_unitFor_13 d = some res) :
    sk_G l (sk_rm 3 0 0) m_X3_unitFor sk_Ex0 (sk_Zm m_X3_unitFor (some (.inl res.1)) (sk_mm res.2)) 0 0 13 [some (.inr (.inr (some (6, 0)))), none, none] [] (sk_mm d) := by
  unfold q_X3_unitFor_13 at hq
  refine sg_aload_n 14 (sk_td o_X3_unitFor 7 rfl) rfl rfl ?_
  obtain ⟨x1, hr_x1, hq⟩ := sk_bnd hq
  refine sm_callV0i 17 (s_X3_newUnit hr_x1) (sk_td o_X3_unitFor 8 rfl) rfl lv_X3_101 rfl rfl rfl sz_6 (sk_rok (Nat.le_of_ble_eq_true rfl) (Nat.le_of_ble_eq_true rfl) rfl rfl) (Nat.le_of_ble_eq_true rfl) ?_
  cases hq
  exact sg_iret (sk_td o_X3_unitFor 9 rfl) rfl rfl
def q_X3_unitFor_39 (d : sk_D) (v1 : Int32) : Option (Int32 × sk_D) :=
  if sk_bi v1 8 = true then some ((d.1 12 0 v1.toNatClampNeg), d) else none
set_option maxRecDepth 100000 in
set_option maxHeartbeats 4000000 in
theorem t_X3_unitFor_39 {l : Launch} {d : sk_D} {v1 : Int32} {res : Int32 × sk_D} (hq : q_X3_unitFor_39 d v1 = some res) :
    sk_G l (sk_rm 3 0 0) m_X3_unitFor sk_Ex0 (sk_Zm m_X3_unitFor (some (.inl res.1)) (sk_mm res.2)) 0 0 39 [some (.inr (.inr (some (6, 0)))), some (.inl v1), none] [] (sk_mm d) := by
  unfold q_X3_unitFor_39 at hq
  refine sg_aload_n 40 (sk_td o_X3_unitFor 22 rfl) rfl rfl ?_
  refine sm_getR (12, 0) 43 (sk_td o_X3_unitFor 23 rfl) rfl kf_X3_33 rfl rfl sz_6 rfl ?_
  refine sg_iload_n 44 (sk_td o_X3_unitFor 24 rfl) rfl rfl ?_
  obtain ⟨hb1, hq⟩ := sk_ifn hq
  refine sm_iald 45 (sk_td o_X3_unitFor 25 rfl) rfl rfl sz_12 hb1 ?_
  cases hq
  exact sg_iret (sk_td o_X3_unitFor 26 rfl) rfl rfl
def q_X3_unitFor_0 (d : sk_D) (v1 : Int32) : Option (Int32 × sk_D) :=
  (q_X8_isFamily d v1).bind fun x1 => if x1 = 0 then (q_X3_unitFor_13 d) else if sk_bi v1 8 = true then if (d.1 5 0 v1.toNatClampNeg) = 0 then (q_X3_unitFor_13 d) else if sk_bi v1 8 = true then if (d.1 12 0 v1.toNatClampNeg) = (-9 : Int32) then (q_X3_newUnit d).bind fun x4 => if sk_bi v1 8 = true then (q_X3_unitFor_39 (sk_wi x4.2 12 0 v1.toNatClampNeg x4.1) v1) else none else (q_X3_unitFor_39 d v1) else none else none
set_option maxRecDepth 100000 in
set_option maxHeartbeats 4000000 in
theorem t_X3_unitFor_0 {l : Launch} {d : sk_D} {v1 : Int32} {res : Int32 × sk_D} (hq : q_X3_unitFor_0 d v1 = some res) :
    sk_G l (sk_rm 3 0 0) m_X3_unitFor sk_Ex0 (sk_Zm m_X3_unitFor (some (.inl res.1)) (sk_mm res.2)) 0 0 0 [some (.inr (.inr (some (6, 0)))), some (.inl v1), some (.inr (.inr (some (5, 0))))] [] (sk_mm d) := by
  unfold q_X3_unitFor_0 at hq
  refine sg_iload_n 1 (sk_td o_X3_unitFor 0 rfl) rfl rfl ?_
  obtain ⟨x1, hr_x1, hq⟩ := sk_bnd hq
  refine sm_callN1i 4 (s_X8_isFamily hr_x1) (sk_td o_X3_unitFor 1 rfl) rfl ln_X3_97 rfl (sk_rok (Nat.le_of_ble_eq_true rfl) (Nat.le_of_ble_eq_true rfl) rfl rfl) (Nat.le_of_ble_eq_true rfl) ?_
  refine sg_if_eq 13 7 (sk_td o_X3_unitFor 2 rfl) (by decide) rfl (fun hc => ?_) (fun hc => ?_)
  · rw [if_pos hc] at hq
    refine sk_wk [true, false, false] (ls' := [some (.inr (.inr (some (6, 0)))), none, none]) rfl ?_
    exact t_X3_unitFor_13 hq
  · rw [if_neg hc] at hq
    refine sg_aload_n 8 (sk_td o_X3_unitFor 3 rfl) rfl rfl ?_
    refine sg_iload_n 9 (sk_td o_X3_unitFor 4 rfl) rfl rfl ?_
    obtain ⟨hb2, hq⟩ := sk_ifn hq
    refine sm_zald 10 (sk_td o_X3_unitFor 5 rfl) rfl rfl sz_5 hb2 ?_
    refine sg_if_ne 18 13 (sk_td o_X3_unitFor 6 rfl) (by decide) rfl (fun hc => ?_) (fun hc => ?_)
    · rw [if_neg hc] at hq
      refine sg_aload_n 19 (sk_td o_X3_unitFor 10 rfl) rfl rfl ?_
      refine sm_getR (12, 0) 22 (sk_td o_X3_unitFor 11 rfl) rfl kf_X3_33 rfl rfl sz_6 rfl ?_
      refine sg_iload_n 23 (sk_td o_X3_unitFor 12 rfl) rfl rfl ?_
      obtain ⟨hb3, hq⟩ := sk_ifn hq
      refine sm_iald 24 (sk_td o_X3_unitFor 13 rfl) rfl rfl sz_12 hb3 ?_
      refine sg_bipush (v := (-9 : Int32)) 26 (sk_td o_X3_unitFor 14 rfl) rfl (by decide) ?_
      refine sg_ic_ne 39 29 (sk_td o_X3_unitFor 15 rfl) (by decide) rfl (fun hc => ?_) (fun hc => ?_)
      · rw [if_neg hc] at hq
        refine sk_wk [true, true, false] (ls' := [some (.inr (.inr (some (6, 0)))), some (.inl v1), none]) rfl ?_
        exact t_X3_unitFor_39 hq
      · rw [if_pos hc] at hq
        refine sg_aload_n 30 (sk_td o_X3_unitFor 16 rfl) rfl rfl ?_
        refine sm_getR (12, 0) 33 (sk_td o_X3_unitFor 17 rfl) rfl kf_X3_33 rfl rfl sz_6 rfl ?_
        refine sg_iload_n 34 (sk_td o_X3_unitFor 18 rfl) rfl rfl ?_
        refine sg_aload_n 35 (sk_td o_X3_unitFor 19 rfl) rfl rfl ?_
        obtain ⟨x4, hr_x4, hq⟩ := sk_bnd hq
        refine sm_callV0i 38 (s_X3_newUnit hr_x4) (sk_td o_X3_unitFor 20 rfl) rfl lv_X3_101 rfl rfl rfl sz_6 (sk_rok (Nat.le_of_ble_eq_true rfl) (Nat.le_of_ble_eq_true rfl) rfl rfl) (Nat.le_of_ble_eq_true rfl) ?_
        obtain ⟨hb5, hq⟩ := sk_ifn hq
        refine sm_iast 39 (sk_td o_X3_unitFor 21 rfl) rfl rfl sz_12 hb5 ?_
        refine sk_wk [true, true, false] (ls' := [some (.inr (.inr (some (6, 0)))), some (.inl v1), none]) rfl ?_
        exact t_X3_unitFor_39 hq
    · rw [if_pos hc] at hq
      refine sk_wk [true, false, false] (ls' := [some (.inr (.inr (some (6, 0)))), none, none]) rfl ?_
      exact t_X3_unitFor_13 hq
def q_X3_unitFor (d : sk_D) (v1 : Int32) : Option (Int32 × sk_D) := q_X3_unitFor_0 d v1 
theorem s_X3_unitFor {l : Launch} {d : sk_D} {v1 : Int32} {res : Int32 × sk_D} (hq : q_X3_unitFor d v1 = some res) : sk_M l 3 m_X3_unitFor [.inr (.inr (some (6, 0))), .inl v1, .inr (.inr (some (5, 0)))] (sk_mm d) (some (.inl res.1)) (sk_mm res.2) :=
  sk_enter (by decide) (fun _ => Nat.le_of_ble_eq_true rfl) (Nat.le_of_ble_eq_true rfl) (t_X3_unitFor_0 hq )
def q_X3_addHead_93 (rec13 : (sk_D × Int32 × Nat × Int32) → Option (sk_D)) (d : sk_D) (v1 : Int32) (k2 : Nat) (v4 : Int32) : Option (sk_D) :=
  (rec13 (d, v1, k2, (v4 + (1 : Int32))))
set_option maxRecDepth 100000 in
set_option maxHeartbeats 4000000 in
theorem t_X3_addHead_93 {l : Launch} {rec13 : (sk_D × Int32 × Nat × Int32) → Option (sk_D)} {d : sk_D} {v1 : Int32} {k2 : Nat} {v4 : Int32} (hrec13 : ∀ (a : (sk_D × Int32 × Nat × Int32)) (res : sk_D), rec13 a = some res → a.2.2.1 < sk_cnt 37 → sk_G l (sk_rm 2 0 0) m_X3_addHead sk_Ex0 (sk_Zm m_X3_addHead none (sk_mm res)) 0 0 13 [some (.inr (.inr (some (6, 0)))), some (.inl a.2.1), some (.inr (.inr (some (37, a.2.2.1)))), some (.inr (.inr (some (2, 0)))), some (.inl a.2.2.2)] [] (sk_mm a.1)) {res : sk_D} (hq : q_X3_addHead_93 rec13 d v1 k2 v4 = some res) (hk_k2 : k2 < sk_cnt 37) :
    sk_G l (sk_rm 2 0 0) m_X3_addHead sk_Ex0 (sk_Zm m_X3_addHead none (sk_mm res)) 0 0 93 [some (.inr (.inr (some (6, 0)))), some (.inl v1), some (.inr (.inr (some (37, k2)))), some (.inr (.inr (some (2, 0)))), some (.inl v4)] [] (sk_mm d) := by
  unfold q_X3_addHead_93 at hq
  refine sg_iinc (v4 + (1 : Int32)) 96 [some (.inr (.inr (some (6, 0)))), some (.inl v1), some (.inr (.inr (some (37, k2)))), some (.inr (.inr (some (2, 0)))), some (.inl (v4 + (1 : Int32)))] (sk_td o_X3_addHead 57 rfl) rfl rfl rfl rfl (Nat.le_of_ble_eq_true rfl) rfl ?_
  refine sg_goto 13 (sk_td o_X3_addHead 58 rfl) (by decide) ?_
  exact hrec13 (d, v1, k2, (v4 + (1 : Int32))) _ hq hk_k2
def q_X3_addHead_40 (rec13 : (sk_D × Int32 × Nat × Int32) → Option (sk_D)) (d : sk_D) (v1 : Int32) (k2 : Nat) (v4 : Int32) : Option (sk_D) :=
  if sk_bi v1 20 = true then if sk_bi v4 4 = true then (q_X3_addHead_93 rec13 (sk_wi d 10 v1.toNatClampNeg v4.toNatClampNeg (-1 : Int32)) v1 k2 v4) else none else none
set_option maxRecDepth 100000 in
set_option maxHeartbeats 4000000 in
theorem t_X3_addHead_40 {l : Launch} {rec13 : (sk_D × Int32 × Nat × Int32) → Option (sk_D)} {d : sk_D} {v1 : Int32} {k2 : Nat} {v4 : Int32} (hrec13 : ∀ (a : (sk_D × Int32 × Nat × Int32)) (res : sk_D), rec13 a = some res → a.2.2.1 < sk_cnt 37 → sk_G l (sk_rm 2 0 0) m_X3_addHead sk_Ex0 (sk_Zm m_X3_addHead none (sk_mm res)) 0 0 13 [some (.inr (.inr (some (6, 0)))), some (.inl a.2.1), some (.inr (.inr (some (37, a.2.2.1)))), some (.inr (.inr (some (2, 0)))), some (.inl a.2.2.2)] [] (sk_mm a.1)) {res : sk_D} (hq : q_X3_addHead_40 rec13 d v1 k2 v4 = some res) (hk_k2 : k2 < sk_cnt 37) :
    sk_G l (sk_rm 2 0 0) m_X3_addHead sk_Ex0 (sk_Zm m_X3_addHead none (sk_mm res)) 0 0 40 [some (.inr (.inr (some (6, 0)))), some (.inl v1), some (.inr (.inr (some (37, k2)))), some (.inr (.inr (some (2, 0)))), some (.inl v4)] [] (sk_mm d) := by
  unfold q_X3_addHead_40 at hq
  refine sg_aload_n 41 (sk_td o_X3_addHead 24 rfl) rfl rfl ?_
  refine sm_getR (9, 0) 44 (sk_td o_X3_addHead 25 rfl) rfl kf_X3_27 rfl rfl sz_6 rfl ?_
  refine sg_iload_n 45 (sk_td o_X3_addHead 26 rfl) rfl rfl ?_
  obtain ⟨hb1, hq⟩ := sk_ifn hq
  refine sm_aald (10, v1.toNatClampNeg) 46 (sk_td o_X3_addHead 27 rfl) rfl rfl (by decide) sz_9 hb1 (sr_9 (sk_bi.lt hb1)) ?_
  refine sg_iload 48 (sk_td o_X3_addHead 28 rfl) rfl rfl ?_
  refine sg_iconst (v := (-1 : Int32)) 49 (sk_td o_X3_addHead 29 rfl) rfl (by decide) ?_
  obtain ⟨hb2, hq⟩ := sk_ifn hq
  refine sm_iast 50 (sk_td o_X3_addHead 30 rfl) rfl rfl (sk_bi.lt hb1) hb2 ?_
  refine sg_goto 93 (sk_td o_X3_addHead 31 rfl) (by decide) ?_
  exact t_X3_addHead_93 hrec13 hq hk_k2
def q_X3_addHead_13 (rec13 : (sk_D × Int32 × Nat × Int32) → Option (sk_D)) (d : sk_D) (v1 : Int32) (k2 : Nat) (v4 : Int32) : Option (sk_D) :=
  if (4 : Int32) ≤ v4 then some d else if sk_bi v4 4 = true then if (d.1 39 v4.toNatClampNeg 0) = 0 then (q_X3_addHead_40 rec13 d v1 k2 v4) else if sk_bi v4 4 = true then (q_X0_suits d v4.toNatClampNeg k2).bind fun x3 => if x3 = 0 then (q_X3_addHead_40 rec13 d v1 k2 v4) else if sk_bi v1 20 = true then if sk_bi v4 4 = true then if (d.1 10 v1.toNatClampNeg v4.toNatClampNeg) = (-1 : Int32) then (q_X3_addHead_93 rec13 d v1 k2 v4) else if sk_bi v4 4 = true then if (d.1 39 v4.toNatClampNeg 1) = (d.1 37 k2 1) then (q_X3_addHead_93 rec13 d v1 k2 v4) else if sk_bi v1 20 = true then if sk_bi v4 4 = true then if sk_bi v4 4 = true then (q_X3_addHead_93 rec13 (sk_wi d 10 v1.toNatClampNeg v4.toNatClampNeg ((d.1 10 v1.toNatClampNeg v4.toNatClampNeg) + (1 : Int32))) v1 k2 v4) else none else none else none else none else none else none else none else none
set_option maxRecDepth 100000 in
set_option maxHeartbeats 4000000 in
theorem t_X3_addHead_13 {l : Launch} {rec13 : (sk_D × Int32 × Nat × Int32) → Option (sk_D)} {d : sk_D} {v1 : Int32} {k2 : Nat} {v4 : Int32} (hrec13 : ∀ (a : (sk_D × Int32 × Nat × Int32)) (res : sk_D), rec13 a = some res → a.2.2.1 < sk_cnt 37 → sk_G l (sk_rm 2 0 0) m_X3_addHead sk_Ex0 (sk_Zm m_X3_addHead none (sk_mm res)) 0 0 13 [some (.inr (.inr (some (6, 0)))), some (.inl a.2.1), some (.inr (.inr (some (37, a.2.2.1)))), some (.inr (.inr (some (2, 0)))), some (.inl a.2.2.2)] [] (sk_mm a.1)) {res : sk_D} (hq : q_X3_addHead_13 rec13 d v1 k2 v4 = some res) (hk_k2 : k2 < sk_cnt 37) :
    sk_G l (sk_rm 2 0 0) m_X3_addHead sk_Ex0 (sk_Zm m_X3_addHead none (sk_mm res)) 0 0 13 [some (.inr (.inr (some (6, 0)))), some (.inl v1), some (.inr (.inr (some (37, k2)))), some (.inr (.inr (some (2, 0)))), some (.inl v4)] [] (sk_mm d) := by
  unfold q_X3_addHead_13 at hq
  refine sg_iload 15 (sk_td o_X3_addHead 10 rfl) rfl rfl ?_
  refine sg_iconst (v := (4 : Int32)) 16 (sk_td o_X3_addHead 11 rfl) rfl (by decide) ?_
  refine sg_ic_ge 99 19 (sk_td o_X3_addHead 12 rfl) (by decide) rfl (fun hc => ?_) (fun hc => ?_)
  · rw [if_pos hc] at hq
    cases hq
    exact sg_vret (sk_td o_X3_addHead 59 rfl) rfl
  · rw [if_neg hc] at hq
    refine sg_aload_n 20 (sk_td o_X3_addHead 13 rfl) rfl rfl ?_
    refine sg_iload 22 (sk_td o_X3_addHead 14 rfl) rfl rfl ?_
    obtain ⟨hb1, hq⟩ := sk_ifn hq
    refine sm_aald (39, v4.toNatClampNeg) 23 (sk_td o_X3_addHead 15 rfl) rfl rfl (by decide) sz_2 hb1 (sr_2 (sk_bi.lt hb1)) ?_
    refine sm_getI 26 (sk_td o_X3_addHead 16 rfl) rfl kf_X3_111 rfl rfl (sk_bi.lt hb1) ?_
    refine sg_if_eq 40 29 (sk_td o_X3_addHead 17 rfl) (by decide) rfl (fun hc => ?_) (fun hc => ?_)
    · rw [if_pos hc] at hq
      exact t_X3_addHead_40 hrec13 hq hk_k2
    · rw [if_neg hc] at hq
      refine sg_aload_n 30 (sk_td o_X3_addHead 18 rfl) rfl rfl ?_
      refine sg_iload 32 (sk_td o_X3_addHead 19 rfl) rfl rfl ?_
      obtain ⟨hb2, hq⟩ := sk_ifn hq
      refine sm_aald (39, v4.toNatClampNeg) 33 (sk_td o_X3_addHead 20 rfl) rfl rfl (by decide) sz_2 hb2 (sr_2 (sk_bi.lt hb2)) ?_
      refine sg_aload_n 34 (sk_td o_X3_addHead 21 rfl) rfl rfl ?_
      obtain ⟨x3, hr_x3, hq⟩ := sk_bnd hq
      refine sm_callV1i 37 (s_X0_suits hr_x3 (sk_bi.lt hb2) hk_k2) (sk_td o_X3_addHead 22 rfl) rfl lv_X3_116 rfl rfl rfl (sk_bi.lt hb2) (sk_rok (Nat.le_of_ble_eq_true rfl) (Nat.le_of_ble_eq_true rfl) rfl rfl) (Nat.le_of_ble_eq_true rfl) ?_
      refine sg_if_ne 53 40 (sk_td o_X3_addHead 23 rfl) (by decide) rfl (fun hc => ?_) (fun hc => ?_)
      · rw [if_neg hc] at hq
        refine sg_aload_n 54 (sk_td o_X3_addHead 32 rfl) rfl rfl ?_
        refine sm_getR (9, 0) 57 (sk_td o_X3_addHead 33 rfl) rfl kf_X3_27 rfl rfl sz_6 rfl ?_
        refine sg_iload_n 58 (sk_td o_X3_addHead 34 rfl) rfl rfl ?_
        obtain ⟨hb4, hq⟩ := sk_ifn hq
        refine sm_aald (10, v1.toNatClampNeg) 59 (sk_td o_X3_addHead 35 rfl) rfl rfl (by decide) sz_9 hb4 (sr_9 (sk_bi.lt hb4)) ?_
        refine sg_iload 61 (sk_td o_X3_addHead 36 rfl) rfl rfl ?_
        obtain ⟨hb5, hq⟩ := sk_ifn hq
        refine sm_iald 62 (sk_td o_X3_addHead 37 rfl) rfl rfl (sk_bi.lt hb4) hb5 ?_
        refine sg_iconst (v := (-1 : Int32)) 63 (sk_td o_X3_addHead 38 rfl) rfl (by decide) ?_
        refine sg_ic_eq 93 66 (sk_td o_X3_addHead 39 rfl) (by decide) rfl (fun hc => ?_) (fun hc => ?_)
        · rw [if_pos hc] at hq
          exact t_X3_addHead_93 hrec13 hq hk_k2
        · rw [if_neg hc] at hq
          refine sg_aload_n 67 (sk_td o_X3_addHead 40 rfl) rfl rfl ?_
          refine sg_iload 69 (sk_td o_X3_addHead 41 rfl) rfl rfl ?_
          obtain ⟨hb6, hq⟩ := sk_ifn hq
          refine sm_aald (39, v4.toNatClampNeg) 70 (sk_td o_X3_addHead 42 rfl) rfl rfl (by decide) sz_2 hb6 (sr_2 (sk_bi.lt hb6)) ?_
          refine sm_getI 73 (sk_td o_X3_addHead 43 rfl) rfl kf_X3_120 rfl rfl (sk_bi.lt hb6) ?_
          refine sg_aload_n 74 (sk_td o_X3_addHead 44 rfl) rfl rfl ?_
          refine sm_getI 77 (sk_td o_X3_addHead 45 rfl) rfl kf_X3_123 rfl rfl hk_k2 ?_
          refine sg_ic_eq 93 80 (sk_td o_X3_addHead 46 rfl) (by decide) rfl (fun hc => ?_) (fun hc => ?_)
          · rw [if_pos hc] at hq
            exact t_X3_addHead_93 hrec13 hq hk_k2
          · rw [if_neg hc] at hq
            refine sg_aload_n 81 (sk_td o_X3_addHead 47 rfl) rfl rfl ?_
            refine sm_getR (9, 0) 84 (sk_td o_X3_addHead 48 rfl) rfl kf_X3_27 rfl rfl sz_6 rfl ?_
            refine sg_iload_n 85 (sk_td o_X3_addHead 49 rfl) rfl rfl ?_
            obtain ⟨hb7, hq⟩ := sk_ifn hq
            refine sm_aald (10, v1.toNatClampNeg) 86 (sk_td o_X3_addHead 50 rfl) rfl rfl (by decide) sz_9 hb7 (sr_9 (sk_bi.lt hb7)) ?_
            refine sg_iload 88 (sk_td o_X3_addHead 51 rfl) rfl rfl ?_
            refine sg_dup2 89 (sk_td o_X3_addHead 52 rfl) rfl ?_
            obtain ⟨hb8, hq⟩ := sk_ifn hq
            refine sm_iald 90 (sk_td o_X3_addHead 53 rfl) rfl rfl (sk_bi.lt hb7) hb8 ?_
            refine sg_iconst (v := (1 : Int32)) 91 (sk_td o_X3_addHead 54 rfl) rfl (by decide) ?_
            refine sg_iadd 92 (sk_td o_X3_addHead 55 rfl) rfl ?_
            obtain ⟨hb9, hq⟩ := sk_ifn hq
            refine sm_iast 93 (sk_td o_X3_addHead 56 rfl) rfl rfl (sk_bi.lt hb7) hb9 ?_
            exact t_X3_addHead_93 hrec13 hq hk_k2
      · rw [if_pos hc] at hq
        exact t_X3_addHead_40 hrec13 hq hk_k2
def l_X3_addHead_13 (fl : Nat) (a : (sk_D × Int32 × Nat × Int32)) : Option (sk_D) := sk_it (fun rec13 a => q_X3_addHead_13 rec13 a.1 a.2.1 a.2.2.1 a.2.2.2) fl a
theorem lt_X3_addHead_13 {l : Launch} : ∀ (fl : Nat) (a : (sk_D × Int32 × Nat × Int32)) (res : sk_D), l_X3_addHead_13 fl a = some res → a.2.2.1 < sk_cnt 37 → sk_G l (sk_rm 2 0 0) m_X3_addHead sk_Ex0 (sk_Zm m_X3_addHead none (sk_mm res)) 0 0 13 [some (.inr (.inr (some (6, 0)))), some (.inl a.2.1), some (.inr (.inr (some (37, a.2.2.1)))), some (.inr (.inr (some (2, 0)))), some (.inl a.2.2.2)] [] (sk_mm a.1) :=
  sk_it_ind (P := fun (a : (sk_D × Int32 × Nat × Int32)) (res : sk_D) => a.2.2.1 < sk_cnt 37 → sk_G l (sk_rm 2 0 0) m_X3_addHead sk_Ex0 (sk_Zm m_X3_addHead none (sk_mm res)) 0 0 13 [some (.inr (.inr (some (6, 0)))), some (.inl a.2.1), some (.inr (.inr (some (37, a.2.2.1)))), some (.inr (.inr (some (2, 0)))), some (.inl a.2.2.2)] [] (sk_mm a.1)) (fun rec13 hrec13 a res hq k0_ => t_X3_addHead_13 hrec13 hq k0_)
def q_X3_addHead_0 (d : sk_D) (v1 : Int32) (k2 : Nat) : Option (sk_D) :=
  if sk_bi v1 20 = true then if sk_bi v1 20 = true then (l_X3_addHead_13 sk_fu ((sk_wi d 8 0 v1.toNatClampNeg ((d.1 8 0 v1.toNatClampNeg) + (1 : Int32))), v1, k2, (0 : Int32))) else none else none
set_option maxRecDepth 100000 in
set_option maxHeartbeats 4000000 in
theorem t_X3_addHead_0 {l : Launch} {d : sk_D} {v1 : Int32} {k2 : Nat} {res : sk_D} (hq : q_X3_addHead_0 d v1 k2 = some res) (hk_k2 : k2 < sk_cnt 37) :
    sk_G l (sk_rm 2 0 0) m_X3_addHead sk_Ex0 (sk_Zm m_X3_addHead none (sk_mm res)) 0 0 0 [some (.inr (.inr (some (6, 0)))), some (.inl v1), some (.inr (.inr (some (37, k2)))), some (.inr (.inr (some (2, 0)))), none] [] (sk_mm d) := by
  unfold q_X3_addHead_0 at hq
  refine sg_aload_n 1 (sk_td o_X3_addHead 0 rfl) rfl rfl ?_
  refine sm_getR (8, 0) 4 (sk_td o_X3_addHead 1 rfl) rfl kf_X3_22 rfl rfl sz_6 rfl ?_
  refine sg_iload_n 5 (sk_td o_X3_addHead 2 rfl) rfl rfl ?_
  refine sg_dup2 6 (sk_td o_X3_addHead 3 rfl) rfl ?_
  obtain ⟨hb1, hq⟩ := sk_ifn hq
  refine sm_iald 7 (sk_td o_X3_addHead 4 rfl) rfl rfl sz_8 hb1 ?_
  refine sg_iconst (v := (1 : Int32)) 8 (sk_td o_X3_addHead 5 rfl) rfl (by decide) ?_
  refine sg_iadd 9 (sk_td o_X3_addHead 6 rfl) rfl ?_
  obtain ⟨hb2, hq⟩ := sk_ifn hq
  refine sm_iast 10 (sk_td o_X3_addHead 7 rfl) rfl rfl sz_8 hb2 ?_
  refine sg_iconst (v := (0 : Int32)) 11 (sk_td o_X3_addHead 8 rfl) rfl (by decide) ?_
  refine sg_istore 13 [some (.inr (.inr (some (6, 0)))), some (.inl v1), some (.inr (.inr (some (37, k2)))), some (.inr (.inr (some (2, 0)))), some (.inl (0 : Int32))] (sk_td o_X3_addHead 9 rfl) rfl rfl (Nat.le_of_ble_eq_true rfl) rfl ?_
  exact lt_X3_addHead_13 sk_fu ((sk_wi d 8 0 v1.toNatClampNeg ((d.1 8 0 v1.toNatClampNeg) + (1 : Int32))), v1, k2, (0 : Int32)) _ hq hk_k2
def q_X3_addHead (d : sk_D) (v1 : Int32) (k2 : Nat) : Option (sk_D) := q_X3_addHead_0 d v1 k2 
theorem s_X3_addHead {l : Launch} {d : sk_D} {v1 : Int32} {k2 : Nat} {res : sk_D} (hq : q_X3_addHead d v1 k2 = some res) (hk_k2 : k2 < sk_cnt 37) : sk_M l 2 m_X3_addHead [.inr (.inr (some (6, 0))), .inl v1, .inr (.inr (some (37, k2))), .inr (.inr (some (2, 0)))] (sk_mm d) none (sk_mm res) :=
  sk_enter (by decide) (fun _ => Nat.le_of_ble_eq_true rfl) (Nat.le_of_ble_eq_true rfl) (t_X3_addHead_0 hq hk_k2 )
def q_X3_gatherUnits_78 (rec17 : (sk_D × Int32) → Option (sk_D)) (d : sk_D) (v4 : Int32) : Option (sk_D) :=
  (rec17 (d, (v4 + (1 : Int32))))
set_option maxRecDepth 100000 in
set_option maxHeartbeats 4000000 in
theorem t_X3_gatherUnits_78 {l : Launch} {rec17 : (sk_D × Int32) → Option (sk_D)} {d : sk_D} {v4 : Int32} (hrec17 : ∀ (a : (sk_D × Int32)) (res : sk_D), rec17 a = some res → sk_G l (sk_rm 4 0 0) m_X3_gatherUnits sk_Ex0 (sk_Zm m_X3_gatherUnits none (sk_mm res)) 0 0 17 [some (.inr (.inr (some (6, 0)))), some (.inr (.inr (some (1, 0)))), some (.inr (.inr (some (2, 0)))), some (.inr (.inr (some (5, 0)))), some (.inl a.2)] [] (sk_mm a.1)) {res : sk_D} (hq : q_X3_gatherUnits_78 rec17 d v4 = some res) :
    sk_G l (sk_rm 4 0 0) m_X3_gatherUnits sk_Ex0 (sk_Zm m_X3_gatherUnits none (sk_mm res)) 0 0 78 [some (.inr (.inr (some (6, 0)))), some (.inr (.inr (some (1, 0)))), some (.inr (.inr (some (2, 0)))), some (.inr (.inr (some (5, 0)))), some (.inl v4)] [] (sk_mm d) := by
  unfold q_X3_gatherUnits_78 at hq
  refine sg_iinc (v4 + (1 : Int32)) 81 [some (.inr (.inr (some (6, 0)))), some (.inr (.inr (some (1, 0)))), some (.inr (.inr (some (2, 0)))), some (.inr (.inr (some (5, 0)))), some (.inl (v4 + (1 : Int32)))] (sk_td o_X3_gatherUnits 43 rfl) rfl rfl rfl rfl (Nat.le_of_ble_eq_true rfl) rfl ?_
  refine sg_goto 17 (sk_td o_X3_gatherUnits 44 rfl) (by decide) ?_
  exact hrec17 (d, (v4 + (1 : Int32))) _ hq
def q_X3_gatherUnits_69 (rec17 : (sk_D × Int32) → Option (sk_D)) (d : sk_D) (v4 : Int32) (s2 : Int32) : Option (sk_D) :=
  if sk_bi s2 20 = true then if sk_bi v4 20 = true then (q_X3_addHead d (d.1 7 0 s2.toNatClampNeg) v4.toNatClampNeg).bind fun x3 => (q_X3_gatherUnits_78 rec17 x3 v4) else none else none
set_option maxRecDepth 100000 in
set_option maxHeartbeats 4000000 in
theorem t_X3_gatherUnits_69 {l : Launch} {rec17 : (sk_D × Int32) → Option (sk_D)} {d : sk_D} {v4 : Int32} {s2 : Int32} (hrec17 : ∀ (a : (sk_D × Int32)) (res : sk_D), rec17 a = some res → sk_G l (sk_rm 4 0 0) m_X3_gatherUnits sk_Ex0 (sk_Zm m_X3_gatherUnits none (sk_mm res)) 0 0 17 [some (.inr (.inr (some (6, 0)))), some (.inr (.inr (some (1, 0)))), some (.inr (.inr (some (2, 0)))), some (.inr (.inr (some (5, 0)))), some (.inl a.2)] [] (sk_mm a.1)) {res : sk_D} (hq : q_X3_gatherUnits_69 rec17 d v4 s2 = some res) :
    sk_G l (sk_rm 4 0 0) m_X3_gatherUnits sk_Ex0 (sk_Zm m_X3_gatherUnits none (sk_mm res)) 0 0 69 [some (.inr (.inr (some (6, 0)))), some (.inr (.inr (some (1, 0)))), some (.inr (.inr (some (2, 0)))), some (.inr (.inr (some (5, 0)))), some (.inl v4)] [.inl s2, .inr (.inr (some (7, 0))), .inr (.inr (some (6, 0)))] (sk_mm d) := by
  unfold q_X3_gatherUnits_69 at hq
  obtain ⟨hb1, hq⟩ := sk_ifn hq
  refine sm_iald 70 (sk_td o_X3_gatherUnits 37 rfl) rfl rfl sz_7 hb1 ?_
  refine sg_aload_n 71 (sk_td o_X3_gatherUnits 38 rfl) rfl rfl ?_
  refine sg_iload 73 (sk_td o_X3_gatherUnits 39 rfl) rfl rfl ?_
  obtain ⟨hb2, hq⟩ := sk_ifn hq
  refine sm_aald (37, v4.toNatClampNeg) 74 (sk_td o_X3_gatherUnits 40 rfl) rfl rfl (by decide) sz_1 hb2 (sr_1 (sk_bi.lt hb2)) ?_
  refine sg_aload_n 75 (sk_td o_X3_gatherUnits 41 rfl) rfl rfl ?_
  obtain ⟨x3, hr_x3, hq⟩ := sk_bnd hq
  refine sm_callV3v 78 (s_X3_addHead hr_x3 (sk_bi.lt hb2)) (sk_td o_X3_gatherUnits 42 rfl) rfl lv_X3_93 rfl rfl rfl sz_6 (sk_rok (Nat.le_of_ble_eq_true rfl) (Nat.le_of_ble_eq_true rfl) rfl rfl) (Nat.le_of_ble_eq_true rfl) ?_
  exact t_X3_gatherUnits_78 hrec17 hq
def q_X3_gatherUnits_37 (rec17 : (sk_D × Int32) → Option (sk_D)) (d : sk_D) (v4 : Int32) (h0 : Nat) : Option (sk_D) :=
  if (d.1 37 h0 0) = 0 then (q_X3_gatherUnits_78 rec17 d v4) else if sk_bi v4 20 = true then (q_X3_unitFor d (d.1 37 v4.toNatClampNeg 3)).bind fun x2 => if sk_bi v4 20 = true then (q_X3_gatherUnits_69 rec17 (sk_wi x2.2 7 0 v4.toNatClampNeg x2.1) v4 v4) else none else none
set_option maxRecDepth 100000 in
set_option maxHeartbeats 4000000 in
theorem t_X3_gatherUnits_37 {l : Launch} {rec17 : (sk_D × Int32) → Option (sk_D)} {d : sk_D} {v4 : Int32} {h0 : Nat} (hrec17 : ∀ (a : (sk_D × Int32)) (res : sk_D), rec17 a = some res → sk_G l (sk_rm 4 0 0) m_X3_gatherUnits sk_Ex0 (sk_Zm m_X3_gatherUnits none (sk_mm res)) 0 0 17 [some (.inr (.inr (some (6, 0)))), some (.inr (.inr (some (1, 0)))), some (.inr (.inr (some (2, 0)))), some (.inr (.inr (some (5, 0)))), some (.inl a.2)] [] (sk_mm a.1)) {res : sk_D} (hq : q_X3_gatherUnits_37 rec17 d v4 h0 = some res) (hk_h0 : h0 < sk_cnt 37) :
    sk_G l (sk_rm 4 0 0) m_X3_gatherUnits sk_Ex0 (sk_Zm m_X3_gatherUnits none (sk_mm res)) 0 0 37 [some (.inr (.inr (some (6, 0)))), some (.inr (.inr (some (1, 0)))), some (.inr (.inr (some (2, 0)))), some (.inr (.inr (some (5, 0)))), some (.inl v4)] [.inr (.inr (some (37, h0)))] (sk_mm d) := by
  unfold q_X3_gatherUnits_37 at hq
  refine sm_getI 40 (sk_td o_X3_gatherUnits 20 rfl) rfl kf_X3_80 rfl rfl hk_h0 ?_
  refine sg_if_eq 78 43 (sk_td o_X3_gatherUnits 21 rfl) (by decide) rfl (fun hc => ?_) (fun hc => ?_)
  · rw [if_pos hc] at hq
    exact t_X3_gatherUnits_78 hrec17 hq
  · rw [if_neg hc] at hq
    refine sg_aload_n 44 (sk_td o_X3_gatherUnits 22 rfl) rfl rfl ?_
    refine sm_getR (7, 0) 47 (sk_td o_X3_gatherUnits 23 rfl) rfl kf_X3_18 rfl rfl sz_6 rfl ?_
    refine sg_iload 49 (sk_td o_X3_gatherUnits 24 rfl) rfl rfl ?_
    refine sg_aload_n 50 (sk_td o_X3_gatherUnits 25 rfl) rfl rfl ?_
    refine sg_aload_n 51 (sk_td o_X3_gatherUnits 26 rfl) rfl rfl ?_
    refine sg_iload 53 (sk_td o_X3_gatherUnits 27 rfl) rfl rfl ?_
    obtain ⟨hb1, hq⟩ := sk_ifn hq
    refine sm_aald (37, v4.toNatClampNeg) 54 (sk_td o_X3_gatherUnits 28 rfl) rfl rfl (by decide) sz_1 hb1 (sr_1 (sk_bi.lt hb1)) ?_
    refine sm_getI 57 (sk_td o_X3_gatherUnits 29 rfl) rfl kf_X3_86 rfl rfl (sk_bi.lt hb1) ?_
    refine sg_aload_n 58 (sk_td o_X3_gatherUnits 30 rfl) rfl rfl ?_
    obtain ⟨x2, hr_x2, hq⟩ := sk_bnd hq
    refine sm_callV2i 61 (s_X3_unitFor hr_x2) (sk_td o_X3_gatherUnits 31 rfl) rfl lv_X3_89 rfl rfl rfl sz_6 (sk_rok (Nat.le_of_ble_eq_true rfl) (Nat.le_of_ble_eq_true rfl) rfl rfl) (Nat.le_of_ble_eq_true rfl) ?_
    obtain ⟨hb3, hq⟩ := sk_ifn hq
    refine sm_iast 62 (sk_td o_X3_gatherUnits 32 rfl) rfl rfl sz_7 hb3 ?_
    refine sg_aload_n 63 (sk_td o_X3_gatherUnits 33 rfl) rfl rfl ?_
    refine sg_aload_n 64 (sk_td o_X3_gatherUnits 34 rfl) rfl rfl ?_
    refine sm_getR (7, 0) 67 (sk_td o_X3_gatherUnits 35 rfl) rfl kf_X3_18 rfl rfl sz_6 rfl ?_
    refine sg_iload 69 (sk_td o_X3_gatherUnits 36 rfl) rfl rfl ?_
    exact t_X3_gatherUnits_69 hrec17 hq
def q_X3_gatherUnits_17 (rec17 : (sk_D × Int32) → Option (sk_D)) (d : sk_D) (v4 : Int32) : Option (sk_D) :=
  if (20 : Int32) ≤ v4 then some d else if sk_bi v4 20 = true then if sk_bi v4 20 = true then (q_X3_gatherUnits_37 rec17 (sk_wi d 7 0 v4.toNatClampNeg (-9 : Int32)) v4 v4.toNatClampNeg) else none else none
set_option maxRecDepth 100000 in
set_option maxHeartbeats 4000000 in
theorem t_X3_gatherUnits_17 {l : Launch} {rec17 : (sk_D × Int32) → Option (sk_D)} {d : sk_D} {v4 : Int32} (hrec17 : ∀ (a : (sk_D × Int32)) (res : sk_D), rec17 a = some res → sk_G l (sk_rm 4 0 0) m_X3_gatherUnits sk_Ex0 (sk_Zm m_X3_gatherUnits none (sk_mm res)) 0 0 17 [some (.inr (.inr (some (6, 0)))), some (.inr (.inr (some (1, 0)))), some (.inr (.inr (some (2, 0)))), some (.inr (.inr (some (5, 0)))), some (.inl a.2)] [] (sk_mm a.1)) {res : sk_D} (hq : q_X3_gatherUnits_17 rec17 d v4 = some res) :
    sk_G l (sk_rm 4 0 0) m_X3_gatherUnits sk_Ex0 (sk_Zm m_X3_gatherUnits none (sk_mm res)) 0 0 17 [some (.inr (.inr (some (6, 0)))), some (.inr (.inr (some (1, 0)))), some (.inr (.inr (some (2, 0)))), some (.inr (.inr (some (5, 0)))), some (.inl v4)] [] (sk_mm d) := by
  unfold q_X3_gatherUnits_17 at hq
  refine sg_iload 19 (sk_td o_X3_gatherUnits 9 rfl) rfl rfl ?_
  refine sg_bipush (v := (20 : Int32)) 21 (sk_td o_X3_gatherUnits 10 rfl) rfl (by decide) ?_
  refine sg_ic_ge 84 24 (sk_td o_X3_gatherUnits 11 rfl) (by decide) rfl (fun hc => ?_) (fun hc => ?_)
  · rw [if_pos hc] at hq
    cases hq
    exact sg_vret (sk_td o_X3_gatherUnits 45 rfl) rfl
  · rw [if_neg hc] at hq
    refine sg_aload_n 25 (sk_td o_X3_gatherUnits 12 rfl) rfl rfl ?_
    refine sm_getR (7, 0) 28 (sk_td o_X3_gatherUnits 13 rfl) rfl kf_X3_18 rfl rfl sz_6 rfl ?_
    refine sg_iload 30 (sk_td o_X3_gatherUnits 14 rfl) rfl rfl ?_
    refine sg_bipush (v := (-9 : Int32)) 32 (sk_td o_X3_gatherUnits 15 rfl) rfl (by decide) ?_
    obtain ⟨hb1, hq⟩ := sk_ifn hq
    refine sm_iast 33 (sk_td o_X3_gatherUnits 16 rfl) rfl rfl sz_7 hb1 ?_
    refine sg_aload_n 34 (sk_td o_X3_gatherUnits 17 rfl) rfl rfl ?_
    refine sg_iload 36 (sk_td o_X3_gatherUnits 18 rfl) rfl rfl ?_
    obtain ⟨hb2, hq⟩ := sk_ifn hq
    refine sm_aald (37, v4.toNatClampNeg) 37 (sk_td o_X3_gatherUnits 19 rfl) rfl rfl (by decide) sz_1 hb2 (sr_1 (sk_bi.lt hb2)) ?_
    exact t_X3_gatherUnits_37 hrec17 hq (sk_bi.lt hb2)
def l_X3_gatherUnits_17 (fl : Nat) (a : (sk_D × Int32)) : Option (sk_D) := sk_it (fun rec17 a => q_X3_gatherUnits_17 rec17 a.1 a.2) fl a
theorem lt_X3_gatherUnits_17 {l : Launch} : ∀ (fl : Nat) (a : (sk_D × Int32)) (res : sk_D), l_X3_gatherUnits_17 fl a = some res → sk_G l (sk_rm 4 0 0) m_X3_gatherUnits sk_Ex0 (sk_Zm m_X3_gatherUnits none (sk_mm res)) 0 0 17 [some (.inr (.inr (some (6, 0)))), some (.inr (.inr (some (1, 0)))), some (.inr (.inr (some (2, 0)))), some (.inr (.inr (some (5, 0)))), some (.inl a.2)] [] (sk_mm a.1) :=
  sk_it_ind (P := fun (a : (sk_D × Int32)) (res : sk_D) => sk_G l (sk_rm 4 0 0) m_X3_gatherUnits sk_Ex0 (sk_Zm m_X3_gatherUnits none (sk_mm res)) 0 0 17 [some (.inr (.inr (some (6, 0)))), some (.inr (.inr (some (1, 0)))), some (.inr (.inr (some (2, 0)))), some (.inr (.inr (some (5, 0)))), some (.inl a.2)] [] (sk_mm a.1)) (fun rec17 hrec17 a res hq  => t_X3_gatherUnits_17 hrec17 hq )
def q_X3_gatherUnits_11 (d : sk_D) : Option (sk_D) :=
  (l_X3_gatherUnits_17 sk_fu ((sk_fi d 12 0 8 (-9 : Int32)), (0 : Int32)))
set_option maxRecDepth 100000 in
set_option maxHeartbeats 4000000 in
theorem t_X3_gatherUnits_11 {l : Launch} {d : sk_D} {res : sk_D} (hq : q_X3_gatherUnits_11 d = some res) :
    sk_G l (sk_rm 4 0 0) m_X3_gatherUnits sk_Ex0 (sk_Zm m_X3_gatherUnits none (sk_mm res)) 0 0 11 [some (.inr (.inr (some (6, 0)))), some (.inr (.inr (some (1, 0)))), some (.inr (.inr (some (2, 0)))), some (.inr (.inr (some (5, 0)))), none] [.inl (-9 : Int32), .inr (.inr (some (12, 0)))] (sk_mm d) := by
  unfold q_X3_gatherUnits_11 at hq
  refine sm_callS2v 14 (s_J7_fill_53178 (n := 8) rfl sz_12 (by decide)) (sk_td o_X3_gatherUnits 6 rfl) rfl ls_X3_74 rfl (sk_rok (Nat.le_of_ble_eq_true rfl) (Nat.le_of_ble_eq_true rfl) rfl rfl) (Nat.le_of_ble_eq_true rfl) ?_
  refine sg_iconst (v := (0 : Int32)) 15 (sk_td o_X3_gatherUnits 7 rfl) rfl (by decide) ?_
  refine sg_istore 17 [some (.inr (.inr (some (6, 0)))), some (.inr (.inr (some (1, 0)))), some (.inr (.inr (some (2, 0)))), some (.inr (.inr (some (5, 0)))), some (.inl (0 : Int32))] (sk_td o_X3_gatherUnits 8 rfl) rfl rfl (Nat.le_of_ble_eq_true rfl) rfl ?_
  exact lt_X3_gatherUnits_17 sk_fu ((sk_fi d 12 0 8 (-9 : Int32)), (0 : Int32)) _ hq
def q_X3_gatherUnits_0 (d : sk_D) : Option (sk_D) :=
  (q_X3_gatherUnits_11 (sk_wi d 6 0 0 (0 : Int32)))
set_option maxRecDepth 100000 in
set_option maxHeartbeats 4000000 in
theorem t_X3_gatherUnits_0 {l : Launch} {d : sk_D} {res : sk_D} (hq : q_X3_gatherUnits_0 d = some res) :
    sk_G l (sk_rm 4 0 0) m_X3_gatherUnits sk_Ex0 (sk_Zm m_X3_gatherUnits none (sk_mm res)) 0 0 0 [some (.inr (.inr (some (6, 0)))), some (.inr (.inr (some (1, 0)))), some (.inr (.inr (some (2, 0)))), some (.inr (.inr (some (5, 0)))), none] [] (sk_mm d) := by
  unfold q_X3_gatherUnits_0 at hq
  refine sg_aload_n 1 (sk_td o_X3_gatherUnits 0 rfl) rfl rfl ?_
  refine sg_iconst (v := (0 : Int32)) 2 (sk_td o_X3_gatherUnits 1 rfl) rfl (by decide) ?_
  refine sm_putI 5 (sk_td o_X3_gatherUnits 2 rfl) rfl kp_X3_9 rfl rfl sz_6 ?_
  refine sg_aload_n 6 (sk_td o_X3_gatherUnits 3 rfl) rfl rfl ?_
  refine sm_getR (12, 0) 9 (sk_td o_X3_gatherUnits 4 rfl) rfl kf_X3_33 rfl rfl sz_6 rfl ?_
  refine sg_bipush (v := (-9 : Int32)) 11 (sk_td o_X3_gatherUnits 5 rfl) rfl (by decide) ?_
  exact t_X3_gatherUnits_11 hq
def q_X3_gatherUnits (d : sk_D) : Option (sk_D) := q_X3_gatherUnits_0 d 
theorem s_X3_gatherUnits {l : Launch} {d : sk_D} {res : sk_D} (hq : q_X3_gatherUnits d = some res) : sk_M l 4 m_X3_gatherUnits [.inr (.inr (some (6, 0))), .inr (.inr (some (1, 0))), .inr (.inr (some (2, 0))), .inr (.inr (some (5, 0)))] (sk_mm d) none (sk_mm res) :=
  sk_enter (by decide) (fun _ => Nat.le_of_ble_eq_true rfl) (Nat.le_of_ble_eq_true rfl) (t_X3_gatherUnits_0 hq )
def q_X3_limitSeats_105 (rec7 : (sk_D × Int32) → Option (sk_D)) (d : sk_D) (v2 : Int32) : Option (sk_D) :=
  if sk_bi v2 4 = true then (rec7 ((sk_wi d 6 0 1 ((d.1 6 0 1) * ((d.1 13 0 v2.toNatClampNeg) + (1 : Int32)))), (v2 + (1 : Int32)))) else none
set_option maxRecDepth 100000 in
set_option maxHeartbeats 4000000 in
theorem t_X3_limitSeats_105 {l : Launch} {rec7 : (sk_D × Int32) → Option (sk_D)} {d : sk_D} {v2 : Int32} (hrec7 : ∀ (a : (sk_D × Int32)) (res : sk_D), rec7 a = some res → sk_G l (sk_rm 1 0 0) m_X3_limitSeats sk_Ex0 (sk_Zm m_X3_limitSeats none (sk_mm res)) 0 0 7 [some (.inr (.inr (some (6, 0)))), some (.inr (.inr (some (2, 0)))), some (.inl a.2), none, none] [] (sk_mm a.1)) {res : sk_D} (hq : q_X3_limitSeats_105 rec7 d v2 = some res) :
    sk_G l (sk_rm 1 0 0) m_X3_limitSeats sk_Ex0 (sk_Zm m_X3_limitSeats none (sk_mm res)) 0 0 105 [some (.inr (.inr (some (6, 0)))), some (.inr (.inr (some (2, 0)))), some (.inl v2), none, none] [.inr (.inr (some (6, 0))), .inr (.inr (some (6, 0)))] (sk_mm d) := by
  unfold q_X3_limitSeats_105 at hq
  refine sm_getI 108 (sk_td o_X3_limitSeats 62 rfl) rfl kf_X3_15 rfl rfl sz_6 ?_
  refine sg_aload_n 109 (sk_td o_X3_limitSeats 63 rfl) rfl rfl ?_
  refine sm_getR (13, 0) 112 (sk_td o_X3_limitSeats 64 rfl) rfl kf_X3_36 rfl rfl sz_6 rfl ?_
  refine sg_iload_n 113 (sk_td o_X3_limitSeats 65 rfl) rfl rfl ?_
  obtain ⟨hb1, hq⟩ := sk_ifn hq
  refine sm_iald 114 (sk_td o_X3_limitSeats 66 rfl) rfl rfl sz_13 hb1 ?_
  refine sg_iconst (v := (1 : Int32)) 115 (sk_td o_X3_limitSeats 67 rfl) rfl (by decide) ?_
  refine sg_iadd 116 (sk_td o_X3_limitSeats 68 rfl) rfl ?_
  refine sg_imul 117 (sk_td o_X3_limitSeats 69 rfl) rfl ?_
  refine sm_putI 120 (sk_td o_X3_limitSeats 70 rfl) rfl kp_X3_15 rfl rfl sz_6 ?_
  refine sg_iinc (v2 + (1 : Int32)) 123 [some (.inr (.inr (some (6, 0)))), some (.inr (.inr (some (2, 0)))), some (.inl (v2 + (1 : Int32))), none, none] (sk_td o_X3_limitSeats 71 rfl) rfl rfl rfl rfl (Nat.le_of_ble_eq_true rfl) rfl ?_
  refine sg_goto 7 (sk_td o_X3_limitSeats 72 rfl) (by decide) ?_
  exact hrec7 ((sk_wi d 6 0 1 ((d.1 6 0 1) * ((d.1 13 0 v2.toNatClampNeg) + (1 : Int32)))), (v2 + (1 : Int32))) _ hq
def q_X3_limitSeats_99 (rec7 : (sk_D × Int32) → Option (sk_D)) (d : sk_D) (v2 : Int32) (s1 : Int32) : Option (sk_D) :=
  if sk_bi s1 4 = true then (q_X3_limitSeats_105 rec7 (sk_wi d 14 0 s1.toNatClampNeg (d.1 6 0 1)) v2) else none
set_option maxRecDepth 100000 in
set_option maxHeartbeats 4000000 in
theorem t_X3_limitSeats_99 {l : Launch} {rec7 : (sk_D × Int32) → Option (sk_D)} {d : sk_D} {v2 : Int32} {s1 : Int32} (hrec7 : ∀ (a : (sk_D × Int32)) (res : sk_D), rec7 a = some res → sk_G l (sk_rm 1 0 0) m_X3_limitSeats sk_Ex0 (sk_Zm m_X3_limitSeats none (sk_mm res)) 0 0 7 [some (.inr (.inr (some (6, 0)))), some (.inr (.inr (some (2, 0)))), some (.inl a.2), none, none] [] (sk_mm a.1)) {res : sk_D} (hq : q_X3_limitSeats_99 rec7 d v2 s1 = some res) :
    sk_G l (sk_rm 1 0 0) m_X3_limitSeats sk_Ex0 (sk_Zm m_X3_limitSeats none (sk_mm res)) 0 0 99 [some (.inr (.inr (some (6, 0)))), some (.inr (.inr (some (2, 0)))), some (.inl v2), none, none] [.inr (.inr (some (6, 0))), .inl s1, .inr (.inr (some (14, 0)))] (sk_mm d) := by
  unfold q_X3_limitSeats_99 at hq
  refine sm_getI 102 (sk_td o_X3_limitSeats 58 rfl) rfl kf_X3_15 rfl rfl sz_6 ?_
  obtain ⟨hb1, hq⟩ := sk_ifn hq
  refine sm_iast 103 (sk_td o_X3_limitSeats 59 rfl) rfl rfl sz_14 hb1 ?_
  refine sg_aload_n 104 (sk_td o_X3_limitSeats 60 rfl) rfl rfl ?_
  refine sg_dupR 105 (sk_td o_X3_limitSeats 61 rfl) rfl ?_
  exact t_X3_limitSeats_105 hrec7 hq
def q_X3_limitSeats_79 (rec7 : (sk_D × Int32) → Option (sk_D)) (d : sk_D) (v2 : Int32) (v3 : Int32) (s0 : Int32) : Option (sk_D) :=
  if sk_bi v2 4 = true then (q_X3_limitSeats_99 rec7 (sk_wi d 13 0 v2.toNatClampNeg (if s0 < v3 then s0 else v3)) v2 v2) else none
set_option maxRecDepth 100000 in
set_option maxHeartbeats 4000000 in
theorem t_X3_limitSeats_79 {l : Launch} {rec7 : (sk_D × Int32) → Option (sk_D)} {d : sk_D} {v2 : Int32} {v3 : Int32} {s0 : Int32} (hrec7 : ∀ (a : (sk_D × Int32)) (res : sk_D), rec7 a = some res → sk_G l (sk_rm 1 0 0) m_X3_limitSeats sk_Ex0 (sk_Zm m_X3_limitSeats none (sk_mm res)) 0 0 7 [some (.inr (.inr (some (6, 0)))), some (.inr (.inr (some (2, 0)))), some (.inl a.2), none, none] [] (sk_mm a.1)) {res : sk_D} (hq : q_X3_limitSeats_79 rec7 d v2 v3 s0 = some res) :
    sk_G l (sk_rm 1 0 0) m_X3_limitSeats sk_Ex0 (sk_Zm m_X3_limitSeats none (sk_mm res)) 0 0 79 [some (.inr (.inr (some (6, 0)))), some (.inr (.inr (some (2, 0)))), some (.inl v2), some (.inl v3), none] [.inl s0] (sk_mm d) := by
  unfold q_X3_limitSeats_79 at hq
  refine sg_istore 81 [some (.inr (.inr (some (6, 0)))), some (.inr (.inr (some (2, 0)))), some (.inl v2), some (.inl v3), some (.inl s0)] (sk_td o_X3_limitSeats 46 rfl) rfl rfl (Nat.le_of_ble_eq_true rfl) rfl ?_
  refine sg_aload_n 82 (sk_td o_X3_limitSeats 47 rfl) rfl rfl ?_
  refine sm_getR (13, 0) 85 (sk_td o_X3_limitSeats 48 rfl) rfl kf_X3_36 rfl rfl sz_6 rfl ?_
  refine sg_iload_n 86 (sk_td o_X3_limitSeats 49 rfl) rfl rfl ?_
  refine sg_iload_n 87 (sk_td o_X3_limitSeats 50 rfl) rfl rfl ?_
  refine sg_iload 89 (sk_td o_X3_limitSeats 51 rfl) rfl rfl ?_
  refine sm_min 92 (sk_td o_X3_limitSeats 52 rfl) rfl kM_X3_105 (Nat.le_of_ble_eq_true rfl) (Nat.le_of_ble_eq_true rfl) (Nat.le_of_ble_eq_true rfl) ?_
  obtain ⟨hb1, hq⟩ := sk_ifn hq
  refine sm_iast 93 (sk_td o_X3_limitSeats 53 rfl) rfl rfl sz_13 hb1 ?_
  refine sg_aload_n 94 (sk_td o_X3_limitSeats 54 rfl) rfl rfl ?_
  refine sm_getR (14, 0) 97 (sk_td o_X3_limitSeats 55 rfl) rfl kf_X3_39 rfl rfl sz_6 rfl ?_
  refine sg_iload_n 98 (sk_td o_X3_limitSeats 56 rfl) rfl rfl ?_
  refine sg_aload_n 99 (sk_td o_X3_limitSeats 57 rfl) rfl rfl ?_
  refine sk_wk [true, true, true, false, false] (ls' := [some (.inr (.inr (some (6, 0)))), some (.inr (.inr (some (2, 0)))), some (.inl v2), none, none]) rfl ?_
  exact t_X3_limitSeats_99 hrec7 hq
def q_X3_limitSeats_49 (rec7 : (sk_D × Int32) → Option (sk_D)) (rec17 : (sk_D × Int32 × Int32 × Int32) → Option (sk_D)) (d : sk_D) (v2 : Int32) (v3 : Int32) (v4 : Int32) : Option (sk_D) :=
  (rec17 (d, v2, v3, (v4 + (1 : Int32))))
set_option maxRecDepth 100000 in
set_option maxHeartbeats 4000000 in
theorem t_X3_limitSeats_49 {l : Launch} {rec7 : (sk_D × Int32) → Option (sk_D)} {rec17 : (sk_D × Int32 × Int32 × Int32) → Option (sk_D)} {d : sk_D} {v2 : Int32} {v3 : Int32} {v4 : Int32} (hrec7 : ∀ (a : (sk_D × Int32)) (res : sk_D), rec7 a = some res → sk_G l (sk_rm 1 0 0) m_X3_limitSeats sk_Ex0 (sk_Zm m_X3_limitSeats none (sk_mm res)) 0 0 7 [some (.inr (.inr (some (6, 0)))), some (.inr (.inr (some (2, 0)))), some (.inl a.2), none, none] [] (sk_mm a.1)) (hrec17 : ∀ (a : (sk_D × Int32 × Int32 × Int32)) (res : sk_D), rec17 a = some res → sk_G l (sk_rm 1 0 0) m_X3_limitSeats sk_Ex0 (sk_Zm m_X3_limitSeats none (sk_mm res)) 0 0 17 [some (.inr (.inr (some (6, 0)))), some (.inr (.inr (some (2, 0)))), some (.inl a.2.1), some (.inl a.2.2.1), some (.inl a.2.2.2)] [] (sk_mm a.1)) {res : sk_D} (hq : q_X3_limitSeats_49 rec7 rec17 d v2 v3 v4 = some res) :
    sk_G l (sk_rm 1 0 0) m_X3_limitSeats sk_Ex0 (sk_Zm m_X3_limitSeats none (sk_mm res)) 0 0 49 [some (.inr (.inr (some (6, 0)))), some (.inr (.inr (some (2, 0)))), some (.inl v2), some (.inl v3), some (.inl v4)] [] (sk_mm d) := by
  unfold q_X3_limitSeats_49 at hq
  refine sg_iinc (v4 + (1 : Int32)) 52 [some (.inr (.inr (some (6, 0)))), some (.inr (.inr (some (2, 0)))), some (.inl v2), some (.inl v3), some (.inl (v4 + (1 : Int32)))] (sk_td o_X3_limitSeats 31 rfl) rfl rfl rfl rfl (Nat.le_of_ble_eq_true rfl) rfl ?_
  refine sg_goto 17 (sk_td o_X3_limitSeats 32 rfl) (by decide) ?_
  exact hrec17 (d, v2, v3, (v4 + (1 : Int32))) _ hq
def q_X3_limitSeats_17 (rec7 : (sk_D × Int32) → Option (sk_D)) (rec17 : (sk_D × Int32 × Int32 × Int32) → Option (sk_D)) (d : sk_D) (v2 : Int32) (v3 : Int32) (v4 : Int32) : Option (sk_D) :=
  if (d.1 6 0 0) ≤ v4 then if sk_bi v2 4 = true then if (d.1 39 v2.toNatClampNeg 0) = 0 then (q_X3_limitSeats_79 rec7 d v2 v3 (0 : Int32)) else if sk_bi v2 4 = true then (q_X3_limitSeats_79 rec7 d v2 v3 (if (6 : Int32) < (d.1 39 v2.toNatClampNeg 3) then (6 : Int32) else (d.1 39 v2.toNatClampNeg 3))) else none else none else if sk_bi v4 20 = true then if sk_bi v2 4 = true then if (d.1 10 v4.toNatClampNeg v2.toNatClampNeg) = (-1 : Int32) then (q_X3_limitSeats_49 rec7 rec17 d v2 v3 v4) else if sk_bi v4 20 = true then (q_X3_limitSeats_49 rec7 rec17 d v2 (v3 + (d.1 8 0 v4.toNatClampNeg)) v4) else none else none else none
set_option maxRecDepth 100000 in
set_option maxHeartbeats 4000000 in
theorem t_X3_limitSeats_17 {l : Launch} {rec7 : (sk_D × Int32) → Option (sk_D)} {rec17 : (sk_D × Int32 × Int32 × Int32) → Option (sk_D)} {d : sk_D} {v2 : Int32} {v3 : Int32} {v4 : Int32} (hrec7 : ∀ (a : (sk_D × Int32)) (res : sk_D), rec7 a = some res → sk_G l (sk_rm 1 0 0) m_X3_limitSeats sk_Ex0 (sk_Zm m_X3_limitSeats none (sk_mm res)) 0 0 7 [some (.inr (.inr (some (6, 0)))), some (.inr (.inr (some (2, 0)))), some (.inl a.2), none, none] [] (sk_mm a.1)) (hrec17 : ∀ (a : (sk_D × Int32 × Int32 × Int32)) (res : sk_D), rec17 a = some res → sk_G l (sk_rm 1 0 0) m_X3_limitSeats sk_Ex0 (sk_Zm m_X3_limitSeats none (sk_mm res)) 0 0 17 [some (.inr (.inr (some (6, 0)))), some (.inr (.inr (some (2, 0)))), some (.inl a.2.1), some (.inl a.2.2.1), some (.inl a.2.2.2)] [] (sk_mm a.1)) {res : sk_D} (hq : q_X3_limitSeats_17 rec7 rec17 d v2 v3 v4 = some res) :
    sk_G l (sk_rm 1 0 0) m_X3_limitSeats sk_Ex0 (sk_Zm m_X3_limitSeats none (sk_mm res)) 0 0 17 [some (.inr (.inr (some (6, 0)))), some (.inr (.inr (some (2, 0)))), some (.inl v2), some (.inl v3), some (.inl v4)] [] (sk_mm d) := by
  unfold q_X3_limitSeats_17 at hq
  refine sg_iload 19 (sk_td o_X3_limitSeats 12 rfl) rfl rfl ?_
  refine sg_aload_n 20 (sk_td o_X3_limitSeats 13 rfl) rfl rfl ?_
  refine sm_getI 23 (sk_td o_X3_limitSeats 14 rfl) rfl kf_X3_9 rfl rfl sz_6 ?_
  refine sg_ic_ge 55 26 (sk_td o_X3_limitSeats 15 rfl) (by decide) rfl (fun hc => ?_) (fun hc => ?_)
  · rw [if_pos hc] at hq
    refine sg_aload_n 56 (sk_td o_X3_limitSeats 33 rfl) rfl rfl ?_
    refine sg_iload_n 57 (sk_td o_X3_limitSeats 34 rfl) rfl rfl ?_
    obtain ⟨hb1, hq⟩ := sk_ifn hq
    refine sm_aald (39, v2.toNatClampNeg) 58 (sk_td o_X3_limitSeats 35 rfl) rfl rfl (by decide) sz_2 hb1 (sr_2 (sk_bi.lt hb1)) ?_
    refine sm_getI 61 (sk_td o_X3_limitSeats 36 rfl) rfl kf_X3_111 rfl rfl (sk_bi.lt hb1) ?_
    refine sg_if_eq 78 64 (sk_td o_X3_limitSeats 37 rfl) (by decide) rfl (fun hc => ?_) (fun hc => ?_)
    · rw [if_pos hc] at hq
      refine sg_iconst (v := (0 : Int32)) 79 (sk_td o_X3_limitSeats 45 rfl) rfl (by decide) ?_
      refine sk_wk [true, true, true, true, false] (ls' := [some (.inr (.inr (some (6, 0)))), some (.inr (.inr (some (2, 0)))), some (.inl v2), some (.inl v3), none]) rfl ?_
      exact t_X3_limitSeats_79 hrec7 hq
    · rw [if_neg hc] at hq
      refine sg_aload_n 65 (sk_td o_X3_limitSeats 38 rfl) rfl rfl ?_
      refine sg_iload_n 66 (sk_td o_X3_limitSeats 39 rfl) rfl rfl ?_
      obtain ⟨hb2, hq⟩ := sk_ifn hq
      refine sm_aald (39, v2.toNatClampNeg) 67 (sk_td o_X3_limitSeats 40 rfl) rfl rfl (by decide) sz_2 hb2 (sr_2 (sk_bi.lt hb2)) ?_
      refine sm_getI 70 (sk_td o_X3_limitSeats 41 rfl) rfl kf_X3_124 rfl rfl (sk_bi.lt hb2) ?_
      refine sg_bipush (v := (6 : Int32)) 72 (sk_td o_X3_limitSeats 42 rfl) rfl (by decide) ?_
      refine sm_min 75 (sk_td o_X3_limitSeats 43 rfl) rfl kM_X3_105 (Nat.le_of_ble_eq_true rfl) (Nat.le_of_ble_eq_true rfl) (Nat.le_of_ble_eq_true rfl) ?_
      refine sg_goto 79 (sk_td o_X3_limitSeats 44 rfl) (by decide) ?_
      refine sk_wk [true, true, true, true, false] (ls' := [some (.inr (.inr (some (6, 0)))), some (.inr (.inr (some (2, 0)))), some (.inl v2), some (.inl v3), none]) rfl ?_
      exact t_X3_limitSeats_79 hrec7 hq
  · rw [if_neg hc] at hq
    refine sg_aload_n 27 (sk_td o_X3_limitSeats 16 rfl) rfl rfl ?_
    refine sm_getR (9, 0) 30 (sk_td o_X3_limitSeats 17 rfl) rfl kf_X3_27 rfl rfl sz_6 rfl ?_
    refine sg_iload 32 (sk_td o_X3_limitSeats 18 rfl) rfl rfl ?_
    obtain ⟨hb3, hq⟩ := sk_ifn hq
    refine sm_aald (10, v4.toNatClampNeg) 33 (sk_td o_X3_limitSeats 19 rfl) rfl rfl (by decide) sz_9 hb3 (sr_9 (sk_bi.lt hb3)) ?_
    refine sg_iload_n 34 (sk_td o_X3_limitSeats 20 rfl) rfl rfl ?_
    obtain ⟨hb4, hq⟩ := sk_ifn hq
    refine sm_iald 35 (sk_td o_X3_limitSeats 21 rfl) rfl rfl (sk_bi.lt hb3) hb4 ?_
    refine sg_iconst (v := (-1 : Int32)) 36 (sk_td o_X3_limitSeats 22 rfl) rfl (by decide) ?_
    refine sg_ic_eq 49 39 (sk_td o_X3_limitSeats 23 rfl) (by decide) rfl (fun hc => ?_) (fun hc => ?_)
    · rw [if_pos hc] at hq
      exact t_X3_limitSeats_49 hrec7 hrec17 hq
    · rw [if_neg hc] at hq
      refine sg_iload_n 40 (sk_td o_X3_limitSeats 24 rfl) rfl rfl ?_
      refine sg_aload_n 41 (sk_td o_X3_limitSeats 25 rfl) rfl rfl ?_
      refine sm_getR (8, 0) 44 (sk_td o_X3_limitSeats 26 rfl) rfl kf_X3_22 rfl rfl sz_6 rfl ?_
      refine sg_iload 46 (sk_td o_X3_limitSeats 27 rfl) rfl rfl ?_
      obtain ⟨hb5, hq⟩ := sk_ifn hq
      refine sm_iald 47 (sk_td o_X3_limitSeats 28 rfl) rfl rfl sz_8 hb5 ?_
      refine sg_iadd 48 (sk_td o_X3_limitSeats 29 rfl) rfl ?_
      refine sg_istore_n 49 [some (.inr (.inr (some (6, 0)))), some (.inr (.inr (some (2, 0)))), some (.inl v2), some (.inl (v3 + (d.1 8 0 v4.toNatClampNeg))), some (.inl v4)] (sk_td o_X3_limitSeats 30 rfl) rfl rfl (Nat.le_of_ble_eq_true rfl) rfl ?_
      exact t_X3_limitSeats_49 hrec7 hrec17 hq
def l_X3_limitSeats_17 (rec7 : (sk_D × Int32) → Option (sk_D)) (fl : Nat) (a : (sk_D × Int32 × Int32 × Int32)) : Option (sk_D) := sk_it (fun rec17 a => q_X3_limitSeats_17 rec7 rec17 a.1 a.2.1 a.2.2.1 a.2.2.2) fl a
theorem lt_X3_limitSeats_17 {l : Launch} {rec7 : (sk_D × Int32) → Option (sk_D)} (hrec7 : ∀ (a : (sk_D × Int32)) (res : sk_D), rec7 a = some res → sk_G l (sk_rm 1 0 0) m_X3_limitSeats sk_Ex0 (sk_Zm m_X3_limitSeats none (sk_mm res)) 0 0 7 [some (.inr (.inr (some (6, 0)))), some (.inr (.inr (some (2, 0)))), some (.inl a.2), none, none] [] (sk_mm a.1)) : ∀ (fl : Nat) (a : (sk_D × Int32 × Int32 × Int32)) (res : sk_D), l_X3_limitSeats_17 rec7 fl a = some res → sk_G l (sk_rm 1 0 0) m_X3_limitSeats sk_Ex0 (sk_Zm m_X3_limitSeats none (sk_mm res)) 0 0 17 [some (.inr (.inr (some (6, 0)))), some (.inr (.inr (some (2, 0)))), some (.inl a.2.1), some (.inl a.2.2.1), some (.inl a.2.2.2)] [] (sk_mm a.1) :=
  sk_it_ind (P := fun (a : (sk_D × Int32 × Int32 × Int32)) (res : sk_D) => sk_G l (sk_rm 1 0 0) m_X3_limitSeats sk_Ex0 (sk_Zm m_X3_limitSeats none (sk_mm res)) 0 0 17 [some (.inr (.inr (some (6, 0)))), some (.inr (.inr (some (2, 0)))), some (.inl a.2.1), some (.inl a.2.2.1), some (.inl a.2.2.2)] [] (sk_mm a.1)) (fun rec17 hrec17 a res hq  => t_X3_limitSeats_17 hrec7 hrec17 hq )
def q_X3_limitSeats_7 (rec7 : (sk_D × Int32) → Option (sk_D)) (d : sk_D) (v2 : Int32) : Option (sk_D) :=
  if (4 : Int32) ≤ v2 then some d else (l_X3_limitSeats_17 rec7 sk_fu (d, v2, (0 : Int32), (0 : Int32)))
set_option maxRecDepth 100000 in
set_option maxHeartbeats 4000000 in
theorem t_X3_limitSeats_7 {l : Launch} {rec7 : (sk_D × Int32) → Option (sk_D)} {d : sk_D} {v2 : Int32} (hrec7 : ∀ (a : (sk_D × Int32)) (res : sk_D), rec7 a = some res → sk_G l (sk_rm 1 0 0) m_X3_limitSeats sk_Ex0 (sk_Zm m_X3_limitSeats none (sk_mm res)) 0 0 7 [some (.inr (.inr (some (6, 0)))), some (.inr (.inr (some (2, 0)))), some (.inl a.2), none, none] [] (sk_mm a.1)) {res : sk_D} (hq : q_X3_limitSeats_7 rec7 d v2 = some res) :
    sk_G l (sk_rm 1 0 0) m_X3_limitSeats sk_Ex0 (sk_Zm m_X3_limitSeats none (sk_mm res)) 0 0 7 [some (.inr (.inr (some (6, 0)))), some (.inr (.inr (some (2, 0)))), some (.inl v2), none, none] [] (sk_mm d) := by
  unfold q_X3_limitSeats_7 at hq
  refine sg_iload_n 8 (sk_td o_X3_limitSeats 5 rfl) rfl rfl ?_
  refine sg_iconst (v := (4 : Int32)) 9 (sk_td o_X3_limitSeats 6 rfl) rfl (by decide) ?_
  refine sg_ic_ge 126 12 (sk_td o_X3_limitSeats 7 rfl) (by decide) rfl (fun hc => ?_) (fun hc => ?_)
  · rw [if_pos hc] at hq
    cases hq
    exact sg_vret (sk_td o_X3_limitSeats 73 rfl) rfl
  · rw [if_neg hc] at hq
    refine sg_iconst (v := (0 : Int32)) 13 (sk_td o_X3_limitSeats 8 rfl) rfl (by decide) ?_
    refine sg_istore_n 14 [some (.inr (.inr (some (6, 0)))), some (.inr (.inr (some (2, 0)))), some (.inl v2), some (.inl (0 : Int32)), none] (sk_td o_X3_limitSeats 9 rfl) rfl rfl (Nat.le_of_ble_eq_true rfl) rfl ?_
    refine sg_iconst (v := (0 : Int32)) 15 (sk_td o_X3_limitSeats 10 rfl) rfl (by decide) ?_
    refine sg_istore 17 [some (.inr (.inr (some (6, 0)))), some (.inr (.inr (some (2, 0)))), some (.inl v2), some (.inl (0 : Int32)), some (.inl (0 : Int32))] (sk_td o_X3_limitSeats 11 rfl) rfl rfl (Nat.le_of_ble_eq_true rfl) rfl ?_
    exact lt_X3_limitSeats_17 hrec7 sk_fu (d, v2, (0 : Int32), (0 : Int32)) _ hq
def l_X3_limitSeats_7 (fl : Nat) (a : (sk_D × Int32)) : Option (sk_D) := sk_it (fun rec7 a => q_X3_limitSeats_7 rec7 a.1 a.2) fl a
theorem lt_X3_limitSeats_7 {l : Launch} : ∀ (fl : Nat) (a : (sk_D × Int32)) (res : sk_D), l_X3_limitSeats_7 fl a = some res → sk_G l (sk_rm 1 0 0) m_X3_limitSeats sk_Ex0 (sk_Zm m_X3_limitSeats none (sk_mm res)) 0 0 7 [some (.inr (.inr (some (6, 0)))), some (.inr (.inr (some (2, 0)))), some (.inl a.2), none, none] [] (sk_mm a.1) :=
  sk_it_ind (P := fun (a : (sk_D × Int32)) (res : sk_D) => sk_G l (sk_rm 1 0 0) m_X3_limitSeats sk_Ex0 (sk_Zm m_X3_limitSeats none (sk_mm res)) 0 0 7 [some (.inr (.inr (some (6, 0)))), some (.inr (.inr (some (2, 0)))), some (.inl a.2), none, none] [] (sk_mm a.1)) (fun rec7 hrec7 a res hq  => t_X3_limitSeats_7 hrec7 hq )
def q_X3_limitSeats_0 (d : sk_D) : Option (sk_D) :=
  (l_X3_limitSeats_7 sk_fu ((sk_wi d 6 0 1 (1 : Int32)), (0 : Int32)))
set_option maxRecDepth 100000 in
set_option maxHeartbeats 4000000 in
theorem t_X3_limitSeats_0 {l : Launch} {d : sk_D} {res : sk_D} (hq : q_X3_limitSeats_0 d = some res) :
    sk_G l (sk_rm 1 0 0) m_X3_limitSeats sk_Ex0 (sk_Zm m_X3_limitSeats none (sk_mm res)) 0 0 0 [some (.inr (.inr (some (6, 0)))), some (.inr (.inr (some (2, 0)))), none, none, none] [] (sk_mm d) := by
  unfold q_X3_limitSeats_0 at hq
  refine sg_aload_n 1 (sk_td o_X3_limitSeats 0 rfl) rfl rfl ?_
  refine sg_iconst (v := (1 : Int32)) 2 (sk_td o_X3_limitSeats 1 rfl) rfl (by decide) ?_
  refine sm_putI 5 (sk_td o_X3_limitSeats 2 rfl) rfl kp_X3_15 rfl rfl sz_6 ?_
  refine sg_iconst (v := (0 : Int32)) 6 (sk_td o_X3_limitSeats 3 rfl) rfl (by decide) ?_
  refine sg_istore_n 7 [some (.inr (.inr (some (6, 0)))), some (.inr (.inr (some (2, 0)))), some (.inl (0 : Int32)), none, none] (sk_td o_X3_limitSeats 4 rfl) rfl rfl (Nat.le_of_ble_eq_true rfl) rfl ?_
  exact lt_X3_limitSeats_7 sk_fu ((sk_wi d 6 0 1 (1 : Int32)), (0 : Int32)) _ hq
def q_X3_limitSeats (d : sk_D) : Option (sk_D) := q_X3_limitSeats_0 d 
theorem s_X3_limitSeats {l : Launch} {d : sk_D} {res : sk_D} (hq : q_X3_limitSeats d = some res) : sk_M l 1 m_X3_limitSeats [.inr (.inr (some (6, 0))), .inr (.inr (some (2, 0)))] (sk_mm d) none (sk_mm res) :=
  sk_enter (by decide) (fun _ => Nat.le_of_ble_eq_true rfl) (Nat.le_of_ble_eq_true rfl) (t_X3_limitSeats_0 hq )
def q_X3_listOptions_45 (rec4 : (sk_D × Int32 × Int32 × Int32) → Option (Int32 × sk_D)) (d : sk_D) (v1 : Int32) (v2 : Int32) (v3 : Int32) : Option (Int32 × sk_D) :=
  (rec4 (d, v1, v2, (v3 + (-1 : Int32))))
set_option maxRecDepth 100000 in
set_option maxHeartbeats 4000000 in
theorem t_X3_listOptions_45 {l : Launch} {rec4 : (sk_D × Int32 × Int32 × Int32) → Option (Int32 × sk_D)} {d : sk_D} {v1 : Int32} {v2 : Int32} {v3 : Int32} (hrec4 : ∀ (a : (sk_D × Int32 × Int32 × Int32)) (res : Int32 × sk_D), rec4 a = some res → sk_G l (sk_rm 1 0 0) m_X3_listOptions sk_Ex0 (sk_Zm m_X3_listOptions (some (.inl res.1)) (sk_mm res.2)) 0 0 4 [some (.inr (.inr (some (6, 0)))), some (.inl a.2.1), some (.inl a.2.2.1), some (.inl a.2.2.2)] [] (sk_mm a.1)) {res : Int32 × sk_D} (hq : q_X3_listOptions_45 rec4 d v1 v2 v3 = some res) :
    sk_G l (sk_rm 1 0 0) m_X3_listOptions sk_Ex0 (sk_Zm m_X3_listOptions (some (.inl res.1)) (sk_mm res.2)) 0 0 45 [some (.inr (.inr (some (6, 0)))), some (.inl v1), some (.inl v2), some (.inl v3)] [] (sk_mm d) := by
  unfold q_X3_listOptions_45 at hq
  refine sg_iinc (v3 + (-1 : Int32)) 48 [some (.inr (.inr (some (6, 0)))), some (.inl v1), some (.inl v2), some (.inl (v3 + (-1 : Int32)))] (sk_td o_X3_listOptions 29 rfl) rfl rfl rfl rfl (Nat.le_of_ble_eq_true rfl) rfl ?_
  refine sg_goto 4 (sk_td o_X3_listOptions 30 rfl) (by decide) ?_
  exact hrec4 (d, v1, v2, (v3 + (-1 : Int32))) _ hq
def q_X3_listOptions_4 (rec4 : (sk_D × Int32 × Int32 × Int32) → Option (Int32 × sk_D)) (d : sk_D) (v1 : Int32) (v2 : Int32) (v3 : Int32) : Option (Int32 × sk_D) :=
  if v3 < 0 then some (v2, d) else if sk_bi v1 20 = true then if sk_bi v3 4 = true then if (d.1 10 v1.toNatClampNeg v3.toNatClampNeg) = (-1 : Int32) then (q_X3_listOptions_45 rec4 d v1 v2 v3) else if sk_bi v3 4 = true then if sk_bi v1 20 = true then if (d.1 13 0 v3.toNatClampNeg) < (d.1 8 0 v1.toNatClampNeg) then (q_X3_listOptions_45 rec4 d v1 v2 v3) else if sk_bi v2 4 = true then (q_X3_listOptions_45 rec4 (sk_wi d 16 0 v2.toNatClampNeg v3) v1 (v2 + (1 : Int32)) v3) else none else none else none else none else none
set_option maxRecDepth 100000 in
set_option maxHeartbeats 4000000 in
theorem t_X3_listOptions_4 {l : Launch} {rec4 : (sk_D × Int32 × Int32 × Int32) → Option (Int32 × sk_D)} {d : sk_D} {v1 : Int32} {v2 : Int32} {v3 : Int32} (hrec4 : ∀ (a : (sk_D × Int32 × Int32 × Int32)) (res : Int32 × sk_D), rec4 a = some res → sk_G l (sk_rm 1 0 0) m_X3_listOptions sk_Ex0 (sk_Zm m_X3_listOptions (some (.inl res.1)) (sk_mm res.2)) 0 0 4 [some (.inr (.inr (some (6, 0)))), some (.inl a.2.1), some (.inl a.2.2.1), some (.inl a.2.2.2)] [] (sk_mm a.1)) {res : Int32 × sk_D} (hq : q_X3_listOptions_4 rec4 d v1 v2 v3 = some res) :
    sk_G l (sk_rm 1 0 0) m_X3_listOptions sk_Ex0 (sk_Zm m_X3_listOptions (some (.inl res.1)) (sk_mm res.2)) 0 0 4 [some (.inr (.inr (some (6, 0)))), some (.inl v1), some (.inl v2), some (.inl v3)] [] (sk_mm d) := by
  unfold q_X3_listOptions_4 at hq
  refine sg_iload_n 5 (sk_td o_X3_listOptions 4 rfl) rfl rfl ?_
  refine sg_if_lt 51 8 (sk_td o_X3_listOptions 5 rfl) (by decide) rfl (fun hc => ?_) (fun hc => ?_)
  · rw [if_pos hc] at hq
    refine sg_iload_n 52 (sk_td o_X3_listOptions 31 rfl) rfl rfl ?_
    cases hq
    exact sg_iret (sk_td o_X3_listOptions 32 rfl) rfl rfl
  · rw [if_neg hc] at hq
    refine sg_aload_n 9 (sk_td o_X3_listOptions 6 rfl) rfl rfl ?_
    refine sm_getR (9, 0) 12 (sk_td o_X3_listOptions 7 rfl) rfl kf_X3_27 rfl rfl sz_6 rfl ?_
    refine sg_iload_n 13 (sk_td o_X3_listOptions 8 rfl) rfl rfl ?_
    obtain ⟨hb1, hq⟩ := sk_ifn hq
    refine sm_aald (10, v1.toNatClampNeg) 14 (sk_td o_X3_listOptions 9 rfl) rfl rfl (by decide) sz_9 hb1 (sr_9 (sk_bi.lt hb1)) ?_
    refine sg_iload_n 15 (sk_td o_X3_listOptions 10 rfl) rfl rfl ?_
    obtain ⟨hb2, hq⟩ := sk_ifn hq
    refine sm_iald 16 (sk_td o_X3_listOptions 11 rfl) rfl rfl (sk_bi.lt hb1) hb2 ?_
    refine sg_iconst (v := (-1 : Int32)) 17 (sk_td o_X3_listOptions 12 rfl) rfl (by decide) ?_
    refine sg_ic_eq 45 20 (sk_td o_X3_listOptions 13 rfl) (by decide) rfl (fun hc => ?_) (fun hc => ?_)
    · rw [if_pos hc] at hq
      exact t_X3_listOptions_45 hrec4 hq
    · rw [if_neg hc] at hq
      refine sg_aload_n 21 (sk_td o_X3_listOptions 14 rfl) rfl rfl ?_
      refine sm_getR (13, 0) 24 (sk_td o_X3_listOptions 15 rfl) rfl kf_X3_36 rfl rfl sz_6 rfl ?_
      refine sg_iload_n 25 (sk_td o_X3_listOptions 16 rfl) rfl rfl ?_
      obtain ⟨hb3, hq⟩ := sk_ifn hq
      refine sm_iald 26 (sk_td o_X3_listOptions 17 rfl) rfl rfl sz_13 hb3 ?_
      refine sg_aload_n 27 (sk_td o_X3_listOptions 18 rfl) rfl rfl ?_
      refine sm_getR (8, 0) 30 (sk_td o_X3_listOptions 19 rfl) rfl kf_X3_22 rfl rfl sz_6 rfl ?_
      refine sg_iload_n 31 (sk_td o_X3_listOptions 20 rfl) rfl rfl ?_
      obtain ⟨hb4, hq⟩ := sk_ifn hq
      refine sm_iald 32 (sk_td o_X3_listOptions 21 rfl) rfl rfl sz_8 hb4 ?_
      refine sg_ic_lt 45 35 (sk_td o_X3_listOptions 22 rfl) (by decide) rfl (fun hc => ?_) (fun hc => ?_)
      · rw [if_pos hc] at hq
        exact t_X3_listOptions_45 hrec4 hq
      · rw [if_neg hc] at hq
        refine sg_aload_n 36 (sk_td o_X3_listOptions 23 rfl) rfl rfl ?_
        refine sm_getR (16, 0) 39 (sk_td o_X3_listOptions 24 rfl) rfl kf_X3_45 rfl rfl sz_6 rfl ?_
        refine sg_iload_n 40 (sk_td o_X3_listOptions 25 rfl) rfl rfl ?_
        refine sg_iload_n 41 (sk_td o_X3_listOptions 26 rfl) rfl rfl ?_
        obtain ⟨hb5, hq⟩ := sk_ifn hq
        refine sm_iast 42 (sk_td o_X3_listOptions 27 rfl) rfl rfl sz_16 hb5 ?_
        refine sg_iinc (v2 + (1 : Int32)) 45 [some (.inr (.inr (some (6, 0)))), some (.inl v1), some (.inl (v2 + (1 : Int32))), some (.inl v3)] (sk_td o_X3_listOptions 28 rfl) rfl rfl rfl rfl (Nat.le_of_ble_eq_true rfl) rfl ?_
        exact t_X3_listOptions_45 hrec4 hq
def l_X3_listOptions_4 (fl : Nat) (a : (sk_D × Int32 × Int32 × Int32)) : Option (Int32 × sk_D) := sk_it (fun rec4 a => q_X3_listOptions_4 rec4 a.1 a.2.1 a.2.2.1 a.2.2.2) fl a
theorem lt_X3_listOptions_4 {l : Launch} : ∀ (fl : Nat) (a : (sk_D × Int32 × Int32 × Int32)) (res : Int32 × sk_D), l_X3_listOptions_4 fl a = some res → sk_G l (sk_rm 1 0 0) m_X3_listOptions sk_Ex0 (sk_Zm m_X3_listOptions (some (.inl res.1)) (sk_mm res.2)) 0 0 4 [some (.inr (.inr (some (6, 0)))), some (.inl a.2.1), some (.inl a.2.2.1), some (.inl a.2.2.2)] [] (sk_mm a.1) :=
  sk_it_ind (P := fun (a : (sk_D × Int32 × Int32 × Int32)) (res : Int32 × sk_D) => sk_G l (sk_rm 1 0 0) m_X3_listOptions sk_Ex0 (sk_Zm m_X3_listOptions (some (.inl res.1)) (sk_mm res.2)) 0 0 4 [some (.inr (.inr (some (6, 0)))), some (.inl a.2.1), some (.inl a.2.2.1), some (.inl a.2.2.2)] [] (sk_mm a.1)) (fun rec4 hrec4 a res hq  => t_X3_listOptions_4 hrec4 hq )
def q_X3_listOptions_0 (d : sk_D) (v1 : Int32) : Option (Int32 × sk_D) :=
  (l_X3_listOptions_4 sk_fu (d, v1, (0 : Int32), (3 : Int32)))
set_option maxRecDepth 100000 in
set_option maxHeartbeats 4000000 in
theorem t_X3_listOptions_0 {l : Launch} {d : sk_D} {v1 : Int32} {res : Int32 × sk_D} (hq : q_X3_listOptions_0 d v1 = some res) :
    sk_G l (sk_rm 1 0 0) m_X3_listOptions sk_Ex0 (sk_Zm m_X3_listOptions (some (.inl res.1)) (sk_mm res.2)) 0 0 0 [some (.inr (.inr (some (6, 0)))), some (.inl v1), none, none] [] (sk_mm d) := by
  unfold q_X3_listOptions_0 at hq
  refine sg_iconst (v := (0 : Int32)) 1 (sk_td o_X3_listOptions 0 rfl) rfl (by decide) ?_
  refine sg_istore_n 2 [some (.inr (.inr (some (6, 0)))), some (.inl v1), some (.inl (0 : Int32)), none] (sk_td o_X3_listOptions 1 rfl) rfl rfl (Nat.le_of_ble_eq_true rfl) rfl ?_
  refine sg_iconst (v := (3 : Int32)) 3 (sk_td o_X3_listOptions 2 rfl) rfl (by decide) ?_
  refine sg_istore_n 4 [some (.inr (.inr (some (6, 0)))), some (.inl v1), some (.inl (0 : Int32)), some (.inl (3 : Int32))] (sk_td o_X3_listOptions 3 rfl) rfl rfl (Nat.le_of_ble_eq_true rfl) rfl ?_
  exact lt_X3_listOptions_4 sk_fu (d, v1, (0 : Int32), (3 : Int32)) _ hq
def q_X3_listOptions (d : sk_D) (v1 : Int32) : Option (Int32 × sk_D) := q_X3_listOptions_0 d v1 
theorem s_X3_listOptions {l : Launch} {d : sk_D} {v1 : Int32} {res : Int32 × sk_D} (hq : q_X3_listOptions d v1 = some res) : sk_M l 1 m_X3_listOptions [.inr (.inr (some (6, 0))), .inl v1] (sk_mm d) (some (.inl res.1)) (sk_mm res.2) :=
  sk_enter (by decide) (fun _ => Nat.le_of_ble_eq_true rfl) (Nat.le_of_ble_eq_true rfl) (t_X3_listOptions_0 hq )
def q_X3_countDown_2 (rec2 : (sk_D × Int32) → Option (sk_D)) (d : sk_D) (v1 : Int32) : Option (sk_D) :=
  if (4 : Int32) ≤ v1 then some d else if sk_bi v1 4 = true then if (d.1 15 0 v1.toNatClampNeg) ≤ 0 then if sk_bi v1 4 = true then if sk_bi v1 4 = true then (rec2 ((sk_wi d 15 0 v1.toNatClampNeg (d.1 13 0 v1.toNatClampNeg)), (v1 + (1 : Int32)))) else none else none else if sk_bi v1 4 = true then if sk_bi v1 4 = true then some (sk_wi d 15 0 v1.toNatClampNeg ((d.1 15 0 v1.toNatClampNeg) - (1 : Int32))) else none else none else none
set_option maxRecDepth 100000 in
set_option maxHeartbeats 4000000 in
theorem t_X3_countDown_2 {l : Launch} {rec2 : (sk_D × Int32) → Option (sk_D)} {d : sk_D} {v1 : Int32} (hrec2 : ∀ (a : (sk_D × Int32)) (res : sk_D), rec2 a = some res → sk_G l (sk_rm 1 0 0) m_X3_countDown sk_Ex0 (sk_Zm m_X3_countDown none (sk_mm res)) 0 0 2 [some (.inr (.inr (some (6, 0)))), some (.inl a.2)] [] (sk_mm a.1)) {res : sk_D} (hq : q_X3_countDown_2 rec2 d v1 = some res) :
    sk_G l (sk_rm 1 0 0) m_X3_countDown sk_Ex0 (sk_Zm m_X3_countDown none (sk_mm res)) 0 0 2 [some (.inr (.inr (some (6, 0)))), some (.inl v1)] [] (sk_mm d) := by
  unfold q_X3_countDown_2 at hq
  refine sg_iload_n 3 (sk_td o_X3_countDown 2 rfl) rfl rfl ?_
  refine sg_iconst (v := (4 : Int32)) 4 (sk_td o_X3_countDown 3 rfl) rfl (by decide) ?_
  refine sg_ic_ge 45 7 (sk_td o_X3_countDown 4 rfl) (by decide) rfl (fun hc => ?_) (fun hc => ?_)
  · rw [if_pos hc] at hq
    cases hq
    exact sg_vret (sk_td o_X3_countDown 29 rfl) rfl
  · rw [if_neg hc] at hq
    refine sg_aload_n 8 (sk_td o_X3_countDown 5 rfl) rfl rfl ?_
    refine sm_getR (15, 0) 11 (sk_td o_X3_countDown 6 rfl) rfl kf_X3_42 rfl rfl sz_6 rfl ?_
    refine sg_iload_n 12 (sk_td o_X3_countDown 7 rfl) rfl rfl ?_
    obtain ⟨hb1, hq⟩ := sk_ifn hq
    refine sm_iald 13 (sk_td o_X3_countDown 8 rfl) rfl rfl sz_15 hb1 ?_
    refine sg_if_le 27 16 (sk_td o_X3_countDown 9 rfl) (by decide) rfl (fun hc => ?_) (fun hc => ?_)
    · rw [if_pos hc] at hq
      refine sg_aload_n 28 (sk_td o_X3_countDown 19 rfl) rfl rfl ?_
      refine sm_getR (15, 0) 31 (sk_td o_X3_countDown 20 rfl) rfl kf_X3_42 rfl rfl sz_6 rfl ?_
      refine sg_iload_n 32 (sk_td o_X3_countDown 21 rfl) rfl rfl ?_
      refine sg_aload_n 33 (sk_td o_X3_countDown 22 rfl) rfl rfl ?_
      refine sm_getR (13, 0) 36 (sk_td o_X3_countDown 23 rfl) rfl kf_X3_36 rfl rfl sz_6 rfl ?_
      refine sg_iload_n 37 (sk_td o_X3_countDown 24 rfl) rfl rfl ?_
      obtain ⟨hb2, hq⟩ := sk_ifn hq
      refine sm_iald 38 (sk_td o_X3_countDown 25 rfl) rfl rfl sz_13 hb2 ?_
      obtain ⟨hb3, hq⟩ := sk_ifn hq
      refine sm_iast 39 (sk_td o_X3_countDown 26 rfl) rfl rfl sz_15 hb3 ?_
      refine sg_iinc (v1 + (1 : Int32)) 42 [some (.inr (.inr (some (6, 0)))), some (.inl (v1 + (1 : Int32)))] (sk_td o_X3_countDown 27 rfl) rfl rfl rfl rfl (Nat.le_of_ble_eq_true rfl) rfl ?_
      refine sg_goto 2 (sk_td o_X3_countDown 28 rfl) (by decide) ?_
      exact hrec2 ((sk_wi d 15 0 v1.toNatClampNeg (d.1 13 0 v1.toNatClampNeg)), (v1 + (1 : Int32))) _ hq
    · rw [if_neg hc] at hq
      refine sg_aload_n 17 (sk_td o_X3_countDown 10 rfl) rfl rfl ?_
      refine sm_getR (15, 0) 20 (sk_td o_X3_countDown 11 rfl) rfl kf_X3_42 rfl rfl sz_6 rfl ?_
      refine sg_iload_n 21 (sk_td o_X3_countDown 12 rfl) rfl rfl ?_
      refine sg_dup2 22 (sk_td o_X3_countDown 13 rfl) rfl ?_
      obtain ⟨hb4, hq⟩ := sk_ifn hq
      refine sm_iald 23 (sk_td o_X3_countDown 14 rfl) rfl rfl sz_15 hb4 ?_
      refine sg_iconst (v := (1 : Int32)) 24 (sk_td o_X3_countDown 15 rfl) rfl (by decide) ?_
      refine sg_isub 25 (sk_td o_X3_countDown 16 rfl) rfl ?_
      obtain ⟨hb5, hq⟩ := sk_ifn hq
      refine sm_iast 26 (sk_td o_X3_countDown 17 rfl) rfl rfl sz_15 hb5 ?_
      cases hq
      exact sg_vret (sk_td o_X3_countDown 18 rfl) rfl
def l_X3_countDown_2 (fl : Nat) (a : (sk_D × Int32)) : Option (sk_D) := sk_it (fun rec2 a => q_X3_countDown_2 rec2 a.1 a.2) fl a
theorem lt_X3_countDown_2 {l : Launch} : ∀ (fl : Nat) (a : (sk_D × Int32)) (res : sk_D), l_X3_countDown_2 fl a = some res → sk_G l (sk_rm 1 0 0) m_X3_countDown sk_Ex0 (sk_Zm m_X3_countDown none (sk_mm res)) 0 0 2 [some (.inr (.inr (some (6, 0)))), some (.inl a.2)] [] (sk_mm a.1) :=
  sk_it_ind (P := fun (a : (sk_D × Int32)) (res : sk_D) => sk_G l (sk_rm 1 0 0) m_X3_countDown sk_Ex0 (sk_Zm m_X3_countDown none (sk_mm res)) 0 0 2 [some (.inr (.inr (some (6, 0)))), some (.inl a.2)] [] (sk_mm a.1)) (fun rec2 hrec2 a res hq  => t_X3_countDown_2 hrec2 hq )
def q_X3_countDown_0 (d : sk_D) : Option (sk_D) :=
  (l_X3_countDown_2 sk_fu (d, (0 : Int32)))
set_option maxRecDepth 100000 in
set_option maxHeartbeats 4000000 in
theorem t_X3_countDown_0 {l : Launch} {d : sk_D} {res : sk_D} (hq : q_X3_countDown_0 d = some res) :
    sk_G l (sk_rm 1 0 0) m_X3_countDown sk_Ex0 (sk_Zm m_X3_countDown none (sk_mm res)) 0 0 0 [some (.inr (.inr (some (6, 0)))), none] [] (sk_mm d) := by
  unfold q_X3_countDown_0 at hq
  refine sg_iconst (v := (0 : Int32)) 1 (sk_td o_X3_countDown 0 rfl) rfl (by decide) ?_
  refine sg_istore_n 2 [some (.inr (.inr (some (6, 0)))), some (.inl (0 : Int32))] (sk_td o_X3_countDown 1 rfl) rfl rfl (Nat.le_of_ble_eq_true rfl) rfl ?_
  exact lt_X3_countDown_2 sk_fu (d, (0 : Int32)) _ hq
def q_X3_countDown (d : sk_D) : Option (sk_D) := q_X3_countDown_0 d 
theorem s_X3_countDown {l : Launch} {d : sk_D} {res : sk_D} (hq : q_X3_countDown d = some res) : sk_M l 1 m_X3_countDown [.inr (.inr (some (6, 0)))] (sk_mm d) none (sk_mm res) :=
  sk_enter (by decide) (fun _ => Nat.le_of_ble_eq_true rfl) (Nat.le_of_ble_eq_true rfl) (t_X3_countDown_0 hq )
def q_X3_chooseFor_181 (rec32 : (sk_D × Int32 × Int32 × Int32) → Option (sk_D)) (d : sk_D) (v1 : Int32) (v2 : Int32) (v3 : Int32) : Option (sk_D) :=
  (q_X3_countDown d).bind fun x1 => (rec32 (x1, v1, v2, (v3 + (-1 : Int32))))
set_option maxRecDepth 100000 in
set_option maxHeartbeats 4000000 in
theorem t_X3_chooseFor_181 {l : Launch} {rec32 : (sk_D × Int32 × Int32 × Int32) → Option (sk_D)} {d : sk_D} {v1 : Int32} {v2 : Int32} {v3 : Int32} (hrec32 : ∀ (a : (sk_D × Int32 × Int32 × Int32)) (res : sk_D), rec32 a = some res → sk_G l (sk_rm 2 0 0) m_X3_chooseFor sk_Ex0 (sk_Zm m_X3_chooseFor none (sk_mm res)) 0 0 32 [some (.inr (.inr (some (6, 0)))), some (.inl a.2.1), some (.inl a.2.2.1), some (.inl a.2.2.2), none, none, none, none, none, none, none] [] (sk_mm a.1)) {res : sk_D} (hq : q_X3_chooseFor_181 rec32 d v1 v2 v3 = some res) :
    sk_G l (sk_rm 2 0 0) m_X3_chooseFor sk_Ex0 (sk_Zm m_X3_chooseFor none (sk_mm res)) 0 0 181 [some (.inr (.inr (some (6, 0)))), some (.inl v1), some (.inl v2), some (.inl v3), none, none, none, none, none, none, none] [.inr (.inr (some (6, 0)))] (sk_mm d) := by
  unfold q_X3_chooseFor_181 at hq
  obtain ⟨x1, hr_x1, hq⟩ := sk_bnd hq
  refine sm_callV0v 184 (s_X3_countDown hr_x1) (sk_td o_X3_chooseFor 111 rfl) rfl lv_X3_137 rfl rfl rfl sz_6 (sk_rok (Nat.le_of_ble_eq_true rfl) (Nat.le_of_ble_eq_true rfl) rfl rfl) (Nat.le_of_ble_eq_true rfl) ?_
  refine sg_iinc (v3 + (-1 : Int32)) 187 [some (.inr (.inr (some (6, 0)))), some (.inl v1), some (.inl v2), some (.inl (v3 + (-1 : Int32))), none, none, none, none, none, none, none] (sk_td o_X3_chooseFor 112 rfl) rfl rfl rfl rfl (Nat.le_of_ble_eq_true rfl) rfl ?_
  refine sg_goto 32 (sk_td o_X3_chooseFor 113 rfl) (by decide) ?_
  exact hrec32 (x1, v1, v2, (v3 + (-1 : Int32))) _ hq
def q_X3_chooseFor_171 (rec32 : (sk_D × Int32 × Int32 × Int32) → Option (sk_D)) (d : sk_D) (v1 : Int32) (v2 : Int32) (v3 : Int32) (w5 : Int64) (s1 : Int32) (s3 : Int32) : Option (sk_D) :=
  if sk_bi s3 2401 = true then if sk_bi s1 2401 = true then (q_X3_chooseFor_181 rec32 (sk_wl d 18 0 s1.toNatClampNeg ((d.2 18 0 s3.toNatClampNeg) ||| (w5 <<< (((3 : Int32) * v1).toInt64 &&& 63)))) v1 v2 v3) else none else none
set_option maxRecDepth 100000 in
set_option maxHeartbeats 4000000 in
theorem t_X3_chooseFor_171 {l : Launch} {rec32 : (sk_D × Int32 × Int32 × Int32) → Option (sk_D)} {d : sk_D} {v1 : Int32} {v2 : Int32} {v3 : Int32} {w5 : Int64} {s1 : Int32} {s3 : Int32} (hrec32 : ∀ (a : (sk_D × Int32 × Int32 × Int32)) (res : sk_D), rec32 a = some res → sk_G l (sk_rm 2 0 0) m_X3_chooseFor sk_Ex0 (sk_Zm m_X3_chooseFor none (sk_mm res)) 0 0 32 [some (.inr (.inr (some (6, 0)))), some (.inl a.2.1), some (.inl a.2.2.1), some (.inl a.2.2.2), none, none, none, none, none, none, none] [] (sk_mm a.1)) {res : sk_D} (hq : q_X3_chooseFor_171 rec32 d v1 v2 v3 w5 s1 s3 = some res) :
    sk_G l (sk_rm 2 0 0) m_X3_chooseFor sk_Ex0 (sk_Zm m_X3_chooseFor none (sk_mm res)) 0 0 171 [some (.inr (.inr (some (6, 0)))), some (.inl v1), some (.inl v2), some (.inl v3), none, some (.inr (.inl w5)), none, none, none, none, none] [.inl s3, .inr (.inr (some (18, 0))), .inl s1, .inr (.inr (some (18, 0)))] (sk_mm d) := by
  unfold q_X3_chooseFor_171 at hq
  obtain ⟨hb1, hq⟩ := sk_ifn hq
  refine sm_lald 172 (sk_td o_X3_chooseFor 102 rfl) rfl rfl sz_18 hb1 ?_
  refine sg_lload 174 (sk_td o_X3_chooseFor 103 rfl) rfl rfl ?_
  refine sg_iconst (v := (3 : Int32)) 175 (sk_td o_X3_chooseFor 104 rfl) rfl (by decide) ?_
  refine sg_iload_n 176 (sk_td o_X3_chooseFor 105 rfl) rfl rfl ?_
  refine sg_imul 177 (sk_td o_X3_chooseFor 106 rfl) rfl ?_
  refine sg_lshl 178 (sk_td o_X3_chooseFor 107 rfl) rfl ?_
  refine sg_lor 179 (sk_td o_X3_chooseFor 108 rfl) rfl ?_
  obtain ⟨hb2, hq⟩ := sk_ifn hq
  refine sm_last 180 (sk_td o_X3_chooseFor 109 rfl) rfl rfl sz_18 hb2 ?_
  refine sg_aload_n 181 (sk_td o_X3_chooseFor 110 rfl) rfl rfl ?_
  refine sk_wk [true, true, true, true, true, false, true, true, true, true, true] (ls' := [some (.inr (.inr (some (6, 0)))), some (.inl v1), some (.inl v2), some (.inl v3), none, none, none, none, none, none, none]) rfl ?_
  exact t_X3_chooseFor_181 hrec32 hq
def q_X3_chooseFor_151 (rec32 : (sk_D × Int32 × Int32 × Int32) → Option (sk_D)) (rec50 : (sk_D × Int32 × Int32 × Int32 × Int32 × Int64 × Int32) → Option (sk_D)) (d : sk_D) (v1 : Int32) (v2 : Int32) (v3 : Int32) (v4 : Int32) (w5 : Int64) (v7 : Int32) : Option (sk_D) :=
  (rec50 (d, v1, v2, v3, v4, w5, (v7 + (1 : Int32))))
set_option maxRecDepth 100000 in
set_option maxHeartbeats 4000000 in
theorem t_X3_chooseFor_151 {l : Launch} {rec32 : (sk_D × Int32 × Int32 × Int32) → Option (sk_D)} {rec50 : (sk_D × Int32 × Int32 × Int32 × Int32 × Int64 × Int32) → Option (sk_D)} {d : sk_D} {v1 : Int32} {v2 : Int32} {v3 : Int32} {v4 : Int32} {w5 : Int64} {v7 : Int32} (hrec32 : ∀ (a : (sk_D × Int32 × Int32 × Int32)) (res : sk_D), rec32 a = some res → sk_G l (sk_rm 2 0 0) m_X3_chooseFor sk_Ex0 (sk_Zm m_X3_chooseFor none (sk_mm res)) 0 0 32 [some (.inr (.inr (some (6, 0)))), some (.inl a.2.1), some (.inl a.2.2.1), some (.inl a.2.2.2), none, none, none, none, none, none, none] [] (sk_mm a.1)) (hrec50 : ∀ (a : (sk_D × Int32 × Int32 × Int32 × Int32 × Int64 × Int32)) (res : sk_D), rec50 a = some res → sk_G l (sk_rm 2 0 0) m_X3_chooseFor sk_Ex0 (sk_Zm m_X3_chooseFor none (sk_mm res)) 0 0 50 [some (.inr (.inr (some (6, 0)))), some (.inl a.2.1), some (.inl a.2.2.1), some (.inl a.2.2.2.1), some (.inl a.2.2.2.2.1), some (.inr (.inl a.2.2.2.2.2.1)), none, some (.inl a.2.2.2.2.2.2), none, none, none] [] (sk_mm a.1)) {res : sk_D} (hq : q_X3_chooseFor_151 rec32 rec50 d v1 v2 v3 v4 w5 v7 = some res) :
    sk_G l (sk_rm 2 0 0) m_X3_chooseFor sk_Ex0 (sk_Zm m_X3_chooseFor none (sk_mm res)) 0 0 151 [some (.inr (.inr (some (6, 0)))), some (.inl v1), some (.inl v2), some (.inl v3), some (.inl v4), some (.inr (.inl w5)), none, some (.inl v7), none, none, none] [] (sk_mm d) := by
  unfold q_X3_chooseFor_151 at hq
  refine sg_iinc (v7 + (1 : Int32)) 154 [some (.inr (.inr (some (6, 0)))), some (.inl v1), some (.inl v2), some (.inl v3), some (.inl v4), some (.inr (.inl w5)), none, some (.inl (v7 + (1 : Int32))), none, none, none] (sk_td o_X3_chooseFor 91 rfl) rfl rfl rfl rfl (Nat.le_of_ble_eq_true rfl) rfl ?_
  refine sg_goto 50 (sk_td o_X3_chooseFor 92 rfl) (by decide) ?_
  exact hrec50 (d, v1, v2, v3, v4, w5, (v7 + (1 : Int32))) _ hq
def q_X3_chooseFor_50 (rec32 : (sk_D × Int32 × Int32 × Int32) → Option (sk_D)) (rec50 : (sk_D × Int32 × Int32 × Int32 × Int32 × Int64 × Int32) → Option (sk_D)) (d : sk_D) (v1 : Int32) (v2 : Int32) (v3 : Int32) (v4 : Int32) (w5 : Int64) (v7 : Int32) : Option (sk_D) :=
  if v2 ≤ v7 then if sk_bi v3 2401 = true then (q_X3_chooseFor_171 rec32 (sk_wi d 17 0 v3.toNatClampNeg v4) v1 v2 v3 w5 v3 v3) else none else if sk_bi v7 4 = true then if sk_bi v1 20 = true then if sk_bi (d.1 16 0 v7.toNatClampNeg) 4 = true then if sk_bi (d.1 16 0 v7.toNatClampNeg) 4 = true then if sk_bi v1 20 = true then if (d.1 15 0 (d.1 16 0 v7.toNatClampNeg).toNatClampNeg) < (d.1 8 0 v1.toNatClampNeg) then (q_X3_chooseFor_151 rec32 rec50 d v1 v2 v3 v4 w5 v7) else if (v3 - ((d.1 8 0 v1.toNatClampNeg) * (d.1 14 0 (d.1 16 0 v7.toNatClampNeg).toNatClampNeg))) < 0 then (q_X3_chooseFor_151 rec32 rec50 d v1 v2 v3 v4 w5 v7) else if sk_bi (v3 - ((d.1 8 0 v1.toNatClampNeg) * (d.1 14 0 (d.1 16 0 v7.toNatClampNeg).toNatClampNeg))) 2401 = true then if sk_bi v1 20 = true then if sk_bi v1 20 = true then if sk_bi (d.1 16 0 v7.toNatClampNeg) 4 = true then if (((d.1 17 0 (v3 - ((d.1 8 0 v1.toNatClampNeg) * (d.1 14 0 (d.1 16 0 v7.toNatClampNeg).toNatClampNeg))).toNatClampNeg) + ((d.1 8 0 v1.toNatClampNeg) * (32 : Int32))) - (d.1 10 v1.toNatClampNeg (d.1 16 0 v7.toNatClampNeg).toNatClampNeg)) < v4 then (q_X3_chooseFor_151 rec32 rec50 d v1 v2 v3 v4 w5 v7) else (q_X3_chooseFor_151 rec32 rec50 d v1 v2 v3 (((d.1 17 0 (v3 - ((d.1 8 0 v1.toNatClampNeg) * (d.1 14 0 (d.1 16 0 v7.toNatClampNeg).toNatClampNeg))).toNatClampNeg) + ((d.1 8 0 v1.toNatClampNeg) * (32 : Int32))) - (d.1 10 v1.toNatClampNeg (d.1 16 0 v7.toNatClampNeg).toNatClampNeg)) ((d.1 16 0 v7.toNatClampNeg) + (1 : Int32)).toInt64 v7) else none else none else none else none else none else none else none else none else none
set_option maxRecDepth 100000 in
set_option maxHeartbeats 4000000 in
theorem t_X3_chooseFor_50 {l : Launch} {rec32 : (sk_D × Int32 × Int32 × Int32) → Option (sk_D)} {rec50 : (sk_D × Int32 × Int32 × Int32 × Int32 × Int64 × Int32) → Option (sk_D)} {d : sk_D} {v1 : Int32} {v2 : Int32} {v3 : Int32} {v4 : Int32} {w5 : Int64} {v7 : Int32} (hrec32 : ∀ (a : (sk_D × Int32 × Int32 × Int32)) (res : sk_D), rec32 a = some res → sk_G l (sk_rm 2 0 0) m_X3_chooseFor sk_Ex0 (sk_Zm m_X3_chooseFor none (sk_mm res)) 0 0 32 [some (.inr (.inr (some (6, 0)))), some (.inl a.2.1), some (.inl a.2.2.1), some (.inl a.2.2.2), none, none, none, none, none, none, none] [] (sk_mm a.1)) (hrec50 : ∀ (a : (sk_D × Int32 × Int32 × Int32 × Int32 × Int64 × Int32)) (res : sk_D), rec50 a = some res → sk_G l (sk_rm 2 0 0) m_X3_chooseFor sk_Ex0 (sk_Zm m_X3_chooseFor none (sk_mm res)) 0 0 50 [some (.inr (.inr (some (6, 0)))), some (.inl a.2.1), some (.inl a.2.2.1), some (.inl a.2.2.2.1), some (.inl a.2.2.2.2.1), some (.inr (.inl a.2.2.2.2.2.1)), none, some (.inl a.2.2.2.2.2.2), none, none, none] [] (sk_mm a.1)) {res : sk_D} (hq : q_X3_chooseFor_50 rec32 rec50 d v1 v2 v3 v4 w5 v7 = some res) :
    sk_G l (sk_rm 2 0 0) m_X3_chooseFor sk_Ex0 (sk_Zm m_X3_chooseFor none (sk_mm res)) 0 0 50 [some (.inr (.inr (some (6, 0)))), some (.inl v1), some (.inl v2), some (.inl v3), some (.inl v4), some (.inr (.inl w5)), none, some (.inl v7), none, none, none] [] (sk_mm d) := by
  unfold q_X3_chooseFor_50 at hq
  refine sg_iload 52 (sk_td o_X3_chooseFor 31 rfl) rfl rfl ?_
  refine sg_iload_n 53 (sk_td o_X3_chooseFor 32 rfl) rfl rfl ?_
  refine sg_ic_ge 157 56 (sk_td o_X3_chooseFor 33 rfl) (by decide) rfl (fun hc => ?_) (fun hc => ?_)
  · rw [if_pos hc] at hq
    refine sg_aload_n 158 (sk_td o_X3_chooseFor 93 rfl) rfl rfl ?_
    refine sm_getR (17, 0) 161 (sk_td o_X3_chooseFor 94 rfl) rfl kf_X3_48 rfl rfl sz_6 rfl ?_
    refine sg_iload_n 162 (sk_td o_X3_chooseFor 95 rfl) rfl rfl ?_
    refine sg_iload 164 (sk_td o_X3_chooseFor 96 rfl) rfl rfl ?_
    obtain ⟨hb1, hq⟩ := sk_ifn hq
    refine sm_iast 165 (sk_td o_X3_chooseFor 97 rfl) rfl rfl sz_17 hb1 ?_
    refine sg_aload_n 166 (sk_td o_X3_chooseFor 98 rfl) rfl rfl ?_
    refine sm_getR (18, 0) 169 (sk_td o_X3_chooseFor 99 rfl) rfl kf_X3_51 rfl rfl sz_6 rfl ?_
    refine sg_iload_n 170 (sk_td o_X3_chooseFor 100 rfl) rfl rfl ?_
    refine sg_dup2 171 (sk_td o_X3_chooseFor 101 rfl) rfl ?_
    refine sk_wk [true, true, true, true, false, true, true, false, true, true, true] (ls' := [some (.inr (.inr (some (6, 0)))), some (.inl v1), some (.inl v2), some (.inl v3), none, some (.inr (.inl w5)), none, none, none, none, none]) rfl ?_
    exact t_X3_chooseFor_171 hrec32 hq
  · rw [if_neg hc] at hq
    refine sg_aload_n 57 (sk_td o_X3_chooseFor 34 rfl) rfl rfl ?_
    refine sm_getR (16, 0) 60 (sk_td o_X3_chooseFor 35 rfl) rfl kf_X3_45 rfl rfl sz_6 rfl ?_
    refine sg_iload 62 (sk_td o_X3_chooseFor 36 rfl) rfl rfl ?_
    obtain ⟨hb2, hq⟩ := sk_ifn hq
    refine sm_iald 63 (sk_td o_X3_chooseFor 37 rfl) rfl rfl sz_16 hb2 ?_
    refine sg_istore 65 [some (.inr (.inr (some (6, 0)))), some (.inl v1), some (.inl v2), some (.inl v3), some (.inl v4), some (.inr (.inl w5)), none, some (.inl v7), some (.inl (d.1 16 0 v7.toNatClampNeg)), none, none] (sk_td o_X3_chooseFor 38 rfl) rfl rfl (Nat.le_of_ble_eq_true rfl) rfl ?_
    refine sg_iload_n 66 (sk_td o_X3_chooseFor 39 rfl) rfl rfl ?_
    refine sg_aload_n 67 (sk_td o_X3_chooseFor 40 rfl) rfl rfl ?_
    refine sm_getR (8, 0) 70 (sk_td o_X3_chooseFor 41 rfl) rfl kf_X3_22 rfl rfl sz_6 rfl ?_
    refine sg_iload_n 71 (sk_td o_X3_chooseFor 42 rfl) rfl rfl ?_
    obtain ⟨hb3, hq⟩ := sk_ifn hq
    refine sm_iald 72 (sk_td o_X3_chooseFor 43 rfl) rfl rfl sz_8 hb3 ?_
    refine sg_aload_n 73 (sk_td o_X3_chooseFor 44 rfl) rfl rfl ?_
    refine sm_getR (14, 0) 76 (sk_td o_X3_chooseFor 45 rfl) rfl kf_X3_39 rfl rfl sz_6 rfl ?_
    refine sg_iload 78 (sk_td o_X3_chooseFor 46 rfl) rfl rfl ?_
    obtain ⟨hb4, hq⟩ := sk_ifn hq
    refine sm_iald 79 (sk_td o_X3_chooseFor 47 rfl) rfl rfl sz_14 hb4 ?_
    refine sg_imul 80 (sk_td o_X3_chooseFor 48 rfl) rfl ?_
    refine sg_isub 81 (sk_td o_X3_chooseFor 49 rfl) rfl ?_
    refine sg_istore 83 [some (.inr (.inr (some (6, 0)))), some (.inl v1), some (.inl v2), some (.inl v3), some (.inl v4), some (.inr (.inl w5)), none, some (.inl v7), some (.inl (d.1 16 0 v7.toNatClampNeg)), some (.inl (v3 - ((d.1 8 0 v1.toNatClampNeg) * (d.1 14 0 (d.1 16 0 v7.toNatClampNeg).toNatClampNeg)))), none] (sk_td o_X3_chooseFor 50 rfl) rfl rfl (Nat.le_of_ble_eq_true rfl) rfl ?_
    refine sg_aload_n 84 (sk_td o_X3_chooseFor 51 rfl) rfl rfl ?_
    refine sm_getR (15, 0) 87 (sk_td o_X3_chooseFor 52 rfl) rfl kf_X3_42 rfl rfl sz_6 rfl ?_
    refine sg_iload 89 (sk_td o_X3_chooseFor 53 rfl) rfl rfl ?_
    obtain ⟨hb5, hq⟩ := sk_ifn hq
    refine sm_iald 90 (sk_td o_X3_chooseFor 54 rfl) rfl rfl sz_15 hb5 ?_
    refine sg_aload_n 91 (sk_td o_X3_chooseFor 55 rfl) rfl rfl ?_
    refine sm_getR (8, 0) 94 (sk_td o_X3_chooseFor 56 rfl) rfl kf_X3_22 rfl rfl sz_6 rfl ?_
    refine sg_iload_n 95 (sk_td o_X3_chooseFor 57 rfl) rfl rfl ?_
    obtain ⟨hb6, hq⟩ := sk_ifn hq
    refine sm_iald 96 (sk_td o_X3_chooseFor 58 rfl) rfl rfl sz_8 hb6 ?_
    refine sg_ic_lt 151 99 (sk_td o_X3_chooseFor 59 rfl) (by decide) rfl (fun hc => ?_) (fun hc => ?_)
    · rw [if_pos hc] at hq
      refine sk_wk [true, true, true, true, true, true, true, true, false, false, true] (ls' := [some (.inr (.inr (some (6, 0)))), some (.inl v1), some (.inl v2), some (.inl v3), some (.inl v4), some (.inr (.inl w5)), none, some (.inl v7), none, none, none]) rfl ?_
      exact t_X3_chooseFor_151 hrec32 hrec50 hq
    · rw [if_neg hc] at hq
      refine sg_iload 101 (sk_td o_X3_chooseFor 60 rfl) rfl rfl ?_
      refine sg_if_lt 151 104 (sk_td o_X3_chooseFor 61 rfl) (by decide) rfl (fun hc => ?_) (fun hc => ?_)
      · rw [if_pos hc] at hq
        refine sk_wk [true, true, true, true, true, true, true, true, false, false, true] (ls' := [some (.inr (.inr (some (6, 0)))), some (.inl v1), some (.inl v2), some (.inl v3), some (.inl v4), some (.inr (.inl w5)), none, some (.inl v7), none, none, none]) rfl ?_
        exact t_X3_chooseFor_151 hrec32 hrec50 hq
      · rw [if_neg hc] at hq
        refine sg_aload_n 105 (sk_td o_X3_chooseFor 62 rfl) rfl rfl ?_
        refine sm_getR (17, 0) 108 (sk_td o_X3_chooseFor 63 rfl) rfl kf_X3_48 rfl rfl sz_6 rfl ?_
        refine sg_iload 110 (sk_td o_X3_chooseFor 64 rfl) rfl rfl ?_
        obtain ⟨hb7, hq⟩ := sk_ifn hq
        refine sm_iald 111 (sk_td o_X3_chooseFor 65 rfl) rfl rfl sz_17 hb7 ?_
        refine sg_aload_n 112 (sk_td o_X3_chooseFor 66 rfl) rfl rfl ?_
        refine sm_getR (8, 0) 115 (sk_td o_X3_chooseFor 67 rfl) rfl kf_X3_22 rfl rfl sz_6 rfl ?_
        refine sg_iload_n 116 (sk_td o_X3_chooseFor 68 rfl) rfl rfl ?_
        obtain ⟨hb8, hq⟩ := sk_ifn hq
        refine sm_iald 117 (sk_td o_X3_chooseFor 69 rfl) rfl rfl sz_8 hb8 ?_
        refine sg_bipush (v := (32 : Int32)) 119 (sk_td o_X3_chooseFor 70 rfl) rfl (by decide) ?_
        refine sg_imul 120 (sk_td o_X3_chooseFor 71 rfl) rfl ?_
        refine sg_iadd 121 (sk_td o_X3_chooseFor 72 rfl) rfl ?_
        refine sg_aload_n 122 (sk_td o_X3_chooseFor 73 rfl) rfl rfl ?_
        refine sm_getR (9, 0) 125 (sk_td o_X3_chooseFor 74 rfl) rfl kf_X3_27 rfl rfl sz_6 rfl ?_
        refine sg_iload_n 126 (sk_td o_X3_chooseFor 75 rfl) rfl rfl ?_
        obtain ⟨hb9, hq⟩ := sk_ifn hq
        refine sm_aald (10, v1.toNatClampNeg) 127 (sk_td o_X3_chooseFor 76 rfl) rfl rfl (by decide) sz_9 hb9 (sr_9 (sk_bi.lt hb9)) ?_
        refine sg_iload 129 (sk_td o_X3_chooseFor 77 rfl) rfl rfl ?_
        obtain ⟨hb10, hq⟩ := sk_ifn hq
        refine sm_iald 130 (sk_td o_X3_chooseFor 78 rfl) rfl rfl (sk_bi.lt hb9) hb10 ?_
        refine sg_isub 131 (sk_td o_X3_chooseFor 79 rfl) rfl ?_
        refine sg_istore 133 [some (.inr (.inr (some (6, 0)))), some (.inl v1), some (.inl v2), some (.inl v3), some (.inl v4), some (.inr (.inl w5)), none, some (.inl v7), some (.inl (d.1 16 0 v7.toNatClampNeg)), some (.inl (v3 - ((d.1 8 0 v1.toNatClampNeg) * (d.1 14 0 (d.1 16 0 v7.toNatClampNeg).toNatClampNeg)))), some (.inl (((d.1 17 0 (v3 - ((d.1 8 0 v1.toNatClampNeg) * (d.1 14 0 (d.1 16 0 v7.toNatClampNeg).toNatClampNeg))).toNatClampNeg) + ((d.1 8 0 v1.toNatClampNeg) * (32 : Int32))) - (d.1 10 v1.toNatClampNeg (d.1 16 0 v7.toNatClampNeg).toNatClampNeg)))] (sk_td o_X3_chooseFor 80 rfl) rfl rfl (Nat.le_of_ble_eq_true rfl) rfl ?_
        refine sg_iload 135 (sk_td o_X3_chooseFor 81 rfl) rfl rfl ?_
        refine sg_iload 137 (sk_td o_X3_chooseFor 82 rfl) rfl rfl ?_
        refine sg_ic_lt 151 140 (sk_td o_X3_chooseFor 83 rfl) (by decide) rfl (fun hc => ?_) (fun hc => ?_)
        · rw [if_pos hc] at hq
          refine sk_wk [true, true, true, true, true, true, true, true, false, false, false] (ls' := [some (.inr (.inr (some (6, 0)))), some (.inl v1), some (.inl v2), some (.inl v3), some (.inl v4), some (.inr (.inl w5)), none, some (.inl v7), none, none, none]) rfl ?_
          exact t_X3_chooseFor_151 hrec32 hrec50 hq
        · rw [if_neg hc] at hq
          refine sg_iload 142 (sk_td o_X3_chooseFor 84 rfl) rfl rfl ?_
          refine sg_istore 144 [some (.inr (.inr (some (6, 0)))), some (.inl v1), some (.inl v2), some (.inl v3), some (.inl (((d.1 17 0 (v3 - ((d.1 8 0 v1.toNatClampNeg) * (d.1 14 0 (d.1 16 0 v7.toNatClampNeg).toNatClampNeg))).toNatClampNeg) + ((d.1 8 0 v1.toNatClampNeg) * (32 : Int32))) - (d.1 10 v1.toNatClampNeg (d.1 16 0 v7.toNatClampNeg).toNatClampNeg))), some (.inr (.inl w5)), none, some (.inl v7), some (.inl (d.1 16 0 v7.toNatClampNeg)), some (.inl (v3 - ((d.1 8 0 v1.toNatClampNeg) * (d.1 14 0 (d.1 16 0 v7.toNatClampNeg).toNatClampNeg)))), some (.inl (((d.1 17 0 (v3 - ((d.1 8 0 v1.toNatClampNeg) * (d.1 14 0 (d.1 16 0 v7.toNatClampNeg).toNatClampNeg))).toNatClampNeg) + ((d.1 8 0 v1.toNatClampNeg) * (32 : Int32))) - (d.1 10 v1.toNatClampNeg (d.1 16 0 v7.toNatClampNeg).toNatClampNeg)))] (sk_td o_X3_chooseFor 85 rfl) rfl rfl (Nat.le_of_ble_eq_true rfl) rfl ?_
          refine sg_iload 146 (sk_td o_X3_chooseFor 86 rfl) rfl rfl ?_
          refine sg_iconst (v := (1 : Int32)) 147 (sk_td o_X3_chooseFor 87 rfl) rfl (by decide) ?_
          refine sg_iadd 148 (sk_td o_X3_chooseFor 88 rfl) rfl ?_
          refine sg_i2l 149 (sk_td o_X3_chooseFor 89 rfl) rfl ?_
          refine sg_lstore 151 [some (.inr (.inr (some (6, 0)))), some (.inl v1), some (.inl v2), some (.inl v3), some (.inl (((d.1 17 0 (v3 - ((d.1 8 0 v1.toNatClampNeg) * (d.1 14 0 (d.1 16 0 v7.toNatClampNeg).toNatClampNeg))).toNatClampNeg) + ((d.1 8 0 v1.toNatClampNeg) * (32 : Int32))) - (d.1 10 v1.toNatClampNeg (d.1 16 0 v7.toNatClampNeg).toNatClampNeg))), some (.inr (.inl ((d.1 16 0 v7.toNatClampNeg) + (1 : Int32)).toInt64)), none, some (.inl v7), some (.inl (d.1 16 0 v7.toNatClampNeg)), some (.inl (v3 - ((d.1 8 0 v1.toNatClampNeg) * (d.1 14 0 (d.1 16 0 v7.toNatClampNeg).toNatClampNeg)))), some (.inl (((d.1 17 0 (v3 - ((d.1 8 0 v1.toNatClampNeg) * (d.1 14 0 (d.1 16 0 v7.toNatClampNeg).toNatClampNeg))).toNatClampNeg) + ((d.1 8 0 v1.toNatClampNeg) * (32 : Int32))) - (d.1 10 v1.toNatClampNeg (d.1 16 0 v7.toNatClampNeg).toNatClampNeg)))] (sk_td o_X3_chooseFor 90 rfl) rfl rfl (Nat.le_of_ble_eq_true rfl) rfl ?_
          refine sk_wk [true, true, true, true, true, true, true, true, false, false, false] (ls' := [some (.inr (.inr (some (6, 0)))), some (.inl v1), some (.inl v2), some (.inl v3), some (.inl (((d.1 17 0 (v3 - ((d.1 8 0 v1.toNatClampNeg) * (d.1 14 0 (d.1 16 0 v7.toNatClampNeg).toNatClampNeg))).toNatClampNeg) + ((d.1 8 0 v1.toNatClampNeg) * (32 : Int32))) - (d.1 10 v1.toNatClampNeg (d.1 16 0 v7.toNatClampNeg).toNatClampNeg))), some (.inr (.inl ((d.1 16 0 v7.toNatClampNeg) + (1 : Int32)).toInt64)), none, some (.inl v7), none, none, none]) rfl ?_
          exact t_X3_chooseFor_151 hrec32 hrec50 hq
def l_X3_chooseFor_50 (rec32 : (sk_D × Int32 × Int32 × Int32) → Option (sk_D)) (fl : Nat) (a : (sk_D × Int32 × Int32 × Int32 × Int32 × Int64 × Int32)) : Option (sk_D) := sk_it (fun rec50 a => q_X3_chooseFor_50 rec32 rec50 a.1 a.2.1 a.2.2.1 a.2.2.2.1 a.2.2.2.2.1 a.2.2.2.2.2.1 a.2.2.2.2.2.2) fl a
theorem lt_X3_chooseFor_50 {l : Launch} {rec32 : (sk_D × Int32 × Int32 × Int32) → Option (sk_D)} (hrec32 : ∀ (a : (sk_D × Int32 × Int32 × Int32)) (res : sk_D), rec32 a = some res → sk_G l (sk_rm 2 0 0) m_X3_chooseFor sk_Ex0 (sk_Zm m_X3_chooseFor none (sk_mm res)) 0 0 32 [some (.inr (.inr (some (6, 0)))), some (.inl a.2.1), some (.inl a.2.2.1), some (.inl a.2.2.2), none, none, none, none, none, none, none] [] (sk_mm a.1)) : ∀ (fl : Nat) (a : (sk_D × Int32 × Int32 × Int32 × Int32 × Int64 × Int32)) (res : sk_D), l_X3_chooseFor_50 rec32 fl a = some res → sk_G l (sk_rm 2 0 0) m_X3_chooseFor sk_Ex0 (sk_Zm m_X3_chooseFor none (sk_mm res)) 0 0 50 [some (.inr (.inr (some (6, 0)))), some (.inl a.2.1), some (.inl a.2.2.1), some (.inl a.2.2.2.1), some (.inl a.2.2.2.2.1), some (.inr (.inl a.2.2.2.2.2.1)), none, some (.inl a.2.2.2.2.2.2), none, none, none] [] (sk_mm a.1) :=
  sk_it_ind (P := fun (a : (sk_D × Int32 × Int32 × Int32 × Int32 × Int64 × Int32)) (res : sk_D) => sk_G l (sk_rm 2 0 0) m_X3_chooseFor sk_Ex0 (sk_Zm m_X3_chooseFor none (sk_mm res)) 0 0 50 [some (.inr (.inr (some (6, 0)))), some (.inl a.2.1), some (.inl a.2.2.1), some (.inl a.2.2.2.1), some (.inl a.2.2.2.2.1), some (.inr (.inl a.2.2.2.2.2.1)), none, some (.inl a.2.2.2.2.2.2), none, none, none] [] (sk_mm a.1)) (fun rec50 hrec50 a res hq  => t_X3_chooseFor_50 hrec32 hrec50 hq )
def q_X3_chooseFor_32 (rec32 : (sk_D × Int32 × Int32 × Int32) → Option (sk_D)) (d : sk_D) (v1 : Int32) (v2 : Int32) (v3 : Int32) : Option (sk_D) :=
  if v3 < 0 then some d else if sk_bi v3 2401 = true then (l_X3_chooseFor_50 rec32 sk_fu (d, v1, v2, v3, (d.1 17 0 v3.toNatClampNeg), (0 : Int64), (0 : Int32))) else none
set_option maxRecDepth 100000 in
set_option maxHeartbeats 4000000 in
theorem t_X3_chooseFor_32 {l : Launch} {rec32 : (sk_D × Int32 × Int32 × Int32) → Option (sk_D)} {d : sk_D} {v1 : Int32} {v2 : Int32} {v3 : Int32} (hrec32 : ∀ (a : (sk_D × Int32 × Int32 × Int32)) (res : sk_D), rec32 a = some res → sk_G l (sk_rm 2 0 0) m_X3_chooseFor sk_Ex0 (sk_Zm m_X3_chooseFor none (sk_mm res)) 0 0 32 [some (.inr (.inr (some (6, 0)))), some (.inl a.2.1), some (.inl a.2.2.1), some (.inl a.2.2.2), none, none, none, none, none, none, none] [] (sk_mm a.1)) {res : sk_D} (hq : q_X3_chooseFor_32 rec32 d v1 v2 v3 = some res) :
    sk_G l (sk_rm 2 0 0) m_X3_chooseFor sk_Ex0 (sk_Zm m_X3_chooseFor none (sk_mm res)) 0 0 32 [some (.inr (.inr (some (6, 0)))), some (.inl v1), some (.inl v2), some (.inl v3), none, none, none, none, none, none, none] [] (sk_mm d) := by
  unfold q_X3_chooseFor_32 at hq
  refine sg_iload_n 33 (sk_td o_X3_chooseFor 20 rfl) rfl rfl ?_
  refine sg_if_lt 190 36 (sk_td o_X3_chooseFor 21 rfl) (by decide) rfl (fun hc => ?_) (fun hc => ?_)
  · rw [if_pos hc] at hq
    cases hq
    exact sg_vret (sk_td o_X3_chooseFor 114 rfl) rfl
  · rw [if_neg hc] at hq
    refine sg_aload_n 37 (sk_td o_X3_chooseFor 22 rfl) rfl rfl ?_
    refine sm_getR (17, 0) 40 (sk_td o_X3_chooseFor 23 rfl) rfl kf_X3_48 rfl rfl sz_6 rfl ?_
    refine sg_iload_n 41 (sk_td o_X3_chooseFor 24 rfl) rfl rfl ?_
    obtain ⟨hb1, hq⟩ := sk_ifn hq
    refine sm_iald 42 (sk_td o_X3_chooseFor 25 rfl) rfl rfl sz_17 hb1 ?_
    refine sg_istore 44 [some (.inr (.inr (some (6, 0)))), some (.inl v1), some (.inl v2), some (.inl v3), some (.inl (d.1 17 0 v3.toNatClampNeg)), none, none, none, none, none, none] (sk_td o_X3_chooseFor 26 rfl) rfl rfl (Nat.le_of_ble_eq_true rfl) rfl ?_
    refine sg_lconst (v := (0 : Int64)) 45 (sk_td o_X3_chooseFor 27 rfl) rfl (by decide) ?_
    refine sg_lstore 47 [some (.inr (.inr (some (6, 0)))), some (.inl v1), some (.inl v2), some (.inl v3), some (.inl (d.1 17 0 v3.toNatClampNeg)), some (.inr (.inl (0 : Int64))), none, none, none, none, none] (sk_td o_X3_chooseFor 28 rfl) rfl rfl (Nat.le_of_ble_eq_true rfl) rfl ?_
    refine sg_iconst (v := (0 : Int32)) 48 (sk_td o_X3_chooseFor 29 rfl) rfl (by decide) ?_
    refine sg_istore 50 [some (.inr (.inr (some (6, 0)))), some (.inl v1), some (.inl v2), some (.inl v3), some (.inl (d.1 17 0 v3.toNatClampNeg)), some (.inr (.inl (0 : Int64))), none, some (.inl (0 : Int32)), none, none, none] (sk_td o_X3_chooseFor 30 rfl) rfl rfl (Nat.le_of_ble_eq_true rfl) rfl ?_
    exact lt_X3_chooseFor_50 hrec32 sk_fu (d, v1, v2, v3, (d.1 17 0 v3.toNatClampNeg), (0 : Int64), (0 : Int32)) _ hq
def l_X3_chooseFor_32 (fl : Nat) (a : (sk_D × Int32 × Int32 × Int32)) : Option (sk_D) := sk_it (fun rec32 a => q_X3_chooseFor_32 rec32 a.1 a.2.1 a.2.2.1 a.2.2.2) fl a
theorem lt_X3_chooseFor_32 {l : Launch} : ∀ (fl : Nat) (a : (sk_D × Int32 × Int32 × Int32)) (res : sk_D), l_X3_chooseFor_32 fl a = some res → sk_G l (sk_rm 2 0 0) m_X3_chooseFor sk_Ex0 (sk_Zm m_X3_chooseFor none (sk_mm res)) 0 0 32 [some (.inr (.inr (some (6, 0)))), some (.inl a.2.1), some (.inl a.2.2.1), some (.inl a.2.2.2), none, none, none, none, none, none, none] [] (sk_mm a.1) :=
  sk_it_ind (P := fun (a : (sk_D × Int32 × Int32 × Int32)) (res : sk_D) => sk_G l (sk_rm 2 0 0) m_X3_chooseFor sk_Ex0 (sk_Zm m_X3_chooseFor none (sk_mm res)) 0 0 32 [some (.inr (.inr (some (6, 0)))), some (.inl a.2.1), some (.inl a.2.2.1), some (.inl a.2.2.2), none, none, none, none, none, none, none] [] (sk_mm a.1)) (fun rec32 hrec32 a res hq  => t_X3_chooseFor_32 hrec32 hq )
def q_X3_chooseFor_26 (d : sk_D) (v1 : Int32) (v2 : Int32) : Option (sk_D) :=
  (l_X3_chooseFor_32 sk_fu (d, v1, v2, ((d.1 6 0 1) - (1 : Int32))))
set_option maxRecDepth 100000 in
set_option maxHeartbeats 4000000 in
theorem t_X3_chooseFor_26 {l : Launch} {d : sk_D} {v1 : Int32} {v2 : Int32} {res : sk_D} (hq : q_X3_chooseFor_26 d v1 v2 = some res) :
    sk_G l (sk_rm 2 0 0) m_X3_chooseFor sk_Ex0 (sk_Zm m_X3_chooseFor none (sk_mm res)) 0 0 26 [some (.inr (.inr (some (6, 0)))), some (.inl v1), some (.inl v2), none, none, none, none, none, none, none, none] [.inr (.inr (some (6, 0)))] (sk_mm d) := by
  unfold q_X3_chooseFor_26 at hq
  refine sm_getI 29 (sk_td o_X3_chooseFor 16 rfl) rfl kf_X3_15 rfl rfl sz_6 ?_
  refine sg_iconst (v := (1 : Int32)) 30 (sk_td o_X3_chooseFor 17 rfl) rfl (by decide) ?_
  refine sg_isub 31 (sk_td o_X3_chooseFor 18 rfl) rfl ?_
  refine sg_istore_n 32 [some (.inr (.inr (some (6, 0)))), some (.inl v1), some (.inl v2), some (.inl ((d.1 6 0 1) - (1 : Int32))), none, none, none, none, none, none, none] (sk_td o_X3_chooseFor 19 rfl) rfl rfl (Nat.le_of_ble_eq_true rfl) rfl ?_
  exact lt_X3_chooseFor_32 sk_fu (d, v1, v2, ((d.1 6 0 1) - (1 : Int32))) _ hq
def q_X3_chooseFor_0 (d : sk_D) (v1 : Int32) : Option (sk_D) :=
  (q_X3_listOptions d v1).bind fun x1 => if x1.1 = 0 then some x1.2 else (q_X3_chooseFor_26 (sk_wf x1.2 15 0 (va_cpy (x1.2.1 13 0) (x1.2.1 15 0) 0 0 4)) v1 x1.1)
set_option maxRecDepth 100000 in
set_option maxHeartbeats 4000000 in
theorem t_X3_chooseFor_0 {l : Launch} {d : sk_D} {v1 : Int32} {res : sk_D} (hq : q_X3_chooseFor_0 d v1 = some res) :
    sk_G l (sk_rm 2 0 0) m_X3_chooseFor sk_Ex0 (sk_Zm m_X3_chooseFor none (sk_mm res)) 0 0 0 [some (.inr (.inr (some (6, 0)))), some (.inl v1), none, none, none, none, none, none, none, none, none] [] (sk_mm d) := by
  unfold q_X3_chooseFor_0 at hq
  refine sg_aload_n 1 (sk_td o_X3_chooseFor 0 rfl) rfl rfl ?_
  refine sg_iload_n 2 (sk_td o_X3_chooseFor 1 rfl) rfl rfl ?_
  obtain ⟨x1, hr_x1, hq⟩ := sk_bnd hq
  refine sm_callV1i 5 (s_X3_listOptions hr_x1) (sk_td o_X3_chooseFor 2 rfl) rfl lv_X3_127 rfl rfl rfl sz_6 (sk_rok (Nat.le_of_ble_eq_true rfl) (Nat.le_of_ble_eq_true rfl) rfl rfl) (Nat.le_of_ble_eq_true rfl) ?_
  refine sg_istore_n 6 [some (.inr (.inr (some (6, 0)))), some (.inl v1), some (.inl x1.1), none, none, none, none, none, none, none, none] (sk_td o_X3_chooseFor 3 rfl) rfl rfl (Nat.le_of_ble_eq_true rfl) rfl ?_
  refine sg_iload_n 7 (sk_td o_X3_chooseFor 4 rfl) rfl rfl ?_
  refine sg_if_ne 11 10 (sk_td o_X3_chooseFor 5 rfl) (by decide) rfl (fun hc => ?_) (fun hc => ?_)
  · rw [if_neg hc] at hq
    refine sg_aload_n 12 (sk_td o_X3_chooseFor 7 rfl) rfl rfl ?_
    refine sm_getR (13, 0) 15 (sk_td o_X3_chooseFor 8 rfl) rfl kf_X3_36 rfl rfl sz_6 rfl ?_
    refine sg_iconst (v := (0 : Int32)) 16 (sk_td o_X3_chooseFor 9 rfl) rfl (by decide) ?_
    refine sg_aload_n 17 (sk_td o_X3_chooseFor 10 rfl) rfl rfl ?_
    refine sm_getR (15, 0) 20 (sk_td o_X3_chooseFor 11 rfl) rfl kf_X3_42 rfl rfl sz_6 rfl ?_
    refine sg_iconst (v := (0 : Int32)) 21 (sk_td o_X3_chooseFor 12 rfl) rfl (by decide) ?_
    refine sg_iconst (v := (4 : Int32)) 22 (sk_td o_X3_chooseFor 13 rfl) rfl (by decide) ?_
    refine sm_copy 25 (sk_td o_X3_chooseFor 14 rfl) rfl ka_X3_131 sk_acN sk_acS sk_acI rfl rfl sz_13 sz_15 (by decide) (by decide) (Nat.le_of_ble_eq_true rfl) (Nat.le_of_ble_eq_true rfl) (Nat.le_of_ble_eq_true rfl) ?_
    refine sg_aload_n 26 (sk_td o_X3_chooseFor 15 rfl) rfl rfl ?_
    exact t_X3_chooseFor_26 hq
  · rw [if_pos hc] at hq
    cases hq
    exact sg_vret (sk_td o_X3_chooseFor 6 rfl) rfl
def q_X3_chooseFor (d : sk_D) (v1 : Int32) : Option (sk_D) := q_X3_chooseFor_0 d v1 
theorem s_X3_chooseFor {l : Launch} {d : sk_D} {v1 : Int32} {res : sk_D} (hq : q_X3_chooseFor d v1 = some res) : sk_M l 2 m_X3_chooseFor [.inr (.inr (some (6, 0))), .inl v1] (sk_mm d) none (sk_mm res) :=
  sk_enter (by decide) (fun _ => Nat.le_of_ble_eq_true rfl) (Nat.le_of_ble_eq_true rfl) (t_X3_chooseFor_0 hq )
def q_X3_followChoices_80 (rec9 : (sk_D × Int32 × Int32) → Option (sk_D)) (d : sk_D) (v1 : Int32) (v2 : Int32) : Option (sk_D) :=
  (rec9 (d, v1, (v2 + (1 : Int32))))
set_option maxRecDepth 100000 in
set_option maxHeartbeats 4000000 in
theorem t_X3_followChoices_80 {l : Launch} {rec9 : (sk_D × Int32 × Int32) → Option (sk_D)} {d : sk_D} {v1 : Int32} {v2 : Int32} (hrec9 : ∀ (a : (sk_D × Int32 × Int32)) (res : sk_D), rec9 a = some res → sk_G l (sk_rm 2 0 0) m_X3_followChoices sk_Ex0 (sk_Zm m_X3_followChoices none (sk_mm res)) 0 0 9 [some (.inr (.inr (some (6, 0)))), some (.inl a.2.1), some (.inl a.2.2), none] [] (sk_mm a.1)) {res : sk_D} (hq : q_X3_followChoices_80 rec9 d v1 v2 = some res) :
    sk_G l (sk_rm 2 0 0) m_X3_followChoices sk_Ex0 (sk_Zm m_X3_followChoices none (sk_mm res)) 0 0 80 [some (.inr (.inr (some (6, 0)))), some (.inl v1), some (.inl v2), none] [] (sk_mm d) := by
  unfold q_X3_followChoices_80 at hq
  refine sg_iinc (v2 + (1 : Int32)) 83 [some (.inr (.inr (some (6, 0)))), some (.inl v1), some (.inl (v2 + (1 : Int32))), none] (sk_td o_X3_followChoices 56 rfl) rfl rfl rfl rfl (Nat.le_of_ble_eq_true rfl) rfl ?_
  refine sg_goto 9 (sk_td o_X3_followChoices 57 rfl) (by decide) ?_
  exact hrec9 (d, v1, (v2 + (1 : Int32))) _ hq
def q_X3_followChoices_65 (rec9 : (sk_D × Int32 × Int32) → Option (sk_D)) (d : sk_D) (v2 : Int32) (v3 : Int32) (s1 : Int32) (s3 : Int32) : Option (sk_D) :=
  if sk_bi s3 20 = true then if sk_bi (v3 - (1 : Int32)) 4 = true then (q_X3_followChoices_80 rec9 d (if (0 : Int32) < (s1 - ((d.1 8 0 s3.toNatClampNeg) * (d.1 14 0 (v3 - (1 : Int32)).toNatClampNeg))) then (s1 - ((d.1 8 0 s3.toNatClampNeg) * (d.1 14 0 (v3 - (1 : Int32)).toNatClampNeg))) else (0 : Int32)) v2) else none else none
set_option maxRecDepth 100000 in
set_option maxHeartbeats 4000000 in
theorem t_X3_followChoices_65 {l : Launch} {rec9 : (sk_D × Int32 × Int32) → Option (sk_D)} {d : sk_D} {v2 : Int32} {v3 : Int32} {s1 : Int32} {s3 : Int32} (hrec9 : ∀ (a : (sk_D × Int32 × Int32)) (res : sk_D), rec9 a = some res → sk_G l (sk_rm 2 0 0) m_X3_followChoices sk_Ex0 (sk_Zm m_X3_followChoices none (sk_mm res)) 0 0 9 [some (.inr (.inr (some (6, 0)))), some (.inl a.2.1), some (.inl a.2.2), none] [] (sk_mm a.1)) {res : sk_D} (hq : q_X3_followChoices_65 rec9 d v2 v3 s1 s3 = some res) :
    sk_G l (sk_rm 2 0 0) m_X3_followChoices sk_Ex0 (sk_Zm m_X3_followChoices none (sk_mm res)) 0 0 65 [some (.inr (.inr (some (6, 0)))), none, some (.inl v2), some (.inl v3)] [.inl s3, .inr (.inr (some (8, 0))), .inl s1, .inl (0 : Int32)] (sk_mm d) := by
  unfold q_X3_followChoices_65 at hq
  obtain ⟨hb1, hq⟩ := sk_ifn hq
  refine sm_iald 66 (sk_td o_X3_followChoices 45 rfl) rfl rfl sz_8 hb1 ?_
  refine sg_aload_n 67 (sk_td o_X3_followChoices 46 rfl) rfl rfl ?_
  refine sm_getR (14, 0) 70 (sk_td o_X3_followChoices 47 rfl) rfl kf_X3_39 rfl rfl sz_6 rfl ?_
  refine sg_iload_n 71 (sk_td o_X3_followChoices 48 rfl) rfl rfl ?_
  refine sg_iconst (v := (1 : Int32)) 72 (sk_td o_X3_followChoices 49 rfl) rfl (by decide) ?_
  refine sg_isub 73 (sk_td o_X3_followChoices 50 rfl) rfl ?_
  obtain ⟨hb2, hq⟩ := sk_ifn hq
  refine sm_iald 74 (sk_td o_X3_followChoices 51 rfl) rfl rfl sz_14 hb2 ?_
  refine sg_imul 75 (sk_td o_X3_followChoices 52 rfl) rfl ?_
  refine sg_isub 76 (sk_td o_X3_followChoices 53 rfl) rfl ?_
  refine sm_max 79 (sk_td o_X3_followChoices 54 rfl) rfl kM_X3_140 (Nat.le_of_ble_eq_true rfl) (Nat.le_of_ble_eq_true rfl) (Nat.le_of_ble_eq_true rfl) ?_
  refine sg_istore_n 80 [some (.inr (.inr (some (6, 0)))), some (.inl (if (0 : Int32) < (s1 - ((d.1 8 0 s3.toNatClampNeg) * (d.1 14 0 (v3 - (1 : Int32)).toNatClampNeg))) then (s1 - ((d.1 8 0 s3.toNatClampNeg) * (d.1 14 0 (v3 - (1 : Int32)).toNatClampNeg))) else (0 : Int32))), some (.inl v2), some (.inl v3)] (sk_td o_X3_followChoices 55 rfl) rfl rfl (Nat.le_of_ble_eq_true rfl) rfl ?_
  refine sk_wk [true, true, true, false] (ls' := [some (.inr (.inr (some (6, 0)))), some (.inl (if (0 : Int32) < (s1 - ((d.1 8 0 s3.toNatClampNeg) * (d.1 14 0 (v3 - (1 : Int32)).toNatClampNeg))) then (s1 - ((d.1 8 0 s3.toNatClampNeg) * (d.1 14 0 (v3 - (1 : Int32)).toNatClampNeg))) else (0 : Int32))), some (.inl v2), none]) rfl ?_
  exact t_X3_followChoices_80 hrec9 hq
def q_X3_followChoices_43 (rec9 : (sk_D × Int32 × Int32) → Option (sk_D)) (d : sk_D) (v1 : Int32) (v2 : Int32) (v3 : Int32) (s0 : Int32) : Option (sk_D) :=
  (q_X8_within d s0 (1 : Int32) (4 : Int32)).bind fun x1 => if x1 = 0 then (q_X3_followChoices_80 rec9 d v1 v2) else if sk_bi v2 20 = true then (q_X3_followChoices_65 rec9 (sk_wi d 11 0 v2.toNatClampNeg (v3 - (1 : Int32))) v2 v3 v1 v2) else none
set_option maxRecDepth 100000 in
set_option maxHeartbeats 4000000 in
theorem t_X3_followChoices_43 {l : Launch} {rec9 : (sk_D × Int32 × Int32) → Option (sk_D)} {d : sk_D} {v1 : Int32} {v2 : Int32} {v3 : Int32} {s0 : Int32} (hrec9 : ∀ (a : (sk_D × Int32 × Int32)) (res : sk_D), rec9 a = some res → sk_G l (sk_rm 2 0 0) m_X3_followChoices sk_Ex0 (sk_Zm m_X3_followChoices none (sk_mm res)) 0 0 9 [some (.inr (.inr (some (6, 0)))), some (.inl a.2.1), some (.inl a.2.2), none] [] (sk_mm a.1)) {res : sk_D} (hq : q_X3_followChoices_43 rec9 d v1 v2 v3 s0 = some res) :
    sk_G l (sk_rm 2 0 0) m_X3_followChoices sk_Ex0 (sk_Zm m_X3_followChoices none (sk_mm res)) 0 0 43 [some (.inr (.inr (some (6, 0)))), some (.inl v1), some (.inl v2), some (.inl v3)] [.inl (4 : Int32), .inl (1 : Int32), .inl s0] (sk_mm d) := by
  unfold q_X3_followChoices_43 at hq
  obtain ⟨x1, hr_x1, hq⟩ := sk_bnd hq
  refine sm_callN3i 46 (s_X8_within hr_x1) (sk_td o_X3_followChoices 31 rfl) rfl ln_X3_70 rfl (sk_rok (Nat.le_of_ble_eq_true rfl) (Nat.le_of_ble_eq_true rfl) rfl rfl) (Nat.le_of_ble_eq_true rfl) ?_
  refine sg_if_eq 80 49 (sk_td o_X3_followChoices 32 rfl) (by decide) rfl (fun hc => ?_) (fun hc => ?_)
  · rw [if_pos hc] at hq
    refine sk_wk [true, true, true, false] (ls' := [some (.inr (.inr (some (6, 0)))), some (.inl v1), some (.inl v2), none]) rfl ?_
    exact t_X3_followChoices_80 hrec9 hq
  · rw [if_neg hc] at hq
    refine sg_aload_n 50 (sk_td o_X3_followChoices 33 rfl) rfl rfl ?_
    refine sm_getR (11, 0) 53 (sk_td o_X3_followChoices 34 rfl) rfl kf_X3_30 rfl rfl sz_6 rfl ?_
    refine sg_iload_n 54 (sk_td o_X3_followChoices 35 rfl) rfl rfl ?_
    refine sg_iload_n 55 (sk_td o_X3_followChoices 36 rfl) rfl rfl ?_
    refine sg_iconst (v := (1 : Int32)) 56 (sk_td o_X3_followChoices 37 rfl) rfl (by decide) ?_
    refine sg_isub 57 (sk_td o_X3_followChoices 38 rfl) rfl ?_
    obtain ⟨hb2, hq⟩ := sk_ifn hq
    refine sm_iast 58 (sk_td o_X3_followChoices 39 rfl) rfl rfl sz_11 hb2 ?_
    refine sg_iconst (v := (0 : Int32)) 59 (sk_td o_X3_followChoices 40 rfl) rfl (by decide) ?_
    refine sg_iload_n 60 (sk_td o_X3_followChoices 41 rfl) rfl rfl ?_
    refine sg_aload_n 61 (sk_td o_X3_followChoices 42 rfl) rfl rfl ?_
    refine sm_getR (8, 0) 64 (sk_td o_X3_followChoices 43 rfl) rfl kf_X3_22 rfl rfl sz_6 rfl ?_
    refine sg_iload_n 65 (sk_td o_X3_followChoices 44 rfl) rfl rfl ?_
    refine sk_wk [true, false, true, true] (ls' := [some (.inr (.inr (some (6, 0)))), none, some (.inl v2), some (.inl v3)]) rfl ?_
    exact t_X3_followChoices_65 hrec9 hq
def q_X3_followChoices_9 (rec9 : (sk_D × Int32 × Int32) → Option (sk_D)) (d : sk_D) (v1 : Int32) (v2 : Int32) : Option (sk_D) :=
  if (d.1 6 0 0) ≤ v2 then some d else if sk_bi v1 2401 = true then if sk_bi v2 20 = true then (q_X3_followChoices_43 rec9 (sk_wi d 11 0 v2.toNatClampNeg (-9 : Int32)) v1 v2 ((((d.2 18 0 v1.toNatClampNeg).toUInt64 >>> (((3 : Int32) * v2).toInt64.toUInt64 &&& Int64.toUInt64 63)).toInt64).toInt32 &&& (7 : Int32)) ((((d.2 18 0 v1.toNatClampNeg).toUInt64 >>> (((3 : Int32) * v2).toInt64.toUInt64 &&& Int64.toUInt64 63)).toInt64).toInt32 &&& (7 : Int32))) else none else none
set_option maxRecDepth 100000 in
set_option maxHeartbeats 4000000 in
theorem t_X3_followChoices_9 {l : Launch} {rec9 : (sk_D × Int32 × Int32) → Option (sk_D)} {d : sk_D} {v1 : Int32} {v2 : Int32} (hrec9 : ∀ (a : (sk_D × Int32 × Int32)) (res : sk_D), rec9 a = some res → sk_G l (sk_rm 2 0 0) m_X3_followChoices sk_Ex0 (sk_Zm m_X3_followChoices none (sk_mm res)) 0 0 9 [some (.inr (.inr (some (6, 0)))), some (.inl a.2.1), some (.inl a.2.2), none] [] (sk_mm a.1)) {res : sk_D} (hq : q_X3_followChoices_9 rec9 d v1 v2 = some res) :
    sk_G l (sk_rm 2 0 0) m_X3_followChoices sk_Ex0 (sk_Zm m_X3_followChoices none (sk_mm res)) 0 0 9 [some (.inr (.inr (some (6, 0)))), some (.inl v1), some (.inl v2), none] [] (sk_mm d) := by
  unfold q_X3_followChoices_9 at hq
  refine sg_iload_n 10 (sk_td o_X3_followChoices 7 rfl) rfl rfl ?_
  refine sg_aload_n 11 (sk_td o_X3_followChoices 8 rfl) rfl rfl ?_
  refine sm_getI 14 (sk_td o_X3_followChoices 9 rfl) rfl kf_X3_9 rfl rfl sz_6 ?_
  refine sg_ic_ge 86 17 (sk_td o_X3_followChoices 10 rfl) (by decide) rfl (fun hc => ?_) (fun hc => ?_)
  · rw [if_pos hc] at hq
    cases hq
    exact sg_vret (sk_td o_X3_followChoices 58 rfl) rfl
  · rw [if_neg hc] at hq
    refine sg_aload_n 18 (sk_td o_X3_followChoices 11 rfl) rfl rfl ?_
    refine sm_getR (18, 0) 21 (sk_td o_X3_followChoices 12 rfl) rfl kf_X3_51 rfl rfl sz_6 rfl ?_
    refine sg_iload_n 22 (sk_td o_X3_followChoices 13 rfl) rfl rfl ?_
    obtain ⟨hb1, hq⟩ := sk_ifn hq
    refine sm_lald 23 (sk_td o_X3_followChoices 14 rfl) rfl rfl sz_18 hb1 ?_
    refine sg_iconst (v := (3 : Int32)) 24 (sk_td o_X3_followChoices 15 rfl) rfl (by decide) ?_
    refine sg_iload_n 25 (sk_td o_X3_followChoices 16 rfl) rfl rfl ?_
    refine sg_imul 26 (sk_td o_X3_followChoices 17 rfl) rfl ?_
    refine sg_lushr 27 (sk_td o_X3_followChoices 18 rfl) rfl ?_
    refine sg_l2i 28 (sk_td o_X3_followChoices 19 rfl) rfl ?_
    refine sg_bipush (v := (7 : Int32)) 30 (sk_td o_X3_followChoices 20 rfl) rfl (by decide) ?_
    refine sg_iand 31 (sk_td o_X3_followChoices 21 rfl) rfl ?_
    refine sg_istore_n 32 [some (.inr (.inr (some (6, 0)))), some (.inl v1), some (.inl v2), some (.inl ((((d.2 18 0 v1.toNatClampNeg).toUInt64 >>> (((3 : Int32) * v2).toInt64.toUInt64 &&& Int64.toUInt64 63)).toInt64).toInt32 &&& (7 : Int32)))] (sk_td o_X3_followChoices 22 rfl) rfl rfl (Nat.le_of_ble_eq_true rfl) rfl ?_
    refine sg_aload_n 33 (sk_td o_X3_followChoices 23 rfl) rfl rfl ?_
    refine sm_getR (11, 0) 36 (sk_td o_X3_followChoices 24 rfl) rfl kf_X3_30 rfl rfl sz_6 rfl ?_
    refine sg_iload_n 37 (sk_td o_X3_followChoices 25 rfl) rfl rfl ?_
    refine sg_bipush (v := (-9 : Int32)) 39 (sk_td o_X3_followChoices 26 rfl) rfl (by decide) ?_
    obtain ⟨hb2, hq⟩ := sk_ifn hq
    refine sm_iast 40 (sk_td o_X3_followChoices 27 rfl) rfl rfl sz_11 hb2 ?_
    refine sg_iload_n 41 (sk_td o_X3_followChoices 28 rfl) rfl rfl ?_
    refine sg_iconst (v := (1 : Int32)) 42 (sk_td o_X3_followChoices 29 rfl) rfl (by decide) ?_
    refine sg_iconst (v := (4 : Int32)) 43 (sk_td o_X3_followChoices 30 rfl) rfl (by decide) ?_
    exact t_X3_followChoices_43 hrec9 hq
def l_X3_followChoices_9 (fl : Nat) (a : (sk_D × Int32 × Int32)) : Option (sk_D) := sk_it (fun rec9 a => q_X3_followChoices_9 rec9 a.1 a.2.1 a.2.2) fl a
theorem lt_X3_followChoices_9 {l : Launch} : ∀ (fl : Nat) (a : (sk_D × Int32 × Int32)) (res : sk_D), l_X3_followChoices_9 fl a = some res → sk_G l (sk_rm 2 0 0) m_X3_followChoices sk_Ex0 (sk_Zm m_X3_followChoices none (sk_mm res)) 0 0 9 [some (.inr (.inr (some (6, 0)))), some (.inl a.2.1), some (.inl a.2.2), none] [] (sk_mm a.1) :=
  sk_it_ind (P := fun (a : (sk_D × Int32 × Int32)) (res : sk_D) => sk_G l (sk_rm 2 0 0) m_X3_followChoices sk_Ex0 (sk_Zm m_X3_followChoices none (sk_mm res)) 0 0 9 [some (.inr (.inr (some (6, 0)))), some (.inl a.2.1), some (.inl a.2.2), none] [] (sk_mm a.1)) (fun rec9 hrec9 a res hq  => t_X3_followChoices_9 hrec9 hq )
def q_X3_followChoices_0 (d : sk_D) : Option (sk_D) :=
  (l_X3_followChoices_9 sk_fu (d, ((d.1 6 0 1) - (1 : Int32)), (0 : Int32)))
set_option maxRecDepth 100000 in
set_option maxHeartbeats 4000000 in
theorem t_X3_followChoices_0 {l : Launch} {d : sk_D} {res : sk_D} (hq : q_X3_followChoices_0 d = some res) :
    sk_G l (sk_rm 2 0 0) m_X3_followChoices sk_Ex0 (sk_Zm m_X3_followChoices none (sk_mm res)) 0 0 0 [some (.inr (.inr (some (6, 0)))), none, none, none] [] (sk_mm d) := by
  unfold q_X3_followChoices_0 at hq
  refine sg_aload_n 1 (sk_td o_X3_followChoices 0 rfl) rfl rfl ?_
  refine sm_getI 4 (sk_td o_X3_followChoices 1 rfl) rfl kf_X3_15 rfl rfl sz_6 ?_
  refine sg_iconst (v := (1 : Int32)) 5 (sk_td o_X3_followChoices 2 rfl) rfl (by decide) ?_
  refine sg_isub 6 (sk_td o_X3_followChoices 3 rfl) rfl ?_
  refine sg_istore_n 7 [some (.inr (.inr (some (6, 0)))), some (.inl ((d.1 6 0 1) - (1 : Int32))), none, none] (sk_td o_X3_followChoices 4 rfl) rfl rfl (Nat.le_of_ble_eq_true rfl) rfl ?_
  refine sg_iconst (v := (0 : Int32)) 8 (sk_td o_X3_followChoices 5 rfl) rfl (by decide) ?_
  refine sg_istore_n 9 [some (.inr (.inr (some (6, 0)))), some (.inl ((d.1 6 0 1) - (1 : Int32))), some (.inl (0 : Int32)), none] (sk_td o_X3_followChoices 6 rfl) rfl rfl (Nat.le_of_ble_eq_true rfl) rfl ?_
  exact lt_X3_followChoices_9 sk_fu (d, ((d.1 6 0 1) - (1 : Int32)), (0 : Int32)) _ hq
def q_X3_followChoices (d : sk_D) : Option (sk_D) := q_X3_followChoices_0 d 
theorem s_X3_followChoices {l : Launch} {d : sk_D} {res : sk_D} (hq : q_X3_followChoices d = some res) : sk_M l 2 m_X3_followChoices [.inr (.inr (some (6, 0)))] (sk_mm d) none (sk_mm res) :=
  sk_enter (by decide) (fun _ => Nat.le_of_ble_eq_true rfl) (Nat.le_of_ble_eq_true rfl) (t_X3_followChoices_0 hq )
def q_X3_findBest_54 (rec54 : (sk_D × Int32) → Option (Int32 × sk_D)) (d : sk_D) (v4 : Int32) : Option (Int32 × sk_D) :=
  if v4 < 0 then (q_X3_followChoices d).bind fun x1 => if sk_bi ((x1.1 6 0 1) - (1 : Int32)) 2401 = true then some (((((x1.1 17 0 ((x1.1 6 0 1) - (1 : Int32)).toNatClampNeg) + (32 : Int32)) - (1 : Int32)) / (32 : Int32)), x1) else none else (q_X3_chooseFor d v4).bind fun x3 => (rec54 (x3, (v4 + (-1 : Int32))))
set_option maxRecDepth 100000 in
set_option maxHeartbeats 4000000 in
theorem t_X3_findBest_54 {l : Launch} {rec54 : (sk_D × Int32) → Option (Int32 × sk_D)} {d : sk_D} {v4 : Int32} (hrec54 : ∀ (a : (sk_D × Int32)) (res : Int32 × sk_D), rec54 a = some res → sk_G l (sk_rm 5 0 0) m_X3_findBest sk_Ex0 (sk_Zm m_X3_findBest (some (.inl res.1)) (sk_mm res.2)) 0 0 54 [some (.inr (.inr (some (6, 0)))), none, none, none, some (.inl a.2)] [] (sk_mm a.1)) {res : Int32 × sk_D} (hq : q_X3_findBest_54 rec54 d v4 = some res) :
    sk_G l (sk_rm 5 0 0) m_X3_findBest sk_Ex0 (sk_Zm m_X3_findBest (some (.inl res.1)) (sk_mm res.2)) 0 0 54 [some (.inr (.inr (some (6, 0)))), none, none, none, some (.inl v4)] [] (sk_mm d) := by
  unfold q_X3_findBest_54 at hq
  refine sg_iload 56 (sk_td o_X3_findBest 31 rfl) rfl rfl ?_
  refine sg_if_lt 71 59 (sk_td o_X3_findBest 32 rfl) (by decide) rfl (fun hc => ?_) (fun hc => ?_)
  · rw [if_pos hc] at hq
    refine sg_aload_n 72 (sk_td o_X3_findBest 38 rfl) rfl rfl ?_
    obtain ⟨x1, hr_x1, hq⟩ := sk_bnd hq
    refine sm_callV0v 75 (s_X3_followChoices hr_x1) (sk_td o_X3_findBest 39 rfl) rfl lv_X3_67 rfl rfl rfl sz_6 (sk_rok (Nat.le_of_ble_eq_true rfl) (Nat.le_of_ble_eq_true rfl) rfl rfl) (Nat.le_of_ble_eq_true rfl) ?_
    refine sg_aload_n 76 (sk_td o_X3_findBest 40 rfl) rfl rfl ?_
    refine sm_getR (17, 0) 79 (sk_td o_X3_findBest 41 rfl) rfl kf_X3_48 rfl rfl sz_6 rfl ?_
    refine sg_aload_n 80 (sk_td o_X3_findBest 42 rfl) rfl rfl ?_
    refine sm_getI 83 (sk_td o_X3_findBest 43 rfl) rfl kf_X3_15 rfl rfl sz_6 ?_
    refine sg_iconst (v := (1 : Int32)) 84 (sk_td o_X3_findBest 44 rfl) rfl (by decide) ?_
    refine sg_isub 85 (sk_td o_X3_findBest 45 rfl) rfl ?_
    obtain ⟨hb2, hq⟩ := sk_ifn hq
    refine sm_iald 86 (sk_td o_X3_findBest 46 rfl) rfl rfl sz_17 hb2 ?_
    refine sg_bipush (v := (32 : Int32)) 88 (sk_td o_X3_findBest 47 rfl) rfl (by decide) ?_
    refine sg_iadd 89 (sk_td o_X3_findBest 48 rfl) rfl ?_
    refine sg_iconst (v := (1 : Int32)) 90 (sk_td o_X3_findBest 49 rfl) rfl (by decide) ?_
    refine sg_isub 91 (sk_td o_X3_findBest 50 rfl) rfl ?_
    refine sg_bipush (v := (32 : Int32)) 93 (sk_td o_X3_findBest 51 rfl) rfl (by decide) ?_
    refine sg_idiv 94 (sk_td o_X3_findBest 52 rfl) rfl (by decide) ?_
    cases hq
    exact sg_iret (sk_td o_X3_findBest 53 rfl) rfl rfl
  · rw [if_neg hc] at hq
    refine sg_aload_n 60 (sk_td o_X3_findBest 33 rfl) rfl rfl ?_
    refine sg_iload 62 (sk_td o_X3_findBest 34 rfl) rfl rfl ?_
    obtain ⟨x3, hr_x3, hq⟩ := sk_bnd hq
    refine sm_callV1v 65 (s_X3_chooseFor hr_x3) (sk_td o_X3_findBest 35 rfl) rfl lv_X3_63 rfl rfl rfl sz_6 (sk_rok (Nat.le_of_ble_eq_true rfl) (Nat.le_of_ble_eq_true rfl) rfl rfl) (Nat.le_of_ble_eq_true rfl) ?_
    refine sg_iinc (v4 + (-1 : Int32)) 68 [some (.inr (.inr (some (6, 0)))), none, none, none, some (.inl (v4 + (-1 : Int32)))] (sk_td o_X3_findBest 36 rfl) rfl rfl rfl rfl (Nat.le_of_ble_eq_true rfl) rfl ?_
    refine sg_goto 54 (sk_td o_X3_findBest 37 rfl) (by decide) ?_
    exact hrec54 (x3, (v4 + (-1 : Int32))) _ hq
def l_X3_findBest_54 (fl : Nat) (a : (sk_D × Int32)) : Option (Int32 × sk_D) := sk_it (fun rec54 a => q_X3_findBest_54 rec54 a.1 a.2) fl a
theorem lt_X3_findBest_54 {l : Launch} : ∀ (fl : Nat) (a : (sk_D × Int32)) (res : Int32 × sk_D), l_X3_findBest_54 fl a = some res → sk_G l (sk_rm 5 0 0) m_X3_findBest sk_Ex0 (sk_Zm m_X3_findBest (some (.inl res.1)) (sk_mm res.2)) 0 0 54 [some (.inr (.inr (some (6, 0)))), none, none, none, some (.inl a.2)] [] (sk_mm a.1) :=
  sk_it_ind (P := fun (a : (sk_D × Int32)) (res : Int32 × sk_D) => sk_G l (sk_rm 5 0 0) m_X3_findBest sk_Ex0 (sk_Zm m_X3_findBest (some (.inl res.1)) (sk_mm res.2)) 0 0 54 [some (.inr (.inr (some (6, 0)))), none, none, none, some (.inl a.2)] [] (sk_mm a.1)) (fun rec54 hrec54 a res hq  => t_X3_findBest_54 hrec54 hq )
def q_X3_findBest_15 (rec15 : (sk_D × Int32) → Option (Int32 × sk_D)) (d : sk_D) (v4 : Int32) : Option (Int32 × sk_D) :=
  if (d.1 6 0 1) ≤ v4 then (l_X3_findBest_54 sk_fu (d, ((d.1 6 0 0) - (1 : Int32)))) else if sk_bi v4 2401 = true then if sk_bi v4 2401 = true then (rec15 ((sk_wl (sk_wi d 17 0 v4.toNatClampNeg (0 : Int32)) 18 0 v4.toNatClampNeg (0 : Int64)), (v4 + (1 : Int32)))) else none else none
set_option maxRecDepth 100000 in
set_option maxHeartbeats 4000000 in
theorem t_X3_findBest_15 {l : Launch} {rec15 : (sk_D × Int32) → Option (Int32 × sk_D)} {d : sk_D} {v4 : Int32} (hrec15 : ∀ (a : (sk_D × Int32)) (res : Int32 × sk_D), rec15 a = some res → sk_G l (sk_rm 5 0 0) m_X3_findBest sk_Ex0 (sk_Zm m_X3_findBest (some (.inl res.1)) (sk_mm res.2)) 0 0 15 [some (.inr (.inr (some (6, 0)))), none, none, none, some (.inl a.2)] [] (sk_mm a.1)) {res : Int32 × sk_D} (hq : q_X3_findBest_15 rec15 d v4 = some res) :
    sk_G l (sk_rm 5 0 0) m_X3_findBest sk_Ex0 (sk_Zm m_X3_findBest (some (.inl res.1)) (sk_mm res.2)) 0 0 15 [some (.inr (.inr (some (6, 0)))), none, none, none, some (.inl v4)] [] (sk_mm d) := by
  unfold q_X3_findBest_15 at hq
  refine sg_iload 17 (sk_td o_X3_findBest 10 rfl) rfl rfl ?_
  refine sg_aload_n 18 (sk_td o_X3_findBest 11 rfl) rfl rfl ?_
  refine sm_getI 21 (sk_td o_X3_findBest 12 rfl) rfl kf_X3_15 rfl rfl sz_6 ?_
  refine sg_ic_ge 46 24 (sk_td o_X3_findBest 13 rfl) (by decide) rfl (fun hc => ?_) (fun hc => ?_)
  · rw [if_pos hc] at hq
    refine sg_aload_n 47 (sk_td o_X3_findBest 26 rfl) rfl rfl ?_
    refine sm_getI 50 (sk_td o_X3_findBest 27 rfl) rfl kf_X3_9 rfl rfl sz_6 ?_
    refine sg_iconst (v := (1 : Int32)) 51 (sk_td o_X3_findBest 28 rfl) rfl (by decide) ?_
    refine sg_isub 52 (sk_td o_X3_findBest 29 rfl) rfl ?_
    refine sg_istore 54 [some (.inr (.inr (some (6, 0)))), none, none, none, some (.inl ((d.1 6 0 0) - (1 : Int32)))] (sk_td o_X3_findBest 30 rfl) rfl rfl (Nat.le_of_ble_eq_true rfl) rfl ?_
    exact lt_X3_findBest_54 sk_fu (d, ((d.1 6 0 0) - (1 : Int32))) _ hq
  · rw [if_neg hc] at hq
    refine sg_aload_n 25 (sk_td o_X3_findBest 14 rfl) rfl rfl ?_
    refine sm_getR (17, 0) 28 (sk_td o_X3_findBest 15 rfl) rfl kf_X3_48 rfl rfl sz_6 rfl ?_
    refine sg_iload 30 (sk_td o_X3_findBest 16 rfl) rfl rfl ?_
    refine sg_iconst (v := (0 : Int32)) 31 (sk_td o_X3_findBest 17 rfl) rfl (by decide) ?_
    obtain ⟨hb1, hq⟩ := sk_ifn hq
    refine sm_iast 32 (sk_td o_X3_findBest 18 rfl) rfl rfl sz_17 hb1 ?_
    refine sg_aload_n 33 (sk_td o_X3_findBest 19 rfl) rfl rfl ?_
    refine sm_getR (18, 0) 36 (sk_td o_X3_findBest 20 rfl) rfl kf_X3_51 rfl rfl sz_6 rfl ?_
    refine sg_iload 38 (sk_td o_X3_findBest 21 rfl) rfl rfl ?_
    refine sg_lconst (v := (0 : Int64)) 39 (sk_td o_X3_findBest 22 rfl) rfl (by decide) ?_
    obtain ⟨hb2, hq⟩ := sk_ifn hq
    refine sm_last 40 (sk_td o_X3_findBest 23 rfl) rfl rfl sz_18 hb2 ?_
    refine sg_iinc (v4 + (1 : Int32)) 43 [some (.inr (.inr (some (6, 0)))), none, none, none, some (.inl (v4 + (1 : Int32)))] (sk_td o_X3_findBest 24 rfl) rfl rfl rfl rfl (Nat.le_of_ble_eq_true rfl) rfl ?_
    refine sg_goto 15 (sk_td o_X3_findBest 25 rfl) (by decide) ?_
    exact hrec15 ((sk_wl (sk_wi d 17 0 v4.toNatClampNeg (0 : Int32)) 18 0 v4.toNatClampNeg (0 : Int64)), (v4 + (1 : Int32))) _ hq
def l_X3_findBest_15 (fl : Nat) (a : (sk_D × Int32)) : Option (Int32 × sk_D) := sk_it (fun rec15 a => q_X3_findBest_15 rec15 a.1 a.2) fl a
theorem lt_X3_findBest_15 {l : Launch} : ∀ (fl : Nat) (a : (sk_D × Int32)) (res : Int32 × sk_D), l_X3_findBest_15 fl a = some res → sk_G l (sk_rm 5 0 0) m_X3_findBest sk_Ex0 (sk_Zm m_X3_findBest (some (.inl res.1)) (sk_mm res.2)) 0 0 15 [some (.inr (.inr (some (6, 0)))), none, none, none, some (.inl a.2)] [] (sk_mm a.1) :=
  sk_it_ind (P := fun (a : (sk_D × Int32)) (res : Int32 × sk_D) => sk_G l (sk_rm 5 0 0) m_X3_findBest sk_Ex0 (sk_Zm m_X3_findBest (some (.inl res.1)) (sk_mm res.2)) 0 0 15 [some (.inr (.inr (some (6, 0)))), none, none, none, some (.inl a.2)] [] (sk_mm a.1)) (fun rec15 hrec15 a res hq  => t_X3_findBest_15 hrec15 hq )
def q_X3_findBest_0 (d : sk_D) : Option (Int32 × sk_D) :=
  (q_X3_gatherUnits d).bind fun x1 => (q_X3_limitSeats x1).bind fun x2 => (l_X3_findBest_15 sk_fu (x2, (0 : Int32)))
set_option maxRecDepth 100000 in
set_option maxHeartbeats 4000000 in
theorem t_X3_findBest_0 {l : Launch} {d : sk_D} {res : Int32 × sk_D} (hq : q_X3_findBest_0 d = some res) :
    sk_G l (sk_rm 5 0 0) m_X3_findBest sk_Ex0 (sk_Zm m_X3_findBest (some (.inl res.1)) (sk_mm res.2)) 0 0 0 [some (.inr (.inr (some (6, 0)))), some (.inr (.inr (some (1, 0)))), some (.inr (.inr (some (2, 0)))), some (.inr (.inr (some (5, 0)))), none] [] (sk_mm d) := by
  unfold q_X3_findBest_0 at hq
  refine sg_aload_n 1 (sk_td o_X3_findBest 0 rfl) rfl rfl ?_
  refine sg_aload_n 2 (sk_td o_X3_findBest 1 rfl) rfl rfl ?_
  refine sg_aload_n 3 (sk_td o_X3_findBest 2 rfl) rfl rfl ?_
  refine sg_aload_n 4 (sk_td o_X3_findBest 3 rfl) rfl rfl ?_
  obtain ⟨x1, hr_x1, hq⟩ := sk_bnd hq
  refine sm_callV3v 7 (s_X3_gatherUnits hr_x1) (sk_td o_X3_findBest 4 rfl) rfl lv_X3_55 rfl rfl rfl sz_6 (sk_rok (Nat.le_of_ble_eq_true rfl) (Nat.le_of_ble_eq_true rfl) rfl rfl) (Nat.le_of_ble_eq_true rfl) ?_
  refine sg_aload_n 8 (sk_td o_X3_findBest 5 rfl) rfl rfl ?_
  refine sg_aload_n 9 (sk_td o_X3_findBest 6 rfl) rfl rfl ?_
  obtain ⟨x2, hr_x2, hq⟩ := sk_bnd hq
  refine sm_callV1v 12 (s_X3_limitSeats hr_x2) (sk_td o_X3_findBest 7 rfl) rfl lv_X3_59 rfl rfl rfl sz_6 (sk_rok (Nat.le_of_ble_eq_true rfl) (Nat.le_of_ble_eq_true rfl) rfl rfl) (Nat.le_of_ble_eq_true rfl) ?_
  refine sg_iconst (v := (0 : Int32)) 13 (sk_td o_X3_findBest 8 rfl) rfl (by decide) ?_
  refine sg_istore 15 [some (.inr (.inr (some (6, 0)))), some (.inr (.inr (some (1, 0)))), some (.inr (.inr (some (2, 0)))), some (.inr (.inr (some (5, 0)))), some (.inl (0 : Int32))] (sk_td o_X3_findBest 9 rfl) rfl rfl (Nat.le_of_ble_eq_true rfl) rfl ?_
  refine sk_wk [true, false, false, false, true] (ls' := [some (.inr (.inr (some (6, 0)))), none, none, none, some (.inl (0 : Int32))]) rfl ?_
  exact lt_X3_findBest_15 sk_fu (x2, (0 : Int32)) _ hq
def q_X3_findBest (d : sk_D) : Option (Int32 × sk_D) := q_X3_findBest_0 d 
theorem s_X3_findBest {l : Launch} {d : sk_D} {res : Int32 × sk_D} (hq : q_X3_findBest d = some res) : sk_M l 5 m_X3_findBest [.inr (.inr (some (6, 0))), .inr (.inr (some (1, 0))), .inr (.inr (some (2, 0))), .inr (.inr (some (5, 0)))] (sk_mm d) (some (.inl res.1)) (sk_mm res.2) :=
  sk_enter (by decide) (fun _ => Nat.le_of_ble_eq_true rfl) (Nat.le_of_ble_eq_true rfl) (t_X3_findBest_0 hq )
def q_X3_groupOf_21 (d : sk_D) (s0 : Int32) : Option (Int32) :=
  (q_X8_within d s0 (0 : Int32) (19 : Int32)).bind fun x1 => if x1 = 0 then some (-9 : Int32) else if sk_bi s0 20 = true then some (d.1 11 0 s0.toNatClampNeg) else none
set_option maxRecDepth 100000 in
set_option maxHeartbeats 4000000 in
theorem t_X3_groupOf_21 {l : Launch} {d : sk_D} {s0 : Int32} {res : Int32} (hq : q_X3_groupOf_21 d s0 = some res) :
    sk_G l (sk_rm 2 0 0) m_X3_groupOf sk_Ex0 (sk_Zm m_X3_groupOf (some (.inl res)) (sk_mm d)) 0 0 21 [some (.inr (.inr (some (6, 0)))), none, none] [.inl s0] (sk_mm d) := by
  unfold q_X3_groupOf_21 at hq
  refine sg_istore_n 22 [some (.inr (.inr (some (6, 0)))), none, some (.inl s0)] (sk_td o_X3_groupOf 11 rfl) rfl rfl (Nat.le_of_ble_eq_true rfl) rfl ?_
  refine sg_iload_n 23 (sk_td o_X3_groupOf 12 rfl) rfl rfl ?_
  refine sg_iconst (v := (0 : Int32)) 24 (sk_td o_X3_groupOf 13 rfl) rfl (by decide) ?_
  refine sg_bipush (v := (19 : Int32)) 26 (sk_td o_X3_groupOf 14 rfl) rfl (by decide) ?_
  obtain ⟨x1, hr_x1, hq⟩ := sk_bnd hq
  refine sm_callN3i 29 (s_X8_within hr_x1) (sk_td o_X3_groupOf 15 rfl) rfl ln_X3_70 rfl (sk_rok (Nat.le_of_ble_eq_true rfl) (Nat.le_of_ble_eq_true rfl) rfl rfl) (Nat.le_of_ble_eq_true rfl) ?_
  refine sg_if_eq 41 32 (sk_td o_X3_groupOf 16 rfl) (by decide) rfl (fun hc => ?_) (fun hc => ?_)
  · rw [if_pos hc] at hq
    refine sg_bipush (v := (-9 : Int32)) 43 (sk_td o_X3_groupOf 22 rfl) rfl (by decide) ?_
    cases hq
    exact sg_iret (sk_td o_X3_groupOf 23 rfl) rfl rfl
  · rw [if_neg hc] at hq
    refine sg_aload_n 33 (sk_td o_X3_groupOf 17 rfl) rfl rfl ?_
    refine sm_getR (11, 0) 36 (sk_td o_X3_groupOf 18 rfl) rfl kf_X3_30 rfl rfl sz_6 rfl ?_
    refine sg_iload_n 37 (sk_td o_X3_groupOf 19 rfl) rfl rfl ?_
    obtain ⟨hb2, hq⟩ := sk_ifn hq
    refine sm_iald 38 (sk_td o_X3_groupOf 20 rfl) rfl rfl sz_11 hb2 ?_
    refine sg_goto 43 (sk_td o_X3_groupOf 21 rfl) (by decide) ?_
    cases hq
    exact sg_iret (sk_td o_X3_groupOf 23 rfl) rfl rfl
def q_X3_groupOf_0 (d : sk_D) (v1 : Int32) : Option (Int32) :=
  (q_X8_within d v1 (0 : Int32) (19 : Int32)).bind fun x1 => if x1 = 0 then (q_X3_groupOf_21 d (-9 : Int32)) else if sk_bi v1 20 = true then (q_X3_groupOf_21 d (d.1 7 0 v1.toNatClampNeg)) else none
set_option maxRecDepth 100000 in
set_option maxHeartbeats 4000000 in
theorem t_X3_groupOf_0 {l : Launch} {d : sk_D} {v1 : Int32} {res : Int32} (hq : q_X3_groupOf_0 d v1 = some res) :
    sk_G l (sk_rm 2 0 0) m_X3_groupOf sk_Ex0 (sk_Zm m_X3_groupOf (some (.inl res)) (sk_mm d)) 0 0 0 [some (.inr (.inr (some (6, 0)))), some (.inl v1), none] [] (sk_mm d) := by
  unfold q_X3_groupOf_0 at hq
  refine sg_iload_n 1 (sk_td o_X3_groupOf 0 rfl) rfl rfl ?_
  refine sg_iconst (v := (0 : Int32)) 2 (sk_td o_X3_groupOf 1 rfl) rfl (by decide) ?_
  refine sg_bipush (v := (19 : Int32)) 4 (sk_td o_X3_groupOf 2 rfl) rfl (by decide) ?_
  obtain ⟨x1, hr_x1, hq⟩ := sk_bnd hq
  refine sm_callN3i 7 (s_X8_within hr_x1) (sk_td o_X3_groupOf 3 rfl) rfl ln_X3_70 rfl (sk_rok (Nat.le_of_ble_eq_true rfl) (Nat.le_of_ble_eq_true rfl) rfl rfl) (Nat.le_of_ble_eq_true rfl) ?_
  refine sg_if_eq 19 10 (sk_td o_X3_groupOf 4 rfl) (by decide) rfl (fun hc => ?_) (fun hc => ?_)
  · rw [if_pos hc] at hq
    refine sg_bipush (v := (-9 : Int32)) 21 (sk_td o_X3_groupOf 10 rfl) rfl (by decide) ?_
    refine sk_wk [true, false, true] (ls' := [some (.inr (.inr (some (6, 0)))), none, none]) rfl ?_
    exact t_X3_groupOf_21 hq
  · rw [if_neg hc] at hq
    refine sg_aload_n 11 (sk_td o_X3_groupOf 5 rfl) rfl rfl ?_
    refine sm_getR (7, 0) 14 (sk_td o_X3_groupOf 6 rfl) rfl kf_X3_18 rfl rfl sz_6 rfl ?_
    refine sg_iload_n 15 (sk_td o_X3_groupOf 7 rfl) rfl rfl ?_
    obtain ⟨hb2, hq⟩ := sk_ifn hq
    refine sm_iald 16 (sk_td o_X3_groupOf 8 rfl) rfl rfl sz_7 hb2 ?_
    refine sg_goto 21 (sk_td o_X3_groupOf 9 rfl) (by decide) ?_
    refine sk_wk [true, false, true] (ls' := [some (.inr (.inr (some (6, 0)))), none, none]) rfl ?_
    exact t_X3_groupOf_21 hq
def q_X3_groupOf (d : sk_D) (v1 : Int32) : Option (Int32) := q_X3_groupOf_0 d v1 
theorem s_X3_groupOf {l : Launch} {d : sk_D} {v1 : Int32} {res : Int32} (hq : q_X3_groupOf d v1 = some res) : sk_M l 2 m_X3_groupOf [.inr (.inr (some (6, 0))), .inl v1] (sk_mm d) (some (.inl res)) (sk_mm d) :=
  sk_enter (by decide) (fun _ => Nat.le_of_ble_eq_true rfl) (Nat.le_of_ble_eq_true rfl) (t_X3_groupOf_0 hq )
def q_X4_clearScores_0 (d : sk_D) (k0 : Nat) : Option (sk_D) :=
  some (sk_fi d 38 k0 4 (-9 : Int32))
set_option maxRecDepth 100000 in
set_option maxHeartbeats 4000000 in
theorem t_X4_clearScores_0 {l : Launch} {d : sk_D} {k0 : Nat} {res : sk_D} (hq : q_X4_clearScores_0 d k0 = some res) (hk_k0 : k0 < sk_cnt 37) :
    sk_G l (sk_rm 2 0 0) m_X4_clearScores sk_Ex0 (sk_Zm m_X4_clearScores none (sk_mm res)) 0 0 0 [some (.inr (.inr (some (37, k0))))] [] (sk_mm d) := by
  unfold q_X4_clearScores_0 at hq
  refine sg_aload_n 1 (sk_td o_X4_clearScores 0 rfl) rfl rfl ?_
  refine sm_getR (38, k0) 4 (sk_td o_X4_clearScores 1 rfl) rfl kf_X4_31 rfl rfl hk_k0 rfl ?_
  refine sg_bipush (v := (-9 : Int32)) 6 (sk_td o_X4_clearScores 2 rfl) rfl (by decide) ?_
  refine sm_callS2v 9 (s_J7_fill_53178 (n := 4) rfl hk_k0 (by decide)) (sk_td o_X4_clearScores 3 rfl) rfl ls_X4_38 rfl (sk_rok (Nat.le_of_ble_eq_true rfl) (Nat.le_of_ble_eq_true rfl) rfl rfl) (Nat.le_of_ble_eq_true rfl) ?_
  cases hq
  exact sg_vret (sk_td o_X4_clearScores 4 rfl) rfl
def q_X4_clearScores (d : sk_D) (k0 : Nat) : Option (sk_D) := q_X4_clearScores_0 d k0 
theorem s_X4_clearScores {l : Launch} {d : sk_D} {k0 : Nat} {res : sk_D} (hq : q_X4_clearScores d k0 = some res) (hk_k0 : k0 < sk_cnt 37) : sk_M l 2 m_X4_clearScores [.inr (.inr (some (37, k0)))] (sk_mm d) none (sk_mm res) :=
  sk_enter (by decide) (fun _ => Nat.le_of_ble_eq_true rfl) (Nat.le_of_ble_eq_true rfl) (t_X4_clearScores_0 hq hk_k0 )
def q_X4_enrol_33 (d : sk_D) (h0 : Nat) : Option (sk_D) :=
  (q_X4_clearScores d h0).bind fun x1 => some x1
set_option maxRecDepth 100000 in
set_option maxHeartbeats 4000000 in
theorem t_X4_enrol_33 {l : Launch} {d : sk_D} {h0 : Nat} {res : sk_D} (hq : q_X4_enrol_33 d h0 = some res) (hk_h0 : h0 < sk_cnt 37) :
    sk_G l (sk_rm 3 0 0) m_X4_enrol sk_Ex0 (sk_Zm m_X4_enrol none (sk_mm res)) 0 0 33 [none, none, none, none] [.inr (.inr (some (37, h0)))] (sk_mm d) := by
  unfold q_X4_enrol_33 at hq
  obtain ⟨x1, hr_x1, hq⟩ := sk_bnd hq
  refine sm_callV0v 36 (s_X4_clearScores hr_x1 hk_h0) (sk_td o_X4_enrol 19 rfl) rfl lv_X4_35 rfl rfl rfl hk_h0 (sk_rok (Nat.le_of_ble_eq_true rfl) (Nat.le_of_ble_eq_true rfl) rfl rfl) (Nat.le_of_ble_eq_true rfl) ?_
  cases hq
  exact sg_vret (sk_td o_X4_enrol 20 rfl) rfl
def q_X4_enrol_0 (d : sk_D) (k0 : Nat) (v1 : Int32) (v2 : Int32) (v3 : Int32) : Option (sk_D) :=
  (q_X4_enrol_33 (sk_wi (sk_wi (sk_wi (sk_wi (sk_wi (sk_wi d 37 k0 0 (1 : Int32)) 37 k0 1 v1) 37 k0 2 v2) 37 k0 3 v3) 37 k0 4 (-9 : Int32)) 37 k0 5 (-9 : Int32)) k0)
set_option maxRecDepth 100000 in
set_option maxHeartbeats 4000000 in
theorem t_X4_enrol_0 {l : Launch} {d : sk_D} {k0 : Nat} {v1 : Int32} {v2 : Int32} {v3 : Int32} {res : sk_D} (hq : q_X4_enrol_0 d k0 v1 v2 v3 = some res) (hk_k0 : k0 < sk_cnt 37) :
    sk_G l (sk_rm 3 0 0) m_X4_enrol sk_Ex0 (sk_Zm m_X4_enrol none (sk_mm res)) 0 0 0 [some (.inr (.inr (some (37, k0)))), some (.inl v1), some (.inl v2), some (.inl v3)] [] (sk_mm d) := by
  unfold q_X4_enrol_0 at hq
  refine sg_aload_n 1 (sk_td o_X4_enrol 0 rfl) rfl rfl ?_
  refine sg_iconst (v := (1 : Int32)) 2 (sk_td o_X4_enrol 1 rfl) rfl (by decide) ?_
  refine sm_putZ 5 (sk_td o_X4_enrol 2 rfl) rfl kp_X4_9 rfl rfl hk_k0 (by decide) (by decide) ?_
  refine sg_aload_n 6 (sk_td o_X4_enrol 3 rfl) rfl rfl ?_
  refine sg_iload_n 7 (sk_td o_X4_enrol 4 rfl) rfl rfl ?_
  refine sm_putI 10 (sk_td o_X4_enrol 5 rfl) rfl kp_X4_15 rfl rfl hk_k0 ?_
  refine sg_aload_n 11 (sk_td o_X4_enrol 6 rfl) rfl rfl ?_
  refine sg_iload_n 12 (sk_td o_X4_enrol 7 rfl) rfl rfl ?_
  refine sm_putI 15 (sk_td o_X4_enrol 8 rfl) rfl kp_X4_19 rfl rfl hk_k0 ?_
  refine sg_aload_n 16 (sk_td o_X4_enrol 9 rfl) rfl rfl ?_
  refine sg_iload_n 17 (sk_td o_X4_enrol 10 rfl) rfl rfl ?_
  refine sm_putI 20 (sk_td o_X4_enrol 11 rfl) rfl kp_X4_22 rfl rfl hk_k0 ?_
  refine sg_aload_n 21 (sk_td o_X4_enrol 12 rfl) rfl rfl ?_
  refine sg_bipush (v := (-9 : Int32)) 23 (sk_td o_X4_enrol 13 rfl) rfl (by decide) ?_
  refine sm_putI 26 (sk_td o_X4_enrol 14 rfl) rfl kp_X4_25 rfl rfl hk_k0 ?_
  refine sg_aload_n 27 (sk_td o_X4_enrol 15 rfl) rfl rfl ?_
  refine sg_bipush (v := (-9 : Int32)) 29 (sk_td o_X4_enrol 16 rfl) rfl (by decide) ?_
  refine sm_putI 32 (sk_td o_X4_enrol 17 rfl) rfl kp_X4_28 rfl rfl hk_k0 ?_
  refine sg_aload_n 33 (sk_td o_X4_enrol 18 rfl) rfl rfl ?_
  refine sk_wk [false, false, false, false] (ls' := [none, none, none, none]) rfl ?_
  exact t_X4_enrol_33 hq hk_k0
def q_X4_enrol (d : sk_D) (k0 : Nat) (v1 : Int32) (v2 : Int32) (v3 : Int32) : Option (sk_D) := q_X4_enrol_0 d k0 v1 v2 v3 
theorem s_X4_enrol {l : Launch} {d : sk_D} {k0 : Nat} {v1 : Int32} {v2 : Int32} {v3 : Int32} {res : sk_D} (hq : q_X4_enrol d k0 v1 v2 v3 = some res) (hk_k0 : k0 < sk_cnt 37) : sk_M l 3 m_X4_enrol [.inr (.inr (some (37, k0))), .inl v1, .inl v2, .inl v3] (sk_mm d) none (sk_mm res) :=
  sk_enter (by decide) (fun _ => Nat.le_of_ble_eq_true rfl) (Nat.le_of_ble_eq_true rfl) (t_X4_enrol_0 hq hk_k0 )
def q_X4_isMember_0 (d : sk_D) (k0 : Nat) (v1 : Int32) : Option (Int32) :=
  if (d.1 37 k0 0) = 0 then some (0 : Int32) else if (d.1 37 k0 3) = v1 then some (1 : Int32) else some (0 : Int32)
set_option maxRecDepth 100000 in
set_option maxHeartbeats 4000000 in
theorem t_X4_isMember_0 {l : Launch} {d : sk_D} {k0 : Nat} {v1 : Int32} {res : Int32} (hq : q_X4_isMember_0 d k0 v1 = some res) (hk_k0 : k0 < sk_cnt 37) :
    sk_G l (sk_rm 1 0 0) m_X4_isMember sk_Ex0 (sk_Zm m_X4_isMember (some (.inl res)) (sk_mm d)) 0 0 0 [some (.inr (.inr (some (37, k0)))), some (.inl v1)] [] (sk_mm d) := by
  unfold q_X4_isMember_0 at hq
  refine sg_aload_n 1 (sk_td o_X4_isMember 0 rfl) rfl rfl ?_
  refine sm_getI 4 (sk_td o_X4_isMember 1 rfl) rfl kf_X4_9 rfl rfl hk_k0 ?_
  refine sg_if_eq 19 7 (sk_td o_X4_isMember 2 rfl) (by decide) rfl (fun hc => ?_) (fun hc => ?_)
  · rw [if_pos hc] at hq
    refine sg_iconst (v := (0 : Int32)) 20 (sk_td o_X4_isMember 9 rfl) rfl (by decide) ?_
    cases hq
    exact sg_iret (sk_td o_X4_isMember 10 rfl) rfl (by decide)
  · rw [if_neg hc] at hq
    refine sg_aload_n 8 (sk_td o_X4_isMember 3 rfl) rfl rfl ?_
    refine sm_getI 11 (sk_td o_X4_isMember 4 rfl) rfl kf_X4_22 rfl rfl hk_k0 ?_
    refine sg_iload_n 12 (sk_td o_X4_isMember 5 rfl) rfl rfl ?_
    refine sg_ic_ne 19 15 (sk_td o_X4_isMember 6 rfl) (by decide) rfl (fun hc => ?_) (fun hc => ?_)
    · rw [if_neg hc] at hq
      refine sg_iconst (v := (0 : Int32)) 20 (sk_td o_X4_isMember 9 rfl) rfl (by decide) ?_
      cases hq
      exact sg_iret (sk_td o_X4_isMember 10 rfl) rfl (by decide)
    · rw [if_pos hc] at hq
      refine sg_iconst (v := (1 : Int32)) 16 (sk_td o_X4_isMember 7 rfl) rfl (by decide) ?_
      refine sg_goto 20 (sk_td o_X4_isMember 8 rfl) (by decide) ?_
      cases hq
      exact sg_iret (sk_td o_X4_isMember 10 rfl) rfl (by decide)
def q_X4_isMember (d : sk_D) (k0 : Nat) (v1 : Int32) : Option (Int32) := q_X4_isMember_0 d k0 v1 
theorem s_X4_isMember {l : Launch} {d : sk_D} {k0 : Nat} {v1 : Int32} {res : Int32} (hq : q_X4_isMember d k0 v1 = some res) (hk_k0 : k0 < sk_cnt 37) : sk_M l 1 m_X4_isMember [.inr (.inr (some (37, k0))), .inl v1] (sk_mm d) (some (.inl res)) (sk_mm d) :=
  sk_enter (by decide) (fun _ => Nat.le_of_ble_eq_true rfl) (Nat.le_of_ble_eq_true rfl) (t_X4_isMember_0 hq hk_k0 )
def q_X4_isIn_0 (d : sk_D) (k0 : Nat) (v1 : Int32) : Option (Int32) :=
  if (d.1 37 k0 0) = 0 then some (0 : Int32) else if (d.1 37 k0 4) = v1 then some (1 : Int32) else some (0 : Int32)
set_option maxRecDepth 100000 in
set_option maxHeartbeats 4000000 in
theorem t_X4_isIn_0 {l : Launch} {d : sk_D} {k0 : Nat} {v1 : Int32} {res : Int32} (hq : q_X4_isIn_0 d k0 v1 = some res) (hk_k0 : k0 < sk_cnt 37) :
    sk_G l (sk_rm 1 0 0) m_X4_isIn sk_Ex0 (sk_Zm m_X4_isIn (some (.inl res)) (sk_mm d)) 0 0 0 [some (.inr (.inr (some (37, k0)))), some (.inl v1)] [] (sk_mm d) := by
  unfold q_X4_isIn_0 at hq
  refine sg_aload_n 1 (sk_td o_X4_isIn 0 rfl) rfl rfl ?_
  refine sm_getI 4 (sk_td o_X4_isIn 1 rfl) rfl kf_X4_9 rfl rfl hk_k0 ?_
  refine sg_if_eq 19 7 (sk_td o_X4_isIn 2 rfl) (by decide) rfl (fun hc => ?_) (fun hc => ?_)
  · rw [if_pos hc] at hq
    refine sg_iconst (v := (0 : Int32)) 20 (sk_td o_X4_isIn 9 rfl) rfl (by decide) ?_
    cases hq
    exact sg_iret (sk_td o_X4_isIn 10 rfl) rfl (by decide)
  · rw [if_neg hc] at hq
    refine sg_aload_n 8 (sk_td o_X4_isIn 3 rfl) rfl rfl ?_
    refine sm_getI 11 (sk_td o_X4_isIn 4 rfl) rfl kf_X4_25 rfl rfl hk_k0 ?_
    refine sg_iload_n 12 (sk_td o_X4_isIn 5 rfl) rfl rfl ?_
    refine sg_ic_ne 19 15 (sk_td o_X4_isIn 6 rfl) (by decide) rfl (fun hc => ?_) (fun hc => ?_)
    · rw [if_neg hc] at hq
      refine sg_iconst (v := (0 : Int32)) 20 (sk_td o_X4_isIn 9 rfl) rfl (by decide) ?_
      cases hq
      exact sg_iret (sk_td o_X4_isIn 10 rfl) rfl (by decide)
    · rw [if_pos hc] at hq
      refine sg_iconst (v := (1 : Int32)) 16 (sk_td o_X4_isIn 7 rfl) rfl (by decide) ?_
      refine sg_goto 20 (sk_td o_X4_isIn 8 rfl) (by decide) ?_
      cases hq
      exact sg_iret (sk_td o_X4_isIn 10 rfl) rfl (by decide)
def q_X4_isIn (d : sk_D) (k0 : Nat) (v1 : Int32) : Option (Int32) := q_X4_isIn_0 d k0 v1 
theorem s_X4_isIn {l : Launch} {d : sk_D} {k0 : Nat} {v1 : Int32} {res : Int32} (hq : q_X4_isIn d k0 v1 = some res) (hk_k0 : k0 < sk_cnt 37) : sk_M l 1 m_X4_isIn [.inr (.inr (some (37, k0))), .inl v1] (sk_mm d) (some (.inl res)) (sk_mm d) :=
  sk_enter (by decide) (fun _ => Nat.le_of_ble_eq_true rfl) (Nat.le_of_ble_eq_true rfl) (t_X4_isIn_0 hq hk_k0 )
def q_X4_countScores_23 (rec4 : (Nat × Int32 × Int32) → Option (Int32)) (d : sk_D) (k0 : Nat) (v1 : Int32) (v2 : Int32) : Option (Int32) :=
  (rec4 (k0, v1, (v2 + (1 : Int32))))
set_option maxRecDepth 100000 in
set_option maxHeartbeats 4000000 in
theorem t_X4_countScores_23 {l : Launch} {rec4 : (Nat × Int32 × Int32) → Option (Int32)} {d : sk_D} {k0 : Nat} {v1 : Int32} {v2 : Int32} (hrec4 : ∀ (a : (Nat × Int32 × Int32)) (res : Int32), rec4 a = some res → a.1 < sk_cnt 37 → sk_G l (sk_rm 1 0 0) m_X4_countScores sk_Ex0 (sk_Zm m_X4_countScores (some (.inl res)) (sk_mm d)) 0 0 4 [some (.inr (.inr (some (37, a.1)))), some (.inl a.2.1), some (.inl a.2.2)] [] (sk_mm d)) {res : Int32} (hq : q_X4_countScores_23 rec4 d k0 v1 v2 = some res) (hk_k0 : k0 < sk_cnt 37) :
    sk_G l (sk_rm 1 0 0) m_X4_countScores sk_Ex0 (sk_Zm m_X4_countScores (some (.inl res)) (sk_mm d)) 0 0 23 [some (.inr (.inr (some (37, k0)))), some (.inl v1), some (.inl v2)] [] (sk_mm d) := by
  unfold q_X4_countScores_23 at hq
  refine sg_iinc (v2 + (1 : Int32)) 26 [some (.inr (.inr (some (37, k0)))), some (.inl v1), some (.inl (v2 + (1 : Int32)))] (sk_td o_X4_countScores 14 rfl) rfl rfl rfl rfl (Nat.le_of_ble_eq_true rfl) rfl ?_
  refine sg_goto 4 (sk_td o_X4_countScores 15 rfl) (by decide) ?_
  exact hrec4 (k0, v1, (v2 + (1 : Int32))) _ hq hk_k0
def q_X4_countScores_4 (rec4 : (Nat × Int32 × Int32) → Option (Int32)) (d : sk_D) (k0 : Nat) (v1 : Int32) (v2 : Int32) : Option (Int32) :=
  if (4 : Int32) ≤ v2 then some v1 else if sk_bi v2 4 = true then if (d.1 38 k0 v2.toNatClampNeg) = (-9 : Int32) then (q_X4_countScores_23 rec4 d k0 v1 v2) else (q_X4_countScores_23 rec4 d k0 (v1 + (1 : Int32)) v2) else none
set_option maxRecDepth 100000 in
set_option maxHeartbeats 4000000 in
theorem t_X4_countScores_4 {l : Launch} {rec4 : (Nat × Int32 × Int32) → Option (Int32)} {d : sk_D} {k0 : Nat} {v1 : Int32} {v2 : Int32} (hrec4 : ∀ (a : (Nat × Int32 × Int32)) (res : Int32), rec4 a = some res → a.1 < sk_cnt 37 → sk_G l (sk_rm 1 0 0) m_X4_countScores sk_Ex0 (sk_Zm m_X4_countScores (some (.inl res)) (sk_mm d)) 0 0 4 [some (.inr (.inr (some (37, a.1)))), some (.inl a.2.1), some (.inl a.2.2)] [] (sk_mm d)) {res : Int32} (hq : q_X4_countScores_4 rec4 d k0 v1 v2 = some res) (hk_k0 : k0 < sk_cnt 37) :
    sk_G l (sk_rm 1 0 0) m_X4_countScores sk_Ex0 (sk_Zm m_X4_countScores (some (.inl res)) (sk_mm d)) 0 0 4 [some (.inr (.inr (some (37, k0)))), some (.inl v1), some (.inl v2)] [] (sk_mm d) := by
  unfold q_X4_countScores_4 at hq
  refine sg_iload_n 5 (sk_td o_X4_countScores 4 rfl) rfl rfl ?_
  refine sg_iconst (v := (4 : Int32)) 6 (sk_td o_X4_countScores 5 rfl) rfl (by decide) ?_
  refine sg_ic_ge 29 9 (sk_td o_X4_countScores 6 rfl) (by decide) rfl (fun hc => ?_) (fun hc => ?_)
  · rw [if_pos hc] at hq
    refine sg_iload_n 30 (sk_td o_X4_countScores 16 rfl) rfl rfl ?_
    cases hq
    exact sg_iret (sk_td o_X4_countScores 17 rfl) rfl rfl
  · rw [if_neg hc] at hq
    refine sg_aload_n 10 (sk_td o_X4_countScores 7 rfl) rfl rfl ?_
    refine sm_getR (38, k0) 13 (sk_td o_X4_countScores 8 rfl) rfl kf_X4_31 rfl rfl hk_k0 rfl ?_
    refine sg_iload_n 14 (sk_td o_X4_countScores 9 rfl) rfl rfl ?_
    obtain ⟨hb1, hq⟩ := sk_ifn hq
    refine sm_iald 15 (sk_td o_X4_countScores 10 rfl) rfl rfl hk_k0 hb1 ?_
    refine sg_bipush (v := (-9 : Int32)) 17 (sk_td o_X4_countScores 11 rfl) rfl (by decide) ?_
    refine sg_ic_eq 23 20 (sk_td o_X4_countScores 12 rfl) (by decide) rfl (fun hc => ?_) (fun hc => ?_)
    · rw [if_pos hc] at hq
      exact t_X4_countScores_23 hrec4 hq hk_k0
    · rw [if_neg hc] at hq
      refine sg_iinc (v1 + (1 : Int32)) 23 [some (.inr (.inr (some (37, k0)))), some (.inl (v1 + (1 : Int32))), some (.inl v2)] (sk_td o_X4_countScores 13 rfl) rfl rfl rfl rfl (Nat.le_of_ble_eq_true rfl) rfl ?_
      exact t_X4_countScores_23 hrec4 hq hk_k0
def l_X4_countScores_4 (d : sk_D) (fl : Nat) (a : (Nat × Int32 × Int32)) : Option (Int32) := sk_it (fun rec4 a => q_X4_countScores_4 rec4 d a.1 a.2.1 a.2.2) fl a
theorem lt_X4_countScores_4 {l : Launch} {d : sk_D} : ∀ (fl : Nat) (a : (Nat × Int32 × Int32)) (res : Int32), l_X4_countScores_4 d fl a = some res → a.1 < sk_cnt 37 → sk_G l (sk_rm 1 0 0) m_X4_countScores sk_Ex0 (sk_Zm m_X4_countScores (some (.inl res)) (sk_mm d)) 0 0 4 [some (.inr (.inr (some (37, a.1)))), some (.inl a.2.1), some (.inl a.2.2)] [] (sk_mm d) :=
  sk_it_ind (P := fun (a : (Nat × Int32 × Int32)) (res : Int32) => a.1 < sk_cnt 37 → sk_G l (sk_rm 1 0 0) m_X4_countScores sk_Ex0 (sk_Zm m_X4_countScores (some (.inl res)) (sk_mm d)) 0 0 4 [some (.inr (.inr (some (37, a.1)))), some (.inl a.2.1), some (.inl a.2.2)] [] (sk_mm d)) (fun rec4 hrec4 a res hq k0_ => t_X4_countScores_4 hrec4 hq k0_)
def q_X4_countScores_0 (d : sk_D) (k0 : Nat) : Option (Int32) :=
  (l_X4_countScores_4 d sk_fu (k0, (0 : Int32), (0 : Int32)))
set_option maxRecDepth 100000 in
set_option maxHeartbeats 4000000 in
theorem t_X4_countScores_0 {l : Launch} {d : sk_D} {k0 : Nat} {res : Int32} (hq : q_X4_countScores_0 d k0 = some res) (hk_k0 : k0 < sk_cnt 37) :
    sk_G l (sk_rm 1 0 0) m_X4_countScores sk_Ex0 (sk_Zm m_X4_countScores (some (.inl res)) (sk_mm d)) 0 0 0 [some (.inr (.inr (some (37, k0)))), none, none] [] (sk_mm d) := by
  unfold q_X4_countScores_0 at hq
  refine sg_iconst (v := (0 : Int32)) 1 (sk_td o_X4_countScores 0 rfl) rfl (by decide) ?_
  refine sg_istore_n 2 [some (.inr (.inr (some (37, k0)))), some (.inl (0 : Int32)), none] (sk_td o_X4_countScores 1 rfl) rfl rfl (Nat.le_of_ble_eq_true rfl) rfl ?_
  refine sg_iconst (v := (0 : Int32)) 3 (sk_td o_X4_countScores 2 rfl) rfl (by decide) ?_
  refine sg_istore_n 4 [some (.inr (.inr (some (37, k0)))), some (.inl (0 : Int32)), some (.inl (0 : Int32))] (sk_td o_X4_countScores 3 rfl) rfl rfl (Nat.le_of_ble_eq_true rfl) rfl ?_
  exact lt_X4_countScores_4 sk_fu (k0, (0 : Int32), (0 : Int32)) _ hq hk_k0
def q_X4_countScores (d : sk_D) (k0 : Nat) : Option (Int32) := q_X4_countScores_0 d k0 
theorem s_X4_countScores {l : Launch} {d : sk_D} {k0 : Nat} {res : Int32} (hq : q_X4_countScores d k0 = some res) (hk_k0 : k0 < sk_cnt 37) : sk_M l 1 m_X4_countScores [.inr (.inr (some (37, k0)))] (sk_mm d) (some (.inl res)) (sk_mm d) :=
  sk_enter (by decide) (fun _ => Nat.le_of_ble_eq_true rfl) (Nat.le_of_ble_eq_true rfl) (t_X4_countScores_0 hq hk_k0 )
def q_X4_sumScores_4 (rec4 : (Nat × Int32 × Int32) → Option (Int32)) (d : sk_D) (k0 : Nat) (v1 : Int32) (v2 : Int32) : Option (Int32) :=
  if (4 : Int32) ≤ v2 then some v1 else if sk_bi v2 4 = true then (rec4 (k0, (v1 + (d.1 38 k0 v2.toNatClampNeg)), (v2 + (1 : Int32)))) else none
set_option maxRecDepth 100000 in
set_option maxHeartbeats 4000000 in
theorem t_X4_sumScores_4 {l : Launch} {rec4 : (Nat × Int32 × Int32) → Option (Int32)} {d : sk_D} {k0 : Nat} {v1 : Int32} {v2 : Int32} (hrec4 : ∀ (a : (Nat × Int32 × Int32)) (res : Int32), rec4 a = some res → a.1 < sk_cnt 37 → sk_G l (sk_rm 1 0 0) m_X4_sumScores sk_Ex0 (sk_Zm m_X4_sumScores (some (.inl res)) (sk_mm d)) 0 0 4 [some (.inr (.inr (some (37, a.1)))), some (.inl a.2.1), some (.inl a.2.2)] [] (sk_mm d)) {res : Int32} (hq : q_X4_sumScores_4 rec4 d k0 v1 v2 = some res) (hk_k0 : k0 < sk_cnt 37) :
    sk_G l (sk_rm 1 0 0) m_X4_sumScores sk_Ex0 (sk_Zm m_X4_sumScores (some (.inl res)) (sk_mm d)) 0 0 4 [some (.inr (.inr (some (37, k0)))), some (.inl v1), some (.inl v2)] [] (sk_mm d) := by
  unfold q_X4_sumScores_4 at hq
  refine sg_iload_n 5 (sk_td o_X4_sumScores 4 rfl) rfl rfl ?_
  refine sg_iconst (v := (4 : Int32)) 6 (sk_td o_X4_sumScores 5 rfl) rfl (by decide) ?_
  refine sg_ic_ge 24 9 (sk_td o_X4_sumScores 6 rfl) (by decide) rfl (fun hc => ?_) (fun hc => ?_)
  · rw [if_pos hc] at hq
    refine sg_iload_n 25 (sk_td o_X4_sumScores 16 rfl) rfl rfl ?_
    cases hq
    exact sg_iret (sk_td o_X4_sumScores 17 rfl) rfl rfl
  · rw [if_neg hc] at hq
    refine sg_iload_n 10 (sk_td o_X4_sumScores 7 rfl) rfl rfl ?_
    refine sg_aload_n 11 (sk_td o_X4_sumScores 8 rfl) rfl rfl ?_
    refine sm_getR (38, k0) 14 (sk_td o_X4_sumScores 9 rfl) rfl kf_X4_31 rfl rfl hk_k0 rfl ?_
    refine sg_iload_n 15 (sk_td o_X4_sumScores 10 rfl) rfl rfl ?_
    obtain ⟨hb1, hq⟩ := sk_ifn hq
    refine sm_iald 16 (sk_td o_X4_sumScores 11 rfl) rfl rfl hk_k0 hb1 ?_
    refine sg_iadd 17 (sk_td o_X4_sumScores 12 rfl) rfl ?_
    refine sg_istore_n 18 [some (.inr (.inr (some (37, k0)))), some (.inl (v1 + (d.1 38 k0 v2.toNatClampNeg))), some (.inl v2)] (sk_td o_X4_sumScores 13 rfl) rfl rfl (Nat.le_of_ble_eq_true rfl) rfl ?_
    refine sg_iinc (v2 + (1 : Int32)) 21 [some (.inr (.inr (some (37, k0)))), some (.inl (v1 + (d.1 38 k0 v2.toNatClampNeg))), some (.inl (v2 + (1 : Int32)))] (sk_td o_X4_sumScores 14 rfl) rfl rfl rfl rfl (Nat.le_of_ble_eq_true rfl) rfl ?_
    refine sg_goto 4 (sk_td o_X4_sumScores 15 rfl) (by decide) ?_
    exact hrec4 (k0, (v1 + (d.1 38 k0 v2.toNatClampNeg)), (v2 + (1 : Int32))) _ hq hk_k0
def l_X4_sumScores_4 (d : sk_D) (fl : Nat) (a : (Nat × Int32 × Int32)) : Option (Int32) := sk_it (fun rec4 a => q_X4_sumScores_4 rec4 d a.1 a.2.1 a.2.2) fl a
theorem lt_X4_sumScores_4 {l : Launch} {d : sk_D} : ∀ (fl : Nat) (a : (Nat × Int32 × Int32)) (res : Int32), l_X4_sumScores_4 d fl a = some res → a.1 < sk_cnt 37 → sk_G l (sk_rm 1 0 0) m_X4_sumScores sk_Ex0 (sk_Zm m_X4_sumScores (some (.inl res)) (sk_mm d)) 0 0 4 [some (.inr (.inr (some (37, a.1)))), some (.inl a.2.1), some (.inl a.2.2)] [] (sk_mm d) :=
  sk_it_ind (P := fun (a : (Nat × Int32 × Int32)) (res : Int32) => a.1 < sk_cnt 37 → sk_G l (sk_rm 1 0 0) m_X4_sumScores sk_Ex0 (sk_Zm m_X4_sumScores (some (.inl res)) (sk_mm d)) 0 0 4 [some (.inr (.inr (some (37, a.1)))), some (.inl a.2.1), some (.inl a.2.2)] [] (sk_mm d)) (fun rec4 hrec4 a res hq k0_ => t_X4_sumScores_4 hrec4 hq k0_)
def q_X4_sumScores_0 (d : sk_D) (k0 : Nat) : Option (Int32) :=
  (l_X4_sumScores_4 d sk_fu (k0, (0 : Int32), (0 : Int32)))
set_option maxRecDepth 100000 in
set_option maxHeartbeats 4000000 in
theorem t_X4_sumScores_0 {l : Launch} {d : sk_D} {k0 : Nat} {res : Int32} (hq : q_X4_sumScores_0 d k0 = some res) (hk_k0 : k0 < sk_cnt 37) :
    sk_G l (sk_rm 1 0 0) m_X4_sumScores sk_Ex0 (sk_Zm m_X4_sumScores (some (.inl res)) (sk_mm d)) 0 0 0 [some (.inr (.inr (some (37, k0)))), none, none] [] (sk_mm d) := by
  unfold q_X4_sumScores_0 at hq
  refine sg_iconst (v := (0 : Int32)) 1 (sk_td o_X4_sumScores 0 rfl) rfl (by decide) ?_
  refine sg_istore_n 2 [some (.inr (.inr (some (37, k0)))), some (.inl (0 : Int32)), none] (sk_td o_X4_sumScores 1 rfl) rfl rfl (Nat.le_of_ble_eq_true rfl) rfl ?_
  refine sg_iconst (v := (0 : Int32)) 3 (sk_td o_X4_sumScores 2 rfl) rfl (by decide) ?_
  refine sg_istore_n 4 [some (.inr (.inr (some (37, k0)))), some (.inl (0 : Int32)), some (.inl (0 : Int32))] (sk_td o_X4_sumScores 3 rfl) rfl rfl (Nat.le_of_ble_eq_true rfl) rfl ?_
  exact lt_X4_sumScores_4 sk_fu (k0, (0 : Int32), (0 : Int32)) _ hq hk_k0
def q_X4_sumScores (d : sk_D) (k0 : Nat) : Option (Int32) := q_X4_sumScores_0 d k0 
theorem s_X4_sumScores {l : Launch} {d : sk_D} {k0 : Nat} {res : Int32} (hq : q_X4_sumScores d k0 = some res) (hk_k0 : k0 < sk_cnt 37) : sk_M l 1 m_X4_sumScores [.inr (.inr (some (37, k0)))] (sk_mm d) (some (.inl res)) (sk_mm d) :=
  sk_enter (by decide) (fun _ => Nat.le_of_ble_eq_true rfl) (Nat.le_of_ble_eq_true rfl) (t_X4_sumScores_0 hq hk_k0 )
end
