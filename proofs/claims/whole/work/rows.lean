section
-- ===== PART A: goes FIRST, ahead of the names: the tables' words, and 'selects' of the private methods out of them =====
/-- a private method of a class that the tables say can be made, by its rows of tables_1 -/
def lw_okq (q : MethodName × Nat) : Prop := (q.1.cls ≠ "java/lang/invoke/MethodHandle" ∧ q.1.cls ≠ "java/lang/invoke/VarHandle") ∧ Cond.instantiable q.1.cls q.2 ∈ tables_1 ∧ Cond.privateMethod q.1 ∈ tables_1 ∧ Cond.instanceMethod q.1 ∈ tables_1
theorem lw_p0 : lw_okq (⟨"SkiSchool", "freePupilNumber", "()I"⟩, 14) := ⟨⟨by decide +kernel, by decide +kernel⟩, List.mem_of_getElem? (i := 15) (by decide +kernel), List.mem_of_getElem? (i := 410) (by decide +kernel), List.mem_of_getElem? (i := 411) (by decide +kernel)⟩
theorem lw_p1 : lw_okq (⟨"SkiSchool", "separateIfBroken", "(I)I"⟩, 14) := ⟨⟨by decide +kernel, by decide +kernel⟩, List.mem_of_getElem? (i := 15) (by decide +kernel), List.mem_of_getElem? (i := 425) (by decide +kernel), List.mem_of_getElem? (i := 426) (by decide +kernel)⟩
theorem lw_p2 : lw_okq (⟨"SkiSchool", "isInOnePlace", "(I)Z"⟩, 14) := ⟨⟨by decide +kernel, by decide +kernel⟩, List.mem_of_getElem? (i := 15) (by decide +kernel), List.mem_of_getElem? (i := 429) (by decide +kernel), List.mem_of_getElem? (i := 430) (by decide +kernel)⟩
theorem lw_p3 : lw_okq (⟨"SkiSchool", "hasPupil", "(I)Z"⟩, 14) := ⟨⟨by decide +kernel, by decide +kernel⟩, List.mem_of_getElem? (i := 15) (by decide +kernel), List.mem_of_getElem? (i := 441) (by decide +kernel), List.mem_of_getElem? (i := 442) (by decide +kernel)⟩
theorem lw_p4 : lw_okq (⟨"SkiSchool", "levelAfterTest", "(LSkiSchool$Pupil;)I"⟩, 14) := ⟨⟨by decide +kernel, by decide +kernel⟩, List.mem_of_getElem? (i := 15) (by decide +kernel), List.mem_of_getElem? (i := 503) (by decide +kernel), List.mem_of_getElem? (i := 504) (by decide +kernel)⟩
theorem lw_p5 : lw_okq (⟨"SkiSchool", "hasGroup", "(I)Z"⟩, 14) := ⟨⟨by decide +kernel, by decide +kernel⟩, List.mem_of_getElem? (i := 15) (by decide +kernel), List.mem_of_getElem? (i := 517) (by decide +kernel), List.mem_of_getElem? (i := 518) (by decide +kernel)⟩
theorem lw_p6 : lw_okq (⟨"SkiSchool", "freeGroupNumber", "()I"⟩, 14) := ⟨⟨by decide +kernel, by decide +kernel⟩, List.mem_of_getElem? (i := 15) (by decide +kernel), List.mem_of_getElem? (i := 539) (by decide +kernel), List.mem_of_getElem? (i := 540) (by decide +kernel)⟩
theorem lw_p7 : lw_okq (⟨"SkiSchool", "countPupilsIn", "(I)I"⟩, 14) := ⟨⟨by decide +kernel, by decide +kernel⟩, List.mem_of_getElem? (i := 15) (by decide +kernel), List.mem_of_getElem? (i := 571) (by decide +kernel), List.mem_of_getElem? (i := 572) (by decide +kernel)⟩
theorem lw_p8 : lw_okq (⟨"SkiSchool$Planner", "gatherUnits", "([LSkiSchool$Pupil;[LSkiSchool$Group;[Z)V"⟩, 13) := ⟨⟨by decide +kernel, by decide +kernel⟩, List.mem_of_getElem? (i := 31) (by decide +kernel), List.mem_of_getElem? (i := 587) (by decide +kernel), List.mem_of_getElem? (i := 588) (by decide +kernel)⟩
theorem lw_p9 : lw_okq (⟨"SkiSchool$Planner", "unitFor", "(I[Z)I"⟩, 13) := ⟨⟨by decide +kernel, by decide +kernel⟩, List.mem_of_getElem? (i := 31) (by decide +kernel), List.mem_of_getElem? (i := 592) (by decide +kernel), List.mem_of_getElem? (i := 593) (by decide +kernel)⟩
theorem lw_p10 : lw_okq (⟨"SkiSchool$Planner", "newUnit", "()I"⟩, 13) := ⟨⟨by decide +kernel, by decide +kernel⟩, List.mem_of_getElem? (i := 31) (by decide +kernel), List.mem_of_getElem? (i := 597) (by decide +kernel), List.mem_of_getElem? (i := 598) (by decide +kernel)⟩
theorem lw_p11 : lw_okq (⟨"SkiSchool$Planner", "addHead", "(ILSkiSchool$Pupil;[LSkiSchool$Group;)V"⟩, 13) := ⟨⟨by decide +kernel, by decide +kernel⟩, List.mem_of_getElem? (i := 31) (by decide +kernel), List.mem_of_getElem? (i := 602) (by decide +kernel), List.mem_of_getElem? (i := 603) (by decide +kernel)⟩
theorem lw_p12 : lw_okq (⟨"SkiSchool$Planner", "limitSeats", "([LSkiSchool$Group;)V"⟩, 13) := ⟨⟨by decide +kernel, by decide +kernel⟩, List.mem_of_getElem? (i := 31) (by decide +kernel), List.mem_of_getElem? (i := 607) (by decide +kernel), List.mem_of_getElem? (i := 608) (by decide +kernel)⟩
theorem lw_p13 : lw_okq (⟨"SkiSchool$Planner", "chooseFor", "(I)V"⟩, 13) := ⟨⟨by decide +kernel, by decide +kernel⟩, List.mem_of_getElem? (i := 31) (by decide +kernel), List.mem_of_getElem? (i := 611) (by decide +kernel), List.mem_of_getElem? (i := 612) (by decide +kernel)⟩
theorem lw_p14 : lw_okq (⟨"SkiSchool$Planner", "listOptions", "(I)I"⟩, 13) := ⟨⟨by decide +kernel, by decide +kernel⟩, List.mem_of_getElem? (i := 31) (by decide +kernel), List.mem_of_getElem? (i := 615) (by decide +kernel), List.mem_of_getElem? (i := 616) (by decide +kernel)⟩
theorem lw_p15 : lw_okq (⟨"SkiSchool$Planner", "countDown", "()V"⟩, 13) := ⟨⟨by decide +kernel, by decide +kernel⟩, List.mem_of_getElem? (i := 31) (by decide +kernel), List.mem_of_getElem? (i := 622) (by decide +kernel), List.mem_of_getElem? (i := 623) (by decide +kernel)⟩
def lw_privs_1 : List (MethodName × Nat) := [(⟨"SkiSchool", "freePupilNumber", "()I"⟩, 14), (⟨"SkiSchool", "separateIfBroken", "(I)I"⟩, 14), (⟨"SkiSchool", "isInOnePlace", "(I)Z"⟩, 14), (⟨"SkiSchool", "hasPupil", "(I)Z"⟩, 14), (⟨"SkiSchool", "levelAfterTest", "(LSkiSchool$Pupil;)I"⟩, 14), (⟨"SkiSchool", "hasGroup", "(I)Z"⟩, 14), (⟨"SkiSchool", "freeGroupNumber", "()I"⟩, 14), (⟨"SkiSchool", "countPupilsIn", "(I)I"⟩, 14), (⟨"SkiSchool$Planner", "gatherUnits", "([LSkiSchool$Pupil;[LSkiSchool$Group;[Z)V"⟩, 13), (⟨"SkiSchool$Planner", "unitFor", "(I[Z)I"⟩, 13), (⟨"SkiSchool$Planner", "newUnit", "()I"⟩, 13), (⟨"SkiSchool$Planner", "addHead", "(ILSkiSchool$Pupil;[LSkiSchool$Group;)V"⟩, 13), (⟨"SkiSchool$Planner", "limitSeats", "([LSkiSchool$Group;)V"⟩, 13), (⟨"SkiSchool$Planner", "chooseFor", "(I)V"⟩, 13), (⟨"SkiSchool$Planner", "listOptions", "(I)I"⟩, 13), (⟨"SkiSchool$Planner", "countDown", "()V"⟩, 13)]
theorem lw_r1 : ∀ q ∈ lw_privs_1, lw_okq q := List.forall_mem_cons.mpr ⟨lw_p0, List.forall_mem_cons.mpr ⟨lw_p1, List.forall_mem_cons.mpr ⟨lw_p2, List.forall_mem_cons.mpr ⟨lw_p3, List.forall_mem_cons.mpr ⟨lw_p4, List.forall_mem_cons.mpr ⟨lw_p5, List.forall_mem_cons.mpr ⟨lw_p6, List.forall_mem_cons.mpr ⟨lw_p7, List.forall_mem_cons.mpr ⟨lw_p8, List.forall_mem_cons.mpr ⟨lw_p9, List.forall_mem_cons.mpr ⟨lw_p10, List.forall_mem_cons.mpr ⟨lw_p11, List.forall_mem_cons.mpr ⟨lw_p12, List.forall_mem_cons.mpr ⟨lw_p13, List.forall_mem_cons.mpr ⟨lw_p14, List.forall_mem_cons.mpr ⟨lw_p15, fun _ h => absurd h List.not_mem_nil⟩⟩⟩⟩⟩⟩⟩⟩⟩⟩⟩⟩⟩⟩⟩⟩
theorem lw_p16 : lw_okq (⟨"SkiSchool$Planner", "followChoices", "()V"⟩, 13) := ⟨⟨by decide +kernel, by decide +kernel⟩, List.mem_of_getElem? (i := 31) (by decide +kernel), List.mem_of_getElem? (i := 626) (by decide +kernel), List.mem_of_getElem? (i := 627) (by decide +kernel)⟩
theorem lw_p17 : lw_okq (⟨"SkiSchool", "freeInstructorNumber", "()I"⟩, 14) := ⟨⟨by decide +kernel, by decide +kernel⟩, List.mem_of_getElem? (i := 15) (by decide +kernel), List.mem_of_getElem? (i := 657) (by decide +kernel), List.mem_of_getElem? (i := 658) (by decide +kernel)⟩
theorem lw_p18 : lw_okq (⟨"SkiSchool", "hasInstructor", "(I)Z"⟩, 14) := ⟨⟨by decide +kernel, by decide +kernel⟩, List.mem_of_getElem? (i := 15) (by decide +kernel), List.mem_of_getElem? (i := 669) (by decide +kernel), List.mem_of_getElem? (i := 670) (by decide +kernel)⟩
theorem lw_p19 : lw_okq (⟨"SkiSchool", "isActive", "(I)Z"⟩, 14) := ⟨⟨by decide +kernel, by decide +kernel⟩, List.mem_of_getElem? (i := 15) (by decide +kernel), List.mem_of_getElem? (i := 690) (by decide +kernel), List.mem_of_getElem? (i := 691) (by decide +kernel)⟩
theorem lw_p20 : lw_okq (⟨"SkiSchool", "isPaid", "(I)Z"⟩, 14) := ⟨⟨by decide +kernel, by decide +kernel⟩, List.mem_of_getElem? (i := 15) (by decide +kernel), List.mem_of_getElem? (i := 707) (by decide +kernel), List.mem_of_getElem? (i := 708) (by decide +kernel)⟩
theorem lw_p21 : lw_okq (⟨"SkiSchool", "hasLift", "(I)Z"⟩, 14) := ⟨⟨by decide +kernel, by decide +kernel⟩, List.mem_of_getElem? (i := 15) (by decide +kernel), List.mem_of_getElem? (i := 728) (by decide +kernel), List.mem_of_getElem? (i := 729) (by decide +kernel)⟩
theorem lw_p22 : lw_okq (⟨"SkiSchool", "countPersons", "()V"⟩, 14) := ⟨⟨by decide +kernel, by decide +kernel⟩, List.mem_of_getElem? (i := 15) (by decide +kernel), List.mem_of_getElem? (i := 744) (by decide +kernel), List.mem_of_getElem? (i := 745) (by decide +kernel)⟩
theorem lw_p23 : lw_okq (⟨"SkiSchool", "takesPart", "(I)Z"⟩, 14) := ⟨⟨by decide +kernel, by decide +kernel⟩, List.mem_of_getElem? (i := 15) (by decide +kernel), List.mem_of_getElem? (i := 748) (by decide +kernel), List.mem_of_getElem? (i := 749) (by decide +kernel)⟩
theorem lw_p24 : lw_okq (⟨"SkiSchool$Simulation", "joinQueues", "([LSkiSchool$Group;I)V"⟩, 10) := ⟨⟨by decide +kernel, by decide +kernel⟩, List.mem_of_getElem? (i := 104) (by decide +kernel), List.mem_of_getElem? (i := 762) (by decide +kernel), List.mem_of_getElem? (i := 763) (by decide +kernel)⟩
theorem lw_p25 : lw_okq (⟨"SkiSchool$Simulation", "depart", "(ILSkiSchool$Lift;[LSkiSchool$Group;I)V"⟩, 10) := ⟨⟨by decide +kernel, by decide +kernel⟩, List.mem_of_getElem? (i := 104) (by decide +kernel), List.mem_of_getElem? (i := 771) (by decide +kernel), List.mem_of_getElem? (i := 772) (by decide +kernel)⟩
theorem lw_p26 : lw_okq (⟨"SkiSchool$Simulation", "leaveQueue", "(I)V"⟩, 10) := ⟨⟨by decide +kernel, by decide +kernel⟩, List.mem_of_getElem? (i := 104) (by decide +kernel), List.mem_of_getElem? (i := 775) (by decide +kernel), List.mem_of_getElem? (i := 776) (by decide +kernel)⟩
theorem lw_p27 : lw_okq (⟨"SkiSchool$Simulation", "completeRide", "(ILSkiSchool$Group;I)V"⟩, 10) := ⟨⟨by decide +kernel, by decide +kernel⟩, List.mem_of_getElem? (i := 104) (by decide +kernel), List.mem_of_getElem? (i := 779) (by decide +kernel), List.mem_of_getElem? (i := 780) (by decide +kernel)⟩
theorem lw_p28 : lw_okq (⟨"SkiSchool$Simulation", "waitAMinute", "(I)V"⟩, 10) := ⟨⟨by decide +kernel, by decide +kernel⟩, List.mem_of_getElem? (i := 104) (by decide +kernel), List.mem_of_getElem? (i := 783) (by decide +kernel), List.mem_of_getElem? (i := 784) (by decide +kernel)⟩
theorem lw_p29 : lw_okq (⟨"SkiSchool", "keepResults", "()V"⟩, 14) := ⟨⟨by decide +kernel, by decide +kernel⟩, List.mem_of_getElem? (i := 15) (by decide +kernel), List.mem_of_getElem? (i := 788) (by decide +kernel), List.mem_of_getElem? (i := 789) (by decide +kernel)⟩
theorem lw_p30 : lw_okq (⟨"SkiSchool$Roster", "skip", "(C)Z"⟩, 12) := ⟨⟨by decide +kernel, by decide +kernel⟩, List.mem_of_getElem? (i := 148) (by decide +kernel), List.mem_of_getElem? (i := 832) (by decide +kernel), List.mem_of_getElem? (i := 833) (by decide +kernel)⟩
theorem lw_p31 : lw_okq (⟨"SkiSchool$Roster", "readSign", "(II)I"⟩, 12) := ⟨⟨by decide +kernel, by decide +kernel⟩, List.mem_of_getElem? (i := 148) (by decide +kernel), List.mem_of_getElem? (i := 836) (by decide +kernel), List.mem_of_getElem? (i := 837) (by decide +kernel)⟩
def lw_privs_2 : List (MethodName × Nat) := [(⟨"SkiSchool$Planner", "followChoices", "()V"⟩, 13), (⟨"SkiSchool", "freeInstructorNumber", "()I"⟩, 14), (⟨"SkiSchool", "hasInstructor", "(I)Z"⟩, 14), (⟨"SkiSchool", "isActive", "(I)Z"⟩, 14), (⟨"SkiSchool", "isPaid", "(I)Z"⟩, 14), (⟨"SkiSchool", "hasLift", "(I)Z"⟩, 14), (⟨"SkiSchool", "countPersons", "()V"⟩, 14), (⟨"SkiSchool", "takesPart", "(I)Z"⟩, 14), (⟨"SkiSchool$Simulation", "joinQueues", "([LSkiSchool$Group;I)V"⟩, 10), (⟨"SkiSchool$Simulation", "depart", "(ILSkiSchool$Lift;[LSkiSchool$Group;I)V"⟩, 10), (⟨"SkiSchool$Simulation", "leaveQueue", "(I)V"⟩, 10), (⟨"SkiSchool$Simulation", "completeRide", "(ILSkiSchool$Group;I)V"⟩, 10), (⟨"SkiSchool$Simulation", "waitAMinute", "(I)V"⟩, 10), (⟨"SkiSchool", "keepResults", "()V"⟩, 14), (⟨"SkiSchool$Roster", "skip", "(C)Z"⟩, 12), (⟨"SkiSchool$Roster", "readSign", "(II)I"⟩, 12)]
theorem lw_r2 : ∀ q ∈ lw_privs_2, lw_okq q := List.forall_mem_cons.mpr ⟨lw_p16, List.forall_mem_cons.mpr ⟨lw_p17, List.forall_mem_cons.mpr ⟨lw_p18, List.forall_mem_cons.mpr ⟨lw_p19, List.forall_mem_cons.mpr ⟨lw_p20, List.forall_mem_cons.mpr ⟨lw_p21, List.forall_mem_cons.mpr ⟨lw_p22, List.forall_mem_cons.mpr ⟨lw_p23, List.forall_mem_cons.mpr ⟨lw_p24, List.forall_mem_cons.mpr ⟨lw_p25, List.forall_mem_cons.mpr ⟨lw_p26, List.forall_mem_cons.mpr ⟨lw_p27, List.forall_mem_cons.mpr ⟨lw_p28, List.forall_mem_cons.mpr ⟨lw_p29, List.forall_mem_cons.mpr ⟨lw_p30, List.forall_mem_cons.mpr ⟨lw_p31, fun _ h => absurd h List.not_mem_nil⟩⟩⟩⟩⟩⟩⟩⟩⟩⟩⟩⟩⟩⟩⟩⟩
theorem lw_p32 : lw_okq (⟨"SkiSchool$Roster", "readPupil", "()Z"⟩, 12) := ⟨⟨by decide +kernel, by decide +kernel⟩, List.mem_of_getElem? (i := 148) (by decide +kernel), List.mem_of_getElem? (i := 840) (by decide +kernel), List.mem_of_getElem? (i := 841) (by decide +kernel)⟩
theorem lw_p33 : lw_okq (⟨"SkiSchool$Roster", "readDigit", "(II)I"⟩, 12) := ⟨⟨by decide +kernel, by decide +kernel⟩, List.mem_of_getElem? (i := 148) (by decide +kernel), List.mem_of_getElem? (i := 844) (by decide +kernel), List.mem_of_getElem? (i := 845) (by decide +kernel)⟩
theorem lw_p34 : lw_okq (⟨"SkiSchool$Roster", "readLanguages", "()Z"⟩, 12) := ⟨⟨by decide +kernel, by decide +kernel⟩, List.mem_of_getElem? (i := 148) (by decide +kernel), List.mem_of_getElem? (i := 848) (by decide +kernel), List.mem_of_getElem? (i := 849) (by decide +kernel)⟩
theorem lw_p35 : lw_okq (⟨"SkiSchool$Roster", "readLanguage", "(I)I"⟩, 12) := ⟨⟨by decide +kernel, by decide +kernel⟩, List.mem_of_getElem? (i := 148) (by decide +kernel), List.mem_of_getElem? (i := 852) (by decide +kernel), List.mem_of_getElem? (i := 853) (by decide +kernel)⟩
theorem lw_p36 : lw_okq (⟨"SkiSchool$Roster", "readGroup", "()Z"⟩, 12) := ⟨⟨by decide +kernel, by decide +kernel⟩, List.mem_of_getElem? (i := 148) (by decide +kernel), List.mem_of_getElem? (i := 856) (by decide +kernel), List.mem_of_getElem? (i := 857) (by decide +kernel)⟩
theorem lw_p37 : lw_okq (⟨"SkiSchool$Roster", "readInstructor", "()Z"⟩, 12) := ⟨⟨by decide +kernel, by decide +kernel⟩, List.mem_of_getElem? (i := 148) (by decide +kernel), List.mem_of_getElem? (i := 860) (by decide +kernel), List.mem_of_getElem? (i := 861) (by decide +kernel)⟩
theorem lw_p38 : lw_okq (⟨"SkiSchool$Roster", "readWage", "()Z"⟩, 12) := ⟨⟨by decide +kernel, by decide +kernel⟩, List.mem_of_getElem? (i := 148) (by decide +kernel), List.mem_of_getElem? (i := 864) (by decide +kernel), List.mem_of_getElem? (i := 865) (by decide +kernel)⟩
theorem lw_p39 : lw_okq (⟨"SkiSchool", "carryOutEntry", "()I"⟩, 14) := ⟨⟨by decide +kernel, by decide +kernel⟩, List.mem_of_getElem? (i := 15) (by decide +kernel), List.mem_of_getElem? (i := 869) (by decide +kernel), List.mem_of_getElem? (i := 870) (by decide +kernel)⟩
theorem lw_p40 : lw_okq (⟨"SkiSchool", "mixPupils", "(J)J"⟩, 14) := ⟨⟨by decide +kernel, by decide +kernel⟩, List.mem_of_getElem? (i := 15) (by decide +kernel), List.mem_of_getElem? (i := 887) (by decide +kernel), List.mem_of_getElem? (i := 888) (by decide +kernel)⟩
theorem lw_p41 : lw_okq (⟨"SkiSchool", "mixGroups", "(J)J"⟩, 14) := ⟨⟨by decide +kernel, by decide +kernel⟩, List.mem_of_getElem? (i := 15) (by decide +kernel), List.mem_of_getElem? (i := 897) (by decide +kernel), List.mem_of_getElem? (i := 898) (by decide +kernel)⟩
theorem lw_p42 : lw_okq (⟨"SkiSchool", "mixInstructorsAndLifts", "(J)J"⟩, 14) := ⟨⟨by decide +kernel, by decide +kernel⟩, List.mem_of_getElem? (i := 15) (by decide +kernel), List.mem_of_getElem? (i := 906) (by decide +kernel), List.mem_of_getElem? (i := 907) (by decide +kernel)⟩
theorem lw_p43 : lw_okq (⟨"SkiSchoolModel", "pupilMany", "()I"⟩, 61) := ⟨⟨by decide +kernel, by decide +kernel⟩, List.mem_of_getElem? (i := 915) (by decide +kernel), List.mem_of_getElem? (i := 1122) (by decide +kernel), List.mem_of_getElem? (i := 1123) (by decide +kernel)⟩
theorem lw_p44 : lw_okq (⟨"SkiSchoolModel", "keepRule", "(I)I"⟩, 61) := ⟨⟨by decide +kernel, by decide +kernel⟩, List.mem_of_getElem? (i := 915) (by decide +kernel), List.mem_of_getElem? (i := 1126) (by decide +kernel), List.mem_of_getElem? (i := 1127) (by decide +kernel)⟩
theorem lw_p45 : lw_okq (⟨"SkiSchoolModel", "isOf", "(II)Z"⟩, 61) := ⟨⟨by decide +kernel, by decide +kernel⟩, List.mem_of_getElem? (i := 915) (by decide +kernel), List.mem_of_getElem? (i := 1130) (by decide +kernel), List.mem_of_getElem? (i := 1131) (by decide +kernel)⟩
theorem lw_p46 : lw_okq (⟨"SkiSchoolModel", "leaveAll", "(I)I"⟩, 61) := ⟨⟨by decide +kernel, by decide +kernel⟩, List.mem_of_getElem? (i := 915) (by decide +kernel), List.mem_of_getElem? (i := 1134) (by decide +kernel), List.mem_of_getElem? (i := 1135) (by decide +kernel)⟩
theorem lw_p47 : lw_okq (⟨"SkiSchoolModel", "hasPupil", "(I)Z"⟩, 61) := ⟨⟨by decide +kernel, by decide +kernel⟩, List.mem_of_getElem? (i := 915) (by decide +kernel), List.mem_of_getElem? (i := 1142) (by decide +kernel), List.mem_of_getElem? (i := 1143) (by decide +kernel)⟩
def lw_privs_3 : List (MethodName × Nat) := [(⟨"SkiSchool$Roster", "readPupil", "()Z"⟩, 12), (⟨"SkiSchool$Roster", "readDigit", "(II)I"⟩, 12), (⟨"SkiSchool$Roster", "readLanguages", "()Z"⟩, 12), (⟨"SkiSchool$Roster", "readLanguage", "(I)I"⟩, 12), (⟨"SkiSchool$Roster", "readGroup", "()Z"⟩, 12), (⟨"SkiSchool$Roster", "readInstructor", "()Z"⟩, 12), (⟨"SkiSchool$Roster", "readWage", "()Z"⟩, 12), (⟨"SkiSchool", "carryOutEntry", "()I"⟩, 14), (⟨"SkiSchool", "mixPupils", "(J)J"⟩, 14), (⟨"SkiSchool", "mixGroups", "(J)J"⟩, 14), (⟨"SkiSchool", "mixInstructorsAndLifts", "(J)J"⟩, 14), (⟨"SkiSchoolModel", "pupilMany", "()I"⟩, 61), (⟨"SkiSchoolModel", "keepRule", "(I)I"⟩, 61), (⟨"SkiSchoolModel", "isOf", "(II)Z"⟩, 61), (⟨"SkiSchoolModel", "leaveAll", "(I)I"⟩, 61), (⟨"SkiSchoolModel", "hasPupil", "(I)Z"⟩, 61)]
theorem lw_r3 : ∀ q ∈ lw_privs_3, lw_okq q := List.forall_mem_cons.mpr ⟨lw_p32, List.forall_mem_cons.mpr ⟨lw_p33, List.forall_mem_cons.mpr ⟨lw_p34, List.forall_mem_cons.mpr ⟨lw_p35, List.forall_mem_cons.mpr ⟨lw_p36, List.forall_mem_cons.mpr ⟨lw_p37, List.forall_mem_cons.mpr ⟨lw_p38, List.forall_mem_cons.mpr ⟨lw_p39, List.forall_mem_cons.mpr ⟨lw_p40, List.forall_mem_cons.mpr ⟨lw_p41, List.forall_mem_cons.mpr ⟨lw_p42, List.forall_mem_cons.mpr ⟨lw_p43, List.forall_mem_cons.mpr ⟨lw_p44, List.forall_mem_cons.mpr ⟨lw_p45, List.forall_mem_cons.mpr ⟨lw_p46, List.forall_mem_cons.mpr ⟨lw_p47, fun _ h => absurd h List.not_mem_nil⟩⟩⟩⟩⟩⟩⟩⟩⟩⟩⟩⟩⟩⟩⟩⟩
theorem lw_p48 : lw_okq (⟨"SkiSchoolModel", "spreadOf", "(I)I"⟩, 61) := ⟨⟨by decide +kernel, by decide +kernel⟩, List.mem_of_getElem? (i := 915) (by decide +kernel), List.mem_of_getElem? (i := 1174) (by decide +kernel), List.mem_of_getElem? (i := 1175) (by decide +kernel)⟩
theorem lw_p49 : lw_okq (⟨"SkiSchoolModel", "scoreMany", "(I)I"⟩, 61) := ⟨⟨by decide +kernel, by decide +kernel⟩, List.mem_of_getElem? (i := 915) (by decide +kernel), List.mem_of_getElem? (i := 1185) (by decide +kernel), List.mem_of_getElem? (i := 1186) (by decide +kernel)⟩
theorem lw_p50 : lw_okq (⟨"SkiSchoolModel", "isFitting", "(III)Z"⟩, 61) := ⟨⟨by decide +kernel, by decide +kernel⟩, List.mem_of_getElem? (i := 915) (by decide +kernel), List.mem_of_getElem? (i := 1201) (by decide +kernel), List.mem_of_getElem? (i := 1202) (by decide +kernel)⟩
theorem lw_p51 : lw_okq (⟨"SkiSchoolModel", "groupMany", "()I"⟩, 61) := ⟨⟨by decide +kernel, by decide +kernel⟩, List.mem_of_getElem? (i := 915) (by decide +kernel), List.mem_of_getElem? (i := 1216) (by decide +kernel), List.mem_of_getElem? (i := 1217) (by decide +kernel)⟩
theorem lw_p52 : lw_okq (⟨"SkiSchoolModel", "freeGroup", "()I"⟩, 61) := ⟨⟨by decide +kernel, by decide +kernel⟩, List.mem_of_getElem? (i := 915) (by decide +kernel), List.mem_of_getElem? (i := 1220) (by decide +kernel), List.mem_of_getElem? (i := 1221) (by decide +kernel)⟩
theorem lw_p53 : lw_okq (⟨"SkiSchoolModel", "hasGroup", "(I)Z"⟩, 61) := ⟨⟨by decide +kernel, by decide +kernel⟩, List.mem_of_getElem? (i := 915) (by decide +kernel), List.mem_of_getElem? (i := 1228) (by decide +kernel), List.mem_of_getElem? (i := 1229) (by decide +kernel)⟩
theorem lw_p54 : lw_okq (⟨"SkiSchoolModel", "sizeOf", "(I)I"⟩, 61) := ⟨⟨by decide +kernel, by decide +kernel⟩, List.mem_of_getElem? (i := 915) (by decide +kernel), List.mem_of_getElem? (i := 1232) (by decide +kernel), List.mem_of_getElem? (i := 1233) (by decide +kernel)⟩
theorem lw_p55 : lw_okq (⟨"SkiSchoolModel", "planGroups", "()V"⟩, 61) := ⟨⟨by decide +kernel, by decide +kernel⟩, List.mem_of_getElem? (i := 915) (by decide +kernel), List.mem_of_getElem? (i := 1256) (by decide +kernel), List.mem_of_getElem? (i := 1257) (by decide +kernel)⟩
theorem lw_p56 : lw_okq (⟨"SkiSchoolModel", "plan", "(I)I"⟩, 61) := ⟨⟨by decide +kernel, by decide +kernel⟩, List.mem_of_getElem? (i := 915) (by decide +kernel), List.mem_of_getElem? (i := 1260) (by decide +kernel), List.mem_of_getElem? (i := 1261) (by decide +kernel)⟩
theorem lw_p57 : lw_okq (⟨"SkiSchoolModel", "findUnits", "(I)V"⟩, 61) := ⟨⟨by decide +kernel, by decide +kernel⟩, List.mem_of_getElem? (i := 915) (by decide +kernel), List.mem_of_getElem? (i := 1264) (by decide +kernel), List.mem_of_getElem? (i := 1265) (by decide +kernel)⟩
theorem lw_p58 : lw_okq (⟨"SkiSchoolModel", "addOut", "(III)V"⟩, 61) := ⟨⟨by decide +kernel, by decide +kernel⟩, List.mem_of_getElem? (i := 915) (by decide +kernel), List.mem_of_getElem? (i := 1268) (by decide +kernel), List.mem_of_getElem? (i := 1269) (by decide +kernel)⟩
theorem lw_p59 : lw_okq (⟨"SkiSchoolModel", "mayGet", "(III)Z"⟩, 61) := ⟨⟨by decide +kernel, by decide +kernel⟩, List.mem_of_getElem? (i := 915) (by decide +kernel), List.mem_of_getElem? (i := 1272) (by decide +kernel), List.mem_of_getElem? (i := 1273) (by decide +kernel)⟩
theorem lw_p60 : lw_okq (⟨"SkiSchoolModel", "worthOf", "(III)I"⟩, 61) := ⟨⟨by decide +kernel, by decide +kernel⟩, List.mem_of_getElem? (i := 915) (by decide +kernel), List.mem_of_getElem? (i := 1279) (by decide +kernel), List.mem_of_getElem? (i := 1280) (by decide +kernel)⟩
theorem lw_p61 : lw_okq (⟨"SkiSchoolModel", "placedMany", "()I"⟩, 61) := ⟨⟨by decide +kernel, by decide +kernel⟩, List.mem_of_getElem? (i := 915) (by decide +kernel), List.mem_of_getElem? (i := 1287) (by decide +kernel), List.mem_of_getElem? (i := 1288) (by decide +kernel)⟩
theorem lw_p62 : lw_okq (⟨"SkiSchoolModel", "outMany", "()I"⟩, 61) := ⟨⟨by decide +kernel, by decide +kernel⟩, List.mem_of_getElem? (i := 915) (by decide +kernel), List.mem_of_getElem? (i := 1295) (by decide +kernel), List.mem_of_getElem? (i := 1296) (by decide +kernel)⟩
theorem lw_p63 : lw_okq (⟨"SkiSchoolModel", "instructorMany", "()I"⟩, 61) := ⟨⟨by decide +kernel, by decide +kernel⟩, List.mem_of_getElem? (i := 915) (by decide +kernel), List.mem_of_getElem? (i := 1312) (by decide +kernel), List.mem_of_getElem? (i := 1313) (by decide +kernel)⟩
def lw_privs_4 : List (MethodName × Nat) := [(⟨"SkiSchoolModel", "spreadOf", "(I)I"⟩, 61), (⟨"SkiSchoolModel", "scoreMany", "(I)I"⟩, 61), (⟨"SkiSchoolModel", "isFitting", "(III)Z"⟩, 61), (⟨"SkiSchoolModel", "groupMany", "()I"⟩, 61), (⟨"SkiSchoolModel", "freeGroup", "()I"⟩, 61), (⟨"SkiSchoolModel", "hasGroup", "(I)Z"⟩, 61), (⟨"SkiSchoolModel", "sizeOf", "(I)I"⟩, 61), (⟨"SkiSchoolModel", "planGroups", "()V"⟩, 61), (⟨"SkiSchoolModel", "plan", "(I)I"⟩, 61), (⟨"SkiSchoolModel", "findUnits", "(I)V"⟩, 61), (⟨"SkiSchoolModel", "addOut", "(III)V"⟩, 61), (⟨"SkiSchoolModel", "mayGet", "(III)Z"⟩, 61), (⟨"SkiSchoolModel", "worthOf", "(III)I"⟩, 61), (⟨"SkiSchoolModel", "placedMany", "()I"⟩, 61), (⟨"SkiSchoolModel", "outMany", "()I"⟩, 61), (⟨"SkiSchoolModel", "instructorMany", "()I"⟩, 61)]
theorem lw_r4 : ∀ q ∈ lw_privs_4, lw_okq q := List.forall_mem_cons.mpr ⟨lw_p48, List.forall_mem_cons.mpr ⟨lw_p49, List.forall_mem_cons.mpr ⟨lw_p50, List.forall_mem_cons.mpr ⟨lw_p51, List.forall_mem_cons.mpr ⟨lw_p52, List.forall_mem_cons.mpr ⟨lw_p53, List.forall_mem_cons.mpr ⟨lw_p54, List.forall_mem_cons.mpr ⟨lw_p55, List.forall_mem_cons.mpr ⟨lw_p56, List.forall_mem_cons.mpr ⟨lw_p57, List.forall_mem_cons.mpr ⟨lw_p58, List.forall_mem_cons.mpr ⟨lw_p59, List.forall_mem_cons.mpr ⟨lw_p60, List.forall_mem_cons.mpr ⟨lw_p61, List.forall_mem_cons.mpr ⟨lw_p62, List.forall_mem_cons.mpr ⟨lw_p63, fun _ h => absurd h List.not_mem_nil⟩⟩⟩⟩⟩⟩⟩⟩⟩⟩⟩⟩⟩⟩⟩⟩
theorem lw_p64 : lw_okq (⟨"SkiSchoolModel", "hasInstructor", "(I)Z"⟩, 61) := ⟨⟨by decide +kernel, by decide +kernel⟩, List.mem_of_getElem? (i := 915) (by decide +kernel), List.mem_of_getElem? (i := 1320) (by decide +kernel), List.mem_of_getElem? (i := 1321) (by decide +kernel)⟩
theorem lw_p65 : lw_okq (⟨"SkiSchoolModel", "isTeaching", "(II)Z"⟩, 61) := ⟨⟨by decide +kernel, by decide +kernel⟩, List.mem_of_getElem? (i := 915) (by decide +kernel), List.mem_of_getElem? (i := 1332) (by decide +kernel), List.mem_of_getElem? (i := 1333) (by decide +kernel)⟩
theorem lw_p66 : lw_okq (⟨"SkiSchoolModel", "costOf", "(I)I"⟩, 61) := ⟨⟨by decide +kernel, by decide +kernel⟩, List.mem_of_getElem? (i := 915) (by decide +kernel), List.mem_of_getElem? (i := 1340) (by decide +kernel), List.mem_of_getElem? (i := 1341) (by decide +kernel)⟩
theorem lw_p67 : lw_okq (⟨"SkiSchoolModel", "isActive", "(I)Z"⟩, 61) := ⟨⟨by decide +kernel, by decide +kernel⟩, List.mem_of_getElem? (i := 915) (by decide +kernel), List.mem_of_getElem? (i := 1347) (by decide +kernel), List.mem_of_getElem? (i := 1348) (by decide +kernel)⟩
theorem lw_p68 : lw_okq (⟨"SkiSchoolModel", "hasLift", "(I)Z"⟩, 61) := ⟨⟨by decide +kernel, by decide +kernel⟩, List.mem_of_getElem? (i := 915) (by decide +kernel), List.mem_of_getElem? (i := 1368) (by decide +kernel), List.mem_of_getElem? (i := 1369) (by decide +kernel)⟩
theorem lw_p69 : lw_okq (⟨"SkiSchoolModel", "goThrough", "(I)V"⟩, 61) := ⟨⟨by decide +kernel, by decide +kernel⟩, List.mem_of_getElem? (i := 915) (by decide +kernel), List.mem_of_getElem? (i := 1387) (by decide +kernel), List.mem_of_getElem? (i := 1388) (by decide +kernel)⟩
theorem lw_p70 : lw_okq (⟨"SkiSchoolModel", "begin", "()V"⟩, 61) := ⟨⟨by decide +kernel, by decide +kernel⟩, List.mem_of_getElem? (i := 915) (by decide +kernel), List.mem_of_getElem? (i := 1391) (by decide +kernel), List.mem_of_getElem? (i := 1392) (by decide +kernel)⟩
theorem lw_p71 : lw_okq (⟨"SkiSchoolModel", "takesPart", "(I)Z"⟩, 61) := ⟨⟨by decide +kernel, by decide +kernel⟩, List.mem_of_getElem? (i := 915) (by decide +kernel), List.mem_of_getElem? (i := 1395) (by decide +kernel), List.mem_of_getElem? (i := 1396) (by decide +kernel)⟩
theorem lw_p72 : lw_okq (⟨"SkiSchoolModel", "depart", "(II)V"⟩, 61) := ⟨⟨by decide +kernel, by decide +kernel⟩, List.mem_of_getElem? (i := 915) (by decide +kernel), List.mem_of_getElem? (i := 1399) (by decide +kernel), List.mem_of_getElem? (i := 1400) (by decide +kernel)⟩
theorem lw_p73 : lw_okq (⟨"SkiSchoolModel", "leave", "(II)V"⟩, 61) := ⟨⟨by decide +kernel, by decide +kernel⟩, List.mem_of_getElem? (i := 915) (by decide +kernel), List.mem_of_getElem? (i := 1403) (by decide +kernel), List.mem_of_getElem? (i := 1404) (by decide +kernel)⟩
theorem lw_p74 : lw_okq (⟨"SkiSchoolModel", "entry", "(Z)I"⟩, 61) := ⟨⟨by decide +kernel, by decide +kernel⟩, List.mem_of_getElem? (i := 915) (by decide +kernel), List.mem_of_getElem? (i := 1439) (by decide +kernel), List.mem_of_getElem? (i := 1440) (by decide +kernel)⟩
theorem lw_p75 : lw_okq (⟨"SkiSchoolModel", "takes", "(I)Z"⟩, 61) := ⟨⟨by decide +kernel, by decide +kernel⟩, List.mem_of_getElem? (i := 915) (by decide +kernel), List.mem_of_getElem? (i := 1443) (by decide +kernel), List.mem_of_getElem? (i := 1444) (by decide +kernel)⟩
theorem lw_p76 : lw_okq (⟨"SkiSchoolModel", "next", "()I"⟩, 61) := ⟨⟨by decide +kernel, by decide +kernel⟩, List.mem_of_getElem? (i := 915) (by decide +kernel), List.mem_of_getElem? (i := 1447) (by decide +kernel), List.mem_of_getElem? (i := 1448) (by decide +kernel)⟩
theorem lw_p77 : lw_okq (⟨"SkiSchoolModel", "readsPupil", "()Z"⟩, 61) := ⟨⟨by decide +kernel, by decide +kernel⟩, List.mem_of_getElem? (i := 915) (by decide +kernel), List.mem_of_getElem? (i := 1451) (by decide +kernel), List.mem_of_getElem? (i := 1452) (by decide +kernel)⟩
theorem lw_p78 : lw_okq (⟨"SkiSchoolModel", "readsDigit", "(II)Z"⟩, 61) := ⟨⟨by decide +kernel, by decide +kernel⟩, List.mem_of_getElem? (i := 915) (by decide +kernel), List.mem_of_getElem? (i := 1455) (by decide +kernel), List.mem_of_getElem? (i := 1456) (by decide +kernel)⟩
theorem lw_p79 : lw_okq (⟨"SkiSchoolModel", "readsSet", "()Z"⟩, 61) := ⟨⟨by decide +kernel, by decide +kernel⟩, List.mem_of_getElem? (i := 915) (by decide +kernel), List.mem_of_getElem? (i := 1459) (by decide +kernel), List.mem_of_getElem? (i := 1460) (by decide +kernel)⟩
def lw_privs_5 : List (MethodName × Nat) := [(⟨"SkiSchoolModel", "hasInstructor", "(I)Z"⟩, 61), (⟨"SkiSchoolModel", "isTeaching", "(II)Z"⟩, 61), (⟨"SkiSchoolModel", "costOf", "(I)I"⟩, 61), (⟨"SkiSchoolModel", "isActive", "(I)Z"⟩, 61), (⟨"SkiSchoolModel", "hasLift", "(I)Z"⟩, 61), (⟨"SkiSchoolModel", "goThrough", "(I)V"⟩, 61), (⟨"SkiSchoolModel", "begin", "()V"⟩, 61), (⟨"SkiSchoolModel", "takesPart", "(I)Z"⟩, 61), (⟨"SkiSchoolModel", "depart", "(II)V"⟩, 61), (⟨"SkiSchoolModel", "leave", "(II)V"⟩, 61), (⟨"SkiSchoolModel", "entry", "(Z)I"⟩, 61), (⟨"SkiSchoolModel", "takes", "(I)Z"⟩, 61), (⟨"SkiSchoolModel", "next", "()I"⟩, 61), (⟨"SkiSchoolModel", "readsPupil", "()Z"⟩, 61), (⟨"SkiSchoolModel", "readsDigit", "(II)Z"⟩, 61), (⟨"SkiSchoolModel", "readsSet", "()Z"⟩, 61)]
theorem lw_r5 : ∀ q ∈ lw_privs_5, lw_okq q := List.forall_mem_cons.mpr ⟨lw_p64, List.forall_mem_cons.mpr ⟨lw_p65, List.forall_mem_cons.mpr ⟨lw_p66, List.forall_mem_cons.mpr ⟨lw_p67, List.forall_mem_cons.mpr ⟨lw_p68, List.forall_mem_cons.mpr ⟨lw_p69, List.forall_mem_cons.mpr ⟨lw_p70, List.forall_mem_cons.mpr ⟨lw_p71, List.forall_mem_cons.mpr ⟨lw_p72, List.forall_mem_cons.mpr ⟨lw_p73, List.forall_mem_cons.mpr ⟨lw_p74, List.forall_mem_cons.mpr ⟨lw_p75, List.forall_mem_cons.mpr ⟨lw_p76, List.forall_mem_cons.mpr ⟨lw_p77, List.forall_mem_cons.mpr ⟨lw_p78, List.forall_mem_cons.mpr ⟨lw_p79, fun _ h => absurd h List.not_mem_nil⟩⟩⟩⟩⟩⟩⟩⟩⟩⟩⟩⟩⟩⟩⟩⟩
theorem lw_p80 : lw_okq (⟨"SkiSchoolModel", "readsGroup", "()Z"⟩, 61) := ⟨⟨by decide +kernel, by decide +kernel⟩, List.mem_of_getElem? (i := 915) (by decide +kernel), List.mem_of_getElem? (i := 1464) (by decide +kernel), List.mem_of_getElem? (i := 1465) (by decide +kernel)⟩
theorem lw_p81 : lw_okq (⟨"SkiSchoolModel", "readsInstructor", "()Z"⟩, 61) := ⟨⟨by decide +kernel, by decide +kernel⟩, List.mem_of_getElem? (i := 915) (by decide +kernel), List.mem_of_getElem? (i := 1469) (by decide +kernel), List.mem_of_getElem? (i := 1470) (by decide +kernel)⟩
theorem lw_p82 : lw_okq (⟨"SkiSchoolModel", "readsWage", "()Z"⟩, 61) := ⟨⟨by decide +kernel, by decide +kernel⟩, List.mem_of_getElem? (i := 915) (by decide +kernel), List.mem_of_getElem? (i := 1473) (by decide +kernel), List.mem_of_getElem? (i := 1474) (by decide +kernel)⟩
def lw_privs_6 : List (MethodName × Nat) := [(⟨"SkiSchoolModel", "readsGroup", "()Z"⟩, 61), (⟨"SkiSchoolModel", "readsInstructor", "()Z"⟩, 61), (⟨"SkiSchoolModel", "readsWage", "()Z"⟩, 61)]
theorem lw_r6 : ∀ q ∈ lw_privs_6, lw_okq q := List.forall_mem_cons.mpr ⟨lw_p80, List.forall_mem_cons.mpr ⟨lw_p81, List.forall_mem_cons.mpr ⟨lw_p82, fun _ h => absurd h List.not_mem_nil⟩⟩⟩
def lw_privs : List (MethodName × Nat) := lw_privs_1 ++ (lw_privs_2 ++ (lw_privs_3 ++ (lw_privs_4 ++ (lw_privs_5 ++ (lw_privs_6)))))
def lw_tbl : List Cond := k2_sels lw_privs ++ tables_1
theorem lw_privs_ok : ∀ q ∈ lw_privs, lw_okq q := by
  show ∀ q ∈ lw_privs_1 ++ (lw_privs_2 ++ (lw_privs_3 ++ (lw_privs_4 ++ (lw_privs_5 ++ (lw_privs_6))))), lw_okq q
  exact List.forall_mem_append.mpr ⟨lw_r1, List.forall_mem_append.mpr ⟨lw_r2, List.forall_mem_append.mpr ⟨lw_r3, List.forall_mem_append.mpr ⟨lw_r4, List.forall_mem_append.mpr ⟨lw_r5, lw_r6⟩⟩⟩⟩⟩
/-! ===== BEGIN words of one list among another's, by their places ===== -/
theorem goodIn_r {big : List Cond} (ws : List Cond) (ps : List Nat) (hp : ws = ps.filterMap (fun i => big[i]?)) (h : ws.all goodWord = true) : GoodIn big ws := by
  intro w hw
  have h1 := List.all_eq_true.mp h w hw
  rw [hp] at hw
  obtain ⟨i, -, hi⟩ := List.mem_filterMap.mp hw
  have hm : w ∈ big := by first | exact List.mem_of_getElem? hi | exact List.getElem?_mem hi
  exact ⟨hm, good_of_word h1⟩
theorem goodIn_app {big a b : List Cond} (ha : GoodIn big a) (hb : GoodIn big b) : GoodIn big (a ++ b) := fun w h => (List.mem_append.mp h).elim (ha w) (hb w)
theorem goodIn_ca {big a b : List Cond} {c : Cond} (ha : GoodIn big (c :: a)) (hb : GoodIn big b) : GoodIn big (c :: (a ++ b)) := fun w h => (List.mem_cons.mp h).elim (fun e => ha w (List.mem_cons.mpr (Or.inl e))) (fun h => (List.mem_append.mp h).elim (fun h => ha w (List.mem_cons.mpr (Or.inr h))) (hb w))
theorem goodIn_sub {big ws : List Cond} (hm : ∀ w ∈ ws, w ∈ big) (h : ws.all goodWord = true) : GoodIn big ws := fun w hw => ⟨hm w hw, good_of_word (List.all_eq_true.mp h w hw)⟩
/-! ===== END ===== -/
/-! ===== BEGIN printed: names, fields, word lists, decode rows ===== -/
def RX0 : String := "SkiSchool$Group"
def TX0 : u_T := fun k => match k with
  | 0 => ("SkiSchool$Group", "open", "Z", false)
  | 1 => ("SkiSchool$Group", "level", "I", false)
  | 2 => ("SkiSchool$Group", "language", "I", false)
  | 3 => ("SkiSchool$Group", "capacity", "I", false)
  | 4 => ("SkiSchool$Group", "instructor", "I", false)
  | 5 => ("SkiSchool$Group", "start", "I", false)
  | 6 => ("SkiSchool$Group", "stops", "I", false)
  | 7 => ("SkiSchool$Group", "lifts", "[I", true)
  | 8 => ("SkiSchool$Group", "slopes", "[I", true)
  | 9 => ("SkiSchool$Group", "waited", "I", false)
  | _ => ("SkiSchool$Group", "rides", "I", false)
def tyX0 : Nat → FieldType := fun k => match k with
  | 0 => .boolean
  | 1 => .int
  | 2 => .int
  | 3 => .int
  | 4 => .int
  | 5 => .int
  | 6 => .int
  | 7 => .array .int
  | 8 => .array .int
  | 9 => .int
  | _ => .int
abbrev wsX00 : List Cond := u_ws RX0 TX0 11
theorem nmX0 : ∀ a, a < 11 → ∀ b, b < 11 → a ≠ b → (TX0 a).2.1 ≠ (TX0 b).2.1 := by decide +kernel
theorem tyX0_ok : ∀ k, k < 11 → parseFieldDescriptor (TX0 k).2.2.1 = some (tyX0 k) := by decide +kernel
abbrev cX0_init : ByteArray := prog_2_method_1_code
def yX0_init : MethodName := ⟨RX0, "<init>", "()V"⟩
abbrev cX0_begin : ByteArray := prog_2_method_2_code
def yX0_begin : MethodName := ⟨RX0, "begin", "(III)V"⟩
abbrev cX0_end : ByteArray := prog_2_method_3_code
def yX0_end : MethodName := ⟨RX0, "end", "()V"⟩
abbrev cX0_suits : ByteArray := prog_2_method_4_code
def yX0_suits : MethodName := ⟨RX0, "suits", "(LSkiSchool$Pupil;)Z"⟩
def RX1 : String := "SkiSchool$Instructor"
def TX1 : u_T := fun k => match k with
  | 0 => ("SkiSchool$Instructor", "hired", "Z", false)
  | 1 => ("SkiSchool$Instructor", "languages", "I", false)
  | 2 => ("SkiSchool$Instructor", "lowest", "I", false)
  | 3 => ("SkiSchool$Instructor", "highest", "I", false)
  | 4 => ("SkiSchool$Instructor", "wage", "I", false)
  | _ => ("SkiSchool$Instructor", "earned", "I", false)
def tyX1 : Nat → FieldType := fun k => match k with
  | 0 => .boolean
  | 1 => .int
  | 2 => .int
  | 3 => .int
  | 4 => .int
  | _ => .int
abbrev wsX10 : List Cond := u_ws RX1 TX1 6
theorem nmX1 : ∀ a, a < 6 → ∀ b, b < 6 → a ≠ b → (TX1 a).2.1 ≠ (TX1 b).2.1 := by decide +kernel
theorem tyX1_ok : ∀ k, k < 6 → parseFieldDescriptor (TX1 k).2.2.1 = some (tyX1 k) := by decide +kernel
abbrev cX1_init : ByteArray := prog_3_method_1_code
def yX1_init : MethodName := ⟨RX1, "<init>", "()V"⟩
abbrev cX1_begin : ByteArray := prog_3_method_2_code
def yX1_begin : MethodName := ⟨RX1, "begin", "(IIII)V"⟩
abbrev cX1_teaches : ByteArray := prog_3_method_3_code
def yX1_teaches : MethodName := ⟨RX1, "teaches", "(LSkiSchool$Group;)Z"⟩
abbrev cX1_hasRoomFor : ByteArray := prog_3_method_4_code
def yX1_hasRoomFor : MethodName := ⟨RX1, "hasRoomFor", "(I)Z"⟩
def RX2 : String := "SkiSchool$Lift"
def TX2 : u_T := fun k => match k with
  | 0 => ("SkiSchool$Lift", "seats", "I", false)
  | 1 => ("SkiSchool$Lift", "interval", "I", false)
  | 2 => ("SkiSchool$Lift", "ride", "I", false)
  | 3 => ("SkiSchool$Lift", "longest", "I", false)
  | _ => ("SkiSchool$Lift", "taken", "I", false)
def tyX2 : Nat → FieldType := fun k => match k with
  | 0 => .int
  | 1 => .int
  | 2 => .int
  | 3 => .int
  | _ => .int
abbrev wsX20 : List Cond := u_ws RX2 TX2 5
theorem nmX2 : ∀ a, a < 5 → ∀ b, b < 5 → a ≠ b → (TX2 a).2.1 ≠ (TX2 b).2.1 := by decide +kernel
theorem tyX2_ok : ∀ k, k < 5 → parseFieldDescriptor (TX2 k).2.2.1 = some (tyX2 k) := by decide +kernel
abbrev cX2_init : ByteArray := prog_4_method_1_code
def yX2_init : MethodName := ⟨RX2, "<init>", "()V"⟩
abbrev cX2_departsAt : ByteArray := prog_4_method_2_code
def yX2_departsAt : MethodName := ⟨RX2, "departsAt", "(I)Z"⟩
def RX3 : String := "SkiSchool$Planner"
def TX3 : u_T := fun k => match k with
  | 0 => ("SkiSchool$Planner", "units", "I", false)
  | 1 => ("SkiSchool$Planner", "states", "I", false)
  | 2 => ("SkiSchool$Planner", "unitOf", "[I", true)
  | 3 => ("SkiSchool$Planner", "heads", "[I", true)
  | 4 => ("SkiSchool$Planner", "out", "[[I", true)
  | 5 => ("SkiSchool$Planner", "given", "[I", true)
  | 6 => ("SkiSchool$Planner", "unitOfFamily", "[I", true)
  | 7 => ("SkiSchool$Planner", "seats", "[I", true)
  | 8 => ("SkiSchool$Planner", "stride", "[I", true)
  | 9 => ("SkiSchool$Planner", "left", "[I", true)
  | 10 => ("SkiSchool$Planner", "options", "[I", true)
  | 11 => ("SkiSchool$Planner", "value", "[I", true)
  | _ => ("SkiSchool$Planner", "choices", "[J", true)
def tyX3 : Nat → FieldType := fun k => match k with
  | 0 => .int
  | 1 => .int
  | 2 => .array .int
  | 3 => .array .int
  | 4 => .array (.array .int)
  | 5 => .array .int
  | 6 => .array .int
  | 7 => .array .int
  | 8 => .array .int
  | 9 => .array .int
  | 10 => .array .int
  | 11 => .array .int
  | _ => .array .long
abbrev wsX30 : List Cond := u_ws RX3 TX3 13
theorem nmX3 : ∀ a, a < 13 → ∀ b, b < 13 → a ≠ b → (TX3 a).2.1 ≠ (TX3 b).2.1 := by decide +kernel
theorem tyX3_ok : ∀ k, k < 13 → parseFieldDescriptor (TX3 k).2.2.1 = some (tyX3 k) := by decide +kernel
abbrev cX3_init : ByteArray := prog_5_method_1_code
def yX3_init : MethodName := ⟨RX3, "<init>", "()V"⟩
abbrev cX3_findBest : ByteArray := prog_5_method_2_code
def yX3_findBest : MethodName := ⟨RX3, "findBest", "([LSkiSchool$Pupil;[LSkiSchool$Group;[Z)I"⟩
abbrev cX3_groupOf : ByteArray := prog_5_method_3_code
def yX3_groupOf : MethodName := ⟨RX3, "groupOf", "(I)I"⟩
abbrev cX3_gatherUnits : ByteArray := prog_5_method_4_code
def yX3_gatherUnits : MethodName := ⟨RX3, "gatherUnits", "([LSkiSchool$Pupil;[LSkiSchool$Group;[Z)V"⟩
abbrev cX3_unitFor : ByteArray := prog_5_method_5_code
def yX3_unitFor : MethodName := ⟨RX3, "unitFor", "(I[Z)I"⟩
abbrev cX3_newUnit : ByteArray := prog_5_method_6_code
def yX3_newUnit : MethodName := ⟨RX3, "newUnit", "()I"⟩
abbrev cX3_addHead : ByteArray := prog_5_method_7_code
def yX3_addHead : MethodName := ⟨RX3, "addHead", "(ILSkiSchool$Pupil;[LSkiSchool$Group;)V"⟩
abbrev cX3_limitSeats : ByteArray := prog_5_method_8_code
def yX3_limitSeats : MethodName := ⟨RX3, "limitSeats", "([LSkiSchool$Group;)V"⟩
abbrev cX3_chooseFor : ByteArray := prog_5_method_9_code
def yX3_chooseFor : MethodName := ⟨RX3, "chooseFor", "(I)V"⟩
abbrev cX3_listOptions : ByteArray := prog_5_method_10_code
def yX3_listOptions : MethodName := ⟨RX3, "listOptions", "(I)I"⟩
abbrev cX3_countDown : ByteArray := prog_5_method_11_code
def yX3_countDown : MethodName := ⟨RX3, "countDown", "()V"⟩
abbrev cX3_followChoices : ByteArray := prog_5_method_12_code
def yX3_followChoices : MethodName := ⟨RX3, "followChoices", "()V"⟩
def RX4 : String := "SkiSchool$Pupil"
def TX4 : u_T := fun k => match k with
  | 0 => ("SkiSchool$Pupil", "present", "Z", false)
  | 1 => ("SkiSchool$Pupil", "level", "I", false)
  | 2 => ("SkiSchool$Pupil", "languages", "I", false)
  | 3 => ("SkiSchool$Pupil", "family", "I", false)
  | 4 => ("SkiSchool$Pupil", "group", "I", false)
  | 5 => ("SkiSchool$Pupil", "lastGraded", "I", false)
  | _ => ("SkiSchool$Pupil", "scores", "[I", true)
def tyX4 : Nat → FieldType := fun k => match k with
  | 0 => .boolean
  | 1 => .int
  | 2 => .int
  | 3 => .int
  | 4 => .int
  | 5 => .int
  | _ => .array .int
abbrev wsX40 : List Cond := u_ws RX4 TX4 7
theorem nmX4 : ∀ a, a < 7 → ∀ b, b < 7 → a ≠ b → (TX4 a).2.1 ≠ (TX4 b).2.1 := by decide +kernel
theorem tyX4_ok : ∀ k, k < 7 → parseFieldDescriptor (TX4 k).2.2.1 = some (tyX4 k) := by decide +kernel
abbrev cX4_init : ByteArray := prog_6_method_1_code
def yX4_init : MethodName := ⟨RX4, "<init>", "()V"⟩
abbrev cX4_enrol : ByteArray := prog_6_method_2_code
def yX4_enrol : MethodName := ⟨RX4, "enrol", "(III)V"⟩
abbrev cX4_isMember : ByteArray := prog_6_method_3_code
def yX4_isMember : MethodName := ⟨RX4, "isMember", "(I)Z"⟩
abbrev cX4_isIn : ByteArray := prog_6_method_4_code
def yX4_isIn : MethodName := ⟨RX4, "isIn", "(I)Z"⟩
abbrev cX4_clearScores : ByteArray := prog_6_method_5_code
def yX4_clearScores : MethodName := ⟨RX4, "clearScores", "()V"⟩
abbrev cX4_countScores : ByteArray := prog_6_method_6_code
def yX4_countScores : MethodName := ⟨RX4, "countScores", "()I"⟩
abbrev cX4_sumScores : ByteArray := prog_6_method_7_code
def yX4_sumScores : MethodName := ⟨RX4, "sumScores", "()I"⟩
abbrev cX4_lowestScore : ByteArray := prog_6_method_8_code
def yX4_lowestScore : MethodName := ⟨RX4, "lowestScore", "()I"⟩
def RX5 : String := "SkiSchool$Roster"
def TX5 : u_T := fun k => match k with
  | 0 => ("SkiSchool$Roster", "text", "[C", true)
  | 1 => ("SkiSchool$Roster", "length", "I", false)
  | 2 => ("SkiSchool$Roster", "at", "I", false)
  | 3 => ("SkiSchool$Roster", "kind", "C", false)
  | 4 => ("SkiSchool$Roster", "level", "I", false)
  | 5 => ("SkiSchool$Roster", "languages", "I", false)
  | 6 => ("SkiSchool$Roster", "family", "I", false)
  | 7 => ("SkiSchool$Roster", "language", "I", false)
  | 8 => ("SkiSchool$Roster", "capacity", "I", false)
  | 9 => ("SkiSchool$Roster", "lowest", "I", false)
  | 10 => ("SkiSchool$Roster", "highest", "I", false)
  | _ => ("SkiSchool$Roster", "wage", "I", false)
def tyX5 : Nat → FieldType := fun k => match k with
  | 0 => .array .char
  | 1 => .int
  | 2 => .int
  | 3 => .char
  | 4 => .int
  | 5 => .int
  | 6 => .int
  | 7 => .int
  | 8 => .int
  | 9 => .int
  | 10 => .int
  | _ => .int
abbrev wsX50 : List Cond := u_ws RX5 TX5 12
theorem nmX5 : ∀ a, a < 12 → ∀ b, b < 12 → a ≠ b → (TX5 a).2.1 ≠ (TX5 b).2.1 := by decide +kernel
theorem tyX5_ok : ∀ k, k < 12 → parseFieldDescriptor (TX5 k).2.2.1 = some (tyX5 k) := by decide +kernel
abbrev cX5_init : ByteArray := prog_7_method_1_code
def yX5_init : MethodName := ⟨RX5, "<init>", "()V"⟩
abbrev cX5_findFault : ByteArray := prog_7_method_2_code
def yX5_findFault : MethodName := ⟨RX5, "findFault", "()I"⟩
abbrev cX5_readEntry : ByteArray := prog_7_method_3_code
def yX5_readEntry : MethodName := ⟨RX5, "readEntry", "()Z"⟩
abbrev cX5_readPupil : ByteArray := prog_7_method_4_code
def yX5_readPupil : MethodName := ⟨RX5, "readPupil", "()Z"⟩
abbrev cX5_readGroup : ByteArray := prog_7_method_5_code
def yX5_readGroup : MethodName := ⟨RX5, "readGroup", "()Z"⟩
abbrev cX5_readInstructor : ByteArray := prog_7_method_6_code
def yX5_readInstructor : MethodName := ⟨RX5, "readInstructor", "()Z"⟩
abbrev cX5_readLanguages : ByteArray := prog_7_method_7_code
def yX5_readLanguages : MethodName := ⟨RX5, "readLanguages", "()Z"⟩
abbrev cX5_readWage : ByteArray := prog_7_method_8_code
def yX5_readWage : MethodName := ⟨RX5, "readWage", "()Z"⟩
abbrev cX5_readDigit : ByteArray := prog_7_method_9_code
def yX5_readDigit : MethodName := ⟨RX5, "readDigit", "(II)I"⟩
abbrev cX5_readLanguage : ByteArray := prog_7_method_10_code
def yX5_readLanguage : MethodName := ⟨RX5, "readLanguage", "(I)I"⟩
abbrev cX5_skip : ByteArray := prog_7_method_11_code
def yX5_skip : MethodName := ⟨RX5, "skip", "(C)Z"⟩
abbrev cX5_readSign : ByteArray := prog_7_method_12_code
def yX5_readSign : MethodName := ⟨RX5, "readSign", "(II)I"⟩
def RX6 : String := "SkiSchool$Simulation"
def TX6 : u_T := fun k => match k with
  | 0 => ("SkiSchool$Simulation", "persons", "[I", true)
  | 1 => ("SkiSchool$Simulation", "arrival", "[I", true)
  | 2 => ("SkiSchool$Simulation", "waited", "[I", true)
  | 3 => ("SkiSchool$Simulation", "rides", "[I", true)
  | 4 => ("SkiSchool$Simulation", "longest", "[I", true)
  | 5 => ("SkiSchool$Simulation", "taken", "[I", true)
  | 6 => ("SkiSchool$Simulation", "stop", "[I", true)
  | 7 => ("SkiSchool$Simulation", "waiting", "[I", true)
  | 8 => ("SkiSchool$Simulation", "queue", "[[I", true)
  | _ => ("SkiSchool$Simulation", "queued", "[I", true)
def tyX6 : Nat → FieldType := fun k => match k with
  | 0 => .array .int
  | 1 => .array .int
  | 2 => .array .int
  | 3 => .array .int
  | 4 => .array .int
  | 5 => .array .int
  | 6 => .array .int
  | 7 => .array .int
  | 8 => .array (.array .int)
  | _ => .array .int
abbrev wsX60 : List Cond := u_ws RX6 TX6 10
theorem nmX6 : ∀ a, a < 10 → ∀ b, b < 10 → a ≠ b → (TX6 a).2.1 ≠ (TX6 b).2.1 := by decide +kernel
theorem tyX6_ok : ∀ k, k < 10 → parseFieldDescriptor (TX6 k).2.2.1 = some (tyX6 k) := by decide +kernel
abbrev cX6_init : ByteArray := prog_8_method_1_code
def yX6_init : MethodName := ⟨RX6, "<init>", "()V"⟩
abbrev cX6_begin : ByteArray := prog_8_method_2_code
def yX6_begin : MethodName := ⟨RX6, "begin", "([LSkiSchool$Group;)V"⟩
abbrev cX6_run : ByteArray := prog_8_method_3_code
def yX6_run : MethodName := ⟨RX6, "run", "([LSkiSchool$Group;[LSkiSchool$Lift;II)V"⟩
abbrev cX6_joinQueues : ByteArray := prog_8_method_4_code
def yX6_joinQueues : MethodName := ⟨RX6, "joinQueues", "([LSkiSchool$Group;I)V"⟩
abbrev cX6_depart : ByteArray := prog_8_method_5_code
def yX6_depart : MethodName := ⟨RX6, "depart", "(ILSkiSchool$Lift;[LSkiSchool$Group;I)V"⟩
abbrev cX6_leaveQueue : ByteArray := prog_8_method_6_code
def yX6_leaveQueue : MethodName := ⟨RX6, "leaveQueue", "(I)V"⟩
abbrev cX6_completeRide : ByteArray := prog_8_method_7_code
def yX6_completeRide : MethodName := ⟨RX6, "completeRide", "(ILSkiSchool$Group;I)V"⟩
abbrev cX6_waitAMinute : ByteArray := prog_8_method_8_code
def yX6_waitAMinute : MethodName := ⟨RX6, "waitAMinute", "(I)V"⟩
def RX7 : String := "SkiSchool$Staffing"
def TX7 : u_T := fun k => match k with
  | 0 => ("SkiSchool$Staffing", "wanted", "[Z", true)
  | 1 => ("SkiSchool$Staffing", "best", "[I", true)
  | 2 => ("SkiSchool$Staffing", "trial", "[I", true)
  | _ => ("SkiSchool$Staffing", "cheapest", "I", false)
def tyX7 : Nat → FieldType := fun k => match k with
  | 0 => .array .boolean
  | 1 => .array .int
  | 2 => .array .int
  | _ => .int
abbrev wsX70 : List Cond := u_ws RX7 TX7 4
theorem nmX7 : ∀ a, a < 4 → ∀ b, b < 4 → a ≠ b → (TX7 a).2.1 ≠ (TX7 b).2.1 := by decide +kernel
theorem tyX7_ok : ∀ k, k < 4 → parseFieldDescriptor (TX7 k).2.2.1 = some (tyX7 k) := by decide +kernel
abbrev cX7_init : ByteArray := prog_9_method_1_code
def yX7_init : MethodName := ⟨RX7, "<init>", "()V"⟩
abbrev cX7_findBest : ByteArray := prog_9_method_2_code
def yX7_findBest : MethodName := ⟨RX7, "findBest", "([LSkiSchool$Group;[LSkiSchool$Instructor;)I"⟩
abbrev cX7_tryFrom : ByteArray := prog_9_method_3_code
def yX7_tryFrom : MethodName := ⟨RX7, "tryFrom", "(LSkiSchool$Staffing;III[LSkiSchool$Group;[LSkiSchool$Instructor;)V"⟩
def RX8 : String := "SkiSchool"
def TX8 : u_T := fun k => match k with
  | 0 => ("SkiSchool", "pupilAt", "[LSkiSchool$Pupil;", true)
  | 1 => ("SkiSchool", "groupAt", "[LSkiSchool$Group;", true)
  | 2 => ("SkiSchool", "instructorAt", "[LSkiSchool$Instructor;", true)
  | 3 => ("SkiSchool", "liftAt", "[LSkiSchool$Lift;", true)
  | 4 => ("SkiSchool", "together", "[Z", true)
  | 5 => ("SkiSchool", "planner", "LSkiSchool$Planner;", true)
  | 6 => ("SkiSchool", "staffing", "LSkiSchool$Staffing;", true)
  | 7 => ("SkiSchool", "simulation", "LSkiSchool$Simulation;", true)
  | 8 => ("SkiSchool", "roster", "LSkiSchool$Roster;", true)
  | 9 => ("SkiSchool", "liftCount", "I", false)
  | 10 => ("SkiSchool", "passMark", "I", false)
  | 11 => ("SkiSchool", "minimumMark", "I", false)
  | 12 => ("SkiSchool", "dropMark", "I", false)
  | _ => ("SkiSchool", "day", "I", false)
def tyX8 : Nat → FieldType := fun k => match k with
  | 0 => .array (.object "SkiSchool$Pupil")
  | 1 => .array (.object "SkiSchool$Group")
  | 2 => .array (.object "SkiSchool$Instructor")
  | 3 => .array (.object "SkiSchool$Lift")
  | 4 => .array .boolean
  | 5 => .object "SkiSchool$Planner"
  | 6 => .object "SkiSchool$Staffing"
  | 7 => .object "SkiSchool$Simulation"
  | 8 => .object "SkiSchool$Roster"
  | 9 => .int
  | 10 => .int
  | 11 => .int
  | 12 => .int
  | _ => .int
abbrev wsX80 : List Cond := u_ws RX8 TX8 14
theorem nmX8 : ∀ a, a < 14 → ∀ b, b < 14 → a ≠ b → (TX8 a).2.1 ≠ (TX8 b).2.1 := by decide +kernel
theorem tyX8_ok : ∀ k, k < 14 → parseFieldDescriptor (TX8 k).2.2.1 = some (tyX8 k) := by decide +kernel
abbrev cX8_init : ByteArray := prog_1_method_1_code
def yX8_init : MethodName := ⟨RX8, "<init>", "()V"⟩
abbrev cX8_addPupil : ByteArray := prog_1_method_2_code
def yX8_addPupil : MethodName := ⟨RX8, "addPupil", "(III)I"⟩
abbrev cX8_removePupil : ByteArray := prog_1_method_3_code
def yX8_removePupil : MethodName := ⟨RX8, "removePupil", "(I)I"⟩
abbrev cX8_pupils : ByteArray := prog_1_method_4_code
def yX8_pupils : MethodName := ⟨RX8, "pupils", "()I"⟩
abbrev cX8_level : ByteArray := prog_1_method_5_code
def yX8_level : MethodName := ⟨RX8, "level", "(I)I"⟩
abbrev cX8_languages : ByteArray := prog_1_method_6_code
def yX8_languages : MethodName := ⟨RX8, "languages", "(I)I"⟩
abbrev cX8_family : ByteArray := prog_1_method_7_code
def yX8_family : MethodName := ⟨RX8, "family", "(I)I"⟩
abbrev cX8_group : ByteArray := prog_1_method_8_code
def yX8_group : MethodName := ⟨RX8, "group", "(I)I"⟩
abbrev cX8_setTogether : ByteArray := prog_1_method_9_code
def yX8_setTogether : MethodName := ⟨RX8, "setTogether", "(IZ)I"⟩
abbrev cX8_spread : ByteArray := prog_1_method_10_code
def yX8_spread : MethodName := ⟨RX8, "spread", "(I)I"⟩
abbrev cX8_score : ByteArray := prog_1_method_11_code
def yX8_score : MethodName := ⟨RX8, "score", "(III)I"⟩
abbrev cX8_scoreOf : ByteArray := prog_1_method_12_code
def yX8_scoreOf : MethodName := ⟨RX8, "scoreOf", "(II)I"⟩
abbrev cX8_setMarks : ByteArray := prog_1_method_13_code
def yX8_setMarks : MethodName := ⟨RX8, "setMarks", "(III)I"⟩
abbrev cX8_grade : ByteArray := prog_1_method_14_code
def yX8_grade : MethodName := ⟨RX8, "grade", "(I)I"⟩
abbrev cX8_nextDay : ByteArray := prog_1_method_15_code
def yX8_nextDay : MethodName := ⟨RX8, "nextDay", "()I"⟩
abbrev cX8_openGroup : ByteArray := prog_1_method_16_code
def yX8_openGroup : MethodName := ⟨RX8, "openGroup", "(III)I"⟩
abbrev cX8_closeGroup : ByteArray := prog_1_method_17_code
def yX8_closeGroup : MethodName := ⟨RX8, "closeGroup", "(I)I"⟩
abbrev cX8_groups : ByteArray := prog_1_method_18_code
def yX8_groups : MethodName := ⟨RX8, "groups", "()I"⟩
abbrev cX8_groupLevel : ByteArray := prog_1_method_19_code
def yX8_groupLevel : MethodName := ⟨RX8, "groupLevel", "(I)I"⟩
abbrev cX8_size : ByteArray := prog_1_method_20_code
def yX8_size : MethodName := ⟨RX8, "size", "(I)I"⟩
abbrev cX8_instructor : ByteArray := prog_1_method_21_code
def yX8_instructor : MethodName := ⟨RX8, "instructor", "(I)I"⟩
abbrev cX8_assign : ByteArray := prog_1_method_22_code
def yX8_assign : MethodName := ⟨RX8, "assign", "()I"⟩
abbrev cX8_placed : ByteArray := prog_1_method_23_code
def yX8_placed : MethodName := ⟨RX8, "placed", "()I"⟩
abbrev cX8_outOfLevel : ByteArray := prog_1_method_24_code
def yX8_outOfLevel : MethodName := ⟨RX8, "outOfLevel", "()I"⟩
abbrev cX8_extraPlaced : ByteArray := prog_1_method_25_code
def yX8_extraPlaced : MethodName := ⟨RX8, "extraPlaced", "(III)I"⟩
abbrev cX8_splitGain : ByteArray := prog_1_method_26_code
def yX8_splitGain : MethodName := ⟨RX8, "splitGain", "(I)I"⟩
abbrev cX8_hire : ByteArray := prog_1_method_27_code
def yX8_hire : MethodName := ⟨RX8, "hire", "(IIII)I"⟩
abbrev cX8_dismiss : ByteArray := prog_1_method_28_code
def yX8_dismiss : MethodName := ⟨RX8, "dismiss", "(I)I"⟩
abbrev cX8_instructors : ByteArray := prog_1_method_29_code
def yX8_instructors : MethodName := ⟨RX8, "instructors", "()I"⟩
abbrev cX8_canTeach : ByteArray := prog_1_method_30_code
def yX8_canTeach : MethodName := ⟨RX8, "canTeach", "(II)I"⟩
abbrev cX8_staff : ByteArray := prog_1_method_31_code
def yX8_staff : MethodName := ⟨RX8, "staff", "()I"⟩
abbrev cX8_pay : ByteArray := prog_1_method_32_code
def yX8_pay : MethodName := ⟨RX8, "pay", "(I)I"⟩
abbrev cX8_earnings : ByteArray := prog_1_method_33_code
def yX8_earnings : MethodName := ⟨RX8, "earnings", "(I)I"⟩
abbrev cX8_addLift : ByteArray := prog_1_method_34_code
def yX8_addLift : MethodName := ⟨RX8, "addLift", "(III)I"⟩
abbrev cX8_addStop : ByteArray := prog_1_method_35_code
def yX8_addStop : MethodName := ⟨RX8, "addStop", "(III)I"⟩
abbrev cX8_clearStops : ByteArray := prog_1_method_36_code
def yX8_clearStops : MethodName := ⟨RX8, "clearStops", "(I)I"⟩
abbrev cX8_setStart : ByteArray := prog_1_method_37_code
def yX8_setStart : MethodName := ⟨RX8, "setStart", "(II)I"⟩
abbrev cX8_simulate : ByteArray := prog_1_method_38_code
def yX8_simulate : MethodName := ⟨RX8, "simulate", "(I)I"⟩
abbrev cX8_waited : ByteArray := prog_1_method_39_code
def yX8_waited : MethodName := ⟨RX8, "waited", "(I)I"⟩
abbrev cX8_rides : ByteArray := prog_1_method_40_code
def yX8_rides : MethodName := ⟨RX8, "rides", "(I)I"⟩
abbrev cX8_longestQueue : ByteArray := prog_1_method_41_code
def yX8_longestQueue : MethodName := ⟨RX8, "longestQueue", "(I)I"⟩
abbrev cX8_carried : ByteArray := prog_1_method_42_code
def yX8_carried : MethodName := ⟨RX8, "carried", "(I)I"⟩
abbrev cX8_bestStart : ByteArray := prog_1_method_43_code
def yX8_bestStart : MethodName := ⟨RX8, "bestStart", "(II)I"⟩
abbrev cX8_type : ByteArray := prog_1_method_44_code
def yX8_type : MethodName := ⟨RX8, "type", "(I)I"⟩
abbrev cX8_clearText : ByteArray := prog_1_method_45_code
def yX8_clearText : MethodName := ⟨RX8, "clearText", "()I"⟩
abbrev cX8_load : ByteArray := prog_1_method_46_code
def yX8_load : MethodName := ⟨RX8, "load", "()I"⟩
abbrev cX8_digest : ByteArray := prog_1_method_47_code
def yX8_digest : MethodName := ⟨RX8, "digest", "()J"⟩
abbrev cX8_mix : ByteArray := prog_1_method_48_code
def yX8_mix : MethodName := ⟨RX8, "mix", "(JI)J"⟩
abbrev cX8_mixPupils : ByteArray := prog_1_method_49_code
def yX8_mixPupils : MethodName := ⟨RX8, "mixPupils", "(J)J"⟩
abbrev cX8_mixGroups : ByteArray := prog_1_method_50_code
def yX8_mixGroups : MethodName := ⟨RX8, "mixGroups", "(J)J"⟩
abbrev cX8_mixInstructorsAndLifts : ByteArray := prog_1_method_51_code
def yX8_mixInstructorsAndLifts : MethodName := ⟨RX8, "mixInstructorsAndLifts", "(J)J"⟩
abbrev cX8_within : ByteArray := prog_1_method_52_code
def yX8_within : MethodName := ⟨RX8, "within", "(III)Z"⟩
abbrev cX8_isFamily : ByteArray := prog_1_method_53_code
def yX8_isFamily : MethodName := ⟨RX8, "isFamily", "(I)Z"⟩
abbrev cX8_isExercise : ByteArray := prog_1_method_54_code
def yX8_isExercise : MethodName := ⟨RX8, "isExercise", "(I)Z"⟩
abbrev cX8_isGroupKind : ByteArray := prog_1_method_55_code
def yX8_isGroupKind : MethodName := ⟨RX8, "isGroupKind", "(III)Z"⟩
abbrev cX8_hasPupil : ByteArray := prog_1_method_56_code
def yX8_hasPupil : MethodName := ⟨RX8, "hasPupil", "(I)Z"⟩
abbrev cX8_hasGroup : ByteArray := prog_1_method_57_code
def yX8_hasGroup : MethodName := ⟨RX8, "hasGroup", "(I)Z"⟩
abbrev cX8_hasInstructor : ByteArray := prog_1_method_58_code
def yX8_hasInstructor : MethodName := ⟨RX8, "hasInstructor", "(I)Z"⟩
abbrev cX8_hasLift : ByteArray := prog_1_method_59_code
def yX8_hasLift : MethodName := ⟨RX8, "hasLift", "(I)Z"⟩
abbrev cX8_freePupilNumber : ByteArray := prog_1_method_60_code
def yX8_freePupilNumber : MethodName := ⟨RX8, "freePupilNumber", "()I"⟩
abbrev cX8_freeGroupNumber : ByteArray := prog_1_method_61_code
def yX8_freeGroupNumber : MethodName := ⟨RX8, "freeGroupNumber", "()I"⟩
abbrev cX8_freeInstructorNumber : ByteArray := prog_1_method_62_code
def yX8_freeInstructorNumber : MethodName := ⟨RX8, "freeInstructorNumber", "()I"⟩
abbrev cX8_separateIfBroken : ByteArray := prog_1_method_63_code
def yX8_separateIfBroken : MethodName := ⟨RX8, "separateIfBroken", "(I)I"⟩
abbrev cX8_isInOnePlace : ByteArray := prog_1_method_64_code
def yX8_isInOnePlace : MethodName := ⟨RX8, "isInOnePlace", "(I)Z"⟩
abbrev cX8_levelAfterTest : ByteArray := prog_1_method_65_code
def yX8_levelAfterTest : MethodName := ⟨RX8, "levelAfterTest", "(LSkiSchool$Pupil;)I"⟩
abbrev cX8_countPupilsIn : ByteArray := prog_1_method_66_code
def yX8_countPupilsIn : MethodName := ⟨RX8, "countPupilsIn", "(I)I"⟩
abbrev cX8_isActive : ByteArray := prog_1_method_67_code
def yX8_isActive : MethodName := ⟨RX8, "isActive", "(I)Z"⟩
abbrev cX8_isPaid : ByteArray := prog_1_method_68_code
def yX8_isPaid : MethodName := ⟨RX8, "isPaid", "(I)Z"⟩
abbrev cX8_takesPart : ByteArray := prog_1_method_69_code
def yX8_takesPart : MethodName := ⟨RX8, "takesPart", "(I)Z"⟩
abbrev cX8_countPersons : ByteArray := prog_1_method_70_code
def yX8_countPersons : MethodName := ⟨RX8, "countPersons", "()V"⟩
abbrev cX8_keepResults : ByteArray := prog_1_method_71_code
def yX8_keepResults : MethodName := ⟨RX8, "keepResults", "()V"⟩
abbrev cX8_carryOutEntry : ByteArray := prog_1_method_72_code
def yX8_carryOutEntry : MethodName := ⟨RX8, "carryOutEntry", "()I"⟩
def RX9 : String := "SkiSchoolModel"
def TX9 : u_T := fun k => match k with
  | 0 => ("SkiSchoolModel", "day", "I", false)
  | 1 => ("SkiSchoolModel", "passMark", "I", false)
  | 2 => ("SkiSchoolModel", "minimum", "I", false)
  | 3 => ("SkiSchoolModel", "dropMark", "I", false)
  | 4 => ("SkiSchoolModel", "isPupil", "[I", true)
  | 5 => ("SkiSchoolModel", "pupilLevel", "[I", true)
  | 6 => ("SkiSchoolModel", "pupilLanguages", "[I", true)
  | 7 => ("SkiSchoolModel", "pupilFamily", "[I", true)
  | 8 => ("SkiSchoolModel", "pupilGroup", "[I", true)
  | 9 => ("SkiSchoolModel", "scores", "[I", true)
  | 10 => ("SkiSchoolModel", "gradedOn", "[I", true)
  | 11 => ("SkiSchoolModel", "isTogether", "[I", true)
  | 12 => ("SkiSchoolModel", "isGroup", "[I", true)
  | 13 => ("SkiSchoolModel", "levelOfGroup", "[I", true)
  | 14 => ("SkiSchoolModel", "language", "[I", true)
  | 15 => ("SkiSchoolModel", "capacity", "[I", true)
  | 16 => ("SkiSchoolModel", "instructorOf", "[I", true)
  | 17 => ("SkiSchoolModel", "start", "[I", true)
  | 18 => ("SkiSchoolModel", "stops", "[I", true)
  | 19 => ("SkiSchoolModel", "stopLift", "[I", true)
  | 20 => ("SkiSchoolModel", "stopSlope", "[I", true)
  | 21 => ("SkiSchoolModel", "isInstructor", "[I", true)
  | 22 => ("SkiSchoolModel", "teaches", "[I", true)
  | 23 => ("SkiSchoolModel", "lowest", "[I", true)
  | 24 => ("SkiSchoolModel", "highest", "[I", true)
  | 25 => ("SkiSchoolModel", "wage", "[I", true)
  | 26 => ("SkiSchoolModel", "earned", "[I", true)
  | 27 => ("SkiSchoolModel", "lifts", "I", false)
  | 28 => ("SkiSchoolModel", "seats", "[I", true)
  | 29 => ("SkiSchoolModel", "interval", "[I", true)
  | 30 => ("SkiSchoolModel", "ride", "[I", true)
  | 31 => ("SkiSchoolModel", "waitedBy", "[I", true)
  | 32 => ("SkiSchoolModel", "ridesOf", "[I", true)
  | 33 => ("SkiSchoolModel", "longest", "[I", true)
  | 34 => ("SkiSchoolModel", "carriedBy", "[I", true)
  | 35 => ("SkiSchoolModel", "text", "[I", true)
  | 36 => ("SkiSchoolModel", "textLength", "I", false)
  | 37 => ("SkiSchoolModel", "units", "I", false)
  | 38 => ("SkiSchoolModel", "unitSize", "[I", true)
  | 39 => ("SkiSchoolModel", "unitOf", "[I", true)
  | 40 => ("SkiSchoolModel", "outsIn", "[I", true)
  | 41 => ("SkiSchoolModel", "worth", "[I", true)
  | 42 => ("SkiSchoolModel", "planLevel", "[I", true)
  | 43 => ("SkiSchoolModel", "planLanguage", "[I", true)
  | 44 => ("SkiSchoolModel", "planPlaces", "[I", true)
  | 45 => ("SkiSchoolModel", "unitGroup", "[I", true)
  | 46 => ("SkiSchoolModel", "persons", "[I", true)
  | 47 => ("SkiSchoolModel", "waiting", "[I", true)
  | 48 => ("SkiSchoolModel", "arrival", "[I", true)
  | 49 => ("SkiSchoolModel", "current", "[I", true)
  | 50 => ("SkiSchoolModel", "queue", "[I", true)
  | 51 => ("SkiSchoolModel", "queued", "[I", true)
  | 52 => ("SkiSchoolModel", "newWaited", "[I", true)
  | 53 => ("SkiSchoolModel", "newRides", "[I", true)
  | 54 => ("SkiSchoolModel", "newLongest", "[I", true)
  | 55 => ("SkiSchoolModel", "newCarried", "[I", true)
  | 56 => ("SkiSchoolModel", "place", "I", false)
  | 57 => ("SkiSchoolModel", "readSet", "I", false)
  | 58 => ("SkiSchoolModel", "readFirst", "I", false)
  | 59 => ("SkiSchoolModel", "readSecond", "I", false)
  | _ => ("SkiSchoolModel", "readNumber", "I", false)
def tyX9 : Nat → FieldType := fun k => match k with
  | 0 => .int
  | 1 => .int
  | 2 => .int
  | 3 => .int
  | 4 => .array .int
  | 5 => .array .int
  | 6 => .array .int
  | 7 => .array .int
  | 8 => .array .int
  | 9 => .array .int
  | 10 => .array .int
  | 11 => .array .int
  | 12 => .array .int
  | 13 => .array .int
  | 14 => .array .int
  | 15 => .array .int
  | 16 => .array .int
  | 17 => .array .int
  | 18 => .array .int
  | 19 => .array .int
  | 20 => .array .int
  | 21 => .array .int
  | 22 => .array .int
  | 23 => .array .int
  | 24 => .array .int
  | 25 => .array .int
  | 26 => .array .int
  | 27 => .int
  | 28 => .array .int
  | 29 => .array .int
  | 30 => .array .int
  | 31 => .array .int
  | 32 => .array .int
  | 33 => .array .int
  | 34 => .array .int
  | 35 => .array .int
  | 36 => .int
  | 37 => .int
  | 38 => .array .int
  | 39 => .array .int
  | 40 => .array .int
  | 41 => .array .int
  | 42 => .array .int
  | 43 => .array .int
  | 44 => .array .int
  | 45 => .array .int
  | 46 => .array .int
  | 47 => .array .int
  | 48 => .array .int
  | 49 => .array .int
  | 50 => .array .int
  | 51 => .array .int
  | 52 => .array .int
  | 53 => .array .int
  | 54 => .array .int
  | 55 => .array .int
  | 56 => .int
  | 57 => .int
  | 58 => .int
  | 59 => .int
  | _ => .int
abbrev wsX90 : List Cond := u_ws RX9 TX9 61
theorem nmX9 : ∀ a, a < 61 → ∀ b, b < 61 → a ≠ b → (TX9 a).2.1 ≠ (TX9 b).2.1 := by decide +kernel
theorem tyX9_ok : ∀ k, k < 61 → parseFieldDescriptor (TX9 k).2.2.1 = some (tyX9 k) := by decide +kernel
abbrev cX9_init : ByteArray := prog_11_method_1_code
def yX9_init : MethodName := ⟨RX9, "<init>", "()V"⟩
abbrev cX9_within : ByteArray := prog_11_method_3_code
def yX9_within : MethodName := ⟨RX9, "within", "(III)Z"⟩
abbrev cX9_hasPupil : ByteArray := prog_11_method_4_code
def yX9_hasPupil : MethodName := ⟨RX9, "hasPupil", "(I)Z"⟩
abbrev cX9_isLevel : ByteArray := prog_11_method_5_code
def yX9_isLevel : MethodName := ⟨RX9, "isLevel", "(I)Z"⟩
abbrev cX9_isLanguages : ByteArray := prog_11_method_6_code
def yX9_isLanguages : MethodName := ⟨RX9, "isLanguages", "(I)Z"⟩
abbrev cX9_isFamily : ByteArray := prog_11_method_7_code
def yX9_isFamily : MethodName := ⟨RX9, "isFamily", "(I)Z"⟩
abbrev cX9_isOf : ByteArray := prog_11_method_8_code
def yX9_isOf : MethodName := ⟨RX9, "isOf", "(II)Z"⟩
abbrev cX9_leaveAll : ByteArray := prog_11_method_9_code
def yX9_leaveAll : MethodName := ⟨RX9, "leaveAll", "(I)I"⟩
abbrev cX9_keepRule : ByteArray := prog_11_method_10_code
def yX9_keepRule : MethodName := ⟨RX9, "keepRule", "(I)I"⟩
abbrev cX9_pupilMany : ByteArray := prog_11_method_11_code
def yX9_pupilMany : MethodName := ⟨RX9, "pupilMany", "()I"⟩
abbrev cX9_addPupil : ByteArray := prog_11_method_12_code
def yX9_addPupil : MethodName := ⟨RX9, "addPupil", "(III)I"⟩
abbrev cX9_removePupil : ByteArray := prog_11_method_13_code
def yX9_removePupil : MethodName := ⟨RX9, "removePupil", "(I)I"⟩
abbrev cX9_pupils : ByteArray := prog_11_method_14_code
def yX9_pupils : MethodName := ⟨RX9, "pupils", "()I"⟩
abbrev cX9_level : ByteArray := prog_11_method_15_code
def yX9_level : MethodName := ⟨RX9, "level", "(I)I"⟩
abbrev cX9_languages : ByteArray := prog_11_method_16_code
def yX9_languages : MethodName := ⟨RX9, "languages", "(I)I"⟩
abbrev cX9_family : ByteArray := prog_11_method_17_code
def yX9_family : MethodName := ⟨RX9, "family", "(I)I"⟩
abbrev cX9_group : ByteArray := prog_11_method_18_code
def yX9_group : MethodName := ⟨RX9, "group", "(I)I"⟩
abbrev cX9_setTogether : ByteArray := prog_11_method_19_code
def yX9_setTogether : MethodName := ⟨RX9, "setTogether", "(IZ)I"⟩
abbrev cX9_spreadOf : ByteArray := prog_11_method_20_code
def yX9_spreadOf : MethodName := ⟨RX9, "spreadOf", "(I)I"⟩
abbrev cX9_spread : ByteArray := prog_11_method_21_code
def yX9_spread : MethodName := ⟨RX9, "spread", "(I)I"⟩
abbrev cX9_isExercise : ByteArray := prog_11_method_22_code
def yX9_isExercise : MethodName := ⟨RX9, "isExercise", "(I)Z"⟩
abbrev cX9_scoreMany : ByteArray := prog_11_method_23_code
def yX9_scoreMany : MethodName := ⟨RX9, "scoreMany", "(I)I"⟩
abbrev cX9_score : ByteArray := prog_11_method_24_code
def yX9_score : MethodName := ⟨RX9, "score", "(III)I"⟩
abbrev cX9_scoreOf : ByteArray := prog_11_method_25_code
def yX9_scoreOf : MethodName := ⟨RX9, "scoreOf", "(II)I"⟩
abbrev cX9_setMarks : ByteArray := prog_11_method_26_code
def yX9_setMarks : MethodName := ⟨RX9, "setMarks", "(III)I"⟩
abbrev cX9_grade : ByteArray := prog_11_method_27_code
def yX9_grade : MethodName := ⟨RX9, "grade", "(I)I"⟩
abbrev cX9_nextDay : ByteArray := prog_11_method_28_code
def yX9_nextDay : MethodName := ⟨RX9, "nextDay", "()I"⟩
abbrev cX9_hasGroup : ByteArray := prog_11_method_29_code
def yX9_hasGroup : MethodName := ⟨RX9, "hasGroup", "(I)Z"⟩
abbrev cX9_isFitting : ByteArray := prog_11_method_30_code
def yX9_isFitting : MethodName := ⟨RX9, "isFitting", "(III)Z"⟩
abbrev cX9_areOfGroup : ByteArray := prog_11_method_31_code
def yX9_areOfGroup : MethodName := ⟨RX9, "areOfGroup", "(III)Z"⟩
abbrev cX9_groupMany : ByteArray := prog_11_method_32_code
def yX9_groupMany : MethodName := ⟨RX9, "groupMany", "()I"⟩
abbrev cX9_freeGroup : ByteArray := prog_11_method_33_code
def yX9_freeGroup : MethodName := ⟨RX9, "freeGroup", "()I"⟩
abbrev cX9_openGroup : ByteArray := prog_11_method_34_code
def yX9_openGroup : MethodName := ⟨RX9, "openGroup", "(III)I"⟩
abbrev cX9_sizeOf : ByteArray := prog_11_method_35_code
def yX9_sizeOf : MethodName := ⟨RX9, "sizeOf", "(I)I"⟩
abbrev cX9_isActive : ByteArray := prog_11_method_36_code
def yX9_isActive : MethodName := ⟨RX9, "isActive", "(I)Z"⟩
abbrev cX9_closeGroup : ByteArray := prog_11_method_37_code
def yX9_closeGroup : MethodName := ⟨RX9, "closeGroup", "(I)I"⟩
abbrev cX9_groups : ByteArray := prog_11_method_38_code
def yX9_groups : MethodName := ⟨RX9, "groups", "()I"⟩
abbrev cX9_groupLevel : ByteArray := prog_11_method_39_code
def yX9_groupLevel : MethodName := ⟨RX9, "groupLevel", "(I)I"⟩
abbrev cX9_size : ByteArray := prog_11_method_40_code
def yX9_size : MethodName := ⟨RX9, "size", "(I)I"⟩
abbrev cX9_instructor : ByteArray := prog_11_method_41_code
def yX9_instructor : MethodName := ⟨RX9, "instructor", "(I)I"⟩
abbrev cX9_power : ByteArray := prog_11_method_42_code
def yX9_power : MethodName := ⟨RX9, "power", "(I)I"⟩
abbrev cX9_planGroups : ByteArray := prog_11_method_43_code
def yX9_planGroups : MethodName := ⟨RX9, "planGroups", "()V"⟩
abbrev cX9_findUnits : ByteArray := prog_11_method_44_code
def yX9_findUnits : MethodName := ⟨RX9, "findUnits", "(I)V"⟩
abbrev cX9_addOut : ByteArray := prog_11_method_45_code
def yX9_addOut : MethodName := ⟨RX9, "addOut", "(III)V"⟩
abbrev cX9_mayGet : ByteArray := prog_11_method_46_code
def yX9_mayGet : MethodName := ⟨RX9, "mayGet", "(III)Z"⟩
abbrev cX9_worthOf : ByteArray := prog_11_method_47_code
def yX9_worthOf : MethodName := ⟨RX9, "worthOf", "(III)I"⟩
abbrev cX9_plan : ByteArray := prog_11_method_48_code
def yX9_plan : MethodName := ⟨RX9, "plan", "(I)I"⟩
abbrev cX9_assign : ByteArray := prog_11_method_49_code
def yX9_assign : MethodName := ⟨RX9, "assign", "()I"⟩
abbrev cX9_placedMany : ByteArray := prog_11_method_50_code
def yX9_placedMany : MethodName := ⟨RX9, "placedMany", "()I"⟩
abbrev cX9_placed : ByteArray := prog_11_method_51_code
def yX9_placed : MethodName := ⟨RX9, "placed", "()I"⟩
abbrev cX9_outMany : ByteArray := prog_11_method_52_code
def yX9_outMany : MethodName := ⟨RX9, "outMany", "()I"⟩
abbrev cX9_outOfLevel : ByteArray := prog_11_method_53_code
def yX9_outOfLevel : MethodName := ⟨RX9, "outOfLevel", "()I"⟩
abbrev cX9_extraPlaced : ByteArray := prog_11_method_54_code
def yX9_extraPlaced : MethodName := ⟨RX9, "extraPlaced", "(III)I"⟩
abbrev cX9_splitGain : ByteArray := prog_11_method_55_code
def yX9_splitGain : MethodName := ⟨RX9, "splitGain", "(I)I"⟩
abbrev cX9_hasInstructor : ByteArray := prog_11_method_56_code
def yX9_hasInstructor : MethodName := ⟨RX9, "hasInstructor", "(I)Z"⟩
abbrev cX9_instructorMany : ByteArray := prog_11_method_57_code
def yX9_instructorMany : MethodName := ⟨RX9, "instructorMany", "()I"⟩
abbrev cX9_hire : ByteArray := prog_11_method_58_code
def yX9_hire : MethodName := ⟨RX9, "hire", "(IIII)I"⟩
abbrev cX9_dismiss : ByteArray := prog_11_method_59_code
def yX9_dismiss : MethodName := ⟨RX9, "dismiss", "(I)I"⟩
abbrev cX9_instructors : ByteArray := prog_11_method_60_code
def yX9_instructors : MethodName := ⟨RX9, "instructors", "()I"⟩
abbrev cX9_isTeaching : ByteArray := prog_11_method_61_code
def yX9_isTeaching : MethodName := ⟨RX9, "isTeaching", "(II)Z"⟩
abbrev cX9_canTeach : ByteArray := prog_11_method_62_code
def yX9_canTeach : MethodName := ⟨RX9, "canTeach", "(II)I"⟩
abbrev cX9_staffIn : ByteArray := prog_11_method_63_code
def yX9_staffIn : MethodName := ⟨RX9, "staffIn", "(II)I"⟩
abbrev cX9_costOf : ByteArray := prog_11_method_64_code
def yX9_costOf : MethodName := ⟨RX9, "costOf", "(I)I"⟩
abbrev cX9_staff : ByteArray := prog_11_method_65_code
def yX9_staff : MethodName := ⟨RX9, "staff", "()I"⟩
abbrev cX9_pay : ByteArray := prog_11_method_66_code
def yX9_pay : MethodName := ⟨RX9, "pay", "(I)I"⟩
abbrev cX9_earnings : ByteArray := prog_11_method_67_code
def yX9_earnings : MethodName := ⟨RX9, "earnings", "(I)I"⟩
abbrev cX9_hasLift : ByteArray := prog_11_method_68_code
def yX9_hasLift : MethodName := ⟨RX9, "hasLift", "(I)Z"⟩
abbrev cX9_addLift : ByteArray := prog_11_method_69_code
def yX9_addLift : MethodName := ⟨RX9, "addLift", "(III)I"⟩
abbrev cX9_addStop : ByteArray := prog_11_method_70_code
def yX9_addStop : MethodName := ⟨RX9, "addStop", "(III)I"⟩
abbrev cX9_clearStops : ByteArray := prog_11_method_71_code
def yX9_clearStops : MethodName := ⟨RX9, "clearStops", "(I)I"⟩
abbrev cX9_setStart : ByteArray := prog_11_method_72_code
def yX9_setStart : MethodName := ⟨RX9, "setStart", "(II)I"⟩
abbrev cX9_takesPart : ByteArray := prog_11_method_73_code
def yX9_takesPart : MethodName := ⟨RX9, "takesPart", "(I)Z"⟩
abbrev cX9_begin : ByteArray := prog_11_method_74_code
def yX9_begin : MethodName := ⟨RX9, "begin", "()V"⟩
abbrev cX9_leave : ByteArray := prog_11_method_75_code
def yX9_leave : MethodName := ⟨RX9, "leave", "(II)V"⟩
abbrev cX9_depart : ByteArray := prog_11_method_76_code
def yX9_depart : MethodName := ⟨RX9, "depart", "(II)V"⟩
abbrev cX9_goThrough : ByteArray := prog_11_method_77_code
def yX9_goThrough : MethodName := ⟨RX9, "goThrough", "(I)V"⟩
abbrev cX9_isTime : ByteArray := prog_11_method_78_code
def yX9_isTime : MethodName := ⟨RX9, "isTime", "(I)Z"⟩
abbrev cX9_simulate : ByteArray := prog_11_method_79_code
def yX9_simulate : MethodName := ⟨RX9, "simulate", "(I)I"⟩
abbrev cX9_waited : ByteArray := prog_11_method_80_code
def yX9_waited : MethodName := ⟨RX9, "waited", "(I)I"⟩
abbrev cX9_rides : ByteArray := prog_11_method_81_code
def yX9_rides : MethodName := ⟨RX9, "rides", "(I)I"⟩
abbrev cX9_longestQueue : ByteArray := prog_11_method_82_code
def yX9_longestQueue : MethodName := ⟨RX9, "longestQueue", "(I)I"⟩
abbrev cX9_carried : ByteArray := prog_11_method_83_code
def yX9_carried : MethodName := ⟨RX9, "carried", "(I)I"⟩
abbrev cX9_bestStart : ByteArray := prog_11_method_84_code
def yX9_bestStart : MethodName := ⟨RX9, "bestStart", "(II)I"⟩
abbrev cX9_type : ByteArray := prog_11_method_85_code
def yX9_type : MethodName := ⟨RX9, "type", "(I)I"⟩
abbrev cX9_clearText : ByteArray := prog_11_method_86_code
def yX9_clearText : MethodName := ⟨RX9, "clearText", "()I"⟩
abbrev cX9_next : ByteArray := prog_11_method_87_code
def yX9_next : MethodName := ⟨RX9, "next", "()I"⟩
abbrev cX9_takes : ByteArray := prog_11_method_88_code
def yX9_takes : MethodName := ⟨RX9, "takes", "(I)Z"⟩
abbrev cX9_readsDigit : ByteArray := prog_11_method_89_code
def yX9_readsDigit : MethodName := ⟨RX9, "readsDigit", "(II)Z"⟩
abbrev cX9_readsSet : ByteArray := prog_11_method_90_code
def yX9_readsSet : MethodName := ⟨RX9, "readsSet", "()Z"⟩
abbrev cX9_readsWage : ByteArray := prog_11_method_91_code
def yX9_readsWage : MethodName := ⟨RX9, "readsWage", "()Z"⟩
abbrev cX9_readsPupil : ByteArray := prog_11_method_92_code
def yX9_readsPupil : MethodName := ⟨RX9, "readsPupil", "()Z"⟩
abbrev cX9_readsGroup : ByteArray := prog_11_method_93_code
def yX9_readsGroup : MethodName := ⟨RX9, "readsGroup", "()Z"⟩
abbrev cX9_readsInstructor : ByteArray := prog_11_method_94_code
def yX9_readsInstructor : MethodName := ⟨RX9, "readsInstructor", "()Z"⟩
abbrev cX9_entry : ByteArray := prog_11_method_95_code
def yX9_entry : MethodName := ⟨RX9, "entry", "(Z)I"⟩
abbrev cX9_load : ByteArray := prog_11_method_96_code
def yX9_load : MethodName := ⟨RX9, "load", "()I"⟩
abbrev cX9_digest : ByteArray := prog_11_method_97_code
def yX9_digest : MethodName := ⟨RX9, "digest", "()J"⟩
def RJ9 : String := "java/lang/Math"
def TJ9 : u_T := fun k => match k with
  | _ => ("", "", "", false)
def tyJ9 : Nat → FieldType := fun k => match k with
  | _ => .int
abbrev wsJ90 : List Cond := u_ws RJ9 TJ9 0
theorem nmJ9 : ∀ a, a < 0 → ∀ b, b < 0 → a ≠ b → (TJ9 a).2.1 ≠ (TJ9 b).2.1 := by decide +kernel
theorem tyJ9_ok : ∀ k, k < 0 → parseFieldDescriptor (TJ9 k).2.2.1 = some (tyJ9 k) := by decide +kernel
abbrev cJ9_abs_0f7a4 : ByteArray := prog_12_method_59_code
def yJ9_abs_0f7a4 : MethodName := ⟨RJ9, "abs", "(I)I"⟩
abbrev cJ9_max_7cf53 : ByteArray := prog_12_method_65_code
def yJ9_max_7cf53 : MethodName := ⟨RJ9, "max", "(II)I"⟩
abbrev cJ9_min_7cf53 : ByteArray := prog_12_method_69_code
def yJ9_min_7cf53 : MethodName := ⟨RJ9, "min", "(II)I"⟩
def RJ10 : String := "java/lang/System"
def TJ10 : u_T := fun k => match k with
  | _ => ("", "", "", false)
def tyJ10 : Nat → FieldType := fun k => match k with
  | _ => .int
abbrev wsJ100 : List Cond := u_ws RJ10 TJ10 0
theorem nmJ10 : ∀ a, a < 0 → ∀ b, b < 0 → a ≠ b → (TJ10 a).2.1 ≠ (TJ10 b).2.1 := by decide +kernel
theorem tyJ10_ok : ∀ k, k < 0 → parseFieldDescriptor (TJ10 k).2.2.1 = some (tyJ10 k) := by decide +kernel
def RJ7 : String := "java/util/Arrays"
def TJ7 : u_T := fun k => match k with
  | _ => ("", "", "", false)
def tyJ7 : Nat → FieldType := fun k => match k with
  | _ => .int
abbrev wsJ70 : List Cond := u_ws RJ7 TJ7 0
theorem nmJ7 : ∀ a, a < 0 → ∀ b, b < 0 → a ≠ b → (TJ7 a).2.1 ≠ (TJ7 b).2.1 := by decide +kernel
theorem tyJ7_ok : ∀ k, k < 0 → parseFieldDescriptor (TJ7 k).2.2.1 = some (tyJ7 k) := by decide +kernel
abbrev cJ7_fill_53178 : ByteArray := prog_14_method_103_code
def yJ7_fill_53178 : MethodName := ⟨RJ7, "fill", "([II)V"⟩
def RL : String := "SkiSchoolLaw"
abbrev cL_law : ByteArray := code
def yL_law : MethodName := ⟨RL, "law", "([I)Z"⟩
abbrev vwCl : List vw_C := [(RX0, TX0, 11), (RX1, TX1, 6), (RX2, TX2, 5), (RX3, TX3, 13), (RX4, TX4, 7), (RX5, TX5, 12), (RX6, TX6, 10), (RX7, TX7, 4), (RX8, TX8, 14), (RX9, TX9, 61)]
end
section
/-! the allocation sites: number of the first cell, step, shape, count; by program (wip/whole/gen/sites.py) -/
def sk_base : Nat → Nat := fun s => match s with
  | 0 => 0
  | 1 => 1
  | 2 => 2
  | 3 => 3
  | 4 => 4
  | 5 => 5
  | 6 => 6
  | 7 => 7
  | 8 => 8
  | 9 => 9
  | 10 => 10
  | 11 => 30
  | 12 => 31
  | 13 => 32
  | 14 => 33
  | 15 => 34
  | 16 => 35
  | 17 => 36
  | 18 => 37
  | 19 => 38
  | 20 => 39
  | 21 => 40
  | 22 => 41
  | 23 => 42
  | 24 => 43
  | 25 => 44
  | 26 => 45
  | 27 => 46
  | 28 => 47
  | 29 => 48
  | 30 => 49
  | 31 => 50
  | 32 => 51
  | 33 => 52
  | 34 => 55
  | 35 => 56
  | 36 => 57
  | 37 => 58
  | 38 => 59
  | 39 => 98
  | 40 => 99
  | 41 => 100
  | 42 => 110
  | 43 => 118
  | 44 => 121
  | 45 => 122
  | 46 => 123
  | 47 => 124
  | 48 => 125
  | 49 => 126
  | 50 => 127
  | 51 => 128
  | 52 => 129
  | 53 => 130
  | 54 => 131
  | 55 => 132
  | 56 => 133
  | 57 => 134
  | 58 => 135
  | 59 => 136
  | 60 => 137
  | 61 => 138
  | 62 => 139
  | 63 => 140
  | 64 => 141
  | 65 => 142
  | 66 => 143
  | 67 => 144
  | 68 => 145
  | 69 => 146
  | 70 => 147
  | 71 => 148
  | 72 => 149
  | 73 => 150
  | 74 => 151
  | 75 => 152
  | 76 => 153
  | 77 => 154
  | 78 => 155
  | 79 => 156
  | 80 => 157
  | 81 => 158
  | 82 => 159
  | 83 => 160
  | 84 => 161
  | 85 => 162
  | 86 => 163
  | 87 => 164
  | 88 => 165
  | 89 => 166
  | 90 => 167
  | 91 => 168
  | 92 => 169
  | 93 => 170
  | _ => 0
def sk_step : Nat → Nat := fun s => match s with
  | 10 => 1
  | 33 => 1
  | 37 => 2
  | 38 => 2
  | 39 => 3
  | 40 => 3
  | 41 => 3
  | 42 => 1
  | 43 => 1
  | _ => 0
def sk_cnt : Nat → Nat := fun s => match s with
  | 0 => 1
  | 1 => 1
  | 2 => 1
  | 3 => 1
  | 4 => 1
  | 5 => 1
  | 6 => 1
  | 7 => 1
  | 8 => 1
  | 9 => 1
  | 10 => 20
  | 11 => 1
  | 12 => 1
  | 13 => 1
  | 14 => 1
  | 15 => 1
  | 16 => 1
  | 17 => 1
  | 18 => 1
  | 19 => 1
  | 20 => 1
  | 21 => 1
  | 22 => 1
  | 23 => 1
  | 24 => 1
  | 25 => 1
  | 26 => 1
  | 27 => 1
  | 28 => 1
  | 29 => 1
  | 30 => 1
  | 31 => 1
  | 32 => 1
  | 33 => 3
  | 34 => 1
  | 35 => 1
  | 36 => 1
  | 37 => 20
  | 38 => 20
  | 39 => 4
  | 40 => 4
  | 41 => 4
  | 42 => 8
  | 43 => 3
  | 44 => 1
  | 45 => 1
  | 46 => 1
  | 47 => 1
  | 48 => 1
  | 49 => 1
  | 50 => 1
  | 51 => 1
  | 52 => 1
  | 53 => 1
  | 54 => 1
  | 55 => 1
  | 56 => 1
  | 57 => 1
  | 58 => 1
  | 59 => 1
  | 60 => 1
  | 61 => 1
  | 62 => 1
  | 63 => 1
  | 64 => 1
  | 65 => 1
  | 66 => 1
  | 67 => 1
  | 68 => 1
  | 69 => 1
  | 70 => 1
  | 71 => 1
  | 72 => 1
  | 73 => 1
  | 74 => 1
  | 75 => 1
  | 76 => 1
  | 77 => 1
  | 78 => 1
  | 79 => 1
  | 80 => 1
  | 81 => 1
  | 82 => 1
  | 83 => 1
  | 84 => 1
  | 85 => 1
  | 86 => 1
  | 87 => 1
  | 88 => 1
  | 89 => 1
  | 90 => 1
  | 91 => 1
  | 92 => 1
  | 93 => 1
  | _ => 0
def sk_shp : Nat → Nat ⊕ (Nat × Nat) := fun s => match s with
  | 0 => .inl 8
  | 1 => .inr (5, 20)
  | 2 => .inr (6, 4)
  | 3 => .inr (7, 8)
  | 4 => .inr (8, 3)
  | 5 => .inr (2, 8)
  | 6 => .inl 3
  | 7 => .inr (0, 20)
  | 8 => .inr (0, 20)
  | 9 => .inr (4, 20)
  | 10 => .inr (0, 4)
  | 11 => .inr (0, 20)
  | 12 => .inr (0, 8)
  | 13 => .inr (0, 4)
  | 14 => .inr (0, 4)
  | 15 => .inr (0, 4)
  | 16 => .inr (0, 4)
  | 17 => .inr (0, 2401)
  | 18 => .inr (1, 2401)
  | 19 => .inl 7
  | 20 => .inr (2, 4)
  | 21 => .inr (0, 4)
  | 22 => .inr (0, 4)
  | 23 => .inl 6
  | 24 => .inr (0, 4)
  | 25 => .inr (0, 4)
  | 26 => .inr (0, 4)
  | 27 => .inr (0, 4)
  | 28 => .inr (0, 3)
  | 29 => .inr (0, 3)
  | 30 => .inr (0, 4)
  | 31 => .inr (0, 4)
  | 32 => .inr (4, 3)
  | 33 => .inr (0, 4)
  | 34 => .inr (0, 3)
  | 35 => .inl 5
  | 36 => .inr (3, 100)
  | 37 => .inl 4
  | 38 => .inr (0, 4)
  | 39 => .inl 0
  | 40 => .inr (0, 4)
  | 41 => .inr (0, 4)
  | 42 => .inl 1
  | 43 => .inl 2
  | 44 => .inl 9
  | 45 => .inr (0, 20)
  | 46 => .inr (0, 20)
  | 47 => .inr (0, 20)
  | 48 => .inr (0, 20)
  | 49 => .inr (0, 20)
  | 50 => .inr (0, 80)
  | 51 => .inr (0, 20)
  | 52 => .inr (0, 8)
  | 53 => .inr (0, 4)
  | 54 => .inr (0, 4)
  | 55 => .inr (0, 4)
  | 56 => .inr (0, 4)
  | 57 => .inr (0, 4)
  | 58 => .inr (0, 4)
  | 59 => .inr (0, 4)
  | 60 => .inr (0, 16)
  | 61 => .inr (0, 16)
  | 62 => .inr (0, 8)
  | 63 => .inr (0, 8)
  | 64 => .inr (0, 8)
  | 65 => .inr (0, 8)
  | 66 => .inr (0, 8)
  | 67 => .inr (0, 8)
  | 68 => .inr (0, 3)
  | 69 => .inr (0, 3)
  | 70 => .inr (0, 3)
  | 71 => .inr (0, 4)
  | 72 => .inr (0, 4)
  | 73 => .inr (0, 3)
  | 74 => .inr (0, 3)
  | 75 => .inr (0, 100)
  | 76 => .inr (0, 20)
  | 77 => .inr (0, 20)
  | 78 => .inr (0, 80)
  | 79 => .inr (0, 50421)
  | 80 => .inr (0, 4)
  | 81 => .inr (0, 4)
  | 82 => .inr (0, 4)
  | 83 => .inr (0, 20)
  | 84 => .inr (0, 4)
  | 85 => .inr (0, 4)
  | 86 => .inr (0, 4)
  | 87 => .inr (0, 4)
  | 88 => .inr (0, 12)
  | 89 => .inr (0, 3)
  | 90 => .inr (0, 4)
  | 91 => .inr (0, 4)
  | 92 => .inr (0, 3)
  | 93 => .inr (0, 3)
  | _ => .inr (9, 0)
def sk_refL : List (Nat × Nat) := [(0, 0), (1, 0), (2, 0), (3, 0), (4, 0), (5, 0), (6, 0), (7, 0), (8, 0), (9, 0), (10, 0), (10, 1), (10, 2), (10, 3), (10, 4), (10, 5), (10, 6), (10, 7), (10, 8), (10, 9), (10, 10), (10, 11), (10, 12), (10, 13), (10, 14), (10, 15), (10, 16), (10, 17), (10, 18), (10, 19), (11, 0), (12, 0), (13, 0), (14, 0), (15, 0), (16, 0), (17, 0), (18, 0), (19, 0), (20, 0), (21, 0), (22, 0), (23, 0), (24, 0), (25, 0), (26, 0), (27, 0), (28, 0), (29, 0), (30, 0), (31, 0), (32, 0), (33, 0), (33, 1), (33, 2), (34, 0), (35, 0), (36, 0), (37, 0), (38, 0), (37, 1), (38, 1), (37, 2), (38, 2), (37, 3), (38, 3), (37, 4), (38, 4), (37, 5), (38, 5), (37, 6), (38, 6), (37, 7), (38, 7), (37, 8), (38, 8), (37, 9), (38, 9), (37, 10), (38, 10), (37, 11), (38, 11), (37, 12), (38, 12), (37, 13), (38, 13), (37, 14), (38, 14), (37, 15), (38, 15), (37, 16), (38, 16), (37, 17), (38, 17), (37, 18), (38, 18), (37, 19), (38, 19), (39, 0), (40, 0), (41, 0), (39, 1), (40, 1), (41, 1), (39, 2), (40, 2), (41, 2), (39, 3), (40, 3), (41, 3), (42, 0), (42, 1), (42, 2), (42, 3), (42, 4), (42, 5), (42, 6), (42, 7), (43, 0), (43, 1), (43, 2), (44, 0), (45, 0), (46, 0), (47, 0), (48, 0), (49, 0), (50, 0), (51, 0), (52, 0), (53, 0), (54, 0), (55, 0), (56, 0), (57, 0), (58, 0), (59, 0), (60, 0), (61, 0), (62, 0), (63, 0), (64, 0), (65, 0), (66, 0), (67, 0), (68, 0), (69, 0), (70, 0), (71, 0), (72, 0), (73, 0), (74, 0), (75, 0), (76, 0), (77, 0), (78, 0), (79, 0), (80, 0), (81, 0), (82, 0), (83, 0), (84, 0), (85, 0), (86, 0), (87, 0), (88, 0), (89, 0), (90, 0), (91, 0), (92, 0), (93, 0)]
abbrev sk_N0 : Nat := 171
def sk_fn : Nat → Nat := fun s => match s with
  | 0 => 11
  | 1 => 6
  | 2 => 5
  | 3 => 13
  | 4 => 7
  | 5 => 12
  | 6 => 10
  | 7 => 4
  | 8 => 14
  | 9 => 61
  | _ => 0
def sk_fr : Nat → Nat → Bool := fun c f => match c with
  | 0 => [7, 8].elem f
  | 1 => false
  | 2 => false
  | 3 => [2, 3, 4, 5, 6, 7, 8, 9, 10, 11, 12].elem f
  | 4 => [6].elem f
  | 5 => [0].elem f
  | 6 => [0, 1, 2, 3, 4, 5, 6, 7, 8, 9].elem f
  | 7 => [0, 1, 2].elem f
  | 8 => [0, 1, 2, 3, 4, 5, 6, 7, 8].elem f
  | 9 => [4, 5, 6, 7, 8, 9, 10, 11, 12, 13, 14, 15, 16, 17, 18, 19, 20, 21, 22, 23, 24, 25, 26, 28, 29, 30, 31, 32, 33, 34, 35, 38, 39, 40, 41, 42, 43, 44, 45, 46, 47, 48, 49, 50, 51, 52, 53, 54, 55].elem f
  | _ => false
def sk_ord (s k : Nat) : Nat := sk_base s + k * sk_step s
def sk_ref (i : Nat) : Nat × Nat := sk_refL.getD i (0, 0)
theorem sk_refT : (List.range sk_N0).all (fun i => sk_ord (sk_ref i).1 (sk_ref i).2 == i && decide ((sk_ref i).1 ≠ 9999)) = true := by decide +kernel
theorem sk_liveT : (List.range 94).all (fun s => (List.range (sk_cnt s)).all (fun k => sk_ref (sk_ord s k) == (s, k) && decide (sk_ord s k < sk_N0))) = true := by decide +kernel
theorem sk_ord_ref {i : Nat} (h : i < sk_N0) : sk_ord (sk_ref i).1 (sk_ref i).2 = i := by
  have h1 := List.all_eq_true.mp sk_refT i (List.mem_range.mpr h)
  simp only [Bool.and_eq_true, beq_iff_eq] at h1
  exact h1.1
theorem sk_cnt_lt {s k : Nat} (h : k < sk_cnt s) : s < 94 := by
  rcases Nat.lt_or_ge s 94 with q | q
  · exact q
  · exfalso
    have : sk_cnt s = 0 := by
      unfold sk_cnt
      split <;> first | omega | rfl
    omega
theorem sk_live {s k : Nat} (h : k < sk_cnt s) : sk_ref (sk_ord s k) = (s, k) ∧ sk_ord s k < sk_N0 := by
  have h1 := List.all_eq_true.mp (List.all_eq_true.mp sk_liveT s (List.mem_range.mpr (sk_cnt_lt h))) k (List.mem_range.mpr h)
  simp only [Bool.and_eq_true, beq_iff_eq, decide_eq_true_eq] at h1
  exact h1
end
section
/-! THE ENGINE: an abstract machine over numbered cells; sk_G says of an abstract state that the machine, in any state that holds it, comes to its end -/
abbrev sk_AV : Type := Int32 ⊕ Int64 ⊕ Option (Nat × Nat)
/-- cells made so far, whole numbers by (site, index, place), longs, references -/
abbrev sk_Mem : Type := Nat × (Nat → Nat → Nat → Int32) × (Nat → Nat → Nat → Int64) × (Nat → Nat → Nat → Option (Nat × Nat))
/-- a method: name, code, locals, answer, cells and slots that it makes -/
abbrev sk_MI : Type := MethodName × ByteArray × Nat × Option FieldType × Nat × Nat
def sk_tg : List Cond := lw_tbl.filter goodWord
theorem sk_in {w : Cond} (i : Nat) (h : lw_tbl[i]? = some w) (hg : goodWord w = true) : w ∈ sk_tg := List.mem_filter.mpr ⟨List.mem_of_getElem? h, hg⟩
theorem sk_tg_good {w : Cond} (h : w ∈ sk_tg) : (w.onTables && w.keeps) = true ∨ ∃ ty, w = .arrayClass ty := good_of_word (List.mem_filter.mp h).2
/-- words that a call doesn't keep by itself: nest mates' links -/
def sk_nest : Cond → Bool
  | .methodLinkNest _ _ _ _ => true
  | _ => false
def sk_Nx (U : State) : Prop := ∀ w ∈ tables_1.filter sk_nest, va_Nw w U
theorem sk_Nx.warm {s U : State} (hW : s.WarmedH U.vm) (h : sk_Nx s) : sk_Nx U := fun w hw => by
  have h1 := h w hw
  have h2 := (List.mem_filter.mp hw).2
  cases w <;> first | exact va_Nw.warmM hW h1 | (simp [sk_nest] at h2; done)
theorem sk_Nx.same {s U : State} (hv : s.vm = U.vm) (h : sk_Nx s) : sk_Nx U := fun w hw => by
  have h1 := h w hw
  have h2 := (List.mem_filter.mp hw).2
  cases w <;> first | exact va_Nw.same rfl hv h1 | (simp [sk_nest] at h2; done)
/-- addresses: the cells of the run lie from bb.1 on in the order of sk_refL; the script is at bb.2 -/
def sk_ad (bb : Nat × Nat) (a : Nat × Nat) : Nat := if a.1 = 9999 then bb.2 else bb.1 + sk_ord a.1 a.2
def sk_cv (bb : Nat × Nat) : sk_AV → Value
  | .inl x => .int x
  | .inr (.inl x) => .long x
  | .inr (.inr none) => .null
  | .inr (.inr (some a)) => .ref (sk_ad bb a)
def sk_ro (bb : Nat × Nat) (o : Option (Nat × Nat)) : Option Nat := o.map (sk_ad bb)
def sk_fv (bb : Nat × Nat) (h : sk_Mem) (s k ci f : Nat) : Value := if sk_fr ci f = true then va_rf (sk_ro bb (h.2.2.2 s k f)) else .int (h.2.1 s k f)
def sk_ce (kc : Nat → ClassId) (bb : Nat × Nat) (h : sk_Mem) (a : Nat × Nat) : va_E := match sk_shp a.1 with
  | .inl ci => .inr (ci, (List.range (sk_fn ci)).map (sk_fv bb h a.1 a.2 ci))
  | .inr (kd, n) => .inl (kc kd, n, if kd = 1 then .inr (.inl (h.2.2.1 a.1 a.2)) else if 4 ≤ kd then .inr (.inr (.inr (.inr (fun j => sk_ro bb (h.2.2.2 a.1 a.2 j))))) else .inl (h.2.1 a.1 a.2))
def sk_ws (kc : Nat → ClassId) (bb : Nat × Nat) (h : sk_Mem) : va_W := (List.range h.1).map (fun i => (bb.1 + i, sk_ce kc bb h (sk_ref i)))
/-- a cell that stands -/
def sk_lv (h : sk_Mem) (s k : Nat) : Prop := sk_ref (sk_ord s k) = (s, k) ∧ sk_ord s k < h.1 ∧ s ≠ 9999
def sk_kt : Nat → FieldType
  | 0 => .int
  | 1 => .long
  | 2 => .boolean
  | 3 => .char
  | 4 => .array .int
  | 5 => .object "SkiSchool$Pupil"
  | 6 => .object "SkiSchool$Group"
  | 7 => .object "SkiSchool$Instructor"
  | _ => .object "SkiSchool$Lift"
def sk_ty (kc : Nat → ClassId) : List (ClassId × FieldType) := (List.range 9).map (fun i => (kc i, sk_kt i))
theorem sk_ty_at {kc : Nat → ClassId} {k : Nat} (h : k < 9) : (sk_ty kc)[k]? = some (kc k, sk_kt k) := by
  unfold sk_ty
  rw [List.getElem?_map, List.getElem?_range h]
  rfl
theorem sk_ws_at {kc : Nat → ClassId} {bb : Nat × Nat} {h : sk_Mem} {s k : Nat} (hl : sk_lv h s k) : (sk_ws kc bb h)[sk_ord s k]? = some (sk_ad bb (s, k), sk_ce kc bb h (s, k)) := by
  unfold sk_ws
  rw [List.getElem?_map, List.getElem?_range hl.2.1]
  show some (bb.1 + sk_ord s k, sk_ce kc bb h (sk_ref (sk_ord s k))) = _
  rw [hl.1]
  unfold sk_ad
  rw [if_neg hl.2.2]
theorem sk_ws_D {kc : Nat → ClassId} {bb : Nat × Nat} {h : sk_Mem} : va_D (fun q => bb.1 ≤ q) (sk_ws kc bb h) := by
  have key : ∀ (k : Nat) (q : Nat × va_E), (sk_ws kc bb h)[k]? = some q → q.1 = bb.1 + k := by
    intro k q hk
    unfold sk_ws at hk
    rw [List.getElem?_map] at hk
    cases hr : (List.range h.1)[k]? with
    | none => rw [hr] at hk; cases hk
    | some j =>
      rw [hr] at hk
      cases hk
      obtain ⟨h1, h2⟩ := List.getElem?_eq_some_iff.mp hr
      rw [List.getElem_range] at h2
      rw [h2]
  refine ⟨fun i j p q hi hj hpq => ?_, fun k q hk => ?_⟩
  · have h1 := key i p hi
    have h2 := key j q hj
    omega
  · have := key k q hk
    show bb.1 ≤ q.1
    omega
theorem sk_ws_set {kc : Nat → ClassId} {bb : Nat × Nat} {h h' : sk_Mem} {s k : Nat} (hl : sk_lv h s k) (h1 : h'.1 = h.1) (hN : h.1 ≤ sk_N0) (ho : ∀ a : Nat × Nat, a ≠ (s, k) → sk_ce kc bb h' a = sk_ce kc bb h a) :
    (sk_ws kc bb h).set (sk_ord s k) (sk_ad bb (s, k), sk_ce kc bb h' (s, k)) = sk_ws kc bb h' := by
  have hlen : (sk_ws kc bb h).length = h.1 := by unfold sk_ws; rw [List.length_map, List.length_range]
  apply List.ext_getElem?
  intro i
  by_cases hi : i = sk_ord s k
  · subst hi
    rw [List.getElem?_set_self (by rw [hlen]; exact hl.2.1)]
    have hl' : sk_lv h' s k := ⟨hl.1, by rw [h1]; exact hl.2.1, hl.2.2⟩
    exact (sk_ws_at hl').symm
  · rw [List.getElem?_set_ne (Ne.symm hi)]
    unfold sk_ws
    rw [h1, List.getElem?_map, List.getElem?_map]
    by_cases hlt : i < h.1
    · rw [List.getElem?_range hlt]
      show some (bb.1 + i, sk_ce kc bb h (sk_ref i)) = some (bb.1 + i, sk_ce kc bb h' (sk_ref i))
      rw [ho]
      intro e
      have h3 := sk_ord_ref (Nat.lt_of_lt_of_le hlt hN)
      rw [e] at h3
      exact hi h3.symm
    · rw [List.getElem?_eq_none (by rw [List.length_range]; omega)]
      rfl
/-- the heap holds the memory -/
def sk_RH (bb : Nat × Nat) (D : va_G) (kc : Nat → ClassId) (h : sk_Mem) (s : State) (H : Heap) : Prop := va_K D vwCl (sk_ty kc) s ∧ H.size = bb.1 + h.1 ∧ h.1 ≤ sk_N0 ∧ va_P D vwCl (sk_ws kc bb h) H
def sk_LR (bb : Nat × Nat) (la : Array Slot) (nL : Nat) (ls : List (Option sk_AV)) : Prop := la.size = nL ∧ lv_wf la ∧ ls.length = nL ∧ ∀ (i : Nat) (v : sk_AV), ls[i]? = some (some v) → la[i]? = some (.val (sk_cv bb v))
def sk_Hd (p : Program) (s : State) (m : MethodId) (args : Array Value) (meth : Method) (c : Code) (μ : sk_MI) : Prop :=
  p.tables.exec = Jvm.exec ∧ c.code = μ.2.1 ∧ meth.sig.returnType = μ.2.2.2.1 ∧ c.maxLocals = μ.2.2.1 ∧ s.vm.findClass μ.1.cls = some m.cls ∧ (∀ w ∈ sk_tg, w.before args s = true) ∧ meth.locks = false ∧ meth.name = μ.1.name ∧ sk_Nx s
abbrev sk_EX : Type := State → Array Value → Nat × Nat → Prop
abbrev sk_ZZ : Type := State → Array Value → List Frame → Nat × Nat → va_G → (Nat → ClassId) → State → Prop
def sk_G (l : Launch) (R : Room) (μ : sk_MI) (Ex : sk_EX) (Z : sk_ZZ) (cn sn pc : Nat) (ls : List (Option sk_AV)) (st : List sk_AV) (h : sk_Mem) : Prop :=
  ∀ (p : Program) (e : Env) (s : State) (m : MethodId) (args : Array Value) (below : List Frame) (meth : Method) (c : Code) (H : Heap) (locs : List Loc) (bb : Nat × Nat) (D : va_G) (kc : Nat → ClassId) (la : Array Slot),
    sk_Hd p s m args meth c μ → Ex s args bb → sk_RH bb D kc h s H → va_S (fun q => bb.1 ≤ q) s.heap H locs → bb.1 ≤ s.heap.size → sk_LR bb la μ.2.2.1 ls →
    W p l e R s m args below meth c H locs cn sn (Z s args below bb D kc) (F0 m pc la (st.map (sk_cv bb)))
def sk_Qc (bb : Nat × Nat) (D : va_G) (kc : Nat → ClassId) (r : Option sk_AV) (h' : sk_Mem) : Array Value → State → Outcome → State → Prop := fun _ st o t =>
  (o = .returned (r.map (sk_cv bb)) ∧ sk_RH bb D kc h' t t.heap) ∧ va_F (fun q => bb.1 ≤ q) st t
def sk_Pc (bb : Nat × Nat) (D : va_G) (kc : Nat → ClassId) (as : List sk_AV) (h : sk_Mem) : Array Value → State → Prop :=
  va_Pc (as.map (sk_cv bb)) (fun U => sk_Nx U ∧ sk_RH bb D kc h U U.heap ∧ bb.1 ≤ U.heap.size)
def sk_rm (dp mc ms : Nat) : Room := { frames := dp, cells := mc, slots := ms, locals := 60 * dp }
def sk_wm (μ : sk_MI) : List Cond := .code μ.1 μ.2.1 μ.2.2.1 μ.2.2.2.1 :: sk_tg
/-- a method's contract: from as and h it comes back with r and h' -/
def sk_M (l : Launch) (dp : Nat) (μ : sk_MI) (as : List sk_AV) (h : sk_Mem) (r : Option sk_AV) (h' : sk_Mem) : Prop :=
  ∀ (bb : Nat × Nat) (D : va_G) (kc : Nat → ClassId), Met l μ.1 (sk_wm μ) (sk_rm dp μ.2.2.2.2.1 μ.2.2.2.2.2) (sk_Pc bb D kc as h) (sk_Qc bb D kc r h') μ.2.2.2.2.1 μ.2.2.2.2.2 (fun q => bb.1 ≤ q)
def sk_Ex0 : sk_EX := fun _ _ _ => True
def sk_Zm (μ : sk_MI) (r : Option sk_AV) (h' : sk_Mem) : sk_ZZ := fun s args below bb D kc => MQ below (sk_Qc bb D kc r h') args s μ.2.2.2.2.1 μ.2.2.2.2.2 (fun q => bb.1 ≤ q)
theorem sk_RH.moved {bb : Nat × Nat} {D : va_G} {kc : Nat → ClassId} {h : sk_Mem} {u U : State} {H : Heap} (hvm : u.vm.Alike U.vm) (hR : sk_RH bb D kc h u H) : sk_RH bb D kc h U H := ⟨va_K.moved hvm hR.1, hR.2⟩
/-- the locals at a method's entry -/
def sk_l0 : List sk_AV → List (Option sk_AV)
  | [] => []
  | .inr (.inl x) :: vs => some (.inr (.inl x)) :: none :: sk_l0 vs
  | v :: vs => some v :: sk_l0 vs
theorem sk_l0_args (bb : Nat × Nat) : ∀ (as : List sk_AV) (j i : Nat) (v : sk_AV), (sk_l0 as)[i]? = some (some v) → (j + i, sk_cv bb v) ∈ lv_args j (as.map (sk_cv bb))
  | [], j, i, v, h => by simp [sk_l0] at h
  | .inl x :: vs, j, i, v, h => by
    cases i with
    | zero =>
      simp [sk_l0] at h
      subst h
      exact List.mem_cons_self
    | succ i =>
      have h' : (sk_l0 vs)[i]? = some (some v) := by simpa [sk_l0] using h
      have := sk_l0_args bb vs (j + 1) i v h'
      refine List.mem_cons_of_mem _ ?_
      show _ ∈ lv_args (j + 1) _
      rw [show j + (i + 1) = j + 1 + i by omega]
      exact this
  | .inr (.inl x) :: vs, j, i, v, h => by
    match i, h with
    | 0, h =>
      simp [sk_l0] at h
      subst h
      exact List.mem_cons_self
    | 1, h => simp [sk_l0] at h
    | i + 2, h =>
      have h' : (sk_l0 vs)[i]? = some (some v) := by simpa [sk_l0] using h
      have := sk_l0_args bb vs (j + 2) i v h'
      refine List.mem_cons_of_mem _ ?_
      show _ ∈ lv_args (j + 2) _
      rw [show j + (i + 2) = j + 2 + i by omega]
      exact this
  | .inr (.inr o) :: vs, j, i, v, h => by
    cases i with
    | zero =>
      simp [sk_l0] at h
      subst h
      exact List.mem_cons_self
    | succ i =>
      have h' : (sk_l0 vs)[i]? = some (some v) := by simpa [sk_l0] using h
      have := sk_l0_args bb vs (j + 1) i v h'
      refine List.mem_cons_of_mem _ ?_
      have e : (if (sk_cv bb (.inr (.inr o))).category = 2 then j + 2 else j + 1) = j + 1 := by
        cases o <;> rfl
      show _ ∈ lv_args (if (sk_cv bb (.inr (.inr o))).category = 2 then j + 2 else j + 1) _
      rw [e, show j + (i + 1) = j + 1 + i by omega]
      exact this
set_option maxHeartbeats 4000000 in
/-- a contract out of the walk from the entry -/
theorem sk_enter {l : Launch} {dp : Nat} {μ : sk_MI} {as : List sk_AV} {h : sk_Mem} {r : Option sk_AV} {h' : sk_Mem} (hpl : plainName μ.1.cls = true) (hn : ∀ bb, (lg_sl (as.map (sk_cv bb))).length ≤ μ.2.2.1) (hl0 : (sk_l0 as).length ≤ μ.2.2.1)
    (k : sk_G l (sk_rm dp μ.2.2.2.2.1 μ.2.2.2.2.2) μ sk_Ex0 (sk_Zm μ r h') 0 0 0 (sk_l0 as ++ List.replicate (μ.2.2.1 - (sk_l0 as).length) none) [] h) : sk_M l dp μ as h r h' := by
  intro bb D kc
  refine Met.ofW (cc := μ.2.1) (maxL := μ.2.2.1) (ret := μ.2.2.2.1) hpl rfl ?_
  intro p e s m args below meth c s₁ B hml hv
  obtain ⟨rfl, hN, hR, hbb⟩ := hv
  have hts := atoms_spec (ws := sk_wm μ) B.pre
  have hl := lv_entry (as.map (sk_cv bb)) (n := μ.2.2.1) (hn bb)
  rw [lg_entry_eq]
  refine k p e s m _ below meth c s.heap [] bb D kc _ ⟨B.exec, B.bytes, B.returns, hml, findClass_of_methodNamed B.named, fun w hw => hts w (List.mem_cons_of_mem _ hw), B.notSynchronized, (name_of_methodNamed B.named B.method).1, hN⟩ trivial hR va_S.rf hbb ⟨hl.1, hl.2.1, by rw [List.length_append, List.length_replicate]; omega, ?_⟩
  intro i v hi
  by_cases hlt : i < (sk_l0 as).length
  · rw [List.getElem?_append_left hlt] at hi
    have := hl.2.2 _ (by simpa using sk_l0_args bb as 0 i v hi)
    exact this
  · rw [List.getElem?_append_right (by omega)] at hi
    have := List.mem_of_getElem? hi
    rw [List.mem_replicate] at this
    cases this.2
end
section
section SKR
variable {l : Launch} {R : Room} {μ : sk_MI} {Ex : sk_EX} {Z : sk_ZZ} {cn sn pc : Nat} {ls : List (Option sk_AV)} {st : List sk_AV} {h : sk_Mem}
theorem sk_widen {k n : Nat} (h1 : cn ≤ k) (h2 : sn ≤ n) (kk : sk_G l R μ Ex Z k n pc ls st h) : sk_G l R μ Ex Z cn sn pc ls st h :=
  fun p e s m args below meth c H locs bb D kc la hH hE hR hS hB hL => W.widen h1 h2 (kk p e s m args below meth c H locs bb D kc la hH hE hR hS hB hL)
theorem sg_iconst {n : Int} {v : Int32} (pc' : Nat) (hd : decode μ.2.1 pc = .ok (.iconst n, 1)) (hp : pc + 1 = pc') (hv : Int32.ofInt n = v) (k : sk_G l R μ Ex Z cn sn pc' ls (.inl v :: st) h) : sk_G l R μ Ex Z cn sn pc ls (st) h := by
  subst hp
  exact fun p e s m args below meth c H locs bb D kc la hH hE hR hS hB hL => lv_iconst hH.1 hH.2.1 hd hv (k p e s m args below meth c H locs bb D kc la hH hE hR hS hB hL)
theorem sg_bipush {n : Int} {v : Int32} (pc' : Nat) (hd : decode μ.2.1 pc = .ok (.bipush n, 2)) (hp : pc + 2 = pc') (hv : (Int8.ofInt n).toInt32 = v) (k : sk_G l R μ Ex Z cn sn pc' ls (.inl v :: st) h) : sk_G l R μ Ex Z cn sn pc ls (st) h := by
  subst hp
  exact fun p e s m args below meth c H locs bb D kc la hH hE hR hS hB hL => lv_bipush hH.1 hH.2.1 hd hv (k p e s m args below meth c H locs bb D kc la hH hE hR hS hB hL)
theorem sg_sipush {n : Int} {v : Int32} (pc' : Nat) (hd : decode μ.2.1 pc = .ok (.sipush n, 3)) (hp : pc + 3 = pc') (hv : (Int16.ofInt n).toInt32 = v) (k : sk_G l R μ Ex Z cn sn pc' ls (.inl v :: st) h) : sk_G l R μ Ex Z cn sn pc ls (st) h := by
  subst hp
  exact fun p e s m args below meth c H locs bb D kc la hH hE hR hS hB hL => lv_sipush hH.1 hH.2.1 hd hv (k p e s m args below meth c H locs bb D kc la hH hE hR hS hB hL)
theorem sg_lconst {n : Fin 2} {v : Int64} (pc' : Nat) (hd : decode μ.2.1 pc = .ok (.lconst n, 1)) (hp : pc + 1 = pc') (hv : Int64.ofNat (n : Nat) = v) (k : sk_G l R μ Ex Z cn sn pc' ls (.inr (.inl v) :: st) h) : sk_G l R μ Ex Z cn sn pc ls (st) h := by
  subst hp
  exact fun p e s m args below meth c H locs bb D kc la hH hE hR hS hB hL => lv_lconst hH.1 hH.2.1 hd hv (k p e s m args below meth c H locs bb D kc la hH hE hR hS hB hL)
theorem sg_iadd {x y : Int32} (pc' : Nat) (hd : decode μ.2.1 pc = .ok (.iadd, 1)) (hp : pc + 1 = pc') (k : sk_G l R μ Ex Z cn sn pc' ls (.inl (x + y) :: st) h) : sk_G l R μ Ex Z cn sn pc ls (.inl y :: .inl x :: st) h := by
  subst hp
  exact fun p e s m args below meth c H locs bb D kc la hH hE hR hS hB hL => lv_iadd hH.1 hH.2.1 hd (k p e s m args below meth c H locs bb D kc la hH hE hR hS hB hL)
theorem sg_isub {x y : Int32} (pc' : Nat) (hd : decode μ.2.1 pc = .ok (.isub, 1)) (hp : pc + 1 = pc') (k : sk_G l R μ Ex Z cn sn pc' ls (.inl (x - y) :: st) h) : sk_G l R μ Ex Z cn sn pc ls (.inl y :: .inl x :: st) h := by
  subst hp
  exact fun p e s m args below meth c H locs bb D kc la hH hE hR hS hB hL => lv_isub hH.1 hH.2.1 hd (k p e s m args below meth c H locs bb D kc la hH hE hR hS hB hL)
theorem sg_imul {x y : Int32} (pc' : Nat) (hd : decode μ.2.1 pc = .ok (.imul, 1)) (hp : pc + 1 = pc') (k : sk_G l R μ Ex Z cn sn pc' ls (.inl (x * y) :: st) h) : sk_G l R μ Ex Z cn sn pc ls (.inl y :: .inl x :: st) h := by
  subst hp
  exact fun p e s m args below meth c H locs bb D kc la hH hE hR hS hB hL => lv_imul hH.1 hH.2.1 hd (k p e s m args below meth c H locs bb D kc la hH hE hR hS hB hL)
theorem sg_iand {x y : Int32} (pc' : Nat) (hd : decode μ.2.1 pc = .ok (.iand, 1)) (hp : pc + 1 = pc') (k : sk_G l R μ Ex Z cn sn pc' ls (.inl (x &&& y) :: st) h) : sk_G l R μ Ex Z cn sn pc ls (.inl y :: .inl x :: st) h := by
  subst hp
  exact fun p e s m args below meth c H locs bb D kc la hH hE hR hS hB hL => lv_iand hH.1 hH.2.1 hd (k p e s m args below meth c H locs bb D kc la hH hE hR hS hB hL)
theorem sg_ior {x y : Int32} (pc' : Nat) (hd : decode μ.2.1 pc = .ok (.ior, 1)) (hp : pc + 1 = pc') (k : sk_G l R μ Ex Z cn sn pc' ls (.inl (x ||| y) :: st) h) : sk_G l R μ Ex Z cn sn pc ls (.inl y :: .inl x :: st) h := by
  subst hp
  exact fun p e s m args below meth c H locs bb D kc la hH hE hR hS hB hL => lv_ior hH.1 hH.2.1 hd (k p e s m args below meth c H locs bb D kc la hH hE hR hS hB hL)
theorem sg_ishl {x y : Int32} (pc' : Nat) (hd : decode μ.2.1 pc = .ok (.ishl, 1)) (hp : pc + 1 = pc') (k : sk_G l R μ Ex Z cn sn pc' ls (.inl (x <<< (y &&& 31)) :: st) h) : sk_G l R μ Ex Z cn sn pc ls (.inl y :: .inl x :: st) h := by
  subst hp
  exact fun p e s m args below meth c H locs bb D kc la hH hE hR hS hB hL => lv_ishl hH.1 hH.2.1 hd (k p e s m args below meth c H locs bb D kc la hH hE hR hS hB hL)
theorem sg_ishr {x y : Int32} (pc' : Nat) (hd : decode μ.2.1 pc = .ok (.ishr, 1)) (hp : pc + 1 = pc') (k : sk_G l R μ Ex Z cn sn pc' ls (.inl (x >>> (y &&& 31)) :: st) h) : sk_G l R μ Ex Z cn sn pc ls (.inl y :: .inl x :: st) h := by
  subst hp
  exact fun p e s m args below meth c H locs bb D kc la hH hE hR hS hB hL => lv_ishr hH.1 hH.2.1 hd (k p e s m args below meth c H locs bb D kc la hH hE hR hS hB hL)
theorem sg_idiv {x y : Int32} (pc' : Nat) (hd : decode μ.2.1 pc = .ok (.idiv, 1)) (hp : pc + 1 = pc') (hne : ¬ y = 0) (k : sk_G l R μ Ex Z cn sn pc' ls (.inl (x / y) :: st) h) : sk_G l R μ Ex Z cn sn pc ls (.inl y :: .inl x :: st) h := by
  subst hp
  exact fun p e s m args below meth c H locs bb D kc la hH hE hR hS hB hL => lv_idiv hH.1 hH.2.1 hd hne (k p e s m args below meth c H locs bb D kc la hH hE hR hS hB hL)
theorem sg_irem {x y : Int32} (pc' : Nat) (hd : decode μ.2.1 pc = .ok (.irem, 1)) (hp : pc + 1 = pc') (hne : ¬ y = 0) (k : sk_G l R μ Ex Z cn sn pc' ls (.inl (x - x / y * y) :: st) h) : sk_G l R μ Ex Z cn sn pc ls (.inl y :: .inl x :: st) h := by
  subst hp
  exact fun p e s m args below meth c H locs bb D kc la hH hE hR hS hB hL => lv_irem hH.1 hH.2.1 hd hne (k p e s m args below meth c H locs bb D kc la hH hE hR hS hB hL)
theorem sg_ineg {x : Int32} (pc' : Nat) (hd : decode μ.2.1 pc = .ok (.ineg, 1)) (hp : pc + 1 = pc') (k : sk_G l R μ Ex Z cn sn pc' ls (.inl (-x) :: st) h) : sk_G l R μ Ex Z cn sn pc ls (.inl x :: st) h := by
  subst hp
  exact fun p e s m args below meth c H locs bb D kc la hH hE hR hS hB hL => lv_ineg hH.1 hH.2.1 hd (k p e s m args below meth c H locs bb D kc la hH hE hR hS hB hL)
theorem sg_ladd {x y : Int64} (pc' : Nat) (hd : decode μ.2.1 pc = .ok (.ladd, 1)) (hp : pc + 1 = pc') (k : sk_G l R μ Ex Z cn sn pc' ls (.inr (.inl (x + y)) :: st) h) : sk_G l R μ Ex Z cn sn pc ls (.inr (.inl y) :: .inr (.inl x) :: st) h := by
  subst hp
  exact fun p e s m args below meth c H locs bb D kc la hH hE hR hS hB hL => lv_ladd hH.1 hH.2.1 hd (k p e s m args below meth c H locs bb D kc la hH hE hR hS hB hL)
theorem sg_lmul {x y : Int64} (pc' : Nat) (hd : decode μ.2.1 pc = .ok (.lmul, 1)) (hp : pc + 1 = pc') (k : sk_G l R μ Ex Z cn sn pc' ls (.inr (.inl (x * y)) :: st) h) : sk_G l R μ Ex Z cn sn pc ls (.inr (.inl y) :: .inr (.inl x) :: st) h := by
  subst hp
  exact fun p e s m args below meth c H locs bb D kc la hH hE hR hS hB hL => lv_lmul hH.1 hH.2.1 hd (k p e s m args below meth c H locs bb D kc la hH hE hR hS hB hL)
theorem sg_lor {x y : Int64} (pc' : Nat) (hd : decode μ.2.1 pc = .ok (.lor, 1)) (hp : pc + 1 = pc') (k : sk_G l R μ Ex Z cn sn pc' ls (.inr (.inl (x ||| y)) :: st) h) : sk_G l R μ Ex Z cn sn pc ls (.inr (.inl y) :: .inr (.inl x) :: st) h := by
  subst hp
  exact fun p e s m args below meth c H locs bb D kc la hH hE hR hS hB hL => lv_lor hH.1 hH.2.1 hd (k p e s m args below meth c H locs bb D kc la hH hE hR hS hB hL)
theorem sg_lshl {x : Int64} {y : Int32} (pc' : Nat) (hd : decode μ.2.1 pc = .ok (.lshl, 1)) (hp : pc + 1 = pc') (k : sk_G l R μ Ex Z cn sn pc' ls (.inr (.inl (x <<< (y.toInt64 &&& 63))) :: st) h) : sk_G l R μ Ex Z cn sn pc ls (.inl y :: .inr (.inl x) :: st) h := by
  subst hp
  exact fun p e s m args below meth c H locs bb D kc la hH hE hR hS hB hL => lv_lshl hH.1 hH.2.1 hd rfl (k p e s m args below meth c H locs bb D kc la hH hE hR hS hB hL)
theorem sg_lushr {x : Int64} {y : Int32} (pc' : Nat) (hd : decode μ.2.1 pc = .ok (.lushr, 1)) (hp : pc + 1 = pc') (k : sk_G l R μ Ex Z cn sn pc' ls (.inr (.inl ((x.toUInt64 >>> (y.toInt64.toUInt64 &&& Int64.toUInt64 63)).toInt64)) :: st) h) : sk_G l R μ Ex Z cn sn pc ls (.inl y :: .inr (.inl x) :: st) h := by
  subst hp
  exact fun p e s m args below meth c H locs bb D kc la hH hE hR hS hB hL => lv_lushr hH.1 hH.2.1 hd rfl (k p e s m args below meth c H locs bb D kc la hH hE hR hS hB hL)
theorem sg_i2l {x : Int32} (pc' : Nat) (hd : decode μ.2.1 pc = .ok (.i2l, 1)) (hp : pc + 1 = pc') (k : sk_G l R μ Ex Z cn sn pc' ls (.inr (.inl x.toInt64) :: st) h) : sk_G l R μ Ex Z cn sn pc ls (.inl x :: st) h := by
  subst hp
  exact fun p e s m args below meth c H locs bb D kc la hH hE hR hS hB hL => lv_i2l hH.1 hH.2.1 hd rfl (k p e s m args below meth c H locs bb D kc la hH hE hR hS hB hL)
theorem sg_l2i {x : Int64} (pc' : Nat) (hd : decode μ.2.1 pc = .ok (.l2i, 1)) (hp : pc + 1 = pc') (k : sk_G l R μ Ex Z cn sn pc' ls (.inl x.toInt32 :: st) h) : sk_G l R μ Ex Z cn sn pc ls (.inr (.inl x) :: st) h := by
  subst hp
  exact fun p e s m args below meth c H locs bb D kc la hH hE hR hS hB hL => lv_l2i hH.1 hH.2.1 hd rfl (k p e s m args below meth c H locs bb D kc la hH hE hR hS hB hL)
theorem sg_i2c {x : Int32} (pc' : Nat) (hd : decode μ.2.1 pc = .ok (.i2c, 1)) (hp : pc + 1 = pc') (k : sk_G l R μ Ex Z cn sn pc' ls (.inl ((x.toUInt32 % 65536).toInt32) :: st) h) : sk_G l R μ Ex Z cn sn pc ls (.inl x :: st) h := by
  subst hp
  exact fun p e s m args below meth c H locs bb D kc la hH hE hR hS hB hL => lv_i2c hH.1 hH.2.1 hd rfl (k p e s m args below meth c H locs bb D kc la hH hE hR hS hB hL)
theorem sg_lcmp {x y : Int64} (pc' : Nat) (hd : decode μ.2.1 pc = .ok (.lcmp, 1)) (hp : pc + 1 = pc') (k : sk_G l R μ Ex Z cn sn pc' ls (.inl (lg_cmp x y) :: st) h) : sk_G l R μ Ex Z cn sn pc ls (.inr (.inl y) :: .inr (.inl x) :: st) h := by
  subst hp
  exact fun p e s m args below meth c H locs bb D kc la hH hE hR hS hB hL => W.lcmp hH.1 hH.2.1 hd (k p e s m args below meth c H locs bb D kc la hH hE hR hS hB hL)
theorem sg_dupI {x : Int32} (pc' : Nat) (hd : decode μ.2.1 pc = .ok (.dup, 1)) (hp : pc + 1 = pc') (k : sk_G l R μ Ex Z cn sn pc' ls (.inl x :: .inl x :: st) h) : sk_G l R μ Ex Z cn sn pc ls (.inl x :: st) h := by
  subst hp
  exact fun p e s m args below meth c H locs bb D kc la hH hE hR hS hB hL => lv_dup hH.1 hH.2.1 hd rfl (k p e s m args below meth c H locs bb D kc la hH hE hR hS hB hL)
theorem sg_dupR {a : Nat × Nat} (pc' : Nat) (hd : decode μ.2.1 pc = .ok (.dup, 1)) (hp : pc + 1 = pc') (k : sk_G l R μ Ex Z cn sn pc' ls (.inr (.inr (some a)) :: .inr (.inr (some a)) :: st) h) : sk_G l R μ Ex Z cn sn pc ls (.inr (.inr (some a)) :: st) h := by
  subst hp
  exact fun p e s m args below meth c H locs bb D kc la hH hE hR hS hB hL => lv_dup hH.1 hH.2.1 hd rfl (k p e s m args below meth c H locs bb D kc la hH hE hR hS hB hL)
theorem sg_popI {x : Int32} (pc' : Nat) (hd : decode μ.2.1 pc = .ok (.pop, 1)) (hp : pc + 1 = pc') (k : sk_G l R μ Ex Z cn sn pc' ls (st) h) : sk_G l R μ Ex Z cn sn pc ls (.inl x :: st) h := by
  subst hp
  exact fun p e s m args below meth c H locs bb D kc la hH hE hR hS hB hL => lv_pop hH.1 hH.2.1 hd rfl (k p e s m args below meth c H locs bb D kc la hH hE hR hS hB hL)
theorem sg_dup2 {x : Int32} {a : Nat × Nat} (pc' : Nat) (hd : decode μ.2.1 pc = .ok (.dup2, 1)) (hp : pc + 1 = pc') (k : sk_G l R μ Ex Z cn sn pc' ls (.inl x :: .inr (.inr (some a)) :: .inl x :: .inr (.inr (some a)) :: st) h) : sk_G l R μ Ex Z cn sn pc ls (.inl x :: .inr (.inr (some a)) :: st) h := by
  subst hp
  exact fun p e s m args below meth c H locs bb D kc la hH hE hR hS hB hL => lv_dup2_11 hH.1 hH.2.1 hd rfl rfl (k p e s m args below meth c H locs bb D kc la hH hE hR hS hB hL)
theorem sg_ldc {i : Nat} {v : Int32} (pc' : Nat) (hd : decode μ.2.1 pc = .ok (.ldc i, 2)) (hp : pc + 2 = pc') (hw : Cond.constant μ.1.cls i v ∈ sk_tg) (k : sk_G l R μ Ex Z cn sn pc' ls (.inl v :: st) h) : sk_G l R μ Ex Z cn sn pc ls (st) h := by
  subst hp
  exact fun p e s m args below meth c H locs bb D kc la hH hE hR hS hB hL => lv_ldc hH.1 hH.2.1 hH.2.2.2.2.1 (hH.2.2.2.2.2.1 _ hw) hd (k p e s m args below meth c H locs bb D kc la hH hE hR hS hB hL)
theorem sg_ldcw {i : Nat} {v : Int32} (pc' : Nat) (hd : decode μ.2.1 pc = .ok (.ldc_w i, 3)) (hp : pc + 3 = pc') (hw : Cond.constant μ.1.cls i v ∈ sk_tg) (k : sk_G l R μ Ex Z cn sn pc' ls (.inl v :: st) h) : sk_G l R μ Ex Z cn sn pc ls (st) h := by
  subst hp
  exact fun p e s m args below meth c H locs bb D kc la hH hE hR hS hB hL => lv_ldcw hH.1 hH.2.1 hH.2.2.2.2.1 (hH.2.2.2.2.2.1 _ hw) hd (k p e s m args below meth c H locs bb D kc la hH hE hR hS hB hL)
theorem sg_ldc2 {i : Nat} {v : Int64} (pc' : Nat) (hd : decode μ.2.1 pc = .ok (.ldc2_w i, 3)) (hp : pc + 3 = pc') (hw : Cond.constantLong μ.1.cls i v ∈ sk_tg) (k : sk_G l R μ Ex Z cn sn pc' ls (.inr (.inl v) :: st) h) : sk_G l R μ Ex Z cn sn pc ls (st) h := by
  subst hp
  exact fun p e s m args below meth c H locs bb D kc la hH hE hR hS hB hL => lv_ldc2 hH.1 hH.2.1 hH.2.2.2.2.1 (hH.2.2.2.2.2.1 _ hw) hd (k p e s m args below meth c H locs bb D kc la hH hE hR hS hB hL)
theorem sg_iload_n {i : Fin 4} {x : Int32} (pc' : Nat) (hd : decode μ.2.1 pc = .ok (.iload_n i, 1)) (hp : pc + 1 = pc') (hv : ls[(i : Nat)]? = some (some (.inl x))) (k : sk_G l R μ Ex Z cn sn pc' ls (.inl x :: st) h) : sk_G l R μ Ex Z cn sn pc ls (st) h := by
  subst hp
  exact fun p e s m args below meth c H locs bb D kc la hH hE hR hS hB hL => lv_iload_n hH.1 hH.2.1 hd rfl (hL.2.2.2 _ _ hv) (k p e s m args below meth c H locs bb D kc la hH hE hR hS hB hL)
theorem sg_iload {i : Nat} {x : Int32} (pc' : Nat) (hd : decode μ.2.1 pc = .ok (.iload i, 2)) (hp : pc + 2 = pc') (hv : ls[i]? = some (some (.inl x))) (k : sk_G l R μ Ex Z cn sn pc' ls (.inl x :: st) h) : sk_G l R μ Ex Z cn sn pc ls (st) h := by
  subst hp
  exact fun p e s m args below meth c H locs bb D kc la hH hE hR hS hB hL => lv_iload hH.1 hH.2.1 hd (hL.2.2.2 _ _ hv) (k p e s m args below meth c H locs bb D kc la hH hE hR hS hB hL)
theorem sg_lload_n {i : Fin 4} {x : Int64} (pc' : Nat) (hd : decode μ.2.1 pc = .ok (.lload_n i, 1)) (hp : pc + 1 = pc') (hv : ls[(i : Nat)]? = some (some (.inr (.inl x)))) (k : sk_G l R μ Ex Z cn sn pc' ls (.inr (.inl x) :: st) h) : sk_G l R μ Ex Z cn sn pc ls (st) h := by
  subst hp
  exact fun p e s m args below meth c H locs bb D kc la hH hE hR hS hB hL => lv_lload_n hH.1 hH.2.1 hd rfl (hL.2.2.2 _ _ hv) (k p e s m args below meth c H locs bb D kc la hH hE hR hS hB hL)
theorem sg_lload {i : Nat} {x : Int64} (pc' : Nat) (hd : decode μ.2.1 pc = .ok (.lload i, 2)) (hp : pc + 2 = pc') (hv : ls[i]? = some (some (.inr (.inl x)))) (k : sk_G l R μ Ex Z cn sn pc' ls (.inr (.inl x) :: st) h) : sk_G l R μ Ex Z cn sn pc ls (st) h := by
  subst hp
  exact fun p e s m args below meth c H locs bb D kc la hH hE hR hS hB hL => lv_lload hH.1 hH.2.1 hd (hL.2.2.2 _ _ hv) (k p e s m args below meth c H locs bb D kc la hH hE hR hS hB hL)
theorem sg_aload_n {i : Fin 4} {a : Nat × Nat} (pc' : Nat) (hd : decode μ.2.1 pc = .ok (.aload_n i, 1)) (hp : pc + 1 = pc') (hv : ls[(i : Nat)]? = some (some (.inr (.inr (some a))))) (k : sk_G l R μ Ex Z cn sn pc' ls (.inr (.inr (some a)) :: st) h) : sk_G l R μ Ex Z cn sn pc ls (st) h := by
  subst hp
  exact fun p e s m args below meth c H locs bb D kc la hH hE hR hS hB hL => lv_aload_n hH.1 hH.2.1 hd rfl (hL.2.2.2 _ _ hv) (k p e s m args below meth c H locs bb D kc la hH hE hR hS hB hL)
theorem sg_aload {i : Nat} {a : Nat × Nat} (pc' : Nat) (hd : decode μ.2.1 pc = .ok (.aload i, 2)) (hp : pc + 2 = pc') (hv : ls[i]? = some (some (.inr (.inr (some a))))) (k : sk_G l R μ Ex Z cn sn pc' ls (.inr (.inr (some a)) :: st) h) : sk_G l R μ Ex Z cn sn pc ls (st) h := by
  subst hp
  exact fun p e s m args below meth c H locs bb D kc la hH hE hR hS hB hL => lv_aload hH.1 hH.2.1 hd (hL.2.2.2 _ _ hv) (k p e s m args below meth c H locs bb D kc la hH hE hR hS hB hL)
theorem sg_goto {off : Int} (pc' : Nat) (hd : decode μ.2.1 pc = .ok (.goto off, 3)) (ht : (pc : Int) + off = (pc' : Int)) (k : sk_G l R μ Ex Z cn sn pc' ls st h) : sk_G l R μ Ex Z cn sn pc ls st h :=
  fun p e s m args below meth c H locs bb D kc la hH hE hR hS hB hL => lv_goto hH.1 hH.2.1 hd ht (k p e s m args below meth c H locs bb D kc la hH hE hR hS hB hL)
theorem sg_if_eq {x : Int32} {off : Int} (pc1 pc2 : Nat) (hd : decode μ.2.1 pc = .ok (.ifCond .eq off, 3)) (ht : (pc : Int) + off = (pc1 : Int)) (hp : pc + 3 = pc2) (kt : x = 0 → sk_G l R μ Ex Z cn sn pc1 ls st h) (kf : ¬ x = 0 → sk_G l R μ Ex Z cn sn pc2 ls st h) : sk_G l R μ Ex Z cn sn pc ls (.inl x :: st) h := by
  subst hp
  exact fun p e s m args below meth c H locs bb D kc la hH hE hR hS hB hL => lv_if_eq hH.1 hH.2.1 hd ht (fun q => kt q p e s m args below meth c H locs bb D kc la hH hE hR hS hB hL) (fun q => kf q p e s m args below meth c H locs bb D kc la hH hE hR hS hB hL)
theorem sg_if_ne {x : Int32} {off : Int} (pc1 pc2 : Nat) (hd : decode μ.2.1 pc = .ok (.ifCond .ne off, 3)) (ht : (pc : Int) + off = (pc1 : Int)) (hp : pc + 3 = pc2) (kt : ¬ x = 0 → sk_G l R μ Ex Z cn sn pc1 ls st h) (kf : x = 0 → sk_G l R μ Ex Z cn sn pc2 ls st h) : sk_G l R μ Ex Z cn sn pc ls (.inl x :: st) h := by
  subst hp
  exact fun p e s m args below meth c H locs bb D kc la hH hE hR hS hB hL => lv_if_ne hH.1 hH.2.1 hd ht (fun q => kt q p e s m args below meth c H locs bb D kc la hH hE hR hS hB hL) (fun q => kf q p e s m args below meth c H locs bb D kc la hH hE hR hS hB hL)
theorem sg_if_lt {x : Int32} {off : Int} (pc1 pc2 : Nat) (hd : decode μ.2.1 pc = .ok (.ifCond .lt off, 3)) (ht : (pc : Int) + off = (pc1 : Int)) (hp : pc + 3 = pc2) (kt : x < 0 → sk_G l R μ Ex Z cn sn pc1 ls st h) (kf : ¬ x < 0 → sk_G l R μ Ex Z cn sn pc2 ls st h) : sk_G l R μ Ex Z cn sn pc ls (.inl x :: st) h := by
  subst hp
  exact fun p e s m args below meth c H locs bb D kc la hH hE hR hS hB hL => lv_if_lt hH.1 hH.2.1 hd ht (fun q => kt q p e s m args below meth c H locs bb D kc la hH hE hR hS hB hL) (fun q => kf q p e s m args below meth c H locs bb D kc la hH hE hR hS hB hL)
theorem sg_if_ge {x : Int32} {off : Int} (pc1 pc2 : Nat) (hd : decode μ.2.1 pc = .ok (.ifCond .ge off, 3)) (ht : (pc : Int) + off = (pc1 : Int)) (hp : pc + 3 = pc2) (kt : 0 ≤ x → sk_G l R μ Ex Z cn sn pc1 ls st h) (kf : ¬ 0 ≤ x → sk_G l R μ Ex Z cn sn pc2 ls st h) : sk_G l R μ Ex Z cn sn pc ls (.inl x :: st) h := by
  subst hp
  exact fun p e s m args below meth c H locs bb D kc la hH hE hR hS hB hL => lv_if_ge hH.1 hH.2.1 hd ht (fun q => kt q p e s m args below meth c H locs bb D kc la hH hE hR hS hB hL) (fun q => kf q p e s m args below meth c H locs bb D kc la hH hE hR hS hB hL)
theorem sg_if_gt {x : Int32} {off : Int} (pc1 pc2 : Nat) (hd : decode μ.2.1 pc = .ok (.ifCond .gt off, 3)) (ht : (pc : Int) + off = (pc1 : Int)) (hp : pc + 3 = pc2) (kt : 0 < x → sk_G l R μ Ex Z cn sn pc1 ls st h) (kf : ¬ 0 < x → sk_G l R μ Ex Z cn sn pc2 ls st h) : sk_G l R μ Ex Z cn sn pc ls (.inl x :: st) h := by
  subst hp
  exact fun p e s m args below meth c H locs bb D kc la hH hE hR hS hB hL => lv_if_gt hH.1 hH.2.1 hd ht (fun q => kt q p e s m args below meth c H locs bb D kc la hH hE hR hS hB hL) (fun q => kf q p e s m args below meth c H locs bb D kc la hH hE hR hS hB hL)
theorem sg_if_le {x : Int32} {off : Int} (pc1 pc2 : Nat) (hd : decode μ.2.1 pc = .ok (.ifCond .le off, 3)) (ht : (pc : Int) + off = (pc1 : Int)) (hp : pc + 3 = pc2) (kt : x ≤ 0 → sk_G l R μ Ex Z cn sn pc1 ls st h) (kf : ¬ x ≤ 0 → sk_G l R μ Ex Z cn sn pc2 ls st h) : sk_G l R μ Ex Z cn sn pc ls (.inl x :: st) h := by
  subst hp
  exact fun p e s m args below meth c H locs bb D kc la hH hE hR hS hB hL => lv_if_le hH.1 hH.2.1 hd ht (fun q => kt q p e s m args below meth c H locs bb D kc la hH hE hR hS hB hL) (fun q => kf q p e s m args below meth c H locs bb D kc la hH hE hR hS hB hL)
theorem sg_ic_eq {x y : Int32} {off : Int} (pc1 pc2 : Nat) (hd : decode μ.2.1 pc = .ok (.if_icmp .eq off, 3)) (ht : (pc : Int) + off = (pc1 : Int)) (hp : pc + 3 = pc2) (kt : x = y → sk_G l R μ Ex Z cn sn pc1 ls st h) (kf : ¬ x = y → sk_G l R μ Ex Z cn sn pc2 ls st h) : sk_G l R μ Ex Z cn sn pc ls (.inl y :: .inl x :: st) h := by
  subst hp
  exact fun p e s m args below meth c H locs bb D kc la hH hE hR hS hB hL => lv_icmp_eq hH.1 hH.2.1 hd ht (fun q => kt q p e s m args below meth c H locs bb D kc la hH hE hR hS hB hL) (fun q => kf q p e s m args below meth c H locs bb D kc la hH hE hR hS hB hL)
theorem sg_ic_ne {x y : Int32} {off : Int} (pc1 pc2 : Nat) (hd : decode μ.2.1 pc = .ok (.if_icmp .ne off, 3)) (ht : (pc : Int) + off = (pc1 : Int)) (hp : pc + 3 = pc2) (kt : ¬ x = y → sk_G l R μ Ex Z cn sn pc1 ls st h) (kf : x = y → sk_G l R μ Ex Z cn sn pc2 ls st h) : sk_G l R μ Ex Z cn sn pc ls (.inl y :: .inl x :: st) h := by
  subst hp
  exact fun p e s m args below meth c H locs bb D kc la hH hE hR hS hB hL => lv_icmp_ne hH.1 hH.2.1 hd ht (fun q => kt q p e s m args below meth c H locs bb D kc la hH hE hR hS hB hL) (fun q => kf q p e s m args below meth c H locs bb D kc la hH hE hR hS hB hL)
theorem sg_ic_lt {x y : Int32} {off : Int} (pc1 pc2 : Nat) (hd : decode μ.2.1 pc = .ok (.if_icmp .lt off, 3)) (ht : (pc : Int) + off = (pc1 : Int)) (hp : pc + 3 = pc2) (kt : x < y → sk_G l R μ Ex Z cn sn pc1 ls st h) (kf : ¬ x < y → sk_G l R μ Ex Z cn sn pc2 ls st h) : sk_G l R μ Ex Z cn sn pc ls (.inl y :: .inl x :: st) h := by
  subst hp
  exact fun p e s m args below meth c H locs bb D kc la hH hE hR hS hB hL => lv_icmp_lt hH.1 hH.2.1 hd ht (fun q => kt q p e s m args below meth c H locs bb D kc la hH hE hR hS hB hL) (fun q => kf q p e s m args below meth c H locs bb D kc la hH hE hR hS hB hL)
theorem sg_ic_ge {x y : Int32} {off : Int} (pc1 pc2 : Nat) (hd : decode μ.2.1 pc = .ok (.if_icmp .ge off, 3)) (ht : (pc : Int) + off = (pc1 : Int)) (hp : pc + 3 = pc2) (kt : y ≤ x → sk_G l R μ Ex Z cn sn pc1 ls st h) (kf : ¬ y ≤ x → sk_G l R μ Ex Z cn sn pc2 ls st h) : sk_G l R μ Ex Z cn sn pc ls (.inl y :: .inl x :: st) h := by
  subst hp
  exact fun p e s m args below meth c H locs bb D kc la hH hE hR hS hB hL => lv_icmp_ge hH.1 hH.2.1 hd ht (fun q => kt q p e s m args below meth c H locs bb D kc la hH hE hR hS hB hL) (fun q => kf q p e s m args below meth c H locs bb D kc la hH hE hR hS hB hL)
theorem sg_ic_gt {x y : Int32} {off : Int} (pc1 pc2 : Nat) (hd : decode μ.2.1 pc = .ok (.if_icmp .gt off, 3)) (ht : (pc : Int) + off = (pc1 : Int)) (hp : pc + 3 = pc2) (kt : y < x → sk_G l R μ Ex Z cn sn pc1 ls st h) (kf : ¬ y < x → sk_G l R μ Ex Z cn sn pc2 ls st h) : sk_G l R μ Ex Z cn sn pc ls (.inl y :: .inl x :: st) h := by
  subst hp
  exact fun p e s m args below meth c H locs bb D kc la hH hE hR hS hB hL => lv_icmp_gt hH.1 hH.2.1 hd ht (fun q => kt q p e s m args below meth c H locs bb D kc la hH hE hR hS hB hL) (fun q => kf q p e s m args below meth c H locs bb D kc la hH hE hR hS hB hL)
theorem sg_ic_le {x y : Int32} {off : Int} (pc1 pc2 : Nat) (hd : decode μ.2.1 pc = .ok (.if_icmp .le off, 3)) (ht : (pc : Int) + off = (pc1 : Int)) (hp : pc + 3 = pc2) (kt : x ≤ y → sk_G l R μ Ex Z cn sn pc1 ls st h) (kf : ¬ x ≤ y → sk_G l R μ Ex Z cn sn pc2 ls st h) : sk_G l R μ Ex Z cn sn pc ls (.inl y :: .inl x :: st) h := by
  subst hp
  exact fun p e s m args below meth c H locs bb D kc la hH hE hR hS hB hL => lv_icmp_le hH.1 hH.2.1 hd ht (fun q => kt q p e s m args below meth c H locs bb D kc la hH hE hR hS hB hL) (fun q => kf q p e s m args below meth c H locs bb D kc la hH hE hR hS hB hL)
/-- the known locals as a list -/
def sk_lst (bb : Nat × Nat) (ls : List (Option sk_AV)) : List (Nat × Value) := (List.range ls.length).filterMap (fun i => (ls[i]?.join).map (fun v => (i, sk_cv bb v)))
theorem sk_lst_mem {bb : Nat × Nat} {ls : List (Option sk_AV)} {i : Nat} {v : sk_AV} (hv : ls[i]? = some (some v)) : (i, sk_cv bb v) ∈ sk_lst bb ls := by
  unfold sk_lst
  refine List.mem_filterMap.mpr ⟨i, List.mem_range.mpr (List.getElem?_eq_some_iff.mp hv).1, ?_⟩
  rw [hv]
  rfl
theorem sk_LR.has {bb : Nat × Nat} {la : Array Slot} {nL : Nat} {ls : List (Option sk_AV)} (hL : sk_LR bb la nL ls) : lv_has la nL (sk_lst bb ls) := by
  refine ⟨hL.1, hL.2.1, fun q hq => ?_⟩
  unfold sk_lst at hq
  obtain ⟨i, hi, he⟩ := List.mem_filterMap.mp hq
  cases hx : ls[i]? with
  | none => rw [hx] at he; cases he
  | some o =>
    cases o with
    | none => rw [hx] at he; cases he
    | some v =>
      rw [hx] at he
      cases he
      exact hL.2.2.2 i v hx
def sk_isL : sk_AV → Bool
  | .inr (.inl _) => true
  | _ => false
theorem sk_cat (bb : Nat × Nat) (v : sk_AV) (h : sk_isL v = false) : ((sk_cv bb v).category == 2) = false := by
  match v, h with
  | .inl x, _ => rfl
  | .inr (.inr none), _ => rfl
  | .inr (.inr (some a)), _ => rfl
/-- no long stands just below place i -/
def sk_lc (ls : List (Option sk_AV)) (i : Nat) : Bool := match i with
  | 0 => true
  | j + 1 => match ls[j]? with
    | some (some v) => !(sk_isL v)
    | _ => true
theorem sk_LR.put1 {bb : Nat × Nat} {la' : Array Slot} {nL i : Nat} {ls : List (Option sk_AV)} {v : sk_AV} (hlen : ls.length = nL) (hc : sk_lc ls i = true) (hi : i < nL)
    (h : lv_has la' nL ((i, sk_cv bb v) :: (sk_lst bb ls).filter (fun q => !(q.1 == i) && !(q.1 + 1 == i && q.2.category == 2)))) : sk_LR bb la' nL (ls.set i (some v)) := by
  refine ⟨h.1, h.2.1, by rw [List.length_set, hlen], fun j w hj => ?_⟩
  by_cases hji : j = i
  · subst hji
    rw [List.getElem?_set_self (by omega)] at hj
    cases hj
    exact h.2.2 _ List.mem_cons_self
  · rw [List.getElem?_set_ne (Ne.symm hji)] at hj
    refine h.2.2 (j, sk_cv bb w) (List.mem_cons_of_mem _ (List.mem_filter.mpr ⟨sk_lst_mem hj, ?_⟩))
    have h1 : (j == i) = false := by simpa using hji
    by_cases h2 : j + 1 = i
    · subst h2
      have h3 : sk_isL w = false := by
        have hc' := hc
        unfold sk_lc at hc'
        simp only [hj] at hc'
        simpa using hc'
      simp only [h1, sk_cat bb w h3]
      simp
    · have h3 : (j + 1 == i) = false := by simpa using h2
      simp only [h1, h3]
      rfl
theorem sk_LR.put2 {bb : Nat × Nat} {la' : Array Slot} {nL i : Nat} {ls : List (Option sk_AV)} {v : sk_AV} (hlen : ls.length = nL) (hc : sk_lc ls i = true) (hi : i + 1 < nL)
    (h : lv_has la' nL ((i, sk_cv bb v) :: (sk_lst bb ls).filter (fun q => !(q.1 == i) && (!(q.1 == i + 1) && !(q.1 + 1 == i && q.2.category == 2))))) : sk_LR bb la' nL ((ls.set i (some v)).set (i + 1) none) := by
  refine ⟨h.1, h.2.1, by rw [List.length_set, List.length_set, hlen], fun j w hj => ?_⟩
  by_cases hj1 : j = i + 1
  · subst hj1
    rw [List.getElem?_set_self (by rw [List.length_set]; omega)] at hj
    cases hj
  rw [List.getElem?_set_ne (Ne.symm hj1)] at hj
  by_cases hji : j = i
  · subst hji
    rw [List.getElem?_set_self (by omega)] at hj
    cases hj
    exact h.2.2 _ List.mem_cons_self
  · rw [List.getElem?_set_ne (Ne.symm hji)] at hj
    refine h.2.2 (j, sk_cv bb w) (List.mem_cons_of_mem _ (List.mem_filter.mpr ⟨sk_lst_mem hj, ?_⟩))
    have h1 : (j == i) = false := by simpa using hji
    have h0 : (j == i + 1) = false := by simpa using hj1
    by_cases h2 : j + 1 = i
    · subst h2
      have h3 : sk_isL w = false := by
        have hc' := hc
        unfold sk_lc at hc'
        simp only [hj] at hc'
        simpa using hc'
      simp only [h1, h0, sk_cat bb w h3]
      simp
    · have h3 : (j + 1 == i) = false := by simpa using h2
      simp only [h1, h0, h3]
      rfl
theorem sg_istore_n {i : Fin 4} {x : Int32} (pc' : Nat) (ls' : List (Option sk_AV)) (hd : decode μ.2.1 pc = .ok (.istore_n i, 1)) (hp : pc + 1 = pc') (hs : ls.set (i : Nat) (some (.inl x)) = ls') (hn : (i : Nat) < ls.length) (hc : sk_lc ls (i : Nat) = true) (k : sk_G l R μ Ex Z cn sn pc' ls' st h) : sk_G l R μ Ex Z cn sn pc ls (.inl x :: st) h := by
  subst hp
  subst hs
  exact fun p e s m args below meth c H locs bb D kc la hH hE hR hS hB hL => lv_istore_n hH.1 hH.2.1 hd rfl hL.has (by rw [← hL.2.2.1]; exact hn) rfl (fun la' hla => k p e s m args below meth c H locs bb D kc la' hH hE hR hS hB (sk_LR.put1 hL.2.2.1 hc (by rw [← hL.2.2.1]; exact hn) hla))
theorem sg_istore {i : Nat} {x : Int32} (pc' : Nat) (ls' : List (Option sk_AV)) (hd : decode μ.2.1 pc = .ok (.istore i, 2)) (hp : pc + 2 = pc') (hs : ls.set i (some (.inl x)) = ls') (hn : i < ls.length) (hc : sk_lc ls i = true) (k : sk_G l R μ Ex Z cn sn pc' ls' st h) : sk_G l R μ Ex Z cn sn pc ls (.inl x :: st) h := by
  subst hp
  subst hs
  exact fun p e s m args below meth c H locs bb D kc la hH hE hR hS hB hL => lv_istore hH.1 hH.2.1 hd hL.has (by rw [← hL.2.2.1]; exact hn) rfl (fun la' hla => k p e s m args below meth c H locs bb D kc la' hH hE hR hS hB (sk_LR.put1 hL.2.2.1 hc (by rw [← hL.2.2.1]; exact hn) hla))
theorem sg_lstore_n {i : Fin 4} {x : Int64} (pc' : Nat) (ls' : List (Option sk_AV)) (hd : decode μ.2.1 pc = .ok (.lstore_n i, 1)) (hp : pc + 1 = pc') (hs : (ls.set (i : Nat) (some (.inr (.inl x)))).set ((i : Nat) + 1) none = ls') (hn : (i : Nat) + 1 < ls.length) (hc : sk_lc ls (i : Nat) = true) (k : sk_G l R μ Ex Z cn sn pc' ls' st h) : sk_G l R μ Ex Z cn sn pc ls (.inr (.inl x) :: st) h := by
  subst hp
  subst hs
  exact fun p e s m args below meth c H locs bb D kc la hH hE hR hS hB hL => lv_lstore_n hH.1 hH.2.1 hd rfl hL.has (by rw [← hL.2.2.1]; exact hn) rfl (fun la' hla => k p e s m args below meth c H locs bb D kc la' hH hE hR hS hB (sk_LR.put2 hL.2.2.1 hc (by rw [← hL.2.2.1]; exact hn) hla))
theorem sg_lstore {i : Nat} {x : Int64} (pc' : Nat) (ls' : List (Option sk_AV)) (hd : decode μ.2.1 pc = .ok (.lstore i, 2)) (hp : pc + 2 = pc') (hs : (ls.set i (some (.inr (.inl x)))).set (i + 1) none = ls') (hn : i + 1 < ls.length) (hc : sk_lc ls i = true) (k : sk_G l R μ Ex Z cn sn pc' ls' st h) : sk_G l R μ Ex Z cn sn pc ls (.inr (.inl x) :: st) h := by
  subst hp
  subst hs
  exact fun p e s m args below meth c H locs bb D kc la hH hE hR hS hB hL => lv_lstore hH.1 hH.2.1 hd hL.has (by rw [← hL.2.2.1]; exact hn) rfl (fun la' hla => k p e s m args below meth c H locs bb D kc la' hH hE hR hS hB (sk_LR.put2 hL.2.2.1 hc (by rw [← hL.2.2.1]; exact hn) hla))
theorem sg_astore_n {i : Fin 4} {x : (Nat × Nat)} (pc' : Nat) (ls' : List (Option sk_AV)) (hd : decode μ.2.1 pc = .ok (.astore_n i, 1)) (hp : pc + 1 = pc') (hs : ls.set (i : Nat) (some (.inr (.inr (some x)))) = ls') (hn : (i : Nat) < ls.length) (hc : sk_lc ls (i : Nat) = true) (k : sk_G l R μ Ex Z cn sn pc' ls' st h) : sk_G l R μ Ex Z cn sn pc ls (.inr (.inr (some x)) :: st) h := by
  subst hp
  subst hs
  exact fun p e s m args below meth c H locs bb D kc la hH hE hR hS hB hL => lv_astore_n hH.1 hH.2.1 hd rfl hL.has (by rw [← hL.2.2.1]; exact hn) rfl (fun la' hla => k p e s m args below meth c H locs bb D kc la' hH hE hR hS hB (sk_LR.put1 hL.2.2.1 hc (by rw [← hL.2.2.1]; exact hn) hla))
theorem sg_astore {i : Nat} {x : (Nat × Nat)} (pc' : Nat) (ls' : List (Option sk_AV)) (hd : decode μ.2.1 pc = .ok (.astore i, 2)) (hp : pc + 2 = pc') (hs : ls.set i (some (.inr (.inr (some x)))) = ls') (hn : i < ls.length) (hc : sk_lc ls i = true) (k : sk_G l R μ Ex Z cn sn pc' ls' st h) : sk_G l R μ Ex Z cn sn pc ls (.inr (.inr (some x)) :: st) h := by
  subst hp
  subst hs
  exact fun p e s m args below meth c H locs bb D kc la hH hE hR hS hB hL => lv_astore hH.1 hH.2.1 hd hL.has (by rw [← hL.2.2.1]; exact hn) rfl (fun la' hla => k p e s m args below meth c H locs bb D kc la' hH hE hR hS hB (sk_LR.put1 hL.2.2.1 hc (by rw [← hL.2.2.1]; exact hn) hla))
theorem sg_iinc {i : Nat} {n : Int} {x : Int32} (v : Int32) (pc' : Nat) (ls' : List (Option sk_AV)) (hd : decode μ.2.1 pc = .ok (.iinc i n, 3)) (hp : pc + 3 = pc') (hv : ls[i]? = some (some (.inl x))) (hx : x + Int32.ofInt n = v) (hs : ls.set i (some (.inl v)) = ls') (hn : i < ls.length) (hc : sk_lc ls i = true) (k : sk_G l R μ Ex Z cn sn pc' ls' st h) : sk_G l R μ Ex Z cn sn pc ls st h := by
  subst hp
  subst hs
  intro p e s m args below meth c H locs bb D kc la hH hE hR hS hB hL
  obtain ⟨q, hq⟩ := List.getElem?_of_mem (sk_lst_mem (bb := bb) hv)
  exact lv_iinc hH.1 hH.2.1 hd hL.has hq hx (by rw [← hL.2.2.1]; exact hn) rfl (fun la' hla => k p e s m args below meth c H locs bb D kc la' hH hE hR hS hB (sk_LR.put1 hL.2.2.1 hc (by rw [← hL.2.2.1]; exact hn) hla))
end SKR
end
section
theorem sk_sub {ws : List Cond} (ps : List Nat) (hp : ws = ps.filterMap (fun i => lw_tbl[i]?)) (hg : ws.all goodWord = true) : ∀ w ∈ ws, w ∈ sk_tg := by
  intro w hw
  have h1 := List.all_eq_true.mp hg w hw
  rw [hp] at hw
  obtain ⟨i, -, hi⟩ := List.mem_filterMap.mp hw
  exact sk_in i hi h1
theorem sk_c0 : ∀ w ∈ wsX00, w ∈ sk_tg := sk_sub [359, 361, 363, 365, 367, 369, 371, 373, 375, 377, 379] (by decide +kernel) (by decide +kernel)
theorem sk_c1 : ∀ w ∈ wsX10, w ∈ sk_tg := sk_sub [398, 400, 402, 404, 406, 408] (by decide +kernel) (by decide +kernel)
theorem sk_c2 : ∀ w ∈ wsX20, w ∈ sk_tg := sk_sub [428, 430, 432, 434, 436] (by decide +kernel) (by decide +kernel)
theorem sk_c3 : ∀ w ∈ wsX30, w ∈ sk_tg := sk_sub [134, 136, 138, 140, 142, 144, 146, 148, 150, 152, 154, 156, 158] (by decide +kernel) (by decide +kernel)
theorem sk_c4 : ∀ w ∈ wsX40, w ∈ sk_tg := sk_sub [310, 312, 314, 316, 318, 320, 322] (by decide +kernel) (by decide +kernel)
theorem sk_c5 : ∀ w ∈ wsX50, w ∈ sk_tg := sk_sub [260, 262, 264, 266, 268, 270, 272, 274, 276, 278, 280, 282] (by decide +kernel) (by decide +kernel)
theorem sk_c6 : ∀ w ∈ wsX60, w ∈ sk_tg := sk_sub [209, 211, 213, 215, 217, 219, 221, 223, 225, 227] (by decide +kernel) (by decide +kernel)
theorem sk_c7 : ∀ w ∈ wsX70, w ∈ sk_tg := sk_sub [177, 179, 181, 183] (by decide +kernel) (by decide +kernel)
theorem sk_c8 : ∀ w ∈ wsX80, w ∈ sk_tg := sk_sub [453, 455, 457, 459, 461, 463, 465, 467, 469, 471, 473, 475, 477, 479] (by decide +kernel) (by decide +kernel)
theorem sk_c9 : ∀ w ∈ wsX90, w ∈ sk_tg := sk_sub [1065, 1067, 1069, 1071, 1073, 1075, 1077, 1079, 1081, 1083, 1085, 1087, 1089, 1091, 1093, 1095, 1097, 1099, 1101, 1103, 1105, 1107, 1109, 1111, 1113, 1115, 1117, 1119, 1121, 1123, 1125, 1127, 1129, 1131, 1133, 1135, 1137, 1139, 1141, 1143, 1145, 1147, 1149, 1151, 1153, 1155, 1157, 1159, 1161, 1163, 1165, 1167, 1169, 1171, 1173, 1175, 1177, 1179, 1181, 1183, 1185] (by decide +kernel) (by decide +kernel)
def sk_CF (ci : Nat) (q : vw_C) : Prop := (∀ w ∈ u_ws q.1 q.2.1 q.2.2, w ∈ sk_tg) ∧ q.2.2 = sk_fn ci ∧ (∀ a, a < q.2.2 → ∀ b, b < q.2.2 → a ≠ b → (q.2.1 a).2.1 ≠ (q.2.1 b).2.1) ∧ ∃ ty : Nat → FieldType, (∀ k, k < q.2.2 → parseFieldDescriptor (q.2.1 k).2.2.1 = some (ty k)) ∧ ∀ k, k < q.2.2 → (ty k).isReference = sk_fr ci k
theorem sk_cl : ∀ (ci : Nat) (q : vw_C), vwCl[ci]? = some q → sk_CF ci q := by
  intro ci q h
  match ci, h with
  | 0, h => cases h; exact ⟨sk_c0, rfl, nmX0, tyX0, tyX0_ok, by decide +kernel⟩
  | 1, h => cases h; exact ⟨sk_c1, rfl, nmX1, tyX1, tyX1_ok, by decide +kernel⟩
  | 2, h => cases h; exact ⟨sk_c2, rfl, nmX2, tyX2, tyX2_ok, by decide +kernel⟩
  | 3, h => cases h; exact ⟨sk_c3, rfl, nmX3, tyX3, tyX3_ok, by decide +kernel⟩
  | 4, h => cases h; exact ⟨sk_c4, rfl, nmX4, tyX4, tyX4_ok, by decide +kernel⟩
  | 5, h => cases h; exact ⟨sk_c5, rfl, nmX5, tyX5, tyX5_ok, by decide +kernel⟩
  | 6, h => cases h; exact ⟨sk_c6, rfl, nmX6, tyX6, tyX6_ok, by decide +kernel⟩
  | 7, h => cases h; exact ⟨sk_c7, rfl, nmX7, tyX7, tyX7_ok, by decide +kernel⟩
  | 8, h => cases h; exact ⟨sk_c8, rfl, nmX8, tyX8, tyX8_ok, by decide +kernel⟩
  | 9, h => cases h; exact ⟨sk_c9, rfl, nmX9, tyX9, tyX9_ok, by decide +kernel⟩
  | n + 10, h => simp [vwCl] at h
def sk_up {α : Type} (d : Nat → Nat → Nat → α) (s k f : Nat) (v : α) : Nat → Nat → Nat → α := fun s' k' f' => if s' = s ∧ k' = k ∧ f' = f then v else d s' k' f'
def sk_pi (h : sk_Mem) (s k f : Nat) (v : Int32) : sk_Mem := (h.1, sk_up h.2.1 s k f v, h.2.2)
def sk_pl (h : sk_Mem) (s k f : Nat) (v : Int64) : sk_Mem := (h.1, h.2.1, sk_up h.2.2.1 s k f v, h.2.2.2)
def sk_pr (h : sk_Mem) (s k f : Nat) (v : Option (Nat × Nat)) : sk_Mem := (h.1, h.2.1, h.2.2.1, sk_up h.2.2.2 s k f v)
theorem sk_up_ne {α : Type} {d : Nat → Nat → Nat → α} {s k f : Nat} {v : α} {a : Nat × Nat} (h : a ≠ (s, k)) : sk_up d s k f v a.1 a.2 = d a.1 a.2 := by
  funext j
  unfold sk_up
  rw [if_neg]
  rintro ⟨h1, h2, -⟩
  exact h (Prod.ext h1 h2)
theorem sk_up_eq {d : Nat → Nat → Nat → Int32} {s k f : Nat} {v : Int32} : sk_up d s k f v s k = upd (d s k) f v := by
  funext j
  unfold sk_up upd
  by_cases h : j = f <;> simp [h]
theorem sk_up_eqL {d : Nat → Nat → Nat → Int64} {s k f : Nat} {v : Int64} : sk_up d s k f v s k = vp_updL (d s k) f v := by
  funext j
  unfold sk_up vp_updL
  by_cases h : j = f <;> simp [h]
theorem sk_ce_pi {kc : Nat → ClassId} {bb : Nat × Nat} {h : sk_Mem} {s k f : Nat} {v : Int32} {a : Nat × Nat} (ha : a ≠ (s, k)) : sk_ce kc bb (sk_pi h s k f v) a = sk_ce kc bb h a := by
  have e : (sk_pi h s k f v).2.1 a.1 a.2 = h.2.1 a.1 a.2 := sk_up_ne ha
  unfold sk_ce
  cases sk_shp a.1 with
  | inl ci =>
    refine congrArg (fun l => Sum.inr (ci, l)) (List.map_congr_left fun j _ => ?_)
    unfold sk_fv
    rw [e]
    rfl
  | inr kn =>
    show Sum.inl (kc kn.1, kn.2, _) = Sum.inl (kc kn.1, kn.2, _)
    rw [e]
    rfl
theorem sk_ce_pl {kc : Nat → ClassId} {bb : Nat × Nat} {h : sk_Mem} {s k f : Nat} {v : Int64} {a : Nat × Nat} (ha : a ≠ (s, k)) : sk_ce kc bb (sk_pl h s k f v) a = sk_ce kc bb h a := by
  have e : (sk_pl h s k f v).2.2.1 a.1 a.2 = h.2.2.1 a.1 a.2 := sk_up_ne ha
  unfold sk_ce
  cases sk_shp a.1 with
  | inl ci => rfl
  | inr kn =>
    show Sum.inl (kc kn.1, kn.2, _) = Sum.inl (kc kn.1, kn.2, _)
    rw [e]
    rfl
theorem sk_ce_pr {kc : Nat → ClassId} {bb : Nat × Nat} {h : sk_Mem} {s k f : Nat} {v : Option (Nat × Nat)} {a : Nat × Nat} (ha : a ≠ (s, k)) : sk_ce kc bb (sk_pr h s k f v) a = sk_ce kc bb h a := by
  have e : (sk_pr h s k f v).2.2.2 a.1 a.2 = h.2.2.2 a.1 a.2 := sk_up_ne ha
  unfold sk_ce
  cases sk_shp a.1 with
  | inl ci =>
    refine congrArg (fun l => Sum.inr (ci, l)) (List.map_congr_left fun j _ => ?_)
    unfold sk_fv
    rw [e]
    rfl
  | inr kn =>
    show Sum.inl (kc kn.1, kn.2, _) = Sum.inl (kc kn.1, kn.2, _)
    rw [e]
    rfl
theorem sk_rset {F F' : Nat → Value} {n f : Nat} {v : Value} (h1 : F' f = v) (h2 : ∀ j, j ≠ f → F' j = F j) : ((List.range n).map F).set f v = (List.range n).map F' := by
  apply List.ext_getElem?
  intro j
  by_cases hj : j = f
  · subst hj
    by_cases hn : j < n
    · rw [List.getElem?_set_self (by rw [List.length_map, List.length_range]; exact hn), List.getElem?_map, List.getElem?_range hn]
      exact congrArg some h1.symm
    · rw [List.getElem?_eq_none (by rw [List.length_set, List.length_map, List.length_range]; omega), List.getElem?_eq_none (by rw [List.length_map, List.length_range]; omega)]
  · rw [List.getElem?_set_ne (Ne.symm hj), List.getElem?_map, List.getElem?_map]
    cases hr : (List.range n)[j]? with
    | none => rfl
    | some i =>
      obtain ⟨h3, h4⟩ := List.getElem?_eq_some_iff.mp hr
      rw [List.getElem_range] at h4
      subst h4
      exact congrArg some (h2 j hj).symm
/-- what a field's instruction needs of the tables -/
def sk_fl (own : String) (idx ci f : Nat) : Prop := ∃ q, vwCl[ci]? = some q ∧ f < q.2.2 ∧ Cond.fieldLink own idx (q.2.1 f).1 (q.2.1 f).2.1 (q.2.1 f).2.2.1 ∈ sk_tg
/-- .. and to store there: not final, the type -/
def sk_fp (own : String) (idx ci f : Nat) (ty : FieldType) : Prop := ∃ q, vwCl[ci]? = some q ∧ f < q.2.2 ∧ Cond.fieldLink own idx (q.2.1 f).1 (q.2.1 f).2.1 (q.2.1 f).2.2.1 ∈ sk_tg ∧ (q.2.1 f).2.2.2 = false ∧ parseFieldDescriptor (q.2.1 f).2.2.1 = some ty
theorem sk_fl_of {own : String} {idx ci f : Nat} (i : Nat) (h : (vwCl[ci]?).any (fun q => decide (f < q.2.2) && (lw_tbl[i]? == some (Cond.fieldLink own idx (q.2.1 f).1 (q.2.1 f).2.1 (q.2.1 f).2.2.1))) = true) : sk_fl own idx ci f := by
  cases hq : vwCl[ci]? with
  | none => rw [hq] at h; cases h
  | some q =>
    rw [hq] at h
    have h2 : (decide (f < q.2.2) && (lw_tbl[i]? == some (Cond.fieldLink own idx (q.2.1 f).1 (q.2.1 f).2.1 (q.2.1 f).2.2.1))) = true := h
    simp only [Bool.and_eq_true, decide_eq_true_eq, beq_iff_eq] at h2
    exact ⟨q, hq, h2.1, sk_in i h2.2 rfl⟩
theorem sk_fp_of {own : String} {idx ci f : Nat} {ty : FieldType} (i : Nat) (h : (vwCl[ci]?).any (fun q => decide (f < q.2.2) && (lw_tbl[i]? == some (Cond.fieldLink own idx (q.2.1 f).1 (q.2.1 f).2.1 (q.2.1 f).2.2.1)) && ((q.2.1 f).2.2.2 == false) && decide (parseFieldDescriptor (q.2.1 f).2.2.1 = some ty)) = true) : sk_fp own idx ci f ty := by
  cases hq : vwCl[ci]? with
  | none => rw [hq] at h; cases h
  | some q =>
    rw [hq] at h
    have h2 : (decide (f < q.2.2) && (lw_tbl[i]? == some (Cond.fieldLink own idx (q.2.1 f).1 (q.2.1 f).2.1 (q.2.1 f).2.2.1)) && ((q.2.1 f).2.2.2 == false) && decide (parseFieldDescriptor (q.2.1 f).2.2.1 = some ty)) = true := h
    simp only [Bool.and_eq_true, decide_eq_true_eq, beq_iff_eq] at h2
    exact ⟨q, hq, h2.1.1.1, sk_in i h2.1.1.2 rfl, h2.1.2, h2.2⟩
def sk_bi (i : Int32) (n : Nat) : Bool := decide (¬ (i < 0 ∨ n ≤ i.toNatClampNeg))
theorem sk_bi.v {i : Int32} {n : Nat} (h : sk_bi i n = true) : vp_in i n := by unfold vp_in; exact of_decide_eq_true h
theorem sk_bi.lt {i : Int32} {n : Nat} (h : sk_bi i n = true) : i.toNatClampNeg < n := Nat.not_le.mp fun q => (of_decide_eq_true h : ¬ _) (Or.inr q)
section SKH
variable {l : Launch} {R : Room} {μ : sk_MI} {Ex : sk_EX} {Z : sk_ZZ} {cn sn pc : Nat} {ls : List (Option sk_AV)} {st : List sk_AV} {h : sk_Mem}
theorem sk_at_obj {kc : Nat → ClassId} {bb : Nat × Nat} {h : sk_Mem} {s k ci : Nat} (hs : sk_shp s = .inl ci) (hl : sk_lv h s k) : (sk_ws kc bb h)[sk_ord s k]? = some (sk_ad bb (s, k), .inr (ci, (List.range (sk_fn ci)).map (sk_fv bb h s k ci))) := by
  rw [sk_ws_at hl]
  unfold sk_ce
  rw [hs]
theorem sk_at_arr {kc : Nat → ClassId} {bb : Nat × Nat} {h : sk_Mem} {s k kd n : Nat} (hs : sk_shp s = .inr (kd, n)) (hl : sk_lv h s k) : (sk_ws kc bb h)[sk_ord s k]? = some (sk_ad bb (s, k), .inl (kc kd, n, if kd = 1 then .inr (.inl (h.2.2.1 s k)) else if 4 ≤ kd then .inr (.inr (.inr (.inr (fun j => sk_ro bb (h.2.2.2 s k j))))) else .inl (h.2.1 s k))) := by
  rw [sk_ws_at hl]
  unfold sk_ce
  rw [hs]
theorem sk_fv_at {bb : Nat × Nat} {h : sk_Mem} {s k ci f : Nat} (hf : f < sk_fn ci) : ((List.range (sk_fn ci)).map (sk_fv bb h s k ci))[f]? = some (sk_fv bb h s k ci f) := by
  rw [List.getElem?_map, List.getElem?_range hf]
  rfl
theorem sg_getI {idx s k ci f : Nat} (pc' : Nat) (hd : decode μ.2.1 pc = .ok (.getfield idx, 3)) (hp : pc + 3 = pc') (hk : sk_fl μ.1.cls idx ci f) (hs : sk_shp s = .inl ci) (hf : sk_fr ci f = false) (hl : sk_lv h s k) (kk : sk_G l R μ Ex Z cn sn pc' ls (.inl (h.2.1 s k f) :: st) h) : sk_G l R μ Ex Z cn sn pc ls (.inr (.inr (some (s, k))) :: st) h := by
  subst hp
  intro p e s0 m args below meth c H locs bb D kc la hH hE hR hS hB hL
  obtain ⟨q, hq, hfn, hw⟩ := hk
  obtain ⟨c1, c2, c3, ty, c4, c5⟩ := sk_cl ci q hq
  refine va_get (v := .int (h.2.1 s k f)) hH.1 hH.2.1 hH.2.2.2.2.2.1 c1 hH.2.2.2.2.1 hR.1 hR.2.2.2 (sk_ord s k) (sk_at_obj hs hl) hq f hfn (hH.2.2.2.2.2.1 _ hw) (fun _ h9 => h9) ?_ hd (kk p e s0 m args below meth c H locs bb D kc la hH hE hR hS hB hL)
  rw [sk_fv_at (by rw [← c2]; exact hfn)]
  unfold sk_fv
  rw [hf]
  rfl
theorem sg_getR {idx s k ci f : Nat} {a : Nat × Nat} (pc' : Nat) (hd : decode μ.2.1 pc = .ok (.getfield idx, 3)) (hp : pc + 3 = pc') (hk : sk_fl μ.1.cls idx ci f) (hs : sk_shp s = .inl ci) (hf : sk_fr ci f = true) (hl : sk_lv h s k) (ha : h.2.2.2 s k f = some a) (kk : sk_G l R μ Ex Z cn sn pc' ls (.inr (.inr (some a)) :: st) h) : sk_G l R μ Ex Z cn sn pc ls (.inr (.inr (some (s, k))) :: st) h := by
  subst hp
  intro p e s0 m args below meth c H locs bb D kc la hH hE hR hS hB hL
  obtain ⟨q, hq, hfn, hw⟩ := hk
  obtain ⟨c1, c2, c3, ty, c4, c5⟩ := sk_cl ci q hq
  refine va_get (v := .ref (sk_ad bb a)) hH.1 hH.2.1 hH.2.2.2.2.2.1 c1 hH.2.2.2.2.1 hR.1 hR.2.2.2 (sk_ord s k) (sk_at_obj hs hl) hq f hfn (hH.2.2.2.2.2.1 _ hw) (fun _ h9 => h9) ?_ hd (kk p e s0 m args below meth c H locs bb D kc la hH hE hR hS hB hL)
  rw [sk_fv_at (by rw [← c2]; exact hfn)]
  unfold sk_fv
  rw [hf, ha]
  rfl
theorem sk_RH.set {bb : Nat × Nat} {D : va_G} {kc : Nat → ClassId} {h h' : sk_Mem} {s0 : State} {H H1 : Heap} {s k : Nat} (hR : sk_RH bb D kc h s0 H) (hl : sk_lv h s k) (h1 : h'.1 = h.1) (ho : ∀ a : Nat × Nat, a ≠ (s, k) → sk_ce kc bb h' a = sk_ce kc bb h a)
    (hat : va_at D vwCl (sk_ad bb (s, k), sk_ce kc bb h' (s, k)) H1) (hz : H1.size = H.size) (oq : ∀ q : Nat, q ≠ sk_ad bb (s, k) → H1[q]? = H[q]?) : sk_RH bb D kc h' s0 H1 := by
  refine ⟨hR.1, by rw [hz, h1]; exact hR.2.1, by rw [h1]; exact hR.2.2.1, ?_⟩
  rw [← sk_ws_set (h' := h') hl h1 hR.2.2.1 ho]
  exact va_P.set hR.2.2.2 sk_ws_D (sk_ws_at hl) hat oq
theorem sk_ad_ge {bb : Nat × Nat} {h : sk_Mem} {s k : Nat} (hl : sk_lv h s k) : bb.1 ≤ sk_ad bb (s, k) := by
  unfold sk_ad
  rw [if_neg hl.2.2]
  omega
theorem sg_putI {idx s k ci f : Nat} {ty : FieldType} {x : Int32} (pc' : Nat) (hd : decode μ.2.1 pc = .ok (.putfield idx, 3)) (hp : pc + 3 = pc') (hk : sk_fp μ.1.cls idx ci f ty) (hs : sk_shp s = .inl ci) (hf : sk_fr ci f = false) (hl : sk_lv h s k) (hn : narrow ty (.int x) = .int x) (hfit : fits ty (.int x) = true) (kk : sk_G l R μ Ex Z cn sn pc' ls st (sk_pi h s k f x)) : sk_G l R μ Ex Z cn sn pc ls (.inl x :: .inr (.inr (some (s, k))) :: st) h := by
  subst hp
  intro p e s0 m args below meth c H locs bb D kc la hH hE hR hS hB hL
  obtain ⟨q, hq, hfn, hw, hfin, hpt⟩ := hk
  obtain ⟨c1, c2, c3, ty0, c4, c5⟩ := sk_cl ci q hq
  have hfn' : f < sk_fn ci := by rw [← c2]; exact hfn
  have hap := va_apart (own := μ.1.cls) hH.2.2.2.2.2.1 c1 ty0 c4 c3 hR.1 hq
  obtain ⟨r, hr1, cell, q1, q2, q3, q4⟩ := hR.2.2.2 _ _ (sk_at_obj hs hl)
  have hr : r = q := Option.some.inj (hr1.symm.trans hq)
  subst hr
  obtain ⟨hS9, hfc, kC, hkC, hkind⟩ := hR.1.1 ci _ hq
  obtain ⟨cf, kf, fi, fd, hi, hsl⟩ := hS9 f hfn
  have hlay := hH.2.2.2.2.2.1 _ (c1 _ (u_in_lay hfn))
  unfold u_lay at hlay
  rw [if_neg (by rw [hfin]; decide)] at hlay
  have hst := (u_facts hfc hkC (u_lays hH.2.2.2.2.2.1 c1 hfn) hi).1
  have h6 := u_store hfc hkC hkind hlay hi hpt hn hfit
  refine W.putK hH.1 hH.2.1 (f := fd) ⟨hH.2.2.2.2.1, hH.2.2.2.2.2.1 _ hw, ⟨_, _, _, hi⟩, hst⟩ (by rw [q2]; exact h6) q1 q3 (by rw [hsl]; exact k2_hasslot (q4 f hfn)) rfl rfl hd fun H' e1 e2 e3 => ?_
  rw [hsl] at e1 ⊢
  refine kk p e s0 m args below meth c H' _ bb D kc la hH hE (hR.set hl rfl (fun a ha => sk_ce_pi ha) ?_ e2 e3) (hS.put e2 e3 (sk_ad_ge hl)) hB hL
  have ec : sk_ce kc bb (sk_pi h s k f x) (s, k) = .inr (ci, (List.range (sk_fn ci)).map (sk_fv bb (sk_pi h s k f x) s k ci)) := by
    unfold sk_ce
    rw [show sk_shp (s, k).1 = .inl ci from hs]
  rw [ec]
  refine ⟨_, hq, t_OB.to (V := updV (vp_V ((List.range (sk_fn ci)).map (sk_fv bb h s k ci))) f (.int x)) ⟨_, e1, q2, q3, t_set q4 hap hfn (.int x)⟩ (fun j _ => ?_)⟩
  rw [vp_updV_set (by rw [List.length_map, List.length_range]; exact hfn'), sk_rset (F' := sk_fv bb (sk_pi h s k f x) s k ci)]
  · unfold sk_fv
    rw [hf]
    simp [sk_pi, sk_up]
  · intro j hj
    unfold sk_fv
    simp [sk_pi, sk_up, hj]
theorem sg_iald {s k n : Nat} {i : Int32} (pc' : Nat) (hd : decode μ.2.1 pc = .ok (.iaload, 1)) (hp : pc + 1 = pc') (hs : sk_shp s = .inr (0, n)) (hl : sk_lv h s k) (hb : sk_bi i n = true) (kk : sk_G l R μ Ex Z cn sn pc' ls (.inl (h.2.1 s k i.toNatClampNeg) :: st) h) : sk_G l R μ Ex Z cn sn pc ls (.inl i :: .inr (.inr (some (s, k))) :: st) h := by
  subst hp
  intro p e s0 m args below meth c H locs bb D kc la hH hE hR hS hB hL
  exact va_iald hH.1 hH.2.1 hR.1 hR.2.2.2 (sk_ord s k) 0 (sk_at_arr hs hl) (sk_ty_at (by decide)) (sk_bi.v hb) hd (kk p e s0 m args below meth c H locs bb D kc la hH hE hR hS hB hL)
theorem sg_zald {s k n : Nat} {i : Int32} (pc' : Nat) (hd : decode μ.2.1 pc = .ok (.baload, 1)) (hp : pc + 1 = pc') (hs : sk_shp s = .inr (2, n)) (hl : sk_lv h s k) (hb : sk_bi i n = true) (kk : sk_G l R μ Ex Z cn sn pc' ls (.inl (h.2.1 s k i.toNatClampNeg) :: st) h) : sk_G l R μ Ex Z cn sn pc ls (.inl i :: .inr (.inr (some (s, k))) :: st) h := by
  subst hp
  intro p e s0 m args below meth c H locs bb D kc la hH hE hR hS hB hL
  exact va_zald hH.1 hH.2.1 hR.1 hR.2.2.2 (sk_ord s k) 2 (sk_at_arr hs hl) (sk_ty_at (by decide)) (sk_bi.v hb) hd (kk p e s0 m args below meth c H locs bb D kc la hH hE hR hS hB hL)
theorem sg_cald {s k n : Nat} {i : Int32} (pc' : Nat) (hd : decode μ.2.1 pc = .ok (.caload, 1)) (hp : pc + 1 = pc') (hs : sk_shp s = .inr (3, n)) (hl : sk_lv h s k) (hb : sk_bi i n = true) (kk : sk_G l R μ Ex Z cn sn pc' ls (.inl (h.2.1 s k i.toNatClampNeg) :: st) h) : sk_G l R μ Ex Z cn sn pc ls (.inl i :: .inr (.inr (some (s, k))) :: st) h := by
  subst hp
  intro p e s0 m args below meth c H locs bb D kc la hH hE hR hS hB hL
  exact va_cald hH.1 hH.2.1 hR.1 hR.2.2.2 (sk_ord s k) 3 (sk_at_arr hs hl) (sk_ty_at (by decide)) (sk_bi.v hb) hd (kk p e s0 m args below meth c H locs bb D kc la hH hE hR hS hB hL)
theorem sg_lald {s k n : Nat} {i : Int32} (pc' : Nat) (hd : decode μ.2.1 pc = .ok (.laload, 1)) (hp : pc + 1 = pc') (hs : sk_shp s = .inr (1, n)) (hl : sk_lv h s k) (hb : sk_bi i n = true) (kk : sk_G l R μ Ex Z cn sn pc' ls (.inr (.inl (h.2.2.1 s k i.toNatClampNeg)) :: st) h) : sk_G l R μ Ex Z cn sn pc ls (.inl i :: .inr (.inr (some (s, k))) :: st) h := by
  subst hp
  intro p e s0 m args below meth c H locs bb D kc la hH hE hR hS hB hL
  exact va_lald hH.1 hH.2.1 hR.1 hR.2.2.2 (sk_ord s k) 1 (sk_at_arr hs hl) (sk_ty_at (by decide)) (sk_bi.v hb) hd (kk p e s0 m args below meth c H locs bb D kc la hH hE hR hS hB hL)
theorem sg_aald {s k n kd : Nat} {i : Int32} {a : Nat × Nat} (pc' : Nat) (hd : decode μ.2.1 pc = .ok (.aaload, 1)) (hp : pc + 1 = pc') (hs : sk_shp s = .inr (kd, n)) (hkd : 4 ≤ kd ∧ kd < 9) (hl : sk_lv h s k) (hb : sk_bi i n = true) (ha : h.2.2.2 s k i.toNatClampNeg = some a) (kk : sk_G l R μ Ex Z cn sn pc' ls (.inr (.inr (some a)) :: st) h) : sk_G l R μ Ex Z cn sn pc ls (.inl i :: .inr (.inr (some (s, k))) :: st) h := by
  subst hp
  intro p e s0 m args below meth c H locs bb D kc la hH hE hR hS hB hL
  have h1 := sk_at_arr (kc := kc) (bb := bb) (h := h) hs hl
  rw [if_neg (by omega), if_pos hkd.1] at h1
  have hin := (sk_bi.v hb)
  have hlt : i.toNatClampNeg < n := (sk_bi.lt hb)
  refine W.aald (v := .ref (sk_ad bb a)) (ty := sk_kt kd) hH.1 hH.2.1 (hR.2.2.2 _ _ h1) ((hR.1.2 kd _ (sk_ty_at hkd.2)).1 n (fun j => va_rf (sk_ro bb (h.2.2.2 s k j)))) ?_ (fun q => by cases q) (by show ¬ (i < 0 ∨ (arrV _ _ _).slots.size ≤ _); rw [arrV_size]; exact hin) (by show (arrV _ _ _).slots[_]? = _; rw [arrV_read _ _ hlt]; show some (va_rf (sk_ro bb (h.2.2.2 s k i.toNatClampNeg))) = _; rw [ha]; rfl) rfl rfl hd (kk p e s0 m args below meth c H locs bb D kc la hH hE hR hS hB hL)
  obtain ⟨h2, h3⟩ := hkd
  have : kd = 4 ∨ kd = 5 ∨ kd = 6 ∨ kd = 7 ∨ kd = 8 := by omega
  rcases this with rfl | rfl | rfl | rfl | rfl <;> rfl
theorem sk_ce_arrI {kc : Nat → ClassId} {bb : Nat × Nat} {h : sk_Mem} {s k kd n f : Nat} {v : Int32} (hs : sk_shp s = .inr (kd, n)) (h1 : kd ≠ 1) (h4 : ¬ 4 ≤ kd) : sk_ce kc bb (sk_pi h s k f v) (s, k) = .inl (kc kd, n, .inl (upd (h.2.1 s k) f v)) := by
  unfold sk_ce
  rw [show sk_shp (s, k).1 = .inr (kd, n) from hs]
  show Sum.inl (kc kd, n, if kd = 1 then _ else if 4 ≤ kd then _ else Sum.inl (sk_up h.2.1 s k f v s k)) = _
  rw [if_neg h1, if_neg h4, sk_up_eq]
theorem sk_ce_arrL {kc : Nat → ClassId} {bb : Nat × Nat} {h : sk_Mem} {s k n f : Nat} {v : Int64} (hs : sk_shp s = .inr (1, n)) : sk_ce kc bb (sk_pl h s k f v) (s, k) = .inl (kc 1, n, .inr (.inl (vp_updL (h.2.2.1 s k) f v))) := by
  unfold sk_ce
  rw [show sk_shp (s, k).1 = .inr (1, n) from hs]
  show Sum.inl (kc 1, n, if 1 = 1 then Sum.inr (Sum.inl (sk_up h.2.2.1 s k f v s k)) else _) = _
  rw [if_pos rfl, sk_up_eqL]
theorem sk_updV {f : Nat → Int32} {i : Nat} {x : Int32} : updV (fun j => Value.int (f j)) i (.int x) = fun j => .int (upd f i x j) := by
  funext j
  unfold updV upd
  by_cases hj : j = i <;> simp [hj]
theorem sk_updVL {f : Nat → Int64} {i : Nat} {x : Int64} : updV (fun j => Value.long (f j)) i (.long x) = fun j => .long (vp_updL f i x j) := by
  funext j
  unfold updV vp_updL
  by_cases hj : j = i <;> simp [hj]
theorem sg_iast {s k n : Nat} {i x : Int32} (pc' : Nat) (hd : decode μ.2.1 pc = .ok (.iastore, 1)) (hp : pc + 1 = pc') (hs : sk_shp s = .inr (0, n)) (hl : sk_lv h s k) (hb : sk_bi i n = true) (kk : sk_G l R μ Ex Z cn sn pc' ls st (sk_pi h s k i.toNatClampNeg x)) : sk_G l R μ Ex Z cn sn pc ls (.inl x :: .inl i :: .inr (.inr (some (s, k))) :: st) h := by
  subst hp
  intro p e s0 m args below meth c H locs bb D kc la hH hE hR hS hB hL
  have hin := (sk_bi.v hb)
  refine W.iast hH.1 hH.2.1 (hR.2.2.2 _ _ (sk_at_arr hs hl)) ((hR.1.2 0 _ (sk_ty_at (by decide))).1 n (fun j => .int (h.2.1 s k j))) (fun q => by cases q) (by show ¬ (i < 0 ∨ (arrV _ _ _).slots.size ≤ _); rw [arrV_size]; exact hin) rfl rfl hd fun H1 e1 z oq => ?_
  refine kk p e s0 m args below meth c H1 _ bb D kc la hH hE (hR.set hl rfl (fun a ha => sk_ce_pi ha) ?_ z oq) (hS.put z oq (sk_ad_ge hl)) hB hL
  rw [sk_ce_arrI hs (by decide) (by decide)]
  show H1[_]? = some (vp_cell _ _)
  rw [e1]
  exact congrArg some ((arrV_store _ _ _ _ _).trans (congrArg (arrV _ _) sk_updV))
theorem sg_zast {s k n : Nat} {i x : Int32} (pc' : Nat) (hd : decode μ.2.1 pc = .ok (.bastore, 1)) (hp : pc + 1 = pc') (hs : sk_shp s = .inr (2, n)) (hl : sk_lv h s k) (hb : sk_bi i n = true) (kk : sk_G l R μ Ex Z cn sn pc' ls st (sk_pi h s k i.toNatClampNeg (vp_nar .boolean x))) : sk_G l R μ Ex Z cn sn pc ls (.inl x :: .inl i :: .inr (.inr (some (s, k))) :: st) h := by
  subst hp
  intro p e s0 m args below meth c H locs bb D kc la hH hE hR hS hB hL
  have hin := (sk_bi.v hb)
  refine W.zast hH.1 hH.2.1 (hR.2.2.2 _ _ (sk_at_arr hs hl)) ((hR.1.2 2 _ (sk_ty_at (by decide))).1 n (fun j => .int (h.2.1 s k j))) (fun q => by cases q) (by show ¬ (i < 0 ∨ (arrV _ _ _).slots.size ≤ _); rw [arrV_size]; exact hin) rfl rfl hd fun H1 e1 z oq => ?_
  refine kk p e s0 m args below meth c H1 _ bb D kc la hH hE (hR.set hl rfl (fun a ha => sk_ce_pi ha) ?_ z oq) (hS.put z oq (sk_ad_ge hl)) hB hL
  rw [sk_ce_arrI hs (by decide) (by decide)]
  show H1[_]? = some (vp_cell _ _)
  rw [e1]
  exact congrArg some ((arrV_store _ _ _ _ _).trans (congrArg (arrV _ _) sk_updV))
theorem sg_cast {s k n : Nat} {i x : Int32} (pc' : Nat) (hd : decode μ.2.1 pc = .ok (.castore, 1)) (hp : pc + 1 = pc') (hs : sk_shp s = .inr (3, n)) (hl : sk_lv h s k) (hb : sk_bi i n = true) (kk : sk_G l R μ Ex Z cn sn pc' ls st (sk_pi h s k i.toNatClampNeg (vp_nar .char x))) : sk_G l R μ Ex Z cn sn pc ls (.inl x :: .inl i :: .inr (.inr (some (s, k))) :: st) h := by
  subst hp
  intro p e s0 m args below meth c H locs bb D kc la hH hE hR hS hB hL
  have hin := (sk_bi.v hb)
  refine W.cast hH.1 hH.2.1 (hR.2.2.2 _ _ (sk_at_arr hs hl)) ((hR.1.2 3 _ (sk_ty_at (by decide))).1 n (fun j => .int (h.2.1 s k j))) (fun q => by cases q) (by show ¬ (i < 0 ∨ (arrV _ _ _).slots.size ≤ _); rw [arrV_size]; exact hin) rfl rfl hd fun H1 e1 z oq => ?_
  refine kk p e s0 m args below meth c H1 _ bb D kc la hH hE (hR.set hl rfl (fun a ha => sk_ce_pi ha) ?_ z oq) (hS.put z oq (sk_ad_ge hl)) hB hL
  rw [sk_ce_arrI hs (by decide) (by decide)]
  show H1[_]? = some (vp_cell _ _)
  rw [e1]
  exact congrArg some ((arrV_store _ _ _ _ _).trans (congrArg (arrV _ _) sk_updV))
theorem sg_last {s k n : Nat} {i : Int32} {x : Int64} (pc' : Nat) (hd : decode μ.2.1 pc = .ok (.lastore, 1)) (hp : pc + 1 = pc') (hs : sk_shp s = .inr (1, n)) (hl : sk_lv h s k) (hb : sk_bi i n = true) (kk : sk_G l R μ Ex Z cn sn pc' ls st (sk_pl h s k i.toNatClampNeg x)) : sk_G l R μ Ex Z cn sn pc ls (.inr (.inl x) :: .inl i :: .inr (.inr (some (s, k))) :: st) h := by
  subst hp
  intro p e s0 m args below meth c H locs bb D kc la hH hE hR hS hB hL
  have hin := (sk_bi.v hb)
  refine W.last hH.1 hH.2.1 (hR.2.2.2 _ _ (sk_at_arr hs hl)) ((hR.1.2 1 _ (sk_ty_at (by decide))).1 n (fun j => .long (h.2.2.1 s k j))) (fun q => by cases q) (by show ¬ (i < 0 ∨ (arrV _ _ _).slots.size ≤ _); rw [arrV_size]; exact hin) rfl rfl hd fun H1 e1 z oq => ?_
  refine kk p e s0 m args below meth c H1 _ bb D kc la hH hE (hR.set hl rfl (fun a ha => sk_ce_pl ha) ?_ z oq) (hS.put z oq (sk_ad_ge hl)) hB hL
  rw [sk_ce_arrL hs]
  show H1[_]? = some (vp_cell _ _)
  rw [e1]
  exact congrArg some ((arrV_store _ _ _ _ _).trans (congrArg (arrV _ _) sk_updVL))
/-! answers -/
theorem sg_iret {x : Int32} (hd : decode μ.2.1 pc = .ok (.ireturn, 1)) {ty : FieldType} (hr : μ.2.2.2.1 = some ty) (hn : narrow ty (.int x) = .int x) : sk_G l R μ Ex (sk_Zm μ (some (.inl x)) h) μ.2.2.2.2.1 μ.2.2.2.2.2 pc ls [.inl x] h := by
  intro p e s0 m args below meth c H locs bb D kc la hH hE hR hS hB hL
  exact W.zret hH.1 hH.2.1 (hH.2.2.1.trans hr) hn (fun t ht hW => ⟨⟨rfl, by rw [ht]; exact hR.moved hW.alike⟩, hS.F ht⟩) hS.2.2 hd hH.2.2.2.2.2.2.1
theorem sg_lret {x : Int64} (hd : decode μ.2.1 pc = .ok (.lreturn, 1)) (hr : μ.2.2.2.1 = some .long) : sk_G l R μ Ex (sk_Zm μ (some (.inr (.inl x))) h) μ.2.2.2.2.1 μ.2.2.2.2.2 pc ls [.inr (.inl x)] h := by
  intro p e s0 m args below meth c H locs bb D kc la hH hE hR hS hB hL
  exact W.lret hH.1 hH.2.1 (hH.2.2.1.trans hr) (fun t ht hW => ⟨⟨rfl, by rw [ht]; exact hR.moved hW.alike⟩, hS.F ht⟩) hS.2.2 hd hH.2.2.2.2.2.2.1
theorem sg_vret (hd : decode μ.2.1 pc = .ok (.return_, 1)) (hr : μ.2.2.2.1 = none) : sk_G l R μ Ex (sk_Zm μ none h) μ.2.2.2.2.1 μ.2.2.2.2.2 pc ls [] h := by
  intro p e s0 m args below meth c H locs bb D kc la hH hE hR hS hB hL
  exact W.vret hH.1 hH.2.1 (hH.2.2.1.trans hr) (fun t ht hW => ⟨⟨rfl, by rw [ht]; exact hR.moved hW.alike⟩, hS.F ht⟩) hS.2.2 hd hH.2.2.2.2.2.2.1
/-! calls -/
def sk_lk (y : MethodName) (n : Nat) : Prop := y.cls ≠ "java/lang/invoke/MethodHandle" ∧ y.cls ≠ "java/lang/invoke/VarHandle" ∧ (parseMethodDescriptor y.desc).map (fun d => d.parameters.length) = some n
def sk_lkV (own : String) (idx : Nat) (μ' : sk_MI) (n : Nat) : Prop := sk_lk μ'.1 n ∧ Cond.methodLink own idx μ'.1 ∈ sk_tg ∧ Cond.instanceMethod μ'.1 ∈ sk_tg ∧ Cond.selects μ'.1.cls μ'.1 μ'.1 ∈ sk_tg ∧ Cond.initialized μ'.1.cls ∈ sk_tg ∧ Cond.code μ'.1 μ'.2.1 μ'.2.2.1 μ'.2.2.2.1 ∈ sk_tg
def sk_lkS (own : String) (idx : Nat) (μ' : sk_MI) (n : Nat) : Prop := sk_lk μ'.1 n ∧ Cond.methodLink own idx μ'.1 ∈ sk_tg ∧ Cond.static μ'.1 ∈ sk_tg ∧ Cond.initialized μ'.1.cls ∈ sk_tg ∧ Cond.code μ'.1 μ'.2.1 μ'.2.2.1 μ'.2.2.2.1 ∈ sk_tg
def sk_lkN (own : String) (idx : Nat) (host : String) (μ' : sk_MI) (n : Nat) : Prop := sk_lk μ'.1 n ∧ Cond.methodLinkNest own idx μ'.1 host ∈ tables_1 ∧ Cond.static μ'.1 ∈ sk_tg ∧ Cond.initialized μ'.1.cls ∈ sk_tg ∧ Cond.code μ'.1 μ'.2.1 μ'.2.2.1 μ'.2.2.2.1 ∈ sk_tg
theorem sk_good_wm {μ' : sk_MI} (hc : Cond.code μ'.1 μ'.2.1 μ'.2.2.1 μ'.2.2.2.1 ∈ sk_tg) : GoodIn sk_tg (sk_wm μ') := by
  intro w hw
  rcases List.mem_cons.mp hw with rfl | hw
  · exact ⟨hc, sk_tg_good hc⟩
  · exact ⟨hw, sk_tg_good hw⟩
theorem sk_blind {bb : Nat × Nat} {D : va_G} {kc : Nat → ClassId} {as : List sk_AV} {h : sk_Mem} : FrameBlind (sk_Pc bb D kc as h) := fun a U g mk q =>
  ⟨q.1, sk_Nx.same (s := U) (U := U.calling g mk a) rfl q.2.1, ⟨va_K.moved (u := U) (U := U.calling g mk a) (Vm.Alike.refl U.vm) q.2.2.1.1, q.2.2.1.2⟩, q.2.2.2⟩
theorem sk_pre {p : Program} {s0 : State} {m : MethodId} {args : Array Value} {meth : Method} {c : Code} {H : Heap} {bb : Nat × Nat} {D : va_G} {kc : Nat → ClassId} {as : List sk_AV} {h : sk_Mem} {locs : List Loc} (hH : sk_Hd p s0 m args meth c μ) (hR : sk_RH bb D kc h s0 H) (hS : va_S (fun q => bb.1 ≤ q) s0.heap H locs) (hB : bb.1 ≤ s0.heap.size) : ∀ U : State, U.heap = H → s0.WarmedH U.vm → sk_Pc bb D kc as h (as.map (sk_cv bb)).toArray U :=
  fun U hU hW => ⟨rfl, sk_Nx.warm hW hH.2.2.2.2.2.2.2.2, by rw [hU]; exact hR.moved hW.alike, by rw [hU]; exact Nat.le_trans hB hS.1⟩
theorem sk_after {R : Room} {p : Program} {e : Env} {s0 : State} {m : MethodId} {args : Array Value} {below : List Frame} {meth : Method} {c : Code} {H : Heap} {locs : List Loc} {bb : Nat × Nat} {D : va_G} {kc : Nat → ClassId} {la : Array Slot} {mc ms : Nat} {st0 rest : List sk_AV} {stv : List Value} {r : Option sk_AV} {h' : sk_Mem} {a : Array Value}
    (hr : va_Run p l e R s0 m args below meth c H locs cn sn mc ms (F0 m pc la stv) (rest.map (sk_cv bb)) (sk_Qc bb D kc r h' a) (fun q => bb.1 ≤ q))
    (hH : sk_Hd p s0 m args meth c μ) (hE : Ex s0 args bb) (hS : va_S (fun q => bb.1 ≤ q) s0.heap H locs) (hB : bb.1 ≤ s0.heap.size) (hL : sk_LR bb la μ.2.2.1 ls)
    (kk : sk_G l R μ Ex Z (cn + mc) (sn + ms) (pc + 3) ls (r.toList ++ rest) h') : W p l e R s0 m args below meth c H locs cn sn (Z s0 args below bb D kc) (F0 m pc la stv) := by
  intro T hT X
  obtain ⟨v, st₀, t, T', L, h0, X', hLf, e1, e2, ⟨⟨hv, hR'⟩, hz, hk⟩, stp⟩ := hr T hT X
  have hv' : v = r.map (sk_cv bb) := by cases hv; rfl
  subst hv'
  rw [h0] at hz hk
  have hal : s0.vm.Alike t.vm := by rw [← e2]; exact X'.warmed.alike
  obtain ⟨t2, a1, b1⟩ := kk p e s0 m args below meth c T'.heap (locs ++ L) bb D kc la hH hE (by rw [e1]; exact hR'.moved hal.symm)
    ⟨Nat.le_trans hS.1 (by rw [e1]; exact hz), fun q h1 h2 => by rw [e1, hk q (Nat.lt_of_lt_of_le h1 hS.1) h2]; exact hS.2.1 q h1 h2, fun q hq => by
      rcases List.mem_append.mp hq with h | h
      · exact hS.2.2 q h
      · exact hLf q h⟩ hB hL T' rfl X'
  refine ⟨t2, stp t2 ?_, b1⟩
  have e3 : (r.toList ++ rest).map (sk_cv bb) = (r.map (sk_cv bb)).toList ++ rest.map (sk_cv bb) := by
    cases r <;> simp
  rw [e3] at a1
  exact a1
/-- the room that a callee leaves -/
def sk_rmok (dp : Nat) (μ' : sk_MI) (R : Room) (cn sn : Nat) : Prop := dp + 1 ≤ R.frames ∧ 8 + (μ'.2.2.1 + 11) + 60 * dp ≤ R.locals ∧ cn + μ'.2.2.2.2.1 ≤ R.cells ∧ sn + μ'.2.2.2.2.2 ≤ R.slots
def sk_cat8 : List sk_AV → Nat
  | [] => 0
  | v :: vs => (if sk_isL v = true then 2 else 1) + sk_cat8 vs
theorem sk_cat8_eq (bb : Nat × Nat) : ∀ st : List sk_AV, ((st.map (sk_cv bb)).map fun v => v.category).sum = sk_cat8 st
  | [] => rfl
  | v :: vs => by
    have ih := sk_cat8_eq bb vs
    have e : (sk_cv bb v).category = if sk_isL v = true then 2 else 1 := by
      match v with
      | .inl x => rfl
      | .inr (.inl x) => rfl
      | .inr (.inr none) => rfl
      | .inr (.inr (some a)) => rfl
    simp only [List.map_cons, List.sum_cons, sk_cat8, ih, e]
theorem sg_callV {μ' : sk_MI} {dp idx s k ci : Nat} {as : List sk_AV} {r : Option sk_AV} {h' : sk_Mem} {n : Nat} (pc' : Nat) (hM : sk_M l dp μ' (.inr (.inr (some (s, k))) :: as) h r h') (hd : decode μ.2.1 pc = .ok (.invokevirtual idx, 3)) (hp : pc + 3 = pc') (hk : sk_lkV μ.1.cls idx μ' n) (hn : as.length = n) (hs : sk_shp s = .inl ci) (hci : (vwCl[ci]?).map (fun q => q.1) = some μ'.1.cls) (hl : sk_lv h s k) (hr : sk_rmok dp μ' R cn sn) (h8 : sk_cat8 st ≤ 8)
    (kk : sk_G l R μ Ex Z (cn + μ'.2.2.2.2.1) (sn + μ'.2.2.2.2.2) pc' ls (r.toList ++ st) h') : sk_G l R μ Ex Z cn sn pc ls (as.reverse ++ .inr (.inr (some (s, k))) :: st) h := by
  subst hp
  intro p e s0 m args below meth c H locs bb D kc la hH hE hR hS hB hL
  obtain ⟨⟨k1, k2, k3⟩, w1, w2, w3, w4, w5⟩ := hk
  have hts := hH.2.2.2.2.2.1
  obtain ⟨q, hq, hqc⟩ := Option.map_eq_some_iff.mp hci
  have hst : ((as.reverse ++ .inr (.inr (some (s, k))) :: st).map (sk_cv bb)) = (as.map (sk_cv bb)).reverse ++ .ref (sk_ad bb (s, k)) :: st.map (sk_cv bb) := by
    rw [List.map_append, List.map_reverse]
    rfl
  have hrec := va_recv hR.1 hR.2.2.2 (ci := ci) (q0 := sk_ord s k) hq (sk_at_obj hs hl)
  rw [hqc] at hrec
  rw [hst]
  refine sk_after (st0 := st) (va_runV (Ts := sk_tg) (own := μ.1.cls) (As := as.map (sk_cv bb)) (b := sk_ad bb (s, k)) ⟨hH.1, hH.2.1, hH.2.2.2.1, hH.2.2.2.2.1, hts⟩ (hM bb D kc) ⟨callB_of n hts (sk_good_wm w5) rfl rfl rfl (hts _ w4) (hts _ w1) ⟨k1, k2, k3⟩ ⟨hr.1, hr.2.1⟩, hts _ w2, hts _ w3⟩ ⟨sk_blind, hrec, sk_pre hH hR hS hB⟩ rfl (by rw [List.length_map]; exact hn) hL.1 rfl (by show 2 * 0 + _ ≤ 8; rw [sk_cat8_eq]; omega) hd hr.2.2) hH hE hS hB hL kk
theorem sg_callS {μ' : sk_MI} {dp idx : Nat} {as : List sk_AV} {r : Option sk_AV} {h' : sk_Mem} {n : Nat} (pc' : Nat) (hM : sk_M l dp μ' as h r h') (hd : decode μ.2.1 pc = .ok (.invokestatic idx, 3)) (hp : pc + 3 = pc') (hk : sk_lkS μ.1.cls idx μ' n) (hn : as.length = n) (hr : sk_rmok dp μ' R cn sn) (h8 : sk_cat8 st ≤ 8)
    (kk : sk_G l R μ Ex Z (cn + μ'.2.2.2.2.1) (sn + μ'.2.2.2.2.2) pc' ls (r.toList ++ st) h') : sk_G l R μ Ex Z cn sn pc ls (as.reverse ++ st) h := by
  subst hp
  intro p e s0 m args below meth c H locs bb D kc la hH hE hR hS hB hL
  obtain ⟨⟨k1, k2, k3⟩, w1, w2, w4, w5⟩ := hk
  have hts := hH.2.2.2.2.2.1
  have hst : ((as.reverse ++ st).map (sk_cv bb)) = (as.map (sk_cv bb)).reverse ++ st.map (sk_cv bb) := by
    rw [List.map_append, List.map_reverse]
  rw [hst]
  refine sk_after (st0 := st) (va_runS (Ts := sk_tg) (own := μ.1.cls) (As := as.map (sk_cv bb)) ⟨hH.1, hH.2.1, hH.2.2.2.1, hH.2.2.2.2.1, hts⟩ (hM bb D kc) ⟨callB_of n hts (sk_good_wm w5) rfl rfl rfl (hts _ w4) (hts _ w1) ⟨k1, k2, k3⟩ ⟨hr.1, hr.2.1⟩, hts _ w2⟩ ⟨sk_blind, sk_pre hH hR hS hB⟩ rfl (by rw [List.length_map]; exact hn) hL.1 rfl (by show 2 * 0 + _ ≤ 8; rw [sk_cat8_eq]; omega) hd hr.2.2) hH hE hS hB hL kk
theorem sg_callN {μ' : sk_MI} {dp idx : Nat} {host : String} {as : List sk_AV} {r : Option sk_AV} {h' : sk_Mem} {n : Nat} (pc' : Nat) (hM : sk_M l dp μ' as h r h') (hd : decode μ.2.1 pc = .ok (.invokestatic idx, 3)) (hp : pc + 3 = pc') (hk : sk_lkN μ.1.cls idx host μ' n) (hn : as.length = n) (hr : sk_rmok dp μ' R cn sn) (h8 : sk_cat8 st ≤ 8)
    (kk : sk_G l R μ Ex Z (cn + μ'.2.2.2.2.1) (sn + μ'.2.2.2.2.2) pc' ls (r.toList ++ st) h') : sk_G l R μ Ex Z cn sn pc ls (as.reverse ++ st) h := by
  subst hp
  intro p e s0 m args below meth c H locs bb D kc la hH hE hR hS hB hL
  obtain ⟨⟨k1, k2, k3⟩, w1, w2, w4, w5⟩ := hk
  have hts := hH.2.2.2.2.2.1
  have hst : ((as.reverse ++ st).map (sk_cv bb)) = (as.map (sk_cv bb)).reverse ++ st.map (sk_cv bb) := by
    rw [List.map_append, List.map_reverse]
  have hnx := hH.2.2.2.2.2.2.2.2 _ (List.mem_filter.mpr ⟨w1, rfl⟩)
  rw [hst]
  refine sk_after (st0 := st) (va_runSN (Ts := sk_tg) (own := μ.1.cls) (As := as.map (sk_cv bb)) ⟨hH.1, hH.2.1, hH.2.2.2.1, hH.2.2.2.2.1, hts⟩ (hM bb D kc) ⟨va_cnB n hts (sk_good_wm w5) rfl rfl rfl hnx (hts _ w4) ⟨k1, k2, k3⟩ ⟨hr.1, hr.2.1⟩, hts _ w2, trivial⟩ ⟨sk_blind, sk_pre hH hR hS hB⟩ rfl (by rw [List.length_map]; exact hn) hL.1 rfl (by show 2 * 0 + _ ≤ 8; rw [sk_cat8_eq]; omega) hd hr.2.2) hH hE hS hB hL kk
end SKH
end
