-- ===== PART A: goes FIRST, ahead of the names: the tables' words, and 'selects' of the private methods out of them =====
/-- a private method of a class that the tables say can be made, by its rows of tables_1 -/
def lw_okq (q : MethodName × Nat) : Prop := (q.1.cls ≠ "java/lang/invoke/MethodHandle" ∧ q.1.cls ≠ "java/lang/invoke/VarHandle") ∧ Cond.instantiable q.1.cls q.2 ∈ tables_1 ∧ Cond.privateMethod q.1 ∈ tables_1 ∧ Cond.instanceMethod q.1 ∈ tables_1
theorem lw_p0 : lw_okq (⟨"SkiSchool", "freePupilNumber", "()I"⟩, 14) := ⟨⟨by decide +kernel, by decide +kernel⟩, List.mem_of_getElem? (i := 15) (by decide +kernel), List.mem_of_getElem? (i := 410) (by decide +kernel), List.mem_of_getElem? (i := 411) (by decide +kernel)⟩
theorem lw_p1 : lw_okq (⟨"SkiSchool", "separateIfBroken", "(I)I"⟩, 14) := ⟨⟨by decide +kernel, by decide +kernel⟩, List.mem_of_getElem? (i := 15) (by decide +kernel), List.mem_of_getElem? (i := 425) (by decide +kernel), List.mem_of_getElem? (i := 426) (by decide +kernel)⟩
theorem lw_p2 : lw_okq (⟨"SkiSchool", "isInOnePlace", "(I)Z"⟩, 14) := ⟨⟨by decide +kernel, by decide +kernel⟩, List.mem_of_getElem? (i := 15) (by decide +kernel), List.mem_of_getElem? (i := 429) (by decide +kernel), List.mem_of_getElem? (i := 430) (by decide +kernel)⟩
theorem lw_p3 : lw_okq (⟨"SkiSchool", "hasPupil", "(I)Z"⟩, 14) := ⟨⟨by decide +kernel, by decide +kernel⟩, List.mem_of_getElem? (i := 15) (by decide +kernel), List.mem_of_getElem? (i := 441) (by decide +kernel), List.mem_of_getElem? (i := 442) (by decide +kernel)⟩
theorem lw_p4 : lw_okq (⟨"SkiSchool", "levelAfterTest", "(LSkiSchool$Pupil;)I"⟩, 14) := ⟨⟨by decide +kernel, by decide +kernel⟩, List.mem_of_getElem? (i := 15) (by decide +kernel), List.mem_of_getElem? (i := 503) (by decide +kernel), List.mem_of_getElem? (i := 504) (by decide +kernel)⟩
theorem lw_p5 : lw_okq (⟨"SkiSchool", "hasGroup", "(I)Z"⟩, 14) := ⟨⟨by decide +kernel, by decide +kernel⟩, List.mem_of_getElem? (i := 15) (by decide +kernel), List.mem_of_getElem? (i := 517) (by decide +kernel), List.mem_of_getElem? (i := 518) (by decide +kernel)⟩
theorem lw_p6 : lw_okq (⟨"SkiSchool", "freeGroupNumber", "()I"⟩, 14) := ⟨⟨by decide +kernel, by decide +kernel⟩, List.mem_of_getElem? (i := 15) (by decide +kernel), List.mem_of_getElem? (i := 539) (by decide +kernel), List.mem_of_getElem? (i := 540) (by decide +kernel)⟩
theorem lw_p7 : lw_okq (⟨"SkiSchool", "countPupilsIn", "(I)I"⟩, 14) := ⟨⟨by decide +kernel, by decide +kernel⟩, List.mem_of_getElem? (i := 15) (by decide +kernel), List.mem_of_getElem? (i := 571) (by decide +kernel), List.mem_of_getElem? (i := 572) (by decide +kernel)⟩
theorem lw_p8 : lw_okq (⟨"SkiSchool$Planner", "gatherUnits", "([LSkiSchool$Pupil;[LSkiSchool$Group;[Z)V"⟩, 13) := ⟨⟨by decide +kernel, by decide +kernel⟩, List.mem_of_getElem? (i := 31) (by decide +kernel), List.mem_of_getElem? (i := 587) (by decide +kernel), List.mem_of_getElem? (i := 588) (by decide +kernel)⟩
theorem lw_p9 : lw_okq (⟨"SkiSchool$Planner", "unitFor", "(I[Z)I"⟩, 13) := ⟨⟨by decide +kernel, by decide +kernel⟩, List.mem_of_getElem? (i := 31) (by decide +kernel), List.mem_of_getElem? (i := 592) (by decide +kernel), List.mem_of_getElem? (i := 593) (by decide +kernel)⟩
theorem lw_p10 : lw_okq (⟨"SkiSchool$Planner", "newUnit", "()I"⟩, 13) := ⟨⟨by decide +kernel, by decide +kernel⟩, List.mem_of_getElem? (i := 31) (by decide +kernel), List.mem_of_getElem? (i := 597) (by decide +kernel), List.mem_of_getElem? (i := 598) (by decide +kernel)⟩
theorem lw_p11 : lw_okq (⟨"SkiSchool$Planner", "addHead", "(ILSkiSchool$Pupil;[LSkiSchool$Group;)V"⟩, 13) := ⟨⟨by decide +kernel, by decide +kernel⟩, List.mem_of_getElem? (i := 31) (by decide +kernel), List.mem_of_getElem? (i := 602) (by decide +kernel), List.mem_of_getElem? (i := 603) (by decide +kernel)⟩
theorem lw_p12 : lw_okq (⟨"SkiSchool$Planner", "limitSeats", "([LSkiSchool$Group;)V"⟩, 13) := ⟨⟨by decide +kernel, by decide +kernel⟩, List.mem_of_getElem? (i := 31) (by decide +kernel), List.mem_of_getElem? (i := 611) (by decide +kernel), List.mem_of_getElem? (i := 612) (by decide +kernel)⟩
theorem lw_p13 : lw_okq (⟨"SkiSchool$Planner", "chooseFor", "(I)V"⟩, 13) := ⟨⟨by decide +kernel, by decide +kernel⟩, List.mem_of_getElem? (i := 31) (by decide +kernel), List.mem_of_getElem? (i := 616) (by decide +kernel), List.mem_of_getElem? (i := 617) (by decide +kernel)⟩
theorem lw_p14 : lw_okq (⟨"SkiSchool$Planner", "listOptions", "(I)I"⟩, 13) := ⟨⟨by decide +kernel, by decide +kernel⟩, List.mem_of_getElem? (i := 31) (by decide +kernel), List.mem_of_getElem? (i := 620) (by decide +kernel), List.mem_of_getElem? (i := 621) (by decide +kernel)⟩
theorem lw_p15 : lw_okq (⟨"SkiSchool$Planner", "countDown", "()V"⟩, 13) := ⟨⟨by decide +kernel, by decide +kernel⟩, List.mem_of_getElem? (i := 31) (by decide +kernel), List.mem_of_getElem? (i := 627) (by decide +kernel), List.mem_of_getElem? (i := 628) (by decide +kernel)⟩
def lw_privs_1 : List (MethodName × Nat) := [(⟨"SkiSchool", "freePupilNumber", "()I"⟩, 14), (⟨"SkiSchool", "separateIfBroken", "(I)I"⟩, 14), (⟨"SkiSchool", "isInOnePlace", "(I)Z"⟩, 14), (⟨"SkiSchool", "hasPupil", "(I)Z"⟩, 14), (⟨"SkiSchool", "levelAfterTest", "(LSkiSchool$Pupil;)I"⟩, 14), (⟨"SkiSchool", "hasGroup", "(I)Z"⟩, 14), (⟨"SkiSchool", "freeGroupNumber", "()I"⟩, 14), (⟨"SkiSchool", "countPupilsIn", "(I)I"⟩, 14), (⟨"SkiSchool$Planner", "gatherUnits", "([LSkiSchool$Pupil;[LSkiSchool$Group;[Z)V"⟩, 13), (⟨"SkiSchool$Planner", "unitFor", "(I[Z)I"⟩, 13), (⟨"SkiSchool$Planner", "newUnit", "()I"⟩, 13), (⟨"SkiSchool$Planner", "addHead", "(ILSkiSchool$Pupil;[LSkiSchool$Group;)V"⟩, 13), (⟨"SkiSchool$Planner", "limitSeats", "([LSkiSchool$Group;)V"⟩, 13), (⟨"SkiSchool$Planner", "chooseFor", "(I)V"⟩, 13), (⟨"SkiSchool$Planner", "listOptions", "(I)I"⟩, 13), (⟨"SkiSchool$Planner", "countDown", "()V"⟩, 13)]
theorem lw_r1 : ∀ q ∈ lw_privs_1, lw_okq q := List.forall_mem_cons.mpr ⟨lw_p0, List.forall_mem_cons.mpr ⟨lw_p1, List.forall_mem_cons.mpr ⟨lw_p2, List.forall_mem_cons.mpr ⟨lw_p3, List.forall_mem_cons.mpr ⟨lw_p4, List.forall_mem_cons.mpr ⟨lw_p5, List.forall_mem_cons.mpr ⟨lw_p6, List.forall_mem_cons.mpr ⟨lw_p7, List.forall_mem_cons.mpr ⟨lw_p8, List.forall_mem_cons.mpr ⟨lw_p9, List.forall_mem_cons.mpr ⟨lw_p10, List.forall_mem_cons.mpr ⟨lw_p11, List.forall_mem_cons.mpr ⟨lw_p12, List.forall_mem_cons.mpr ⟨lw_p13, List.forall_mem_cons.mpr ⟨lw_p14, List.forall_mem_cons.mpr ⟨lw_p15, fun _ h => absurd h List.not_mem_nil⟩⟩⟩⟩⟩⟩⟩⟩⟩⟩⟩⟩⟩⟩⟩⟩
theorem lw_p16 : lw_okq (⟨"SkiSchool$Planner", "followChoices", "()V"⟩, 13) := ⟨⟨by decide +kernel, by decide +kernel⟩, List.mem_of_getElem? (i := 31) (by decide +kernel), List.mem_of_getElem? (i := 631) (by decide +kernel), List.mem_of_getElem? (i := 632) (by decide +kernel)⟩
theorem lw_p17 : lw_okq (⟨"SkiSchool", "freeInstructorNumber", "()I"⟩, 14) := ⟨⟨by decide +kernel, by decide +kernel⟩, List.mem_of_getElem? (i := 15) (by decide +kernel), List.mem_of_getElem? (i := 660) (by decide +kernel), List.mem_of_getElem? (i := 661) (by decide +kernel)⟩
theorem lw_p18 : lw_okq (⟨"SkiSchool", "hasInstructor", "(I)Z"⟩, 14) := ⟨⟨by decide +kernel, by decide +kernel⟩, List.mem_of_getElem? (i := 15) (by decide +kernel), List.mem_of_getElem? (i := 672) (by decide +kernel), List.mem_of_getElem? (i := 673) (by decide +kernel)⟩
theorem lw_p19 : lw_okq (⟨"SkiSchool", "isActive", "(I)Z"⟩, 14) := ⟨⟨by decide +kernel, by decide +kernel⟩, List.mem_of_getElem? (i := 15) (by decide +kernel), List.mem_of_getElem? (i := 693) (by decide +kernel), List.mem_of_getElem? (i := 694) (by decide +kernel)⟩
theorem lw_p20 : lw_okq (⟨"SkiSchool", "isPaid", "(I)Z"⟩, 14) := ⟨⟨by decide +kernel, by decide +kernel⟩, List.mem_of_getElem? (i := 15) (by decide +kernel), List.mem_of_getElem? (i := 710) (by decide +kernel), List.mem_of_getElem? (i := 711) (by decide +kernel)⟩
theorem lw_p21 : lw_okq (⟨"SkiSchool", "hasLift", "(I)Z"⟩, 14) := ⟨⟨by decide +kernel, by decide +kernel⟩, List.mem_of_getElem? (i := 15) (by decide +kernel), List.mem_of_getElem? (i := 731) (by decide +kernel), List.mem_of_getElem? (i := 732) (by decide +kernel)⟩
theorem lw_p22 : lw_okq (⟨"SkiSchool", "countPersons", "()V"⟩, 14) := ⟨⟨by decide +kernel, by decide +kernel⟩, List.mem_of_getElem? (i := 15) (by decide +kernel), List.mem_of_getElem? (i := 747) (by decide +kernel), List.mem_of_getElem? (i := 748) (by decide +kernel)⟩
theorem lw_p23 : lw_okq (⟨"SkiSchool", "takesPart", "(I)Z"⟩, 14) := ⟨⟨by decide +kernel, by decide +kernel⟩, List.mem_of_getElem? (i := 15) (by decide +kernel), List.mem_of_getElem? (i := 751) (by decide +kernel), List.mem_of_getElem? (i := 752) (by decide +kernel)⟩
theorem lw_p24 : lw_okq (⟨"SkiSchool$Simulation", "joinQueues", "([LSkiSchool$Group;I)V"⟩, 10) := ⟨⟨by decide +kernel, by decide +kernel⟩, List.mem_of_getElem? (i := 104) (by decide +kernel), List.mem_of_getElem? (i := 765) (by decide +kernel), List.mem_of_getElem? (i := 766) (by decide +kernel)⟩
theorem lw_p25 : lw_okq (⟨"SkiSchool$Simulation", "depart", "(ILSkiSchool$Lift;[LSkiSchool$Group;I)V"⟩, 10) := ⟨⟨by decide +kernel, by decide +kernel⟩, List.mem_of_getElem? (i := 104) (by decide +kernel), List.mem_of_getElem? (i := 774) (by decide +kernel), List.mem_of_getElem? (i := 775) (by decide +kernel)⟩
theorem lw_p26 : lw_okq (⟨"SkiSchool$Simulation", "leaveQueue", "(I)V"⟩, 10) := ⟨⟨by decide +kernel, by decide +kernel⟩, List.mem_of_getElem? (i := 104) (by decide +kernel), List.mem_of_getElem? (i := 778) (by decide +kernel), List.mem_of_getElem? (i := 779) (by decide +kernel)⟩
theorem lw_p27 : lw_okq (⟨"SkiSchool$Simulation", "completeRide", "(ILSkiSchool$Group;I)V"⟩, 10) := ⟨⟨by decide +kernel, by decide +kernel⟩, List.mem_of_getElem? (i := 104) (by decide +kernel), List.mem_of_getElem? (i := 782) (by decide +kernel), List.mem_of_getElem? (i := 783) (by decide +kernel)⟩
theorem lw_p28 : lw_okq (⟨"SkiSchool$Simulation", "waitAMinute", "(I)V"⟩, 10) := ⟨⟨by decide +kernel, by decide +kernel⟩, List.mem_of_getElem? (i := 104) (by decide +kernel), List.mem_of_getElem? (i := 786) (by decide +kernel), List.mem_of_getElem? (i := 787) (by decide +kernel)⟩
theorem lw_p29 : lw_okq (⟨"SkiSchool", "keepResults", "()V"⟩, 14) := ⟨⟨by decide +kernel, by decide +kernel⟩, List.mem_of_getElem? (i := 15) (by decide +kernel), List.mem_of_getElem? (i := 791) (by decide +kernel), List.mem_of_getElem? (i := 792) (by decide +kernel)⟩
theorem lw_p30 : lw_okq (⟨"SkiSchool$Roster", "skip", "(C)Z"⟩, 12) := ⟨⟨by decide +kernel, by decide +kernel⟩, List.mem_of_getElem? (i := 148) (by decide +kernel), List.mem_of_getElem? (i := 835) (by decide +kernel), List.mem_of_getElem? (i := 836) (by decide +kernel)⟩
theorem lw_p31 : lw_okq (⟨"SkiSchool$Roster", "readSign", "(II)I"⟩, 12) := ⟨⟨by decide +kernel, by decide +kernel⟩, List.mem_of_getElem? (i := 148) (by decide +kernel), List.mem_of_getElem? (i := 839) (by decide +kernel), List.mem_of_getElem? (i := 840) (by decide +kernel)⟩
def lw_privs_2 : List (MethodName × Nat) := [(⟨"SkiSchool$Planner", "followChoices", "()V"⟩, 13), (⟨"SkiSchool", "freeInstructorNumber", "()I"⟩, 14), (⟨"SkiSchool", "hasInstructor", "(I)Z"⟩, 14), (⟨"SkiSchool", "isActive", "(I)Z"⟩, 14), (⟨"SkiSchool", "isPaid", "(I)Z"⟩, 14), (⟨"SkiSchool", "hasLift", "(I)Z"⟩, 14), (⟨"SkiSchool", "countPersons", "()V"⟩, 14), (⟨"SkiSchool", "takesPart", "(I)Z"⟩, 14), (⟨"SkiSchool$Simulation", "joinQueues", "([LSkiSchool$Group;I)V"⟩, 10), (⟨"SkiSchool$Simulation", "depart", "(ILSkiSchool$Lift;[LSkiSchool$Group;I)V"⟩, 10), (⟨"SkiSchool$Simulation", "leaveQueue", "(I)V"⟩, 10), (⟨"SkiSchool$Simulation", "completeRide", "(ILSkiSchool$Group;I)V"⟩, 10), (⟨"SkiSchool$Simulation", "waitAMinute", "(I)V"⟩, 10), (⟨"SkiSchool", "keepResults", "()V"⟩, 14), (⟨"SkiSchool$Roster", "skip", "(C)Z"⟩, 12), (⟨"SkiSchool$Roster", "readSign", "(II)I"⟩, 12)]
theorem lw_r2 : ∀ q ∈ lw_privs_2, lw_okq q := List.forall_mem_cons.mpr ⟨lw_p16, List.forall_mem_cons.mpr ⟨lw_p17, List.forall_mem_cons.mpr ⟨lw_p18, List.forall_mem_cons.mpr ⟨lw_p19, List.forall_mem_cons.mpr ⟨lw_p20, List.forall_mem_cons.mpr ⟨lw_p21, List.forall_mem_cons.mpr ⟨lw_p22, List.forall_mem_cons.mpr ⟨lw_p23, List.forall_mem_cons.mpr ⟨lw_p24, List.forall_mem_cons.mpr ⟨lw_p25, List.forall_mem_cons.mpr ⟨lw_p26, List.forall_mem_cons.mpr ⟨lw_p27, List.forall_mem_cons.mpr ⟨lw_p28, List.forall_mem_cons.mpr ⟨lw_p29, List.forall_mem_cons.mpr ⟨lw_p30, List.forall_mem_cons.mpr ⟨lw_p31, fun _ h => absurd h List.not_mem_nil⟩⟩⟩⟩⟩⟩⟩⟩⟩⟩⟩⟩⟩⟩⟩⟩
theorem lw_p32 : lw_okq (⟨"SkiSchool$Roster", "readPupil", "()Z"⟩, 12) := ⟨⟨by decide +kernel, by decide +kernel⟩, List.mem_of_getElem? (i := 148) (by decide +kernel), List.mem_of_getElem? (i := 843) (by decide +kernel), List.mem_of_getElem? (i := 844) (by decide +kernel)⟩
theorem lw_p33 : lw_okq (⟨"SkiSchool$Roster", "readDigit", "(II)I"⟩, 12) := ⟨⟨by decide +kernel, by decide +kernel⟩, List.mem_of_getElem? (i := 148) (by decide +kernel), List.mem_of_getElem? (i := 847) (by decide +kernel), List.mem_of_getElem? (i := 848) (by decide +kernel)⟩
theorem lw_p34 : lw_okq (⟨"SkiSchool$Roster", "readLanguages", "()Z"⟩, 12) := ⟨⟨by decide +kernel, by decide +kernel⟩, List.mem_of_getElem? (i := 148) (by decide +kernel), List.mem_of_getElem? (i := 851) (by decide +kernel), List.mem_of_getElem? (i := 852) (by decide +kernel)⟩
theorem lw_p35 : lw_okq (⟨"SkiSchool$Roster", "readLanguage", "(I)I"⟩, 12) := ⟨⟨by decide +kernel, by decide +kernel⟩, List.mem_of_getElem? (i := 148) (by decide +kernel), List.mem_of_getElem? (i := 855) (by decide +kernel), List.mem_of_getElem? (i := 856) (by decide +kernel)⟩
theorem lw_p36 : lw_okq (⟨"SkiSchool$Roster", "readGroup", "()Z"⟩, 12) := ⟨⟨by decide +kernel, by decide +kernel⟩, List.mem_of_getElem? (i := 148) (by decide +kernel), List.mem_of_getElem? (i := 859) (by decide +kernel), List.mem_of_getElem? (i := 860) (by decide +kernel)⟩
theorem lw_p37 : lw_okq (⟨"SkiSchool$Roster", "readInstructor", "()Z"⟩, 12) := ⟨⟨by decide +kernel, by decide +kernel⟩, List.mem_of_getElem? (i := 148) (by decide +kernel), List.mem_of_getElem? (i := 863) (by decide +kernel), List.mem_of_getElem? (i := 864) (by decide +kernel)⟩
theorem lw_p38 : lw_okq (⟨"SkiSchool$Roster", "readWage", "()Z"⟩, 12) := ⟨⟨by decide +kernel, by decide +kernel⟩, List.mem_of_getElem? (i := 148) (by decide +kernel), List.mem_of_getElem? (i := 867) (by decide +kernel), List.mem_of_getElem? (i := 868) (by decide +kernel)⟩
theorem lw_p39 : lw_okq (⟨"SkiSchool", "carryOutEntry", "()I"⟩, 14) := ⟨⟨by decide +kernel, by decide +kernel⟩, List.mem_of_getElem? (i := 15) (by decide +kernel), List.mem_of_getElem? (i := 872) (by decide +kernel), List.mem_of_getElem? (i := 873) (by decide +kernel)⟩
theorem lw_p40 : lw_okq (⟨"SkiSchool", "mixPupils", "(J)J"⟩, 14) := ⟨⟨by decide +kernel, by decide +kernel⟩, List.mem_of_getElem? (i := 15) (by decide +kernel), List.mem_of_getElem? (i := 890) (by decide +kernel), List.mem_of_getElem? (i := 891) (by decide +kernel)⟩
theorem lw_p41 : lw_okq (⟨"SkiSchool", "mixGroups", "(J)J"⟩, 14) := ⟨⟨by decide +kernel, by decide +kernel⟩, List.mem_of_getElem? (i := 15) (by decide +kernel), List.mem_of_getElem? (i := 900) (by decide +kernel), List.mem_of_getElem? (i := 901) (by decide +kernel)⟩
theorem lw_p42 : lw_okq (⟨"SkiSchool", "mixInstructorsAndLifts", "(J)J"⟩, 14) := ⟨⟨by decide +kernel, by decide +kernel⟩, List.mem_of_getElem? (i := 15) (by decide +kernel), List.mem_of_getElem? (i := 909) (by decide +kernel), List.mem_of_getElem? (i := 910) (by decide +kernel)⟩
theorem lw_p43 : lw_okq (⟨"SkiSchoolModel", "pupilMany", "()I"⟩, 61) := ⟨⟨by decide +kernel, by decide +kernel⟩, List.mem_of_getElem? (i := 918) (by decide +kernel), List.mem_of_getElem? (i := 1125) (by decide +kernel), List.mem_of_getElem? (i := 1126) (by decide +kernel)⟩
theorem lw_p44 : lw_okq (⟨"SkiSchoolModel", "keepRule", "(I)I"⟩, 61) := ⟨⟨by decide +kernel, by decide +kernel⟩, List.mem_of_getElem? (i := 918) (by decide +kernel), List.mem_of_getElem? (i := 1129) (by decide +kernel), List.mem_of_getElem? (i := 1130) (by decide +kernel)⟩
theorem lw_p45 : lw_okq (⟨"SkiSchoolModel", "isOf", "(II)Z"⟩, 61) := ⟨⟨by decide +kernel, by decide +kernel⟩, List.mem_of_getElem? (i := 918) (by decide +kernel), List.mem_of_getElem? (i := 1133) (by decide +kernel), List.mem_of_getElem? (i := 1134) (by decide +kernel)⟩
theorem lw_p46 : lw_okq (⟨"SkiSchoolModel", "leaveAll", "(I)I"⟩, 61) := ⟨⟨by decide +kernel, by decide +kernel⟩, List.mem_of_getElem? (i := 918) (by decide +kernel), List.mem_of_getElem? (i := 1137) (by decide +kernel), List.mem_of_getElem? (i := 1138) (by decide +kernel)⟩
theorem lw_p47 : lw_okq (⟨"SkiSchoolModel", "hasPupil", "(I)Z"⟩, 61) := ⟨⟨by decide +kernel, by decide +kernel⟩, List.mem_of_getElem? (i := 918) (by decide +kernel), List.mem_of_getElem? (i := 1145) (by decide +kernel), List.mem_of_getElem? (i := 1146) (by decide +kernel)⟩
def lw_privs_3 : List (MethodName × Nat) := [(⟨"SkiSchool$Roster", "readPupil", "()Z"⟩, 12), (⟨"SkiSchool$Roster", "readDigit", "(II)I"⟩, 12), (⟨"SkiSchool$Roster", "readLanguages", "()Z"⟩, 12), (⟨"SkiSchool$Roster", "readLanguage", "(I)I"⟩, 12), (⟨"SkiSchool$Roster", "readGroup", "()Z"⟩, 12), (⟨"SkiSchool$Roster", "readInstructor", "()Z"⟩, 12), (⟨"SkiSchool$Roster", "readWage", "()Z"⟩, 12), (⟨"SkiSchool", "carryOutEntry", "()I"⟩, 14), (⟨"SkiSchool", "mixPupils", "(J)J"⟩, 14), (⟨"SkiSchool", "mixGroups", "(J)J"⟩, 14), (⟨"SkiSchool", "mixInstructorsAndLifts", "(J)J"⟩, 14), (⟨"SkiSchoolModel", "pupilMany", "()I"⟩, 61), (⟨"SkiSchoolModel", "keepRule", "(I)I"⟩, 61), (⟨"SkiSchoolModel", "isOf", "(II)Z"⟩, 61), (⟨"SkiSchoolModel", "leaveAll", "(I)I"⟩, 61), (⟨"SkiSchoolModel", "hasPupil", "(I)Z"⟩, 61)]
theorem lw_r3 : ∀ q ∈ lw_privs_3, lw_okq q := List.forall_mem_cons.mpr ⟨lw_p32, List.forall_mem_cons.mpr ⟨lw_p33, List.forall_mem_cons.mpr ⟨lw_p34, List.forall_mem_cons.mpr ⟨lw_p35, List.forall_mem_cons.mpr ⟨lw_p36, List.forall_mem_cons.mpr ⟨lw_p37, List.forall_mem_cons.mpr ⟨lw_p38, List.forall_mem_cons.mpr ⟨lw_p39, List.forall_mem_cons.mpr ⟨lw_p40, List.forall_mem_cons.mpr ⟨lw_p41, List.forall_mem_cons.mpr ⟨lw_p42, List.forall_mem_cons.mpr ⟨lw_p43, List.forall_mem_cons.mpr ⟨lw_p44, List.forall_mem_cons.mpr ⟨lw_p45, List.forall_mem_cons.mpr ⟨lw_p46, List.forall_mem_cons.mpr ⟨lw_p47, fun _ h => absurd h List.not_mem_nil⟩⟩⟩⟩⟩⟩⟩⟩⟩⟩⟩⟩⟩⟩⟩⟩
theorem lw_p48 : lw_okq (⟨"SkiSchoolModel", "spreadOf", "(I)I"⟩, 61) := ⟨⟨by decide +kernel, by decide +kernel⟩, List.mem_of_getElem? (i := 918) (by decide +kernel), List.mem_of_getElem? (i := 1177) (by decide +kernel), List.mem_of_getElem? (i := 1178) (by decide +kernel)⟩
theorem lw_p49 : lw_okq (⟨"SkiSchoolModel", "scoreMany", "(I)I"⟩, 61) := ⟨⟨by decide +kernel, by decide +kernel⟩, List.mem_of_getElem? (i := 918) (by decide +kernel), List.mem_of_getElem? (i := 1188) (by decide +kernel), List.mem_of_getElem? (i := 1189) (by decide +kernel)⟩
theorem lw_p50 : lw_okq (⟨"SkiSchoolModel", "isFitting", "(III)Z"⟩, 61) := ⟨⟨by decide +kernel, by decide +kernel⟩, List.mem_of_getElem? (i := 918) (by decide +kernel), List.mem_of_getElem? (i := 1204) (by decide +kernel), List.mem_of_getElem? (i := 1205) (by decide +kernel)⟩
theorem lw_p51 : lw_okq (⟨"SkiSchoolModel", "groupMany", "()I"⟩, 61) := ⟨⟨by decide +kernel, by decide +kernel⟩, List.mem_of_getElem? (i := 918) (by decide +kernel), List.mem_of_getElem? (i := 1219) (by decide +kernel), List.mem_of_getElem? (i := 1220) (by decide +kernel)⟩
theorem lw_p52 : lw_okq (⟨"SkiSchoolModel", "freeGroup", "()I"⟩, 61) := ⟨⟨by decide +kernel, by decide +kernel⟩, List.mem_of_getElem? (i := 918) (by decide +kernel), List.mem_of_getElem? (i := 1223) (by decide +kernel), List.mem_of_getElem? (i := 1224) (by decide +kernel)⟩
theorem lw_p53 : lw_okq (⟨"SkiSchoolModel", "hasGroup", "(I)Z"⟩, 61) := ⟨⟨by decide +kernel, by decide +kernel⟩, List.mem_of_getElem? (i := 918) (by decide +kernel), List.mem_of_getElem? (i := 1231) (by decide +kernel), List.mem_of_getElem? (i := 1232) (by decide +kernel)⟩
theorem lw_p54 : lw_okq (⟨"SkiSchoolModel", "sizeOf", "(I)I"⟩, 61) := ⟨⟨by decide +kernel, by decide +kernel⟩, List.mem_of_getElem? (i := 918) (by decide +kernel), List.mem_of_getElem? (i := 1235) (by decide +kernel), List.mem_of_getElem? (i := 1236) (by decide +kernel)⟩
theorem lw_p55 : lw_okq (⟨"SkiSchoolModel", "planGroups", "()V"⟩, 61) := ⟨⟨by decide +kernel, by decide +kernel⟩, List.mem_of_getElem? (i := 918) (by decide +kernel), List.mem_of_getElem? (i := 1259) (by decide +kernel), List.mem_of_getElem? (i := 1260) (by decide +kernel)⟩
theorem lw_p56 : lw_okq (⟨"SkiSchoolModel", "plan", "(I)I"⟩, 61) := ⟨⟨by decide +kernel, by decide +kernel⟩, List.mem_of_getElem? (i := 918) (by decide +kernel), List.mem_of_getElem? (i := 1263) (by decide +kernel), List.mem_of_getElem? (i := 1264) (by decide +kernel)⟩
theorem lw_p57 : lw_okq (⟨"SkiSchoolModel", "findUnits", "(I)V"⟩, 61) := ⟨⟨by decide +kernel, by decide +kernel⟩, List.mem_of_getElem? (i := 918) (by decide +kernel), List.mem_of_getElem? (i := 1267) (by decide +kernel), List.mem_of_getElem? (i := 1268) (by decide +kernel)⟩
theorem lw_p58 : lw_okq (⟨"SkiSchoolModel", "addOut", "(III)V"⟩, 61) := ⟨⟨by decide +kernel, by decide +kernel⟩, List.mem_of_getElem? (i := 918) (by decide +kernel), List.mem_of_getElem? (i := 1271) (by decide +kernel), List.mem_of_getElem? (i := 1272) (by decide +kernel)⟩
theorem lw_p59 : lw_okq (⟨"SkiSchoolModel", "mayGet", "(III)Z"⟩, 61) := ⟨⟨by decide +kernel, by decide +kernel⟩, List.mem_of_getElem? (i := 918) (by decide +kernel), List.mem_of_getElem? (i := 1275) (by decide +kernel), List.mem_of_getElem? (i := 1276) (by decide +kernel)⟩
theorem lw_p60 : lw_okq (⟨"SkiSchoolModel", "worthOf", "(III)I"⟩, 61) := ⟨⟨by decide +kernel, by decide +kernel⟩, List.mem_of_getElem? (i := 918) (by decide +kernel), List.mem_of_getElem? (i := 1282) (by decide +kernel), List.mem_of_getElem? (i := 1283) (by decide +kernel)⟩
theorem lw_p61 : lw_okq (⟨"SkiSchoolModel", "placedMany", "()I"⟩, 61) := ⟨⟨by decide +kernel, by decide +kernel⟩, List.mem_of_getElem? (i := 918) (by decide +kernel), List.mem_of_getElem? (i := 1290) (by decide +kernel), List.mem_of_getElem? (i := 1291) (by decide +kernel)⟩
theorem lw_p62 : lw_okq (⟨"SkiSchoolModel", "outMany", "()I"⟩, 61) := ⟨⟨by decide +kernel, by decide +kernel⟩, List.mem_of_getElem? (i := 918) (by decide +kernel), List.mem_of_getElem? (i := 1298) (by decide +kernel), List.mem_of_getElem? (i := 1299) (by decide +kernel)⟩
theorem lw_p63 : lw_okq (⟨"SkiSchoolModel", "instructorMany", "()I"⟩, 61) := ⟨⟨by decide +kernel, by decide +kernel⟩, List.mem_of_getElem? (i := 918) (by decide +kernel), List.mem_of_getElem? (i := 1315) (by decide +kernel), List.mem_of_getElem? (i := 1316) (by decide +kernel)⟩
def lw_privs_4 : List (MethodName × Nat) := [(⟨"SkiSchoolModel", "spreadOf", "(I)I"⟩, 61), (⟨"SkiSchoolModel", "scoreMany", "(I)I"⟩, 61), (⟨"SkiSchoolModel", "isFitting", "(III)Z"⟩, 61), (⟨"SkiSchoolModel", "groupMany", "()I"⟩, 61), (⟨"SkiSchoolModel", "freeGroup", "()I"⟩, 61), (⟨"SkiSchoolModel", "hasGroup", "(I)Z"⟩, 61), (⟨"SkiSchoolModel", "sizeOf", "(I)I"⟩, 61), (⟨"SkiSchoolModel", "planGroups", "()V"⟩, 61), (⟨"SkiSchoolModel", "plan", "(I)I"⟩, 61), (⟨"SkiSchoolModel", "findUnits", "(I)V"⟩, 61), (⟨"SkiSchoolModel", "addOut", "(III)V"⟩, 61), (⟨"SkiSchoolModel", "mayGet", "(III)Z"⟩, 61), (⟨"SkiSchoolModel", "worthOf", "(III)I"⟩, 61), (⟨"SkiSchoolModel", "placedMany", "()I"⟩, 61), (⟨"SkiSchoolModel", "outMany", "()I"⟩, 61), (⟨"SkiSchoolModel", "instructorMany", "()I"⟩, 61)]
theorem lw_r4 : ∀ q ∈ lw_privs_4, lw_okq q := List.forall_mem_cons.mpr ⟨lw_p48, List.forall_mem_cons.mpr ⟨lw_p49, List.forall_mem_cons.mpr ⟨lw_p50, List.forall_mem_cons.mpr ⟨lw_p51, List.forall_mem_cons.mpr ⟨lw_p52, List.forall_mem_cons.mpr ⟨lw_p53, List.forall_mem_cons.mpr ⟨lw_p54, List.forall_mem_cons.mpr ⟨lw_p55, List.forall_mem_cons.mpr ⟨lw_p56, List.forall_mem_cons.mpr ⟨lw_p57, List.forall_mem_cons.mpr ⟨lw_p58, List.forall_mem_cons.mpr ⟨lw_p59, List.forall_mem_cons.mpr ⟨lw_p60, List.forall_mem_cons.mpr ⟨lw_p61, List.forall_mem_cons.mpr ⟨lw_p62, List.forall_mem_cons.mpr ⟨lw_p63, fun _ h => absurd h List.not_mem_nil⟩⟩⟩⟩⟩⟩⟩⟩⟩⟩⟩⟩⟩⟩⟩⟩
theorem lw_p64 : lw_okq (⟨"SkiSchoolModel", "hasInstructor", "(I)Z"⟩, 61) := ⟨⟨by decide +kernel, by decide +kernel⟩, List.mem_of_getElem? (i := 918) (by decide +kernel), List.mem_of_getElem? (i := 1323) (by decide +kernel), List.mem_of_getElem? (i := 1324) (by decide +kernel)⟩
theorem lw_p65 : lw_okq (⟨"SkiSchoolModel", "isTeaching", "(II)Z"⟩, 61) := ⟨⟨by decide +kernel, by decide +kernel⟩, List.mem_of_getElem? (i := 918) (by decide +kernel), List.mem_of_getElem? (i := 1335) (by decide +kernel), List.mem_of_getElem? (i := 1336) (by decide +kernel)⟩
theorem lw_p66 : lw_okq (⟨"SkiSchoolModel", "costOf", "(I)I"⟩, 61) := ⟨⟨by decide +kernel, by decide +kernel⟩, List.mem_of_getElem? (i := 918) (by decide +kernel), List.mem_of_getElem? (i := 1343) (by decide +kernel), List.mem_of_getElem? (i := 1344) (by decide +kernel)⟩
theorem lw_p67 : lw_okq (⟨"SkiSchoolModel", "isActive", "(I)Z"⟩, 61) := ⟨⟨by decide +kernel, by decide +kernel⟩, List.mem_of_getElem? (i := 918) (by decide +kernel), List.mem_of_getElem? (i := 1350) (by decide +kernel), List.mem_of_getElem? (i := 1351) (by decide +kernel)⟩
theorem lw_p68 : lw_okq (⟨"SkiSchoolModel", "hasLift", "(I)Z"⟩, 61) := ⟨⟨by decide +kernel, by decide +kernel⟩, List.mem_of_getElem? (i := 918) (by decide +kernel), List.mem_of_getElem? (i := 1371) (by decide +kernel), List.mem_of_getElem? (i := 1372) (by decide +kernel)⟩
theorem lw_p69 : lw_okq (⟨"SkiSchoolModel", "goThrough", "(I)V"⟩, 61) := ⟨⟨by decide +kernel, by decide +kernel⟩, List.mem_of_getElem? (i := 918) (by decide +kernel), List.mem_of_getElem? (i := 1390) (by decide +kernel), List.mem_of_getElem? (i := 1391) (by decide +kernel)⟩
theorem lw_p70 : lw_okq (⟨"SkiSchoolModel", "begin", "()V"⟩, 61) := ⟨⟨by decide +kernel, by decide +kernel⟩, List.mem_of_getElem? (i := 918) (by decide +kernel), List.mem_of_getElem? (i := 1394) (by decide +kernel), List.mem_of_getElem? (i := 1395) (by decide +kernel)⟩
theorem lw_p71 : lw_okq (⟨"SkiSchoolModel", "takesPart", "(I)Z"⟩, 61) := ⟨⟨by decide +kernel, by decide +kernel⟩, List.mem_of_getElem? (i := 918) (by decide +kernel), List.mem_of_getElem? (i := 1398) (by decide +kernel), List.mem_of_getElem? (i := 1399) (by decide +kernel)⟩
theorem lw_p72 : lw_okq (⟨"SkiSchoolModel", "depart", "(II)V"⟩, 61) := ⟨⟨by decide +kernel, by decide +kernel⟩, List.mem_of_getElem? (i := 918) (by decide +kernel), List.mem_of_getElem? (i := 1402) (by decide +kernel), List.mem_of_getElem? (i := 1403) (by decide +kernel)⟩
theorem lw_p73 : lw_okq (⟨"SkiSchoolModel", "leave", "(II)V"⟩, 61) := ⟨⟨by decide +kernel, by decide +kernel⟩, List.mem_of_getElem? (i := 918) (by decide +kernel), List.mem_of_getElem? (i := 1406) (by decide +kernel), List.mem_of_getElem? (i := 1407) (by decide +kernel)⟩
theorem lw_p74 : lw_okq (⟨"SkiSchoolModel", "entry", "(Z)I"⟩, 61) := ⟨⟨by decide +kernel, by decide +kernel⟩, List.mem_of_getElem? (i := 918) (by decide +kernel), List.mem_of_getElem? (i := 1442) (by decide +kernel), List.mem_of_getElem? (i := 1443) (by decide +kernel)⟩
theorem lw_p75 : lw_okq (⟨"SkiSchoolModel", "takes", "(I)Z"⟩, 61) := ⟨⟨by decide +kernel, by decide +kernel⟩, List.mem_of_getElem? (i := 918) (by decide +kernel), List.mem_of_getElem? (i := 1446) (by decide +kernel), List.mem_of_getElem? (i := 1447) (by decide +kernel)⟩
theorem lw_p76 : lw_okq (⟨"SkiSchoolModel", "next", "()I"⟩, 61) := ⟨⟨by decide +kernel, by decide +kernel⟩, List.mem_of_getElem? (i := 918) (by decide +kernel), List.mem_of_getElem? (i := 1450) (by decide +kernel), List.mem_of_getElem? (i := 1451) (by decide +kernel)⟩
theorem lw_p77 : lw_okq (⟨"SkiSchoolModel", "readsPupil", "()Z"⟩, 61) := ⟨⟨by decide +kernel, by decide +kernel⟩, List.mem_of_getElem? (i := 918) (by decide +kernel), List.mem_of_getElem? (i := 1454) (by decide +kernel), List.mem_of_getElem? (i := 1455) (by decide +kernel)⟩
theorem lw_p78 : lw_okq (⟨"SkiSchoolModel", "readsDigit", "(II)Z"⟩, 61) := ⟨⟨by decide +kernel, by decide +kernel⟩, List.mem_of_getElem? (i := 918) (by decide +kernel), List.mem_of_getElem? (i := 1458) (by decide +kernel), List.mem_of_getElem? (i := 1459) (by decide +kernel)⟩
theorem lw_p79 : lw_okq (⟨"SkiSchoolModel", "readsSet", "()Z"⟩, 61) := ⟨⟨by decide +kernel, by decide +kernel⟩, List.mem_of_getElem? (i := 918) (by decide +kernel), List.mem_of_getElem? (i := 1462) (by decide +kernel), List.mem_of_getElem? (i := 1463) (by decide +kernel)⟩
def lw_privs_5 : List (MethodName × Nat) := [(⟨"SkiSchoolModel", "hasInstructor", "(I)Z"⟩, 61), (⟨"SkiSchoolModel", "isTeaching", "(II)Z"⟩, 61), (⟨"SkiSchoolModel", "costOf", "(I)I"⟩, 61), (⟨"SkiSchoolModel", "isActive", "(I)Z"⟩, 61), (⟨"SkiSchoolModel", "hasLift", "(I)Z"⟩, 61), (⟨"SkiSchoolModel", "goThrough", "(I)V"⟩, 61), (⟨"SkiSchoolModel", "begin", "()V"⟩, 61), (⟨"SkiSchoolModel", "takesPart", "(I)Z"⟩, 61), (⟨"SkiSchoolModel", "depart", "(II)V"⟩, 61), (⟨"SkiSchoolModel", "leave", "(II)V"⟩, 61), (⟨"SkiSchoolModel", "entry", "(Z)I"⟩, 61), (⟨"SkiSchoolModel", "takes", "(I)Z"⟩, 61), (⟨"SkiSchoolModel", "next", "()I"⟩, 61), (⟨"SkiSchoolModel", "readsPupil", "()Z"⟩, 61), (⟨"SkiSchoolModel", "readsDigit", "(II)Z"⟩, 61), (⟨"SkiSchoolModel", "readsSet", "()Z"⟩, 61)]
theorem lw_r5 : ∀ q ∈ lw_privs_5, lw_okq q := List.forall_mem_cons.mpr ⟨lw_p64, List.forall_mem_cons.mpr ⟨lw_p65, List.forall_mem_cons.mpr ⟨lw_p66, List.forall_mem_cons.mpr ⟨lw_p67, List.forall_mem_cons.mpr ⟨lw_p68, List.forall_mem_cons.mpr ⟨lw_p69, List.forall_mem_cons.mpr ⟨lw_p70, List.forall_mem_cons.mpr ⟨lw_p71, List.forall_mem_cons.mpr ⟨lw_p72, List.forall_mem_cons.mpr ⟨lw_p73, List.forall_mem_cons.mpr ⟨lw_p74, List.forall_mem_cons.mpr ⟨lw_p75, List.forall_mem_cons.mpr ⟨lw_p76, List.forall_mem_cons.mpr ⟨lw_p77, List.forall_mem_cons.mpr ⟨lw_p78, List.forall_mem_cons.mpr ⟨lw_p79, fun _ h => absurd h List.not_mem_nil⟩⟩⟩⟩⟩⟩⟩⟩⟩⟩⟩⟩⟩⟩⟩⟩
theorem lw_p80 : lw_okq (⟨"SkiSchoolModel", "readsGroup", "()Z"⟩, 61) := ⟨⟨by decide +kernel, by decide +kernel⟩, List.mem_of_getElem? (i := 918) (by decide +kernel), List.mem_of_getElem? (i := 1467) (by decide +kernel), List.mem_of_getElem? (i := 1468) (by decide +kernel)⟩
theorem lw_p81 : lw_okq (⟨"SkiSchoolModel", "readsInstructor", "()Z"⟩, 61) := ⟨⟨by decide +kernel, by decide +kernel⟩, List.mem_of_getElem? (i := 918) (by decide +kernel), List.mem_of_getElem? (i := 1472) (by decide +kernel), List.mem_of_getElem? (i := 1473) (by decide +kernel)⟩
theorem lw_p82 : lw_okq (⟨"SkiSchoolModel", "readsWage", "()Z"⟩, 61) := ⟨⟨by decide +kernel, by decide +kernel⟩, List.mem_of_getElem? (i := 918) (by decide +kernel), List.mem_of_getElem? (i := 1476) (by decide +kernel), List.mem_of_getElem? (i := 1477) (by decide +kernel)⟩
def lw_privs_6 : List (MethodName × Nat) := [(⟨"SkiSchoolModel", "readsGroup", "()Z"⟩, 61), (⟨"SkiSchoolModel", "readsInstructor", "()Z"⟩, 61), (⟨"SkiSchoolModel", "readsWage", "()Z"⟩, 61)]
theorem lw_r6 : ∀ q ∈ lw_privs_6, lw_okq q := List.forall_mem_cons.mpr ⟨lw_p80, List.forall_mem_cons.mpr ⟨lw_p81, List.forall_mem_cons.mpr ⟨lw_p82, fun _ h => absurd h List.not_mem_nil⟩⟩⟩
def lw_privs : List (MethodName × Nat) := lw_privs_1 ++ (lw_privs_2 ++ (lw_privs_3 ++ (lw_privs_4 ++ (lw_privs_5 ++ (lw_privs_6)))))
def lw_tbl : List Cond := k2_sels lw_privs ++ tables_1
theorem lw_privs_ok : ∀ q ∈ lw_privs, lw_okq q := by
  show ∀ q ∈ lw_privs_1 ++ (lw_privs_2 ++ (lw_privs_3 ++ (lw_privs_4 ++ (lw_privs_5 ++ (lw_privs_6))))), lw_okq q
  exact List.forall_mem_append.mpr ⟨lw_r1, List.forall_mem_append.mpr ⟨lw_r2, List.forall_mem_append.mpr ⟨lw_r3, List.forall_mem_append.mpr ⟨lw_r4, List.forall_mem_append.mpr ⟨lw_r5, lw_r6⟩⟩⟩⟩⟩
/-! ===== BEGIN words of one list among another's, by their places ===== -/
theorem goodIn_r {big : List Cond} (ws : List Cond) (ps : List Nat) (hp : ws = ps.filterMap (fun i => big[i]?)) (h : ws.all goodWord = true) : GoodIn big ws := by
  intro w hw
  have h1 := List.all_eq_true.mp h w hw
  rw [hp] at hw
  obtain ⟨i, -, hi⟩ := List.mem_filterMap.mp hw
  have hm : w ∈ big := by first | exact List.mem_of_getElem? hi | exact List.getElem?_mem hi
  exact ⟨hm, good_of_word h1⟩
theorem goodIn_app {big a b : List Cond} (ha : GoodIn big a) (hb : GoodIn big b) : GoodIn big (a ++ b) := fun w h => (List.mem_append.mp h).elim (ha w) (hb w)
theorem goodIn_ca {big a b : List Cond} {c : Cond} (ha : GoodIn big (c :: a)) (hb : GoodIn big b) : GoodIn big (c :: (a ++ b)) := fun w h => (List.mem_cons.mp h).elim (fun e => ha w (List.mem_cons.mpr (Or.inl e))) (fun h => (List.mem_append.mp h).elim (fun h => ha w (List.mem_cons.mpr (Or.inr h))) (hb w))
theorem goodIn_sub {big ws : List Cond} (hm : ∀ w ∈ ws, w ∈ big) (h : ws.all goodWord = true) : GoodIn big ws := fun w hw => ⟨hm w hw, good_of_word (List.all_eq_true.mp h w hw)⟩
/-! ===== END ===== -/
/-! ===== BEGIN new T[n][m]: the outer array a place, the inner ones among the pooled ===== -/
/-! ===== END ===== -/
/-! ===== BEGIN printed: names, fields, word lists, decode rows ===== -/
def RX0 : String := "SkiSchool$Group"
def TX0 : u_T := fun k => match k with
  | 0 => ("SkiSchool$Group", "open", "Z", false)
  | 1 => ("SkiSchool$Group", "level", "I", false)
  | 2 => ("SkiSchool$Group", "language", "I", false)
  | 3 => ("SkiSchool$Group", "capacity", "I", false)
  | 4 => ("SkiSchool$Group", "instructor", "I", false)
  | 5 => ("SkiSchool$Group", "start", "I", false)
  | 6 => ("SkiSchool$Group", "stops", "I", false)
  | 7 => ("SkiSchool$Group", "lifts", "[I", true)
  | 8 => ("SkiSchool$Group", "slopes", "[I", true)
  | 9 => ("SkiSchool$Group", "waited", "I", false)
  | _ => ("SkiSchool$Group", "rides", "I", false)
def tyX0 : Nat → FieldType := fun k => match k with
  | 0 => .boolean
  | 1 => .int
  | 2 => .int
  | 3 => .int
  | 4 => .int
  | 5 => .int
  | 6 => .int
  | 7 => .array .int
  | 8 => .array .int
  | 9 => .int
  | _ => .int
abbrev wsX00 : List Cond := u_ws RX0 TX0 11
theorem nmX0 : ∀ a, a < 11 → ∀ b, b < 11 → a ≠ b → (TX0 a).2.1 ≠ (TX0 b).2.1 := by decide +kernel
theorem tyX0_ok : ∀ k, k < 11 → parseFieldDescriptor (TX0 k).2.2.1 = some (tyX0 k) := by decide +kernel
abbrev cX0_init : ByteArray := prog_2_method_1_code
def yX0_init : MethodName := ⟨RX0, "<init>", "()V"⟩
abbrev cX0_begin : ByteArray := prog_2_method_2_code
def yX0_begin : MethodName := ⟨RX0, "begin", "(III)V"⟩
abbrev cX0_end : ByteArray := prog_2_method_3_code
def yX0_end : MethodName := ⟨RX0, "end", "()V"⟩
abbrev cX0_suits : ByteArray := prog_2_method_4_code
def yX0_suits : MethodName := ⟨RX0, "suits", "(LSkiSchool$Pupil;)Z"⟩
def RX1 : String := "SkiSchool$Instructor"
def TX1 : u_T := fun k => match k with
  | 0 => ("SkiSchool$Instructor", "hired", "Z", false)
  | 1 => ("SkiSchool$Instructor", "languages", "I", false)
  | 2 => ("SkiSchool$Instructor", "lowest", "I", false)
  | 3 => ("SkiSchool$Instructor", "highest", "I", false)
  | 4 => ("SkiSchool$Instructor", "wage", "I", false)
  | _ => ("SkiSchool$Instructor", "earned", "I", false)
def tyX1 : Nat → FieldType := fun k => match k with
  | 0 => .boolean
  | 1 => .int
  | 2 => .int
  | 3 => .int
  | 4 => .int
  | _ => .int
abbrev wsX10 : List Cond := u_ws RX1 TX1 6
theorem nmX1 : ∀ a, a < 6 → ∀ b, b < 6 → a ≠ b → (TX1 a).2.1 ≠ (TX1 b).2.1 := by decide +kernel
theorem tyX1_ok : ∀ k, k < 6 → parseFieldDescriptor (TX1 k).2.2.1 = some (tyX1 k) := by decide +kernel
abbrev cX1_init : ByteArray := prog_3_method_1_code
def yX1_init : MethodName := ⟨RX1, "<init>", "()V"⟩
abbrev cX1_begin : ByteArray := prog_3_method_2_code
def yX1_begin : MethodName := ⟨RX1, "begin", "(IIII)V"⟩
abbrev cX1_teaches : ByteArray := prog_3_method_3_code
def yX1_teaches : MethodName := ⟨RX1, "teaches", "(LSkiSchool$Group;)Z"⟩
abbrev cX1_hasRoomFor : ByteArray := prog_3_method_4_code
def yX1_hasRoomFor : MethodName := ⟨RX1, "hasRoomFor", "(I)Z"⟩
def RX2 : String := "SkiSchool$Lift"
def TX2 : u_T := fun k => match k with
  | 0 => ("SkiSchool$Lift", "seats", "I", false)
  | 1 => ("SkiSchool$Lift", "interval", "I", false)
  | 2 => ("SkiSchool$Lift", "ride", "I", false)
  | 3 => ("SkiSchool$Lift", "longest", "I", false)
  | _ => ("SkiSchool$Lift", "taken", "I", false)
def tyX2 : Nat → FieldType := fun k => match k with
  | 0 => .int
  | 1 => .int
  | 2 => .int
  | 3 => .int
  | _ => .int
abbrev wsX20 : List Cond := u_ws RX2 TX2 5
theorem nmX2 : ∀ a, a < 5 → ∀ b, b < 5 → a ≠ b → (TX2 a).2.1 ≠ (TX2 b).2.1 := by decide +kernel
theorem tyX2_ok : ∀ k, k < 5 → parseFieldDescriptor (TX2 k).2.2.1 = some (tyX2 k) := by decide +kernel
abbrev cX2_init : ByteArray := prog_4_method_1_code
def yX2_init : MethodName := ⟨RX2, "<init>", "()V"⟩
abbrev cX2_departsAt : ByteArray := prog_4_method_2_code
def yX2_departsAt : MethodName := ⟨RX2, "departsAt", "(I)Z"⟩
def RX3 : String := "SkiSchool$Planner"
def TX3 : u_T := fun k => match k with
  | 0 => ("SkiSchool$Planner", "units", "I", false)
  | 1 => ("SkiSchool$Planner", "states", "I", false)
  | 2 => ("SkiSchool$Planner", "unitOf", "[I", true)
  | 3 => ("SkiSchool$Planner", "heads", "[I", true)
  | 4 => ("SkiSchool$Planner", "out", "[[I", true)
  | 5 => ("SkiSchool$Planner", "given", "[I", true)
  | 6 => ("SkiSchool$Planner", "unitOfFamily", "[I", true)
  | 7 => ("SkiSchool$Planner", "seats", "[I", true)
  | 8 => ("SkiSchool$Planner", "stride", "[I", true)
  | 9 => ("SkiSchool$Planner", "left", "[I", true)
  | 10 => ("SkiSchool$Planner", "options", "[I", true)
  | 11 => ("SkiSchool$Planner", "value", "[I", true)
  | _ => ("SkiSchool$Planner", "choices", "[J", true)
def tyX3 : Nat → FieldType := fun k => match k with
  | 0 => .int
  | 1 => .int
  | 2 => .array .int
  | 3 => .array .int
  | 4 => .array (.array .int)
  | 5 => .array .int
  | 6 => .array .int
  | 7 => .array .int
  | 8 => .array .int
  | 9 => .array .int
  | 10 => .array .int
  | 11 => .array .int
  | _ => .array .long
abbrev wsX30 : List Cond := u_ws RX3 TX3 13
theorem nmX3 : ∀ a, a < 13 → ∀ b, b < 13 → a ≠ b → (TX3 a).2.1 ≠ (TX3 b).2.1 := by decide +kernel
theorem tyX3_ok : ∀ k, k < 13 → parseFieldDescriptor (TX3 k).2.2.1 = some (tyX3 k) := by decide +kernel
abbrev cX3_init : ByteArray := prog_5_method_1_code
def yX3_init : MethodName := ⟨RX3, "<init>", "()V"⟩
abbrev cX3_findBest : ByteArray := prog_5_method_2_code
def yX3_findBest : MethodName := ⟨RX3, "findBest", "([LSkiSchool$Pupil;[LSkiSchool$Group;[Z)I"⟩
abbrev cX3_groupOf : ByteArray := prog_5_method_3_code
def yX3_groupOf : MethodName := ⟨RX3, "groupOf", "(I)I"⟩
abbrev cX3_isUnit : ByteArray := prog_5_method_4_code
def yX3_isUnit : MethodName := ⟨RX3, "isUnit", "(I)Z"⟩
abbrev cX3_gatherUnits : ByteArray := prog_5_method_5_code
def yX3_gatherUnits : MethodName := ⟨RX3, "gatherUnits", "([LSkiSchool$Pupil;[LSkiSchool$Group;[Z)V"⟩
abbrev cX3_unitFor : ByteArray := prog_5_method_6_code
def yX3_unitFor : MethodName := ⟨RX3, "unitFor", "(I[Z)I"⟩
abbrev cX3_newUnit : ByteArray := prog_5_method_7_code
def yX3_newUnit : MethodName := ⟨RX3, "newUnit", "()I"⟩
abbrev cX3_addHead : ByteArray := prog_5_method_8_code
def yX3_addHead : MethodName := ⟨RX3, "addHead", "(ILSkiSchool$Pupil;[LSkiSchool$Group;)V"⟩
abbrev cX3_limitSeats : ByteArray := prog_5_method_9_code
def yX3_limitSeats : MethodName := ⟨RX3, "limitSeats", "([LSkiSchool$Group;)V"⟩
abbrev cX3_chooseFor : ByteArray := prog_5_method_10_code
def yX3_chooseFor : MethodName := ⟨RX3, "chooseFor", "(I)V"⟩
abbrev cX3_listOptions : ByteArray := prog_5_method_11_code
def yX3_listOptions : MethodName := ⟨RX3, "listOptions", "(I)I"⟩
abbrev cX3_countDown : ByteArray := prog_5_method_12_code
def yX3_countDown : MethodName := ⟨RX3, "countDown", "()V"⟩
abbrev cX3_followChoices : ByteArray := prog_5_method_13_code
def yX3_followChoices : MethodName := ⟨RX3, "followChoices", "()V"⟩
def RX4 : String := "SkiSchool$Pupil"
def TX4 : u_T := fun k => match k with
  | 0 => ("SkiSchool$Pupil", "present", "Z", false)
  | 1 => ("SkiSchool$Pupil", "level", "I", false)
  | 2 => ("SkiSchool$Pupil", "languages", "I", false)
  | 3 => ("SkiSchool$Pupil", "family", "I", false)
  | 4 => ("SkiSchool$Pupil", "group", "I", false)
  | 5 => ("SkiSchool$Pupil", "lastGraded", "I", false)
  | _ => ("SkiSchool$Pupil", "scores", "[I", true)
def tyX4 : Nat → FieldType := fun k => match k with
  | 0 => .boolean
  | 1 => .int
  | 2 => .int
  | 3 => .int
  | 4 => .int
  | 5 => .int
  | _ => .array .int
abbrev wsX40 : List Cond := u_ws RX4 TX4 7
theorem nmX4 : ∀ a, a < 7 → ∀ b, b < 7 → a ≠ b → (TX4 a).2.1 ≠ (TX4 b).2.1 := by decide +kernel
theorem tyX4_ok : ∀ k, k < 7 → parseFieldDescriptor (TX4 k).2.2.1 = some (tyX4 k) := by decide +kernel
abbrev cX4_init : ByteArray := prog_6_method_1_code
def yX4_init : MethodName := ⟨RX4, "<init>", "()V"⟩
abbrev cX4_enrol : ByteArray := prog_6_method_2_code
def yX4_enrol : MethodName := ⟨RX4, "enrol", "(III)V"⟩
abbrev cX4_isMember : ByteArray := prog_6_method_3_code
def yX4_isMember : MethodName := ⟨RX4, "isMember", "(I)Z"⟩
abbrev cX4_isIn : ByteArray := prog_6_method_4_code
def yX4_isIn : MethodName := ⟨RX4, "isIn", "(I)Z"⟩
abbrev cX4_clearScores : ByteArray := prog_6_method_5_code
def yX4_clearScores : MethodName := ⟨RX4, "clearScores", "()V"⟩
abbrev cX4_countScores : ByteArray := prog_6_method_6_code
def yX4_countScores : MethodName := ⟨RX4, "countScores", "()I"⟩
abbrev cX4_sumScores : ByteArray := prog_6_method_7_code
def yX4_sumScores : MethodName := ⟨RX4, "sumScores", "()I"⟩
abbrev cX4_lowestScore : ByteArray := prog_6_method_8_code
def yX4_lowestScore : MethodName := ⟨RX4, "lowestScore", "()I"⟩
def RX5 : String := "SkiSchool$Roster"
def TX5 : u_T := fun k => match k with
  | 0 => ("SkiSchool$Roster", "text", "[C", true)
  | 1 => ("SkiSchool$Roster", "length", "I", false)
  | 2 => ("SkiSchool$Roster", "at", "I", false)
  | 3 => ("SkiSchool$Roster", "kind", "C", false)
  | 4 => ("SkiSchool$Roster", "level", "I", false)
  | 5 => ("SkiSchool$Roster", "languages", "I", false)
  | 6 => ("SkiSchool$Roster", "family", "I", false)
  | 7 => ("SkiSchool$Roster", "language", "I", false)
  | 8 => ("SkiSchool$Roster", "capacity", "I", false)
  | 9 => ("SkiSchool$Roster", "lowest", "I", false)
  | 10 => ("SkiSchool$Roster", "highest", "I", false)
  | _ => ("SkiSchool$Roster", "wage", "I", false)
def tyX5 : Nat → FieldType := fun k => match k with
  | 0 => .array .char
  | 1 => .int
  | 2 => .int
  | 3 => .char
  | 4 => .int
  | 5 => .int
  | 6 => .int
  | 7 => .int
  | 8 => .int
  | 9 => .int
  | 10 => .int
  | _ => .int
abbrev wsX50 : List Cond := u_ws RX5 TX5 12
theorem nmX5 : ∀ a, a < 12 → ∀ b, b < 12 → a ≠ b → (TX5 a).2.1 ≠ (TX5 b).2.1 := by decide +kernel
theorem tyX5_ok : ∀ k, k < 12 → parseFieldDescriptor (TX5 k).2.2.1 = some (tyX5 k) := by decide +kernel
abbrev cX5_init : ByteArray := prog_7_method_1_code
def yX5_init : MethodName := ⟨RX5, "<init>", "()V"⟩
abbrev cX5_findFault : ByteArray := prog_7_method_2_code
def yX5_findFault : MethodName := ⟨RX5, "findFault", "()I"⟩
abbrev cX5_readEntry : ByteArray := prog_7_method_3_code
def yX5_readEntry : MethodName := ⟨RX5, "readEntry", "()Z"⟩
abbrev cX5_readPupil : ByteArray := prog_7_method_4_code
def yX5_readPupil : MethodName := ⟨RX5, "readPupil", "()Z"⟩
abbrev cX5_readGroup : ByteArray := prog_7_method_5_code
def yX5_readGroup : MethodName := ⟨RX5, "readGroup", "()Z"⟩
abbrev cX5_readInstructor : ByteArray := prog_7_method_6_code
def yX5_readInstructor : MethodName := ⟨RX5, "readInstructor", "()Z"⟩
abbrev cX5_readLanguages : ByteArray := prog_7_method_7_code
def yX5_readLanguages : MethodName := ⟨RX5, "readLanguages", "()Z"⟩
abbrev cX5_readWage : ByteArray := prog_7_method_8_code
def yX5_readWage : MethodName := ⟨RX5, "readWage", "()Z"⟩
abbrev cX5_readDigit : ByteArray := prog_7_method_9_code
def yX5_readDigit : MethodName := ⟨RX5, "readDigit", "(II)I"⟩
abbrev cX5_readLanguage : ByteArray := prog_7_method_10_code
def yX5_readLanguage : MethodName := ⟨RX5, "readLanguage", "(I)I"⟩
abbrev cX5_skip : ByteArray := prog_7_method_11_code
def yX5_skip : MethodName := ⟨RX5, "skip", "(C)Z"⟩
abbrev cX5_readSign : ByteArray := prog_7_method_12_code
def yX5_readSign : MethodName := ⟨RX5, "readSign", "(II)I"⟩
def RX6 : String := "SkiSchool$Simulation"
def TX6 : u_T := fun k => match k with
  | 0 => ("SkiSchool$Simulation", "persons", "[I", true)
  | 1 => ("SkiSchool$Simulation", "arrival", "[I", true)
  | 2 => ("SkiSchool$Simulation", "waited", "[I", true)
  | 3 => ("SkiSchool$Simulation", "rides", "[I", true)
  | 4 => ("SkiSchool$Simulation", "longest", "[I", true)
  | 5 => ("SkiSchool$Simulation", "taken", "[I", true)
  | 6 => ("SkiSchool$Simulation", "stop", "[I", true)
  | 7 => ("SkiSchool$Simulation", "waiting", "[I", true)
  | 8 => ("SkiSchool$Simulation", "queue", "[[I", true)
  | _ => ("SkiSchool$Simulation", "queued", "[I", true)
def tyX6 : Nat → FieldType := fun k => match k with
  | 0 => .array .int
  | 1 => .array .int
  | 2 => .array .int
  | 3 => .array .int
  | 4 => .array .int
  | 5 => .array .int
  | 6 => .array .int
  | 7 => .array .int
  | 8 => .array (.array .int)
  | _ => .array .int
abbrev wsX60 : List Cond := u_ws RX6 TX6 10
theorem nmX6 : ∀ a, a < 10 → ∀ b, b < 10 → a ≠ b → (TX6 a).2.1 ≠ (TX6 b).2.1 := by decide +kernel
theorem tyX6_ok : ∀ k, k < 10 → parseFieldDescriptor (TX6 k).2.2.1 = some (tyX6 k) := by decide +kernel
abbrev cX6_init : ByteArray := prog_8_method_1_code
def yX6_init : MethodName := ⟨RX6, "<init>", "()V"⟩
abbrev cX6_begin : ByteArray := prog_8_method_2_code
def yX6_begin : MethodName := ⟨RX6, "begin", "([LSkiSchool$Group;)V"⟩
abbrev cX6_run : ByteArray := prog_8_method_3_code
def yX6_run : MethodName := ⟨RX6, "run", "([LSkiSchool$Group;[LSkiSchool$Lift;II)V"⟩
abbrev cX6_joinQueues : ByteArray := prog_8_method_4_code
def yX6_joinQueues : MethodName := ⟨RX6, "joinQueues", "([LSkiSchool$Group;I)V"⟩
abbrev cX6_depart : ByteArray := prog_8_method_5_code
def yX6_depart : MethodName := ⟨RX6, "depart", "(ILSkiSchool$Lift;[LSkiSchool$Group;I)V"⟩
abbrev cX6_leaveQueue : ByteArray := prog_8_method_6_code
def yX6_leaveQueue : MethodName := ⟨RX6, "leaveQueue", "(I)V"⟩
abbrev cX6_completeRide : ByteArray := prog_8_method_7_code
def yX6_completeRide : MethodName := ⟨RX6, "completeRide", "(ILSkiSchool$Group;I)V"⟩
abbrev cX6_waitAMinute : ByteArray := prog_8_method_8_code
def yX6_waitAMinute : MethodName := ⟨RX6, "waitAMinute", "(I)V"⟩
def RX7 : String := "SkiSchool$Staffing"
def TX7 : u_T := fun k => match k with
  | 0 => ("SkiSchool$Staffing", "wanted", "[Z", true)
  | 1 => ("SkiSchool$Staffing", "best", "[I", true)
  | 2 => ("SkiSchool$Staffing", "trial", "[I", true)
  | _ => ("SkiSchool$Staffing", "cheapest", "I", false)
def tyX7 : Nat → FieldType := fun k => match k with
  | 0 => .array .boolean
  | 1 => .array .int
  | 2 => .array .int
  | _ => .int
abbrev wsX70 : List Cond := u_ws RX7 TX7 4
theorem nmX7 : ∀ a, a < 4 → ∀ b, b < 4 → a ≠ b → (TX7 a).2.1 ≠ (TX7 b).2.1 := by decide +kernel
theorem tyX7_ok : ∀ k, k < 4 → parseFieldDescriptor (TX7 k).2.2.1 = some (tyX7 k) := by decide +kernel
abbrev cX7_init : ByteArray := prog_9_method_1_code
def yX7_init : MethodName := ⟨RX7, "<init>", "()V"⟩
abbrev cX7_findBest : ByteArray := prog_9_method_2_code
def yX7_findBest : MethodName := ⟨RX7, "findBest", "([LSkiSchool$Group;[LSkiSchool$Instructor;)I"⟩
abbrev cX7_tryFrom : ByteArray := prog_9_method_3_code
def yX7_tryFrom : MethodName := ⟨RX7, "tryFrom", "(LSkiSchool$Staffing;III[LSkiSchool$Group;[LSkiSchool$Instructor;)V"⟩
def RX8 : String := "SkiSchool"
def TX8 : u_T := fun k => match k with
  | 0 => ("SkiSchool", "pupilAt", "[LSkiSchool$Pupil;", true)
  | 1 => ("SkiSchool", "groupAt", "[LSkiSchool$Group;", true)
  | 2 => ("SkiSchool", "instructorAt", "[LSkiSchool$Instructor;", true)
  | 3 => ("SkiSchool", "liftAt", "[LSkiSchool$Lift;", true)
  | 4 => ("SkiSchool", "together", "[Z", true)
  | 5 => ("SkiSchool", "planner", "LSkiSchool$Planner;", true)
  | 6 => ("SkiSchool", "staffing", "LSkiSchool$Staffing;", true)
  | 7 => ("SkiSchool", "simulation", "LSkiSchool$Simulation;", true)
  | 8 => ("SkiSchool", "roster", "LSkiSchool$Roster;", true)
  | 9 => ("SkiSchool", "liftCount", "I", false)
  | 10 => ("SkiSchool", "passMark", "I", false)
  | 11 => ("SkiSchool", "minimumMark", "I", false)
  | 12 => ("SkiSchool", "dropMark", "I", false)
  | _ => ("SkiSchool", "day", "I", false)
def tyX8 : Nat → FieldType := fun k => match k with
  | 0 => .array (.object "SkiSchool$Pupil")
  | 1 => .array (.object "SkiSchool$Group")
  | 2 => .array (.object "SkiSchool$Instructor")
  | 3 => .array (.object "SkiSchool$Lift")
  | 4 => .array .boolean
  | 5 => .object "SkiSchool$Planner"
  | 6 => .object "SkiSchool$Staffing"
  | 7 => .object "SkiSchool$Simulation"
  | 8 => .object "SkiSchool$Roster"
  | 9 => .int
  | 10 => .int
  | 11 => .int
  | 12 => .int
  | _ => .int
abbrev wsX80 : List Cond := u_ws RX8 TX8 14
theorem nmX8 : ∀ a, a < 14 → ∀ b, b < 14 → a ≠ b → (TX8 a).2.1 ≠ (TX8 b).2.1 := by decide +kernel
theorem tyX8_ok : ∀ k, k < 14 → parseFieldDescriptor (TX8 k).2.2.1 = some (tyX8 k) := by decide +kernel
abbrev cX8_init : ByteArray := prog_1_method_1_code
def yX8_init : MethodName := ⟨RX8, "<init>", "()V"⟩
abbrev cX8_addPupil : ByteArray := prog_1_method_2_code
def yX8_addPupil : MethodName := ⟨RX8, "addPupil", "(III)I"⟩
abbrev cX8_removePupil : ByteArray := prog_1_method_3_code
def yX8_removePupil : MethodName := ⟨RX8, "removePupil", "(I)I"⟩
abbrev cX8_pupils : ByteArray := prog_1_method_4_code
def yX8_pupils : MethodName := ⟨RX8, "pupils", "()I"⟩
abbrev cX8_level : ByteArray := prog_1_method_5_code
def yX8_level : MethodName := ⟨RX8, "level", "(I)I"⟩
abbrev cX8_languages : ByteArray := prog_1_method_6_code
def yX8_languages : MethodName := ⟨RX8, "languages", "(I)I"⟩
abbrev cX8_family : ByteArray := prog_1_method_7_code
def yX8_family : MethodName := ⟨RX8, "family", "(I)I"⟩
abbrev cX8_group : ByteArray := prog_1_method_8_code
def yX8_group : MethodName := ⟨RX8, "group", "(I)I"⟩
abbrev cX8_setTogether : ByteArray := prog_1_method_9_code
def yX8_setTogether : MethodName := ⟨RX8, "setTogether", "(IZ)I"⟩
abbrev cX8_spread : ByteArray := prog_1_method_10_code
def yX8_spread : MethodName := ⟨RX8, "spread", "(I)I"⟩
abbrev cX8_score : ByteArray := prog_1_method_11_code
def yX8_score : MethodName := ⟨RX8, "score", "(III)I"⟩
abbrev cX8_scoreOf : ByteArray := prog_1_method_12_code
def yX8_scoreOf : MethodName := ⟨RX8, "scoreOf", "(II)I"⟩
abbrev cX8_setMarks : ByteArray := prog_1_method_13_code
def yX8_setMarks : MethodName := ⟨RX8, "setMarks", "(III)I"⟩
abbrev cX8_grade : ByteArray := prog_1_method_14_code
def yX8_grade : MethodName := ⟨RX8, "grade", "(I)I"⟩
abbrev cX8_nextDay : ByteArray := prog_1_method_15_code
def yX8_nextDay : MethodName := ⟨RX8, "nextDay", "()I"⟩
abbrev cX8_openGroup : ByteArray := prog_1_method_16_code
def yX8_openGroup : MethodName := ⟨RX8, "openGroup", "(III)I"⟩
abbrev cX8_closeGroup : ByteArray := prog_1_method_17_code
def yX8_closeGroup : MethodName := ⟨RX8, "closeGroup", "(I)I"⟩
abbrev cX8_groups : ByteArray := prog_1_method_18_code
def yX8_groups : MethodName := ⟨RX8, "groups", "()I"⟩
abbrev cX8_groupLevel : ByteArray := prog_1_method_19_code
def yX8_groupLevel : MethodName := ⟨RX8, "groupLevel", "(I)I"⟩
abbrev cX8_size : ByteArray := prog_1_method_20_code
def yX8_size : MethodName := ⟨RX8, "size", "(I)I"⟩
abbrev cX8_instructor : ByteArray := prog_1_method_21_code
def yX8_instructor : MethodName := ⟨RX8, "instructor", "(I)I"⟩
abbrev cX8_assign : ByteArray := prog_1_method_22_code
def yX8_assign : MethodName := ⟨RX8, "assign", "()I"⟩
abbrev cX8_placed : ByteArray := prog_1_method_23_code
def yX8_placed : MethodName := ⟨RX8, "placed", "()I"⟩
abbrev cX8_outOfLevel : ByteArray := prog_1_method_24_code
def yX8_outOfLevel : MethodName := ⟨RX8, "outOfLevel", "()I"⟩
abbrev cX8_extraPlaced : ByteArray := prog_1_method_25_code
def yX8_extraPlaced : MethodName := ⟨RX8, "extraPlaced", "(III)I"⟩
abbrev cX8_splitGain : ByteArray := prog_1_method_26_code
def yX8_splitGain : MethodName := ⟨RX8, "splitGain", "(I)I"⟩
abbrev cX8_hire : ByteArray := prog_1_method_27_code
def yX8_hire : MethodName := ⟨RX8, "hire", "(IIII)I"⟩
abbrev cX8_dismiss : ByteArray := prog_1_method_28_code
def yX8_dismiss : MethodName := ⟨RX8, "dismiss", "(I)I"⟩
abbrev cX8_instructors : ByteArray := prog_1_method_29_code
def yX8_instructors : MethodName := ⟨RX8, "instructors", "()I"⟩
abbrev cX8_canTeach : ByteArray := prog_1_method_30_code
def yX8_canTeach : MethodName := ⟨RX8, "canTeach", "(II)I"⟩
abbrev cX8_staff : ByteArray := prog_1_method_31_code
def yX8_staff : MethodName := ⟨RX8, "staff", "()I"⟩
abbrev cX8_pay : ByteArray := prog_1_method_32_code
def yX8_pay : MethodName := ⟨RX8, "pay", "(I)I"⟩
abbrev cX8_earnings : ByteArray := prog_1_method_33_code
def yX8_earnings : MethodName := ⟨RX8, "earnings", "(I)I"⟩
abbrev cX8_addLift : ByteArray := prog_1_method_34_code
def yX8_addLift : MethodName := ⟨RX8, "addLift", "(III)I"⟩
abbrev cX8_addStop : ByteArray := prog_1_method_35_code
def yX8_addStop : MethodName := ⟨RX8, "addStop", "(III)I"⟩
abbrev cX8_clearStops : ByteArray := prog_1_method_36_code
def yX8_clearStops : MethodName := ⟨RX8, "clearStops", "(I)I"⟩
abbrev cX8_setStart : ByteArray := prog_1_method_37_code
def yX8_setStart : MethodName := ⟨RX8, "setStart", "(II)I"⟩
abbrev cX8_simulate : ByteArray := prog_1_method_38_code
def yX8_simulate : MethodName := ⟨RX8, "simulate", "(I)I"⟩
abbrev cX8_waited : ByteArray := prog_1_method_39_code
def yX8_waited : MethodName := ⟨RX8, "waited", "(I)I"⟩
abbrev cX8_rides : ByteArray := prog_1_method_40_code
def yX8_rides : MethodName := ⟨RX8, "rides", "(I)I"⟩
abbrev cX8_longestQueue : ByteArray := prog_1_method_41_code
def yX8_longestQueue : MethodName := ⟨RX8, "longestQueue", "(I)I"⟩
abbrev cX8_carried : ByteArray := prog_1_method_42_code
def yX8_carried : MethodName := ⟨RX8, "carried", "(I)I"⟩
abbrev cX8_bestStart : ByteArray := prog_1_method_43_code
def yX8_bestStart : MethodName := ⟨RX8, "bestStart", "(II)I"⟩
abbrev cX8_type : ByteArray := prog_1_method_44_code
def yX8_type : MethodName := ⟨RX8, "type", "(I)I"⟩
abbrev cX8_clearText : ByteArray := prog_1_method_45_code
def yX8_clearText : MethodName := ⟨RX8, "clearText", "()I"⟩
abbrev cX8_load : ByteArray := prog_1_method_46_code
def yX8_load : MethodName := ⟨RX8, "load", "()I"⟩
abbrev cX8_digest : ByteArray := prog_1_method_47_code
def yX8_digest : MethodName := ⟨RX8, "digest", "()J"⟩
abbrev cX8_mix : ByteArray := prog_1_method_48_code
def yX8_mix : MethodName := ⟨RX8, "mix", "(JI)J"⟩
abbrev cX8_mixPupils : ByteArray := prog_1_method_49_code
def yX8_mixPupils : MethodName := ⟨RX8, "mixPupils", "(J)J"⟩
abbrev cX8_mixGroups : ByteArray := prog_1_method_50_code
def yX8_mixGroups : MethodName := ⟨RX8, "mixGroups", "(J)J"⟩
abbrev cX8_mixInstructorsAndLifts : ByteArray := prog_1_method_51_code
def yX8_mixInstructorsAndLifts : MethodName := ⟨RX8, "mixInstructorsAndLifts", "(J)J"⟩
abbrev cX8_within : ByteArray := prog_1_method_52_code
def yX8_within : MethodName := ⟨RX8, "within", "(III)Z"⟩
abbrev cX8_isFamily : ByteArray := prog_1_method_53_code
def yX8_isFamily : MethodName := ⟨RX8, "isFamily", "(I)Z"⟩
abbrev cX8_isExercise : ByteArray := prog_1_method_54_code
def yX8_isExercise : MethodName := ⟨RX8, "isExercise", "(I)Z"⟩
abbrev cX8_isGroupKind : ByteArray := prog_1_method_55_code
def yX8_isGroupKind : MethodName := ⟨RX8, "isGroupKind", "(III)Z"⟩
abbrev cX8_hasPupil : ByteArray := prog_1_method_56_code
def yX8_hasPupil : MethodName := ⟨RX8, "hasPupil", "(I)Z"⟩
abbrev cX8_hasGroup : ByteArray := prog_1_method_57_code
def yX8_hasGroup : MethodName := ⟨RX8, "hasGroup", "(I)Z"⟩
abbrev cX8_hasInstructor : ByteArray := prog_1_method_58_code
def yX8_hasInstructor : MethodName := ⟨RX8, "hasInstructor", "(I)Z"⟩
abbrev cX8_hasLift : ByteArray := prog_1_method_59_code
def yX8_hasLift : MethodName := ⟨RX8, "hasLift", "(I)Z"⟩
abbrev cX8_freePupilNumber : ByteArray := prog_1_method_60_code
def yX8_freePupilNumber : MethodName := ⟨RX8, "freePupilNumber", "()I"⟩
abbrev cX8_freeGroupNumber : ByteArray := prog_1_method_61_code
def yX8_freeGroupNumber : MethodName := ⟨RX8, "freeGroupNumber", "()I"⟩
abbrev cX8_freeInstructorNumber : ByteArray := prog_1_method_62_code
def yX8_freeInstructorNumber : MethodName := ⟨RX8, "freeInstructorNumber", "()I"⟩
abbrev cX8_separateIfBroken : ByteArray := prog_1_method_63_code
def yX8_separateIfBroken : MethodName := ⟨RX8, "separateIfBroken", "(I)I"⟩
abbrev cX8_isInOnePlace : ByteArray := prog_1_method_64_code
def yX8_isInOnePlace : MethodName := ⟨RX8, "isInOnePlace", "(I)Z"⟩
abbrev cX8_levelAfterTest : ByteArray := prog_1_method_65_code
def yX8_levelAfterTest : MethodName := ⟨RX8, "levelAfterTest", "(LSkiSchool$Pupil;)I"⟩
abbrev cX8_countPupilsIn : ByteArray := prog_1_method_66_code
def yX8_countPupilsIn : MethodName := ⟨RX8, "countPupilsIn", "(I)I"⟩
abbrev cX8_isActive : ByteArray := prog_1_method_67_code
def yX8_isActive : MethodName := ⟨RX8, "isActive", "(I)Z"⟩
abbrev cX8_isPaid : ByteArray := prog_1_method_68_code
def yX8_isPaid : MethodName := ⟨RX8, "isPaid", "(I)Z"⟩
abbrev cX8_takesPart : ByteArray := prog_1_method_69_code
def yX8_takesPart : MethodName := ⟨RX8, "takesPart", "(I)Z"⟩
abbrev cX8_countPersons : ByteArray := prog_1_method_70_code
def yX8_countPersons : MethodName := ⟨RX8, "countPersons", "()V"⟩
abbrev cX8_keepResults : ByteArray := prog_1_method_71_code
def yX8_keepResults : MethodName := ⟨RX8, "keepResults", "()V"⟩
abbrev cX8_carryOutEntry : ByteArray := prog_1_method_72_code
def yX8_carryOutEntry : MethodName := ⟨RX8, "carryOutEntry", "()I"⟩
def RX9 : String := "SkiSchoolModel"
def TX9 : u_T := fun k => match k with
  | 0 => ("SkiSchoolModel", "day", "I", false)
  | 1 => ("SkiSchoolModel", "passMark", "I", false)
  | 2 => ("SkiSchoolModel", "minimum", "I", false)
  | 3 => ("SkiSchoolModel", "dropMark", "I", false)
  | 4 => ("SkiSchoolModel", "isPupil", "[I", true)
  | 5 => ("SkiSchoolModel", "pupilLevel", "[I", true)
  | 6 => ("SkiSchoolModel", "pupilLanguages", "[I", true)
  | 7 => ("SkiSchoolModel", "pupilFamily", "[I", true)
  | 8 => ("SkiSchoolModel", "pupilGroup", "[I", true)
  | 9 => ("SkiSchoolModel", "scores", "[I", true)
  | 10 => ("SkiSchoolModel", "gradedOn", "[I", true)
  | 11 => ("SkiSchoolModel", "isTogether", "[I", true)
  | 12 => ("SkiSchoolModel", "isGroup", "[I", true)
  | 13 => ("SkiSchoolModel", "levelOfGroup", "[I", true)
  | 14 => ("SkiSchoolModel", "language", "[I", true)
  | 15 => ("SkiSchoolModel", "capacity", "[I", true)
  | 16 => ("SkiSchoolModel", "instructorOf", "[I", true)
  | 17 => ("SkiSchoolModel", "start", "[I", true)
  | 18 => ("SkiSchoolModel", "stops", "[I", true)
  | 19 => ("SkiSchoolModel", "stopLift", "[I", true)
  | 20 => ("SkiSchoolModel", "stopSlope", "[I", true)
  | 21 => ("SkiSchoolModel", "isInstructor", "[I", true)
  | 22 => ("SkiSchoolModel", "teaches", "[I", true)
  | 23 => ("SkiSchoolModel", "lowest", "[I", true)
  | 24 => ("SkiSchoolModel", "highest", "[I", true)
  | 25 => ("SkiSchoolModel", "wage", "[I", true)
  | 26 => ("SkiSchoolModel", "earned", "[I", true)
  | 27 => ("SkiSchoolModel", "lifts", "I", false)
  | 28 => ("SkiSchoolModel", "seats", "[I", true)
  | 29 => ("SkiSchoolModel", "interval", "[I", true)
  | 30 => ("SkiSchoolModel", "ride", "[I", true)
  | 31 => ("SkiSchoolModel", "waitedBy", "[I", true)
  | 32 => ("SkiSchoolModel", "ridesOf", "[I", true)
  | 33 => ("SkiSchoolModel", "longest", "[I", true)
  | 34 => ("SkiSchoolModel", "carriedBy", "[I", true)
  | 35 => ("SkiSchoolModel", "text", "[I", true)
  | 36 => ("SkiSchoolModel", "textLength", "I", false)
  | 37 => ("SkiSchoolModel", "units", "I", false)
  | 38 => ("SkiSchoolModel", "unitSize", "[I", true)
  | 39 => ("SkiSchoolModel", "unitOf", "[I", true)
  | 40 => ("SkiSchoolModel", "outsIn", "[I", true)
  | 41 => ("SkiSchoolModel", "worth", "[I", true)
  | 42 => ("SkiSchoolModel", "planLevel", "[I", true)
  | 43 => ("SkiSchoolModel", "planLanguage", "[I", true)
  | 44 => ("SkiSchoolModel", "planPlaces", "[I", true)
  | 45 => ("SkiSchoolModel", "unitGroup", "[I", true)
  | 46 => ("SkiSchoolModel", "persons", "[I", true)
  | 47 => ("SkiSchoolModel", "waiting", "[I", true)
  | 48 => ("SkiSchoolModel", "arrival", "[I", true)
  | 49 => ("SkiSchoolModel", "current", "[I", true)
  | 50 => ("SkiSchoolModel", "queue", "[I", true)
  | 51 => ("SkiSchoolModel", "queued", "[I", true)
  | 52 => ("SkiSchoolModel", "newWaited", "[I", true)
  | 53 => ("SkiSchoolModel", "newRides", "[I", true)
  | 54 => ("SkiSchoolModel", "newLongest", "[I", true)
  | 55 => ("SkiSchoolModel", "newCarried", "[I", true)
  | 56 => ("SkiSchoolModel", "place", "I", false)
  | 57 => ("SkiSchoolModel", "readSet", "I", false)
  | 58 => ("SkiSchoolModel", "readFirst", "I", false)
  | 59 => ("SkiSchoolModel", "readSecond", "I", false)
  | _ => ("SkiSchoolModel", "readNumber", "I", false)
def tyX9 : Nat → FieldType := fun k => match k with
  | 0 => .int
  | 1 => .int
  | 2 => .int
  | 3 => .int
  | 4 => .array .int
  | 5 => .array .int
  | 6 => .array .int
  | 7 => .array .int
  | 8 => .array .int
  | 9 => .array .int
  | 10 => .array .int
  | 11 => .array .int
  | 12 => .array .int
  | 13 => .array .int
  | 14 => .array .int
  | 15 => .array .int
  | 16 => .array .int
  | 17 => .array .int
  | 18 => .array .int
  | 19 => .array .int
  | 20 => .array .int
  | 21 => .array .int
  | 22 => .array .int
  | 23 => .array .int
  | 24 => .array .int
  | 25 => .array .int
  | 26 => .array .int
  | 27 => .int
  | 28 => .array .int
  | 29 => .array .int
  | 30 => .array .int
  | 31 => .array .int
  | 32 => .array .int
  | 33 => .array .int
  | 34 => .array .int
  | 35 => .array .int
  | 36 => .int
  | 37 => .int
  | 38 => .array .int
  | 39 => .array .int
  | 40 => .array .int
  | 41 => .array .int
  | 42 => .array .int
  | 43 => .array .int
  | 44 => .array .int
  | 45 => .array .int
  | 46 => .array .int
  | 47 => .array .int
  | 48 => .array .int
  | 49 => .array .int
  | 50 => .array .int
  | 51 => .array .int
  | 52 => .array .int
  | 53 => .array .int
  | 54 => .array .int
  | 55 => .array .int
  | 56 => .int
  | 57 => .int
  | 58 => .int
  | 59 => .int
  | _ => .int
abbrev wsX90 : List Cond := u_ws RX9 TX9 61
theorem nmX9 : ∀ a, a < 61 → ∀ b, b < 61 → a ≠ b → (TX9 a).2.1 ≠ (TX9 b).2.1 := by decide +kernel
theorem tyX9_ok : ∀ k, k < 61 → parseFieldDescriptor (TX9 k).2.2.1 = some (tyX9 k) := by decide +kernel
abbrev cX9_init : ByteArray := prog_11_method_1_code
def yX9_init : MethodName := ⟨RX9, "<init>", "()V"⟩
abbrev cX9_within : ByteArray := prog_11_method_3_code
def yX9_within : MethodName := ⟨RX9, "within", "(III)Z"⟩
abbrev cX9_hasPupil : ByteArray := prog_11_method_4_code
def yX9_hasPupil : MethodName := ⟨RX9, "hasPupil", "(I)Z"⟩
abbrev cX9_isLevel : ByteArray := prog_11_method_5_code
def yX9_isLevel : MethodName := ⟨RX9, "isLevel", "(I)Z"⟩
abbrev cX9_isLanguages : ByteArray := prog_11_method_6_code
def yX9_isLanguages : MethodName := ⟨RX9, "isLanguages", "(I)Z"⟩
abbrev cX9_isFamily : ByteArray := prog_11_method_7_code
def yX9_isFamily : MethodName := ⟨RX9, "isFamily", "(I)Z"⟩
abbrev cX9_isOf : ByteArray := prog_11_method_8_code
def yX9_isOf : MethodName := ⟨RX9, "isOf", "(II)Z"⟩
abbrev cX9_leaveAll : ByteArray := prog_11_method_9_code
def yX9_leaveAll : MethodName := ⟨RX9, "leaveAll", "(I)I"⟩
abbrev cX9_keepRule : ByteArray := prog_11_method_10_code
def yX9_keepRule : MethodName := ⟨RX9, "keepRule", "(I)I"⟩
abbrev cX9_pupilMany : ByteArray := prog_11_method_11_code
def yX9_pupilMany : MethodName := ⟨RX9, "pupilMany", "()I"⟩
abbrev cX9_addPupil : ByteArray := prog_11_method_12_code
def yX9_addPupil : MethodName := ⟨RX9, "addPupil", "(III)I"⟩
abbrev cX9_removePupil : ByteArray := prog_11_method_13_code
def yX9_removePupil : MethodName := ⟨RX9, "removePupil", "(I)I"⟩
abbrev cX9_pupils : ByteArray := prog_11_method_14_code
def yX9_pupils : MethodName := ⟨RX9, "pupils", "()I"⟩
abbrev cX9_level : ByteArray := prog_11_method_15_code
def yX9_level : MethodName := ⟨RX9, "level", "(I)I"⟩
abbrev cX9_languages : ByteArray := prog_11_method_16_code
def yX9_languages : MethodName := ⟨RX9, "languages", "(I)I"⟩
abbrev cX9_family : ByteArray := prog_11_method_17_code
def yX9_family : MethodName := ⟨RX9, "family", "(I)I"⟩
abbrev cX9_group : ByteArray := prog_11_method_18_code
def yX9_group : MethodName := ⟨RX9, "group", "(I)I"⟩
abbrev cX9_setTogether : ByteArray := prog_11_method_19_code
def yX9_setTogether : MethodName := ⟨RX9, "setTogether", "(IZ)I"⟩
abbrev cX9_spreadOf : ByteArray := prog_11_method_20_code
def yX9_spreadOf : MethodName := ⟨RX9, "spreadOf", "(I)I"⟩
abbrev cX9_spread : ByteArray := prog_11_method_21_code
def yX9_spread : MethodName := ⟨RX9, "spread", "(I)I"⟩
abbrev cX9_isExercise : ByteArray := prog_11_method_22_code
def yX9_isExercise : MethodName := ⟨RX9, "isExercise", "(I)Z"⟩
abbrev cX9_scoreMany : ByteArray := prog_11_method_23_code
def yX9_scoreMany : MethodName := ⟨RX9, "scoreMany", "(I)I"⟩
abbrev cX9_score : ByteArray := prog_11_method_24_code
def yX9_score : MethodName := ⟨RX9, "score", "(III)I"⟩
abbrev cX9_scoreOf : ByteArray := prog_11_method_25_code
def yX9_scoreOf : MethodName := ⟨RX9, "scoreOf", "(II)I"⟩
abbrev cX9_setMarks : ByteArray := prog_11_method_26_code
def yX9_setMarks : MethodName := ⟨RX9, "setMarks", "(III)I"⟩
abbrev cX9_grade : ByteArray := prog_11_method_27_code
def yX9_grade : MethodName := ⟨RX9, "grade", "(I)I"⟩
abbrev cX9_nextDay : ByteArray := prog_11_method_28_code
def yX9_nextDay : MethodName := ⟨RX9, "nextDay", "()I"⟩
abbrev cX9_hasGroup : ByteArray := prog_11_method_29_code
def yX9_hasGroup : MethodName := ⟨RX9, "hasGroup", "(I)Z"⟩
abbrev cX9_isFitting : ByteArray := prog_11_method_30_code
def yX9_isFitting : MethodName := ⟨RX9, "isFitting", "(III)Z"⟩
abbrev cX9_areOfGroup : ByteArray := prog_11_method_31_code
def yX9_areOfGroup : MethodName := ⟨RX9, "areOfGroup", "(III)Z"⟩
abbrev cX9_groupMany : ByteArray := prog_11_method_32_code
def yX9_groupMany : MethodName := ⟨RX9, "groupMany", "()I"⟩
abbrev cX9_freeGroup : ByteArray := prog_11_method_33_code
def yX9_freeGroup : MethodName := ⟨RX9, "freeGroup", "()I"⟩
abbrev cX9_openGroup : ByteArray := prog_11_method_34_code
def yX9_openGroup : MethodName := ⟨RX9, "openGroup", "(III)I"⟩
abbrev cX9_sizeOf : ByteArray := prog_11_method_35_code
def yX9_sizeOf : MethodName := ⟨RX9, "sizeOf", "(I)I"⟩
abbrev cX9_isActive : ByteArray := prog_11_method_36_code
def yX9_isActive : MethodName := ⟨RX9, "isActive", "(I)Z"⟩
abbrev cX9_closeGroup : ByteArray := prog_11_method_37_code
def yX9_closeGroup : MethodName := ⟨RX9, "closeGroup", "(I)I"⟩
abbrev cX9_groups : ByteArray := prog_11_method_38_code
def yX9_groups : MethodName := ⟨RX9, "groups", "()I"⟩
abbrev cX9_groupLevel : ByteArray := prog_11_method_39_code
def yX9_groupLevel : MethodName := ⟨RX9, "groupLevel", "(I)I"⟩
abbrev cX9_size : ByteArray := prog_11_method_40_code
def yX9_size : MethodName := ⟨RX9, "size", "(I)I"⟩
abbrev cX9_instructor : ByteArray := prog_11_method_41_code
def yX9_instructor : MethodName := ⟨RX9, "instructor", "(I)I"⟩
abbrev cX9_power : ByteArray := prog_11_method_42_code
def yX9_power : MethodName := ⟨RX9, "power", "(I)I"⟩
abbrev cX9_planGroups : ByteArray := prog_11_method_43_code
def yX9_planGroups : MethodName := ⟨RX9, "planGroups", "()V"⟩
abbrev cX9_findUnits : ByteArray := prog_11_method_44_code
def yX9_findUnits : MethodName := ⟨RX9, "findUnits", "(I)V"⟩
abbrev cX9_addOut : ByteArray := prog_11_method_45_code
def yX9_addOut : MethodName := ⟨RX9, "addOut", "(III)V"⟩
abbrev cX9_mayGet : ByteArray := prog_11_method_46_code
def yX9_mayGet : MethodName := ⟨RX9, "mayGet", "(III)Z"⟩
abbrev cX9_worthOf : ByteArray := prog_11_method_47_code
def yX9_worthOf : MethodName := ⟨RX9, "worthOf", "(III)I"⟩
abbrev cX9_plan : ByteArray := prog_11_method_48_code
def yX9_plan : MethodName := ⟨RX9, "plan", "(I)I"⟩
abbrev cX9_assign : ByteArray := prog_11_method_49_code
def yX9_assign : MethodName := ⟨RX9, "assign", "()I"⟩
abbrev cX9_placedMany : ByteArray := prog_11_method_50_code
def yX9_placedMany : MethodName := ⟨RX9, "placedMany", "()I"⟩
abbrev cX9_placed : ByteArray := prog_11_method_51_code
def yX9_placed : MethodName := ⟨RX9, "placed", "()I"⟩
abbrev cX9_outMany : ByteArray := prog_11_method_52_code
def yX9_outMany : MethodName := ⟨RX9, "outMany", "()I"⟩
abbrev cX9_outOfLevel : ByteArray := prog_11_method_53_code
def yX9_outOfLevel : MethodName := ⟨RX9, "outOfLevel", "()I"⟩
abbrev cX9_extraPlaced : ByteArray := prog_11_method_54_code
def yX9_extraPlaced : MethodName := ⟨RX9, "extraPlaced", "(III)I"⟩
abbrev cX9_splitGain : ByteArray := prog_11_method_55_code
def yX9_splitGain : MethodName := ⟨RX9, "splitGain", "(I)I"⟩
abbrev cX9_hasInstructor : ByteArray := prog_11_method_56_code
def yX9_hasInstructor : MethodName := ⟨RX9, "hasInstructor", "(I)Z"⟩
abbrev cX9_instructorMany : ByteArray := prog_11_method_57_code
def yX9_instructorMany : MethodName := ⟨RX9, "instructorMany", "()I"⟩
abbrev cX9_hire : ByteArray := prog_11_method_58_code
def yX9_hire : MethodName := ⟨RX9, "hire", "(IIII)I"⟩
abbrev cX9_dismiss : ByteArray := prog_11_method_59_code
def yX9_dismiss : MethodName := ⟨RX9, "dismiss", "(I)I"⟩
abbrev cX9_instructors : ByteArray := prog_11_method_60_code
def yX9_instructors : MethodName := ⟨RX9, "instructors", "()I"⟩
abbrev cX9_isTeaching : ByteArray := prog_11_method_61_code
def yX9_isTeaching : MethodName := ⟨RX9, "isTeaching", "(II)Z"⟩
abbrev cX9_canTeach : ByteArray := prog_11_method_62_code
def yX9_canTeach : MethodName := ⟨RX9, "canTeach", "(II)I"⟩
abbrev cX9_staffIn : ByteArray := prog_11_method_63_code
def yX9_staffIn : MethodName := ⟨RX9, "staffIn", "(II)I"⟩
abbrev cX9_costOf : ByteArray := prog_11_method_64_code
def yX9_costOf : MethodName := ⟨RX9, "costOf", "(I)I"⟩
abbrev cX9_staff : ByteArray := prog_11_method_65_code
def yX9_staff : MethodName := ⟨RX9, "staff", "()I"⟩
abbrev cX9_pay : ByteArray := prog_11_method_66_code
def yX9_pay : MethodName := ⟨RX9, "pay", "(I)I"⟩
abbrev cX9_earnings : ByteArray := prog_11_method_67_code
def yX9_earnings : MethodName := ⟨RX9, "earnings", "(I)I"⟩
abbrev cX9_hasLift : ByteArray := prog_11_method_68_code
def yX9_hasLift : MethodName := ⟨RX9, "hasLift", "(I)Z"⟩
abbrev cX9_addLift : ByteArray := prog_11_method_69_code
def yX9_addLift : MethodName := ⟨RX9, "addLift", "(III)I"⟩
abbrev cX9_addStop : ByteArray := prog_11_method_70_code
def yX9_addStop : MethodName := ⟨RX9, "addStop", "(III)I"⟩
abbrev cX9_clearStops : ByteArray := prog_11_method_71_code
def yX9_clearStops : MethodName := ⟨RX9, "clearStops", "(I)I"⟩
abbrev cX9_setStart : ByteArray := prog_11_method_72_code
def yX9_setStart : MethodName := ⟨RX9, "setStart", "(II)I"⟩
abbrev cX9_takesPart : ByteArray := prog_11_method_73_code
def yX9_takesPart : MethodName := ⟨RX9, "takesPart", "(I)Z"⟩
abbrev cX9_begin : ByteArray := prog_11_method_74_code
def yX9_begin : MethodName := ⟨RX9, "begin", "()V"⟩
abbrev cX9_leave : ByteArray := prog_11_method_75_code
def yX9_leave : MethodName := ⟨RX9, "leave", "(II)V"⟩
abbrev cX9_depart : ByteArray := prog_11_method_76_code
def yX9_depart : MethodName := ⟨RX9, "depart", "(II)V"⟩
abbrev cX9_goThrough : ByteArray := prog_11_method_77_code
def yX9_goThrough : MethodName := ⟨RX9, "goThrough", "(I)V"⟩
abbrev cX9_isTime : ByteArray := prog_11_method_78_code
def yX9_isTime : MethodName := ⟨RX9, "isTime", "(I)Z"⟩
abbrev cX9_simulate : ByteArray := prog_11_method_79_code
def yX9_simulate : MethodName := ⟨RX9, "simulate", "(I)I"⟩
abbrev cX9_waited : ByteArray := prog_11_method_80_code
def yX9_waited : MethodName := ⟨RX9, "waited", "(I)I"⟩
abbrev cX9_rides : ByteArray := prog_11_method_81_code
def yX9_rides : MethodName := ⟨RX9, "rides", "(I)I"⟩
abbrev cX9_longestQueue : ByteArray := prog_11_method_82_code
def yX9_longestQueue : MethodName := ⟨RX9, "longestQueue", "(I)I"⟩
abbrev cX9_carried : ByteArray := prog_11_method_83_code
def yX9_carried : MethodName := ⟨RX9, "carried", "(I)I"⟩
abbrev cX9_bestStart : ByteArray := prog_11_method_84_code
def yX9_bestStart : MethodName := ⟨RX9, "bestStart", "(II)I"⟩
abbrev cX9_type : ByteArray := prog_11_method_85_code
def yX9_type : MethodName := ⟨RX9, "type", "(I)I"⟩
abbrev cX9_clearText : ByteArray := prog_11_method_86_code
def yX9_clearText : MethodName := ⟨RX9, "clearText", "()I"⟩
abbrev cX9_next : ByteArray := prog_11_method_87_code
def yX9_next : MethodName := ⟨RX9, "next", "()I"⟩
abbrev cX9_takes : ByteArray := prog_11_method_88_code
def yX9_takes : MethodName := ⟨RX9, "takes", "(I)Z"⟩
abbrev cX9_readsDigit : ByteArray := prog_11_method_89_code
def yX9_readsDigit : MethodName := ⟨RX9, "readsDigit", "(II)Z"⟩
abbrev cX9_readsSet : ByteArray := prog_11_method_90_code
def yX9_readsSet : MethodName := ⟨RX9, "readsSet", "()Z"⟩
abbrev cX9_readsWage : ByteArray := prog_11_method_91_code
def yX9_readsWage : MethodName := ⟨RX9, "readsWage", "()Z"⟩
abbrev cX9_readsPupil : ByteArray := prog_11_method_92_code
def yX9_readsPupil : MethodName := ⟨RX9, "readsPupil", "()Z"⟩
abbrev cX9_readsGroup : ByteArray := prog_11_method_93_code
def yX9_readsGroup : MethodName := ⟨RX9, "readsGroup", "()Z"⟩
abbrev cX9_readsInstructor : ByteArray := prog_11_method_94_code
def yX9_readsInstructor : MethodName := ⟨RX9, "readsInstructor", "()Z"⟩
abbrev cX9_entry : ByteArray := prog_11_method_95_code
def yX9_entry : MethodName := ⟨RX9, "entry", "(Z)I"⟩
abbrev cX9_load : ByteArray := prog_11_method_96_code
def yX9_load : MethodName := ⟨RX9, "load", "()I"⟩
abbrev cX9_digest : ByteArray := prog_11_method_97_code
def yX9_digest : MethodName := ⟨RX9, "digest", "()J"⟩
def RJ9 : String := "java/lang/Math"
def TJ9 : u_T := fun k => match k with
  | _ => ("", "", "", false)
def tyJ9 : Nat → FieldType := fun k => match k with
  | _ => .int
abbrev wsJ90 : List Cond := u_ws RJ9 TJ9 0
theorem nmJ9 : ∀ a, a < 0 → ∀ b, b < 0 → a ≠ b → (TJ9 a).2.1 ≠ (TJ9 b).2.1 := by decide +kernel
theorem tyJ9_ok : ∀ k, k < 0 → parseFieldDescriptor (TJ9 k).2.2.1 = some (tyJ9 k) := by decide +kernel
abbrev cJ9_abs_0f7a4 : ByteArray := prog_12_method_59_code
def yJ9_abs_0f7a4 : MethodName := ⟨RJ9, "abs", "(I)I"⟩
abbrev cJ9_max_7cf53 : ByteArray := prog_12_method_65_code
def yJ9_max_7cf53 : MethodName := ⟨RJ9, "max", "(II)I"⟩
abbrev cJ9_min_7cf53 : ByteArray := prog_12_method_69_code
def yJ9_min_7cf53 : MethodName := ⟨RJ9, "min", "(II)I"⟩
def RJ10 : String := "java/lang/System"
def TJ10 : u_T := fun k => match k with
  | _ => ("", "", "", false)
def tyJ10 : Nat → FieldType := fun k => match k with
  | _ => .int
abbrev wsJ100 : List Cond := u_ws RJ10 TJ10 0
theorem nmJ10 : ∀ a, a < 0 → ∀ b, b < 0 → a ≠ b → (TJ10 a).2.1 ≠ (TJ10 b).2.1 := by decide +kernel
theorem tyJ10_ok : ∀ k, k < 0 → parseFieldDescriptor (TJ10 k).2.2.1 = some (tyJ10 k) := by decide +kernel
def RJ7 : String := "java/util/Arrays"
def TJ7 : u_T := fun k => match k with
  | _ => ("", "", "", false)
def tyJ7 : Nat → FieldType := fun k => match k with
  | _ => .int
abbrev wsJ70 : List Cond := u_ws RJ7 TJ7 0
theorem nmJ7 : ∀ a, a < 0 → ∀ b, b < 0 → a ≠ b → (TJ7 a).2.1 ≠ (TJ7 b).2.1 := by decide +kernel
theorem tyJ7_ok : ∀ k, k < 0 → parseFieldDescriptor (TJ7 k).2.2.1 = some (tyJ7 k) := by decide +kernel
abbrev cJ7_fill_53178 : ByteArray := prog_14_method_103_code
def yJ7_fill_53178 : MethodName := ⟨RJ7, "fill", "([II)V"⟩
def RL : String := "SkiSchoolLaw"
abbrev cL_law : ByteArray := code
def yL_law : MethodName := ⟨RL, "law", "([I)Z"⟩
abbrev vwCl : List vw_C := [(RX0, TX0, 11), (RX1, TX1, 6), (RX2, TX2, 5), (RX3, TX3, 13), (RX4, TX4, 7), (RX5, TX5, 12), (RX6, TX6, 10), (RX7, TX7, 4), (RX8, TX8, 14), (RX9, TX9, 61)]
/-! ===== END printed: names ===== -/