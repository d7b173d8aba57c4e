section
-- ===== PART A: goes FIRST, ahead of the names: the tables' words, and 'selects' of the private methods out of them =====
/-- a private method of a class that the tables say can be made, by its rows of tables_1 -/
def lw_okq (q : MethodName × Nat) : Prop := (q.1.cls ≠ "java/lang/invoke/MethodHandle" ∧ q.1.cls ≠ "java/lang/invoke/VarHandle") ∧ Cond.instantiable q.1.cls q.2 ∈ tables_1 ∧ Cond.privateMethod q.1 ∈ tables_1 ∧ Cond.instanceMethod q.1 ∈ tables_1
theorem lw_p0 : lw_okq (⟨"CloudHerd", "found", "(I)I"⟩, 10) := ⟨⟨by decide +kernel, by decide +kernel⟩, List.mem_of_getElem? (i := 13) (by decide +kernel), List.mem_of_getElem? (i := 266) (by decide +kernel), List.mem_of_getElem? (i := 267) (by decide +kernel)⟩
theorem lw_p1 : lw_okq (⟨"CloudHerd", "clean", "(I)I"⟩, 10) := ⟨⟨by decide +kernel, by decide +kernel⟩, List.mem_of_getElem? (i := 13) (by decide +kernel), List.mem_of_getElem? (i := 275) (by decide +kernel), List.mem_of_getElem? (i := 276) (by decide +kernel)⟩
theorem lw_p2 : lw_okq (⟨"CloudHerd$Tape", "look", "()V"⟩, 7) := ⟨⟨by decide +kernel, by decide +kernel⟩, List.mem_of_getElem? (i := 23) (by decide +kernel), List.mem_of_getElem? (i := 324) (by decide +kernel), List.mem_of_getElem? (i := 325) (by decide +kernel)⟩
theorem lw_p3 : lw_okq (⟨"CloudHerd$Tape", "isFigure", "(I)Z"⟩, 7) := ⟨⟨by decide +kernel, by decide +kernel⟩, List.mem_of_getElem? (i := 23) (by decide +kernel), List.mem_of_getElem? (i := 328) (by decide +kernel), List.mem_of_getElem? (i := 329) (by decide +kernel)⟩
theorem lw_p4 : lw_okq (⟨"CloudHerd$Tape", "lookAtFigures", "()V"⟩, 7) := ⟨⟨by decide +kernel, by decide +kernel⟩, List.mem_of_getElem? (i := 23) (by decide +kernel), List.mem_of_getElem? (i := 332) (by decide +kernel), List.mem_of_getElem? (i := 333) (by decide +kernel)⟩
theorem lw_p5 : lw_okq (⟨"CloudHerd$Tape", "readLaw", "(LCloudHerd$Herd;)V"⟩, 7) := ⟨⟨by decide +kernel, by decide +kernel⟩, List.mem_of_getElem? (i := 23) (by decide +kernel), List.mem_of_getElem? (i := 344) (by decide +kernel), List.mem_of_getElem? (i := 345) (by decide +kernel)⟩
theorem lw_p6 : lw_okq (⟨"CloudHerd$Tape", "takeSign", "(I)V"⟩, 7) := ⟨⟨by decide +kernel, by decide +kernel⟩, List.mem_of_getElem? (i := 23) (by decide +kernel), List.mem_of_getElem? (i := 348) (by decide +kernel), List.mem_of_getElem? (i := 349) (by decide +kernel)⟩
theorem lw_p7 : lw_okq (⟨"CloudHerd$Tape", "takeNumber", "(III)I"⟩, 7) := ⟨⟨by decide +kernel, by decide +kernel⟩, List.mem_of_getElem? (i := 23) (by decide +kernel), List.mem_of_getElem? (i := 352) (by decide +kernel), List.mem_of_getElem? (i := 353) (by decide +kernel)⟩
theorem lw_p8 : lw_okq (⟨"CloudHerd$Tape", "readWind", "(LCloudHerd$Herd;II)V"⟩, 7) := ⟨⟨by decide +kernel, by decide +kernel⟩, List.mem_of_getElem? (i := 23) (by decide +kernel), List.mem_of_getElem? (i := 356) (by decide +kernel), List.mem_of_getElem? (i := 357) (by decide +kernel)⟩
theorem lw_p9 : lw_okq (⟨"CloudHerd$Tape", "takeDirection", "()I"⟩, 7) := ⟨⟨by decide +kernel, by decide +kernel⟩, List.mem_of_getElem? (i := 23) (by decide +kernel), List.mem_of_getElem? (i := 360) (by decide +kernel), List.mem_of_getElem? (i := 361) (by decide +kernel)⟩
theorem lw_p10 : lw_okq (⟨"CloudHerd$Tape", "readParishes", "(LCloudHerd$Herd;)V"⟩, 7) := ⟨⟨by decide +kernel, by decide +kernel⟩, List.mem_of_getElem? (i := 23) (by decide +kernel), List.mem_of_getElem? (i := 367) (by decide +kernel), List.mem_of_getElem? (i := 368) (by decide +kernel)⟩
theorem lw_p11 : lw_okq (⟨"CloudHerd$Tape", "readClouds", "(LCloudHerd$Herd;)V"⟩, 7) := ⟨⟨by decide +kernel, by decide +kernel⟩, List.mem_of_getElem? (i := 23) (by decide +kernel), List.mem_of_getElem? (i := 374) (by decide +kernel), List.mem_of_getElem? (i := 375) (by decide +kernel)⟩
theorem lw_p12 : lw_okq (⟨"CloudHerd$Herd", "driftAll", "()V"⟩, 13) := ⟨⟨by decide +kernel, by decide +kernel⟩, List.mem_of_getElem? (i := 55) (by decide +kernel), List.mem_of_getElem? (i := 438) (by decide +kernel), List.mem_of_getElem? (i := 439) (by decide +kernel)⟩
theorem lw_p13 : lw_okq (⟨"CloudHerd$Herd", "driftOne", "(LCloudHerd$Cloud;I)V"⟩, 13) := ⟨⟨by decide +kernel, by decide +kernel⟩, List.mem_of_getElem? (i := 55) (by decide +kernel), List.mem_of_getElem? (i := 442) (by decide +kernel), List.mem_of_getElem? (i := 443) (by decide +kernel)⟩
theorem lw_p14 : lw_okq (⟨"CloudHerd$Herd", "runTogether", "()V"⟩, 13) := ⟨⟨by decide +kernel, by decide +kernel⟩, List.mem_of_getElem? (i := 55) (by decide +kernel), List.mem_of_getElem? (i := 460) (by decide +kernel), List.mem_of_getElem? (i := 461) (by decide +kernel)⟩
theorem lw_p15 : lw_okq (⟨"CloudHerd$Herd", "rainAll", "()V"⟩, 13) := ⟨⟨by decide +kernel, by decide +kernel⟩, List.mem_of_getElem? (i := 55) (by decide +kernel), List.mem_of_getElem? (i := 473) (by decide +kernel), List.mem_of_getElem? (i := 474) (by decide +kernel)⟩
def lw_privs_1 : List (MethodName × Nat) := [(⟨"CloudHerd", "found", "(I)I"⟩, 10), (⟨"CloudHerd", "clean", "(I)I"⟩, 10), (⟨"CloudHerd$Tape", "look", "()V"⟩, 7), (⟨"CloudHerd$Tape", "isFigure", "(I)Z"⟩, 7), (⟨"CloudHerd$Tape", "lookAtFigures", "()V"⟩, 7), (⟨"CloudHerd$Tape", "readLaw", "(LCloudHerd$Herd;)V"⟩, 7), (⟨"CloudHerd$Tape", "takeSign", "(I)V"⟩, 7), (⟨"CloudHerd$Tape", "takeNumber", "(III)I"⟩, 7), (⟨"CloudHerd$Tape", "readWind", "(LCloudHerd$Herd;II)V"⟩, 7), (⟨"CloudHerd$Tape", "takeDirection", "()I"⟩, 7), (⟨"CloudHerd$Tape", "readParishes", "(LCloudHerd$Herd;)V"⟩, 7), (⟨"CloudHerd$Tape", "readClouds", "(LCloudHerd$Herd;)V"⟩, 7), (⟨"CloudHerd$Herd", "driftAll", "()V"⟩, 13), (⟨"CloudHerd$Herd", "driftOne", "(LCloudHerd$Cloud;I)V"⟩, 13), (⟨"CloudHerd$Herd", "runTogether", "()V"⟩, 13), (⟨"CloudHerd$Herd", "rainAll", "()V"⟩, 13)]
theorem lw_r1 : ∀ q ∈ lw_privs_1, lw_okq q := List.forall_mem_cons.mpr ⟨lw_p0, List.forall_mem_cons.mpr ⟨lw_p1, List.forall_mem_cons.mpr ⟨lw_p2, List.forall_mem_cons.mpr ⟨lw_p3, List.forall_mem_cons.mpr ⟨lw_p4, List.forall_mem_cons.mpr ⟨lw_p5, List.forall_mem_cons.mpr ⟨lw_p6, List.forall_mem_cons.mpr ⟨lw_p7, List.forall_mem_cons.mpr ⟨lw_p8, List.forall_mem_cons.mpr ⟨lw_p9, List.forall_mem_cons.mpr ⟨lw_p10, List.forall_mem_cons.mpr ⟨lw_p11, List.forall_mem_cons.mpr ⟨lw_p12, List.forall_mem_cons.mpr ⟨lw_p13, List.forall_mem_cons.mpr ⟨lw_p14, List.forall_mem_cons.mpr ⟨lw_p15, fun _ h => absurd h List.not_mem_nil⟩⟩⟩⟩⟩⟩⟩⟩⟩⟩⟩⟩⟩⟩⟩⟩
theorem lw_p16 : lw_okq (⟨"CloudHerd$Herd", "rainOne", "(LCloudHerd$Cloud;)I"⟩, 13) := ⟨⟨by decide +kernel, by decide +kernel⟩, List.mem_of_getElem? (i := 55) (by decide +kernel), List.mem_of_getElem? (i := 477) (by decide +kernel), List.mem_of_getElem? (i := 478) (by decide +kernel)⟩
theorem lw_p17 : lw_okq (⟨"CloudHerd$Cloud", "pouring", "(I)I"⟩, 7) := ⟨⟨by decide +kernel, by decide +kernel⟩, List.mem_of_getElem? (i := 62) (by decide +kernel), List.mem_of_getElem? (i := 485) (by decide +kernel), List.mem_of_getElem? (i := 486) (by decide +kernel)⟩
theorem lw_p18 : lw_okq (⟨"CloudHerd$Herd", "milkAll", "()V"⟩, 13) := ⟨⟨by decide +kernel, by decide +kernel⟩, List.mem_of_getElem? (i := 55) (by decide +kernel), List.mem_of_getElem? (i := 489) (by decide +kernel), List.mem_of_getElem? (i := 490) (by decide +kernel)⟩
theorem lw_p19 : lw_okq (⟨"CloudHerd$Herd", "milkOne", "(LCloudHerd$Cloud;)I"⟩, 13) := ⟨⟨by decide +kernel, by decide +kernel⟩, List.mem_of_getElem? (i := 55) (by decide +kernel), List.mem_of_getElem? (i := 493) (by decide +kernel), List.mem_of_getElem? (i := 494) (by decide +kernel)⟩
theorem lw_p20 : lw_okq (⟨"CloudHerd", "isCloud", "(I)Z"⟩, 10) := ⟨⟨by decide +kernel, by decide +kernel⟩, List.mem_of_getElem? (i := 13) (by decide +kernel), List.mem_of_getElem? (i := 501) (by decide +kernel), List.mem_of_getElem? (i := 502) (by decide +kernel)⟩
theorem lw_p21 : lw_okq (⟨"CloudHerd", "tryHours", "(I)V"⟩, 10) := ⟨⟨by decide +kernel, by decide +kernel⟩, List.mem_of_getElem? (i := 13) (by decide +kernel), List.mem_of_getElem? (i := 549) (by decide +kernel), List.mem_of_getElem? (i := 550) (by decide +kernel)⟩
theorem lw_p22 : lw_okq (⟨"CloudHerd", "spread", "(LCloudHerd$Cloud;II)I"⟩, 10) := ⟨⟨by decide +kernel, by decide +kernel⟩, List.mem_of_getElem? (i := 13) (by decide +kernel), List.mem_of_getElem? (i := 570) (by decide +kernel), List.mem_of_getElem? (i := 571) (by decide +kernel)⟩
theorem lw_p23 : lw_okq (⟨"CloudHerd", "earnedAt", "(III)I"⟩, 10) := ⟨⟨by decide +kernel, by decide +kernel⟩, List.mem_of_getElem? (i := 13) (by decide +kernel), List.mem_of_getElem? (i := 579) (by decide +kernel), List.mem_of_getElem? (i := 580) (by decide +kernel)⟩
theorem lw_p24 : lw_okq (⟨"CloudHerd", "leavesDew", "(ILCloudHerd$Row;II)Z"⟩, 10) := ⟨⟨by decide +kernel, by decide +kernel⟩, List.mem_of_getElem? (i := 13) (by decide +kernel), List.mem_of_getElem? (i := 596) (by decide +kernel), List.mem_of_getElem? (i := 597) (by decide +kernel)⟩
theorem lw_p25 : lw_okq (⟨"CloudHerd", "tookWay", "(IIILCloudHerd$Row;II)Z"⟩, 10) := ⟨⟨by decide +kernel, by decide +kernel⟩, List.mem_of_getElem? (i := 13) (by decide +kernel), List.mem_of_getElem? (i := 604) (by decide +kernel), List.mem_of_getElem? (i := 605) (by decide +kernel)⟩
theorem lw_p26 : lw_okq (⟨"CloudHerd", "flewSo", "(IILCloudHerd$Row;II)Z"⟩, 10) := ⟨⟨by decide +kernel, by decide +kernel⟩, List.mem_of_getElem? (i := 13) (by decide +kernel), List.mem_of_getElem? (i := 612) (by decide +kernel), List.mem_of_getElem? (i := 613) (by decide +kernel)⟩
theorem lw_p27 : lw_okq (⟨"CloudHerd", "cellBehind", "(LCloudHerd$Cloud;II)I"⟩, 10) := ⟨⟨by decide +kernel, by decide +kernel⟩, List.mem_of_getElem? (i := 13) (by decide +kernel), List.mem_of_getElem? (i := 620) (by decide +kernel), List.mem_of_getElem? (i := 621) (by decide +kernel)⟩
theorem lw_p28 : lw_okq (⟨"CloudHerd", "lineRefusal", "(LCloudHerd$Row;I)I"⟩, 10) := ⟨⟨by decide +kernel, by decide +kernel⟩, List.mem_of_getElem? (i := 13) (by decide +kernel), List.mem_of_getElem? (i := 632) (by decide +kernel), List.mem_of_getElem? (i := 633) (by decide +kernel)⟩
theorem lw_p29 : lw_okq (⟨"CloudHerd$Trace", "leave", "(I)V"⟩, 2) := ⟨⟨by decide +kernel, by decide +kernel⟩, List.mem_of_getElem? (i := 187) (by decide +kernel), List.mem_of_getElem? (i := 693) (by decide +kernel), List.mem_of_getElem? (i := 694) (by decide +kernel)⟩
theorem lw_p30 : lw_okq (⟨"CloudHerd", "rowsThere", "()I"⟩, 10) := ⟨⟨by decide +kernel, by decide +kernel⟩, List.mem_of_getElem? (i := 13) (by decide +kernel), List.mem_of_getElem? (i := 705) (by decide +kernel), List.mem_of_getElem? (i := 706) (by decide +kernel)⟩
theorem lw_p31 : lw_okq (⟨"CloudHerdModel", "find", "(I)I"⟩, 29) := ⟨⟨by decide +kernel, by decide +kernel⟩, List.mem_of_getElem? (i := 718) (by decide +kernel), List.mem_of_getElem? (i := 826) (by decide +kernel), List.mem_of_getElem? (i := 827) (by decide +kernel)⟩
def lw_privs_2 : List (MethodName × Nat) := [(⟨"CloudHerd$Herd", "rainOne", "(LCloudHerd$Cloud;)I"⟩, 13), (⟨"CloudHerd$Cloud", "pouring", "(I)I"⟩, 7), (⟨"CloudHerd$Herd", "milkAll", "()V"⟩, 13), (⟨"CloudHerd$Herd", "milkOne", "(LCloudHerd$Cloud;)I"⟩, 13), (⟨"CloudHerd", "isCloud", "(I)Z"⟩, 10), (⟨"CloudHerd", "tryHours", "(I)V"⟩, 10), (⟨"CloudHerd", "spread", "(LCloudHerd$Cloud;II)I"⟩, 10), (⟨"CloudHerd", "earnedAt", "(III)I"⟩, 10), (⟨"CloudHerd", "leavesDew", "(ILCloudHerd$Row;II)Z"⟩, 10), (⟨"CloudHerd", "tookWay", "(IIILCloudHerd$Row;II)Z"⟩, 10), (⟨"CloudHerd", "flewSo", "(IILCloudHerd$Row;II)Z"⟩, 10), (⟨"CloudHerd", "cellBehind", "(LCloudHerd$Cloud;II)I"⟩, 10), (⟨"CloudHerd", "lineRefusal", "(LCloudHerd$Row;I)I"⟩, 10), (⟨"CloudHerd$Trace", "leave", "(I)V"⟩, 2), (⟨"CloudHerd", "rowsThere", "()I"⟩, 10), (⟨"CloudHerdModel", "find", "(I)I"⟩, 29)]
theorem lw_r2 : ∀ q ∈ lw_privs_2, lw_okq q := List.forall_mem_cons.mpr ⟨lw_p16, List.forall_mem_cons.mpr ⟨lw_p17, List.forall_mem_cons.mpr ⟨lw_p18, List.forall_mem_cons.mpr ⟨lw_p19, List.forall_mem_cons.mpr ⟨lw_p20, List.forall_mem_cons.mpr ⟨lw_p21, List.forall_mem_cons.mpr ⟨lw_p22, List.forall_mem_cons.mpr ⟨lw_p23, List.forall_mem_cons.mpr ⟨lw_p24, List.forall_mem_cons.mpr ⟨lw_p25, List.forall_mem_cons.mpr ⟨lw_p26, List.forall_mem_cons.mpr ⟨lw_p27, List.forall_mem_cons.mpr ⟨lw_p28, List.forall_mem_cons.mpr ⟨lw_p29, List.forall_mem_cons.mpr ⟨lw_p30, List.forall_mem_cons.mpr ⟨lw_p31, fun _ h => absurd h List.not_mem_nil⟩⟩⟩⟩⟩⟩⟩⟩⟩⟩⟩⟩⟩⟩⟩⟩
theorem lw_p32 : lw_okq (⟨"CloudHerdModel", "well", "(I)I"⟩, 29) := ⟨⟨by decide +kernel, by decide +kernel⟩, List.mem_of_getElem? (i := 718) (by decide +kernel), List.mem_of_getElem? (i := 831) (by decide +kernel), List.mem_of_getElem? (i := 832) (by decide +kernel)⟩
theorem lw_p33 : lw_okq (⟨"CloudHerdModel", "readHerd", "()Z"⟩, 29) := ⟨⟨by decide +kernel, by decide +kernel⟩, List.mem_of_getElem? (i := 718) (by decide +kernel), List.mem_of_getElem? (i := 860) (by decide +kernel), List.mem_of_getElem? (i := 861) (by decide +kernel)⟩
theorem lw_p34 : lw_okq (⟨"CloudHerdModel", "nextToken", "()V"⟩, 29) := ⟨⟨by decide +kernel, by decide +kernel⟩, List.mem_of_getElem? (i := 718) (by decide +kernel), List.mem_of_getElem? (i := 864) (by decide +kernel), List.mem_of_getElem? (i := 865) (by decide +kernel)⟩
theorem lw_p35 : lw_okq (⟨"CloudHerdModel", "readLaw", "()Z"⟩, 29) := ⟨⟨by decide +kernel, by decide +kernel⟩, List.mem_of_getElem? (i := 718) (by decide +kernel), List.mem_of_getElem? (i := 872) (by decide +kernel), List.mem_of_getElem? (i := 873) (by decide +kernel)⟩
theorem lw_p36 : lw_okq (⟨"CloudHerdModel", "takes", "(I)Z"⟩, 29) := ⟨⟨by decide +kernel, by decide +kernel⟩, List.mem_of_getElem? (i := 718) (by decide +kernel), List.mem_of_getElem? (i := 876) (by decide +kernel), List.mem_of_getElem? (i := 877) (by decide +kernel)⟩
theorem lw_p37 : lw_okq (⟨"CloudHerdModel", "isLetter", "(I)Z"⟩, 29) := ⟨⟨by decide +kernel, by decide +kernel⟩, List.mem_of_getElem? (i := 718) (by decide +kernel), List.mem_of_getElem? (i := 880) (by decide +kernel), List.mem_of_getElem? (i := 881) (by decide +kernel)⟩
theorem lw_p38 : lw_okq (⟨"CloudHerdModel", "faults", "(I)Z"⟩, 29) := ⟨⟨by decide +kernel, by decide +kernel⟩, List.mem_of_getElem? (i := 718) (by decide +kernel), List.mem_of_getElem? (i := 884) (by decide +kernel), List.mem_of_getElem? (i := 885) (by decide +kernel)⟩
theorem lw_p39 : lw_okq (⟨"CloudHerdModel", "isNumber", "(II)Z"⟩, 29) := ⟨⟨by decide +kernel, by decide +kernel⟩, List.mem_of_getElem? (i := 718) (by decide +kernel), List.mem_of_getElem? (i := 888) (by decide +kernel), List.mem_of_getElem? (i := 889) (by decide +kernel)⟩
theorem lw_p40 : lw_okq (⟨"CloudHerdModel", "taken", "()I"⟩, 29) := ⟨⟨by decide +kernel, by decide +kernel⟩, List.mem_of_getElem? (i := 718) (by decide +kernel), List.mem_of_getElem? (i := 892) (by decide +kernel), List.mem_of_getElem? (i := 893) (by decide +kernel)⟩
theorem lw_p41 : lw_okq (⟨"CloudHerdModel", "readWind", "(II)Z"⟩, 29) := ⟨⟨by decide +kernel, by decide +kernel⟩, List.mem_of_getElem? (i := 718) (by decide +kernel), List.mem_of_getElem? (i := 896) (by decide +kernel), List.mem_of_getElem? (i := 897) (by decide +kernel)⟩
theorem lw_p42 : lw_okq (⟨"CloudHerdModel", "readParish", "(I)Z"⟩, 29) := ⟨⟨by decide +kernel, by decide +kernel⟩, List.mem_of_getElem? (i := 718) (by decide +kernel), List.mem_of_getElem? (i := 900) (by decide +kernel), List.mem_of_getElem? (i := 901) (by decide +kernel)⟩
theorem lw_p43 : lw_okq (⟨"CloudHerdModel", "readCloud", "(I)Z"⟩, 29) := ⟨⟨by decide +kernel, by decide +kernel⟩, List.mem_of_getElem? (i := 718) (by decide +kernel), List.mem_of_getElem? (i := 904) (by decide +kernel), List.mem_of_getElem? (i := 905) (by decide +kernel)⟩
theorem lw_p44 : lw_okq (⟨"CloudHerdModel", "isTaken", "(I)Z"⟩, 29) := ⟨⟨by decide +kernel, by decide +kernel⟩, List.mem_of_getElem? (i := 718) (by decide +kernel), List.mem_of_getElem? (i := 908) (by decide +kernel), List.mem_of_getElem? (i := 909) (by decide +kernel)⟩
theorem lw_p45 : lw_okq (⟨"CloudHerdModel", "note", "()V"⟩, 29) := ⟨⟨by decide +kernel, by decide +kernel⟩, List.mem_of_getElem? (i := 718) (by decide +kernel), List.mem_of_getElem? (i := 927) (by decide +kernel), List.mem_of_getElem? (i := 928) (by decide +kernel)⟩
theorem lw_p46 : lw_okq (⟨"CloudHerdModel", "oneHour", "()I"⟩, 29) := ⟨⟨by decide +kernel, by decide +kernel⟩, List.mem_of_getElem? (i := 718) (by decide +kernel), List.mem_of_getElem? (i := 931) (by decide +kernel), List.mem_of_getElem? (i := 932) (by decide +kernel)⟩
theorem lw_p47 : lw_okq (⟨"CloudHerdModel", "isThere", "(I)Z"⟩, 29) := ⟨⟨by decide +kernel, by decide +kernel⟩, List.mem_of_getElem? (i := 718) (by decide +kernel), List.mem_of_getElem? (i := 935) (by decide +kernel), List.mem_of_getElem? (i := 936) (by decide +kernel)⟩
def lw_privs_3 : List (MethodName × Nat) := [(⟨"CloudHerdModel", "well", "(I)I"⟩, 29), (⟨"CloudHerdModel", "readHerd", "()Z"⟩, 29), (⟨"CloudHerdModel", "nextToken", "()V"⟩, 29), (⟨"CloudHerdModel", "readLaw", "()Z"⟩, 29), (⟨"CloudHerdModel", "takes", "(I)Z"⟩, 29), (⟨"CloudHerdModel", "isLetter", "(I)Z"⟩, 29), (⟨"CloudHerdModel", "faults", "(I)Z"⟩, 29), (⟨"CloudHerdModel", "isNumber", "(II)Z"⟩, 29), (⟨"CloudHerdModel", "taken", "()I"⟩, 29), (⟨"CloudHerdModel", "readWind", "(II)Z"⟩, 29), (⟨"CloudHerdModel", "readParish", "(I)Z"⟩, 29), (⟨"CloudHerdModel", "readCloud", "(I)Z"⟩, 29), (⟨"CloudHerdModel", "isTaken", "(I)Z"⟩, 29), (⟨"CloudHerdModel", "note", "()V"⟩, 29), (⟨"CloudHerdModel", "oneHour", "()I"⟩, 29), (⟨"CloudHerdModel", "isThere", "(I)Z"⟩, 29)]
theorem lw_r3 : ∀ q ∈ lw_privs_3, lw_okq q := List.forall_mem_cons.mpr ⟨lw_p32, List.forall_mem_cons.mpr ⟨lw_p33, List.forall_mem_cons.mpr ⟨lw_p34, List.forall_mem_cons.mpr ⟨lw_p35, List.forall_mem_cons.mpr ⟨lw_p36, List.forall_mem_cons.mpr ⟨lw_p37, List.forall_mem_cons.mpr ⟨lw_p38, List.forall_mem_cons.mpr ⟨lw_p39, List.forall_mem_cons.mpr ⟨lw_p40, List.forall_mem_cons.mpr ⟨lw_p41, List.forall_mem_cons.mpr ⟨lw_p42, List.forall_mem_cons.mpr ⟨lw_p43, List.forall_mem_cons.mpr ⟨lw_p44, List.forall_mem_cons.mpr ⟨lw_p45, List.forall_mem_cons.mpr ⟨lw_p46, List.forall_mem_cons.mpr ⟨lw_p47, fun _ h => absurd h List.not_mem_nil⟩⟩⟩⟩⟩⟩⟩⟩⟩⟩⟩⟩⟩⟩⟩⟩
theorem lw_p48 : lw_okq (⟨"CloudHerdModel", "drift", "(I)V"⟩, 29) := ⟨⟨by decide +kernel, by decide +kernel⟩, List.mem_of_getElem? (i := 718) (by decide +kernel), List.mem_of_getElem? (i := 939) (by decide +kernel), List.mem_of_getElem? (i := 940) (by decide +kernel)⟩
theorem lw_p49 : lw_okq (⟨"CloudHerdModel", "drifts", "(IIII)I"⟩, 29) := ⟨⟨by decide +kernel, by decide +kernel⟩, List.mem_of_getElem? (i := 718) (by decide +kernel), List.mem_of_getElem? (i := 943) (by decide +kernel), List.mem_of_getElem? (i := 944) (by decide +kernel)⟩
theorem lw_p50 : lw_okq (⟨"CloudHerdModel", "together", "()I"⟩, 29) := ⟨⟨by decide +kernel, by decide +kernel⟩, List.mem_of_getElem? (i := 718) (by decide +kernel), List.mem_of_getElem? (i := 953) (by decide +kernel), List.mem_of_getElem? (i := 954) (by decide +kernel)⟩
theorem lw_p51 : lw_okq (⟨"CloudHerdModel", "rain", "(I)I"⟩, 29) := ⟨⟨by decide +kernel, by decide +kernel⟩, List.mem_of_getElem? (i := 718) (by decide +kernel), List.mem_of_getElem? (i := 957) (by decide +kernel), List.mem_of_getElem? (i := 958) (by decide +kernel)⟩
theorem lw_p52 : lw_okq (⟨"CloudHerdModel", "rainOf", "(I)I"⟩, 29) := ⟨⟨by decide +kernel, by decide +kernel⟩, List.mem_of_getElem? (i := 718) (by decide +kernel), List.mem_of_getElem? (i := 961) (by decide +kernel), List.mem_of_getElem? (i := 962) (by decide +kernel)⟩
theorem lw_p53 : lw_okq (⟨"CloudHerdModel", "milk", "(I)V"⟩, 29) := ⟨⟨by decide +kernel, by decide +kernel⟩, List.mem_of_getElem? (i := 718) (by decide +kernel), List.mem_of_getElem? (i := 965) (by decide +kernel), List.mem_of_getElem? (i := 966) (by decide +kernel)⟩
theorem lw_p54 : lw_okq (⟨"CloudHerdModel", "isCloud", "(I)Z"⟩, 29) := ⟨⟨by decide +kernel, by decide +kernel⟩, List.mem_of_getElem? (i := 718) (by decide +kernel), List.mem_of_getElem? (i := 973) (by decide +kernel), List.mem_of_getElem? (i := 974) (by decide +kernel)⟩
theorem lw_p55 : lw_okq (⟨"CloudHerdModel", "setHeight", "(II)V"⟩, 29) := ⟨⟨by decide +kernel, by decide +kernel⟩, List.mem_of_getElem? (i := 718) (by decide +kernel), List.mem_of_getElem? (i := 977) (by decide +kernel), List.mem_of_getElem? (i := 978) (by decide +kernel)⟩
theorem lw_p56 : lw_okq (⟨"CloudHerdModel", "toldOf", "(II)I"⟩, 29) := ⟨⟨by decide +kernel, by decide +kernel⟩, List.mem_of_getElem? (i := 718) (by decide +kernel), List.mem_of_getElem? (i := 990) (by decide +kernel), List.mem_of_getElem? (i := 991) (by decide +kernel)⟩
theorem lw_p57 : lw_okq (⟨"CloudHerdModel", "over", "(I)I"⟩, 29) := ⟨⟨by decide +kernel, by decide +kernel⟩, List.mem_of_getElem? (i := 718) (by decide +kernel), List.mem_of_getElem? (i := 1002) (by decide +kernel), List.mem_of_getElem? (i := 1003) (by decide +kernel)⟩
theorem lw_p58 : lw_okq (⟨"CloudHerdModel", "putAside", "()V"⟩, 29) := ⟨⟨by decide +kernel, by decide +kernel⟩, List.mem_of_getElem? (i := 718) (by decide +kernel), List.mem_of_getElem? (i := 1017) (by decide +kernel), List.mem_of_getElem? (i := 1018) (by decide +kernel)⟩
theorem lw_p59 : lw_okq (⟨"CloudHerdModel", "goOn", "(I)V"⟩, 29) := ⟨⟨by decide +kernel, by decide +kernel⟩, List.mem_of_getElem? (i := 718) (by decide +kernel), List.mem_of_getElem? (i := 1021) (by decide +kernel), List.mem_of_getElem? (i := 1022) (by decide +kernel)⟩
theorem lw_p60 : lw_okq (⟨"CloudHerdModel", "takeBack", "()V"⟩, 29) := ⟨⟨by decide +kernel, by decide +kernel⟩, List.mem_of_getElem? (i := 718) (by decide +kernel), List.mem_of_getElem? (i := 1025) (by decide +kernel), List.mem_of_getElem? (i := 1026) (by decide +kernel)⟩
theorem lw_p61 : lw_okq (⟨"CloudHerdModel", "oneAlone", "(I)I"⟩, 29) := ⟨⟨by decide +kernel, by decide +kernel⟩, List.mem_of_getElem? (i := 718) (by decide +kernel), List.mem_of_getElem? (i := 1051) (by decide +kernel), List.mem_of_getElem? (i := 1052) (by decide +kernel)⟩
theorem lw_p62 : lw_okq (⟨"CloudHerdModel", "lacks", "(III)I"⟩, 29) := ⟨⟨by decide +kernel, by decide +kernel⟩, List.mem_of_getElem? (i := 718) (by decide +kernel), List.mem_of_getElem? (i := 1064) (by decide +kernel), List.mem_of_getElem? (i := 1065) (by decide +kernel)⟩
theorem lw_p63 : lw_okq (⟨"CloudHerdModel", "isDew", "(III)Z"⟩, 29) := ⟨⟨by decide +kernel, by decide +kernel⟩, List.mem_of_getElem? (i := 718) (by decide +kernel), List.mem_of_getElem? (i := 1068) (by decide +kernel), List.mem_of_getElem? (i := 1069) (by decide +kernel)⟩
def lw_privs_4 : List (MethodName × Nat) := [(⟨"CloudHerdModel", "drift", "(I)V"⟩, 29), (⟨"CloudHerdModel", "drifts", "(IIII)I"⟩, 29), (⟨"CloudHerdModel", "together", "()I"⟩, 29), (⟨"CloudHerdModel", "rain", "(I)I"⟩, 29), (⟨"CloudHerdModel", "rainOf", "(I)I"⟩, 29), (⟨"CloudHerdModel", "milk", "(I)V"⟩, 29), (⟨"CloudHerdModel", "isCloud", "(I)Z"⟩, 29), (⟨"CloudHerdModel", "setHeight", "(II)V"⟩, 29), (⟨"CloudHerdModel", "toldOf", "(II)I"⟩, 29), (⟨"CloudHerdModel", "over", "(I)I"⟩, 29), (⟨"CloudHerdModel", "putAside", "()V"⟩, 29), (⟨"CloudHerdModel", "goOn", "(I)V"⟩, 29), (⟨"CloudHerdModel", "takeBack", "()V"⟩, 29), (⟨"CloudHerdModel", "oneAlone", "(I)I"⟩, 29), (⟨"CloudHerdModel", "lacks", "(III)I"⟩, 29), (⟨"CloudHerdModel", "isDew", "(III)Z"⟩, 29)]
theorem lw_r4 : ∀ q ∈ lw_privs_4, lw_okq q := List.forall_mem_cons.mpr ⟨lw_p48, List.forall_mem_cons.mpr ⟨lw_p49, List.forall_mem_cons.mpr ⟨lw_p50, List.forall_mem_cons.mpr ⟨lw_p51, List.forall_mem_cons.mpr ⟨lw_p52, List.forall_mem_cons.mpr ⟨lw_p53, List.forall_mem_cons.mpr ⟨lw_p54, List.forall_mem_cons.mpr ⟨lw_p55, List.forall_mem_cons.mpr ⟨lw_p56, List.forall_mem_cons.mpr ⟨lw_p57, List.forall_mem_cons.mpr ⟨lw_p58, List.forall_mem_cons.mpr ⟨lw_p59, List.forall_mem_cons.mpr ⟨lw_p60, List.forall_mem_cons.mpr ⟨lw_p61, List.forall_mem_cons.mpr ⟨lw_p62, List.forall_mem_cons.mpr ⟨lw_p63, fun _ h => absurd h List.not_mem_nil⟩⟩⟩⟩⟩⟩⟩⟩⟩⟩⟩⟩⟩⟩⟩⟩
theorem lw_p64 : lw_okq (⟨"CloudHerdModel", "findGuards", "(II)I"⟩, 29) := ⟨⟨by decide +kernel, by decide +kernel⟩, List.mem_of_getElem? (i := 718) (by decide +kernel), List.mem_of_getElem? (i := 1092) (by decide +kernel), List.mem_of_getElem? (i := 1093) (by decide +kernel)⟩
theorem lw_p65 : lw_okq (⟨"CloudHerdModel", "sizeOf", "(I)I"⟩, 29) := ⟨⟨by decide +kernel, by decide +kernel⟩, List.mem_of_getElem? (i := 718) (by decide +kernel), List.mem_of_getElem? (i := 1130) (by decide +kernel), List.mem_of_getElem? (i := 1131) (by decide +kernel)⟩
theorem lw_p66 : lw_okq (⟨"CloudHerdModel", "begin", "(I)V"⟩, 29) := ⟨⟨by decide +kernel, by decide +kernel⟩, List.mem_of_getElem? (i := 718) (by decide +kernel), List.mem_of_getElem? (i := 1134) (by decide +kernel), List.mem_of_getElem? (i := 1135) (by decide +kernel)⟩
theorem lw_p67 : lw_okq (⟨"CloudHerdModel", "whiteSize", "(I)I"⟩, 29) := ⟨⟨by decide +kernel, by decide +kernel⟩, List.mem_of_getElem? (i := 718) (by decide +kernel), List.mem_of_getElem? (i := 1138) (by decide +kernel), List.mem_of_getElem? (i := 1139) (by decide +kernel)⟩
theorem lw_p68 : lw_okq (⟨"CloudHerdModel", "lent", "(II)I"⟩, 29) := ⟨⟨by decide +kernel, by decide +kernel⟩, List.mem_of_getElem? (i := 718) (by decide +kernel), List.mem_of_getElem? (i := 1142) (by decide +kernel), List.mem_of_getElem? (i := 1143) (by decide +kernel)⟩
theorem lw_p69 : lw_okq (⟨"CloudHerdModel", "markOf", "(I)I"⟩, 29) := ⟨⟨by decide +kernel, by decide +kernel⟩, List.mem_of_getElem? (i := 718) (by decide +kernel), List.mem_of_getElem? (i := 1146) (by decide +kernel), List.mem_of_getElem? (i := 1147) (by decide +kernel)⟩
theorem lw_p70 : lw_okq (⟨"CloudHerdModel", "whiteMark", "(I)I"⟩, 29) := ⟨⟨by decide +kernel, by decide +kernel⟩, List.mem_of_getElem? (i := 718) (by decide +kernel), List.mem_of_getElem? (i := 1150) (by decide +kernel), List.mem_of_getElem? (i := 1151) (by decide +kernel)⟩
theorem lw_p71 : lw_okq (⟨"CloudHerdModel", "sizeOfFog", "(I)I"⟩, 29) := ⟨⟨by decide +kernel, by decide +kernel⟩, List.mem_of_getElem? (i := 718) (by decide +kernel), List.mem_of_getElem? (i := 1154) (by decide +kernel), List.mem_of_getElem? (i := 1155) (by decide +kernel)⟩
theorem lw_p72 : lw_okq (⟨"CloudHerdModel", "fogSize", "(I)I"⟩, 29) := ⟨⟨by decide +kernel, by decide +kernel⟩, List.mem_of_getElem? (i := 718) (by decide +kernel), List.mem_of_getElem? (i := 1158) (by decide +kernel), List.mem_of_getElem? (i := 1159) (by decide +kernel)⟩
def lw_privs_5 : List (MethodName × Nat) := [(⟨"CloudHerdModel", "findGuards", "(II)I"⟩, 29), (⟨"CloudHerdModel", "sizeOf", "(I)I"⟩, 29), (⟨"CloudHerdModel", "begin", "(I)V"⟩, 29), (⟨"CloudHerdModel", "whiteSize", "(I)I"⟩, 29), (⟨"CloudHerdModel", "lent", "(II)I"⟩, 29), (⟨"CloudHerdModel", "markOf", "(I)I"⟩, 29), (⟨"CloudHerdModel", "whiteMark", "(I)I"⟩, 29), (⟨"CloudHerdModel", "sizeOfFog", "(I)I"⟩, 29), (⟨"CloudHerdModel", "fogSize", "(I)I"⟩, 29)]
theorem lw_r5 : ∀ q ∈ lw_privs_5, lw_okq q := List.forall_mem_cons.mpr ⟨lw_p64, List.forall_mem_cons.mpr ⟨lw_p65, List.forall_mem_cons.mpr ⟨lw_p66, List.forall_mem_cons.mpr ⟨lw_p67, List.forall_mem_cons.mpr ⟨lw_p68, List.forall_mem_cons.mpr ⟨lw_p69, List.forall_mem_cons.mpr ⟨lw_p70, List.forall_mem_cons.mpr ⟨lw_p71, List.forall_mem_cons.mpr ⟨lw_p72, fun _ h => absurd h List.not_mem_nil⟩⟩⟩⟩⟩⟩⟩⟩⟩
def lw_privs : List (MethodName × Nat) := lw_privs_1 ++ (lw_privs_2 ++ (lw_privs_3 ++ (lw_privs_4 ++ (lw_privs_5))))
def lw_tbl : List Cond := k2_sels lw_privs ++ tables_1
theorem lw_privs_ok : ∀ q ∈ lw_privs, lw_okq q := by
  show ∀ q ∈ lw_privs_1 ++ (lw_privs_2 ++ (lw_privs_3 ++ (lw_privs_4 ++ (lw_privs_5)))), lw_okq q
  exact List.forall_mem_append.mpr ⟨lw_r1, List.forall_mem_append.mpr ⟨lw_r2, List.forall_mem_append.mpr ⟨lw_r3, List.forall_mem_append.mpr ⟨lw_r4, lw_r5⟩⟩⟩⟩
end
section
def RX0 : String := "CloudHerd$Acts"
def TX0 : u_T := fun k => match k with
  | 0 => ("CloudHerd$Acts", "kept", "[I", true)
  | 1 => ("CloudHerd$Acts", "next", "I", false)
  | _ => ("CloudHerd$Acts", "size", "I", false)
def tyX0 : Nat → FieldType := fun k => match k with
  | 0 => .array .int
  | 1 => .int
  | _ => .int
abbrev wsX00 : List Cond := u_ws RX0 TX0 3
theorem nmX0 : ∀ a, a < 3 → ∀ b, b < 3 → a ≠ b → (TX0 a).2.1 ≠ (TX0 b).2.1 := by decide +kernel
theorem tyX0_ok : ∀ k, k < 3 → parseFieldDescriptor (TX0 k).2.2.1 = some (tyX0 k) := by decide +kernel
abbrev cX0_init : ByteArray := prog_2_method_1_code
def yX0_init : MethodName := ⟨RX0, "<init>", "()V"⟩
abbrev cX0_keep : ByteArray := prog_2_method_2_code
def yX0_keep : MethodName := ⟨RX0, "keep", "(LCloudHerd$Herd;)V"⟩
abbrev cX0_takeBack : ByteArray := prog_2_method_3_code
def yX0_takeBack : MethodName := ⟨RX0, "takeBack", "(LCloudHerd$Herd;)V"⟩
abbrev cX0_forget : ByteArray := prog_2_method_4_code
def yX0_forget : MethodName := ⟨RX0, "forget", "()V"⟩
def RX1 : String := "CloudHerd$Cloud"
def TX1 : u_T := fun k => match k with
  | 0 => ("CloudHerd$Cloud", "sort", "I", false)
  | 1 => ("CloudHerd$Cloud", "cell", "I", false)
  | 2 => ("CloudHerd$Cloud", "height", "I", false)
  | 3 => ("CloudHerd$Cloud", "water", "I", false)
  | 4 => ("CloudHerd$Cloud", "gone", "Z", false)
  | 5 => ("CloudHerd$Cloud", "told", "Z", false)
  | _ => ("CloudHerd$Cloud", "fallen", "I", false)
def tyX1 : Nat → FieldType := fun k => match k with
  | 0 => .int
  | 1 => .int
  | 2 => .int
  | 3 => .int
  | 4 => .boolean
  | 5 => .boolean
  | _ => .int
abbrev wsX10 : List Cond := u_ws RX1 TX1 7
theorem nmX1 : ∀ a, a < 7 → ∀ b, b < 7 → a ≠ b → (TX1 a).2.1 ≠ (TX1 b).2.1 := by decide +kernel
theorem tyX1_ok : ∀ k, k < 7 → parseFieldDescriptor (TX1 k).2.2.1 = some (tyX1 k) := by decide +kernel
abbrev cX1_init : ByteArray := prog_3_method_1_code
def yX1_init : MethodName := ⟨RX1, "<init>", "()V"⟩
abbrev cX1_begin : ByteArray := prog_3_method_2_code
def yX1_begin : MethodName := ⟨RX1, "begin", "(III)V"⟩
abbrev cX1_become : ByteArray := prog_3_method_3_code
def yX1_become : MethodName := ⟨RX1, "become", "(LCloudHerd$Cloud;)V"⟩
abbrev cX1_packed : ByteArray := prog_3_method_4_code
def yX1_packed : MethodName := ⟨RX1, "packed", "()I"⟩
abbrev cX1_unpack : ByteArray := prog_3_method_5_code
def yX1_unpack : MethodName := ⟨RX1, "unpack", "(I)V"⟩
abbrev cX1_part : ByteArray := prog_3_method_6_code
def yX1_part : MethodName := ⟨RX1, "part", "(I)I"⟩
abbrev cX1_canRise : ByteArray := prog_3_method_7_code
def yX1_canRise : MethodName := ⟨RX1, "canRise", "()Z"⟩
abbrev cX1_moveTo : ByteArray := prog_3_method_8_code
def yX1_moveTo : MethodName := ⟨RX1, "moveTo", "(I)V"⟩
abbrev cX1_driftedFrom : ByteArray := prog_3_method_9_code
def yX1_driftedFrom : MethodName := ⟨RX1, "driftedFrom", "(II)I"⟩
abbrev cX1_opposite : ByteArray := prog_3_method_10_code
def yX1_opposite : MethodName := ⟨RX1, "opposite", "(I)I"⟩
abbrev cX1_beside : ByteArray := prog_3_method_11_code
def yX1_beside : MethodName := ⟨RX1, "beside", "(II)I"⟩
abbrev cX1_meets : ByteArray := prog_3_method_12_code
def yX1_meets : MethodName := ⟨RX1, "meets", "(LCloudHerd$Cloud;)Z"⟩
abbrev cX1_swallow : ByteArray := prog_3_method_13_code
def yX1_swallow : MethodName := ⟨RX1, "swallow", "(LCloudHerd$Cloud;)V"⟩
abbrev cX1_rainOver : ByteArray := prog_3_method_14_code
def yX1_rainOver : MethodName := ⟨RX1, "rainOver", "(I)V"⟩
abbrev cX1_pouring : ByteArray := prog_3_method_15_code
def yX1_pouring : MethodName := ⟨RX1, "pouring", "(I)I"⟩
def RX2 : String := "CloudHerd$Herd"
def TX2 : u_T := fun k => match k with
  | 0 => ("CloudHerd$Herd", "stands", "Z", false)
  | 1 => ("CloudHerd$Herd", "pay", "I", false)
  | 2 => ("CloudHerd$Herd", "fine", "I", false)
  | 3 => ("CloudHerd$Herd", "parishCount", "I", false)
  | 4 => ("CloudHerd$Herd", "cloudCount", "I", false)
  | 5 => ("CloudHerd$Herd", "hour", "I", false)
  | 6 => ("CloudHerd$Herd", "earned", "I", false)
  | 7 => ("CloudHerd$Herd", "milk", "I", false)
  | 8 => ("CloudHerd$Herd", "winds", "[I", true)
  | 9 => ("CloudHerd$Herd", "parishes", "[I", true)
  | 10 => ("CloudHerd$Herd", "clouds", "[LCloudHerd$Cloud;", true)
  | 11 => ("CloudHerd$Herd", "runBits", "I", false)
  | _ => ("CloudHerd$Herd", "hayWater", "I", false)
def tyX2 : Nat → FieldType := fun k => match k with
  | 0 => .boolean
  | 1 => .int
  | 2 => .int
  | 3 => .int
  | 4 => .int
  | 5 => .int
  | 6 => .int
  | 7 => .int
  | 8 => .array .int
  | 9 => .array .int
  | 10 => .array (.object "CloudHerd$Cloud")
  | 11 => .int
  | _ => .int
abbrev wsX20 : List Cond := u_ws RX2 TX2 13
theorem nmX2 : ∀ a, a < 13 → ∀ b, b < 13 → a ≠ b → (TX2 a).2.1 ≠ (TX2 b).2.1 := by decide +kernel
theorem tyX2_ok : ∀ k, k < 13 → parseFieldDescriptor (TX2 k).2.2.1 = some (tyX2 k) := by decide +kernel
abbrev cX2_init : ByteArray := prog_4_method_1_code
def yX2_init : MethodName := ⟨RX2, "<init>", "()V"⟩
abbrev cX2_begin : ByteArray := prog_4_method_2_code
def yX2_begin : MethodName := ⟨RX2, "begin", "()V"⟩
abbrev cX2_become : ByteArray := prog_4_method_3_code
def yX2_become : MethodName := ⟨RX2, "become", "(LCloudHerd$Herd;)V"⟩
abbrev cX2_blowing : ByteArray := prog_4_method_4_code
def yX2_blowing : MethodName := ⟨RX2, "blowing", "(II)I"⟩
abbrev cX2_cloudsOver : ByteArray := prog_4_method_5_code
def yX2_cloudsOver : MethodName := ⟨RX2, "cloudsOver", "(I)I"⟩
abbrev cX2_cloudsLeft : ByteArray := prog_4_method_6_code
def yX2_cloudsLeft : MethodName := ⟨RX2, "cloudsLeft", "()I"⟩
abbrev cX2_passHour : ByteArray := prog_4_method_7_code
def yX2_passHour : MethodName := ⟨RX2, "passHour", "()V"⟩
abbrev cX2_passAlone : ByteArray := prog_4_method_8_code
def yX2_passAlone : MethodName := ⟨RX2, "passAlone", "(LCloudHerd$Cloud;I)I"⟩
abbrev cX2_driftAll : ByteArray := prog_4_method_9_code
def yX2_driftAll : MethodName := ⟨RX2, "driftAll", "()V"⟩
abbrev cX2_driftOne : ByteArray := prog_4_method_10_code
def yX2_driftOne : MethodName := ⟨RX2, "driftOne", "(LCloudHerd$Cloud;I)V"⟩
abbrev cX2_runTogether : ByteArray := prog_4_method_11_code
def yX2_runTogether : MethodName := ⟨RX2, "runTogether", "()V"⟩
abbrev cX2_rainAll : ByteArray := prog_4_method_12_code
def yX2_rainAll : MethodName := ⟨RX2, "rainAll", "()V"⟩
abbrev cX2_rainOne : ByteArray := prog_4_method_13_code
def yX2_rainOne : MethodName := ⟨RX2, "rainOne", "(LCloudHerd$Cloud;)I"⟩
abbrev cX2_milkAll : ByteArray := prog_4_method_14_code
def yX2_milkAll : MethodName := ⟨RX2, "milkAll", "()V"⟩
abbrev cX2_milkOne : ByteArray := prog_4_method_15_code
def yX2_milkOne : MethodName := ⟨RX2, "milkOne", "(LCloudHerd$Cloud;)I"⟩
def RX3 : String := "CloudHerd$Row"
def TX3 : u_T := fun k => match k with
  | 0 => ("CloudHerd$Row", "there", "Z", false)
  | 1 => ("CloudHerd$Row", "lane", "I", false)
  | 2 => ("CloudHerd$Row", "size", "I", false)
  | _ => ("CloudHerd$Row", "items", "[I", true)
def tyX3 : Nat → FieldType := fun k => match k with
  | 0 => .boolean
  | 1 => .int
  | 2 => .int
  | _ => .array .int
abbrev wsX30 : List Cond := u_ws RX3 TX3 4
theorem nmX3 : ∀ a, a < 4 → ∀ b, b < 4 → a ≠ b → (TX3 a).2.1 ≠ (TX3 b).2.1 := by decide +kernel
theorem tyX3_ok : ∀ k, k < 4 → parseFieldDescriptor (TX3 k).2.2.1 = some (tyX3 k) := by decide +kernel
abbrev cX3_init : ByteArray := prog_5_method_1_code
def yX3_init : MethodName := ⟨RX3, "<init>", "()V"⟩
abbrev cX3_begin : ByteArray := prog_5_method_2_code
def yX3_begin : MethodName := ⟨RX3, "begin", "(II)V"⟩
abbrev cX3_has : ByteArray := prog_5_method_3_code
def yX3_has : MethodName := ⟨RX3, "has", "(II)Z"⟩
abbrev cX3_lack : ByteArray := prog_5_method_4_code
def yX3_lack : MethodName := ⟨RX3, "lack", "(II)I"⟩
abbrev cX3_put : ByteArray := prog_5_method_5_code
def yX3_put : MethodName := ⟨RX3, "put", "(II)I"⟩
def RX4 : String := "CloudHerd$Tape"
def TX4 : u_T := fun k => match k with
  | 0 => ("CloudHerd$Tape", "bytes", "[I", true)
  | 1 => ("CloudHerd$Tape", "size", "I", false)
  | 2 => ("CloudHerd$Tape", "place", "I", false)
  | 3 => ("CloudHerd$Tape", "behind", "I", false)
  | 4 => ("CloudHerd$Tape", "token", "I", false)
  | 5 => ("CloudHerd$Tape", "value", "I", false)
  | _ => ("CloudHerd$Tape", "fault", "I", false)
def tyX4 : Nat → FieldType := fun k => match k with
  | 0 => .array .int
  | 1 => .int
  | 2 => .int
  | 3 => .int
  | 4 => .int
  | 5 => .int
  | _ => .int
abbrev wsX40 : List Cond := u_ws RX4 TX4 7
theorem nmX4 : ∀ a, a < 7 → ∀ b, b < 7 → a ≠ b → (TX4 a).2.1 ≠ (TX4 b).2.1 := by decide +kernel
theorem tyX4_ok : ∀ k, k < 7 → parseFieldDescriptor (TX4 k).2.2.1 = some (tyX4 k) := by decide +kernel
abbrev cX4_init : ByteArray := prog_6_method_1_code
def yX4_init : MethodName := ⟨RX4, "<init>", "()V"⟩
abbrev cX4_add : ByteArray := prog_6_method_2_code
def yX4_add : MethodName := ⟨RX4, "add", "(I)Z"⟩
abbrev cX4_read : ByteArray := prog_6_method_3_code
def yX4_read : MethodName := ⟨RX4, "read", "(LCloudHerd$Herd;)V"⟩
abbrev cX4_readLaw : ByteArray := prog_6_method_4_code
def yX4_readLaw : MethodName := ⟨RX4, "readLaw", "(LCloudHerd$Herd;)V"⟩
abbrev cX4_readWind : ByteArray := prog_6_method_5_code
def yX4_readWind : MethodName := ⟨RX4, "readWind", "(LCloudHerd$Herd;II)V"⟩
abbrev cX4_readParishes : ByteArray := prog_6_method_6_code
def yX4_readParishes : MethodName := ⟨RX4, "readParishes", "(LCloudHerd$Herd;)V"⟩
abbrev cX4_readClouds : ByteArray := prog_6_method_7_code
def yX4_readClouds : MethodName := ⟨RX4, "readClouds", "(LCloudHerd$Herd;)V"⟩
abbrev cX4_takeSign : ByteArray := prog_6_method_8_code
def yX4_takeSign : MethodName := ⟨RX4, "takeSign", "(I)V"⟩
abbrev cX4_takeDirection : ByteArray := prog_6_method_9_code
def yX4_takeDirection : MethodName := ⟨RX4, "takeDirection", "()I"⟩
abbrev cX4_takeNumber : ByteArray := prog_6_method_10_code
def yX4_takeNumber : MethodName := ⟨RX4, "takeNumber", "(III)I"⟩
abbrev cX4_look : ByteArray := prog_6_method_11_code
def yX4_look : MethodName := ⟨RX4, "look", "()V"⟩
abbrev cX4_lookAtFigures : ByteArray := prog_6_method_12_code
def yX4_lookAtFigures : MethodName := ⟨RX4, "lookAtFigures", "()V"⟩
abbrev cX4_isFigure : ByteArray := prog_6_method_13_code
def yX4_isFigure : MethodName := ⟨RX4, "isFigure", "(I)Z"⟩
abbrev cX4_isSign : ByteArray := prog_6_method_14_code
def yX4_isSign : MethodName := ⟨RX4, "isSign", "(I)Z"⟩
abbrev cX4_directionOf : ByteArray := prog_6_method_15_code
def yX4_directionOf : MethodName := ⟨RX4, "directionOf", "(I)I"⟩
abbrev cX4_parishOf : ByteArray := prog_6_method_16_code
def yX4_parishOf : MethodName := ⟨RX4, "parishOf", "(I)I"⟩
abbrev cX4_sortOf : ByteArray := prog_6_method_17_code
def yX4_sortOf : MethodName := ⟨RX4, "sortOf", "(I)I"⟩
def RX5 : String := "CloudHerd$Trace"
def TX5 : u_T := fun k => match k with
  | 0 => ("CloudHerd$Trace", "numbers", "[I", true)
  | _ => ("CloudHerd$Trace", "size", "I", false)
def tyX5 : Nat → FieldType := fun k => match k with
  | 0 => .array .int
  | _ => .int
abbrev wsX50 : List Cond := u_ws RX5 TX5 2
theorem nmX5 : ∀ a, a < 2 → ∀ b, b < 2 → a ≠ b → (TX5 a).2.1 ≠ (TX5 b).2.1 := by decide +kernel
theorem tyX5_ok : ∀ k, k < 2 → parseFieldDescriptor (TX5 k).2.2.1 = some (tyX5 k) := by decide +kernel
abbrev cX5_init : ByteArray := prog_7_method_1_code
def yX5_init : MethodName := ⟨RX5, "<init>", "()V"⟩
abbrev cX5_answer : ByteArray := prog_7_method_2_code
def yX5_answer : MethodName := ⟨RX5, "answer", "(LCloudHerd$Cloud;II)I"⟩
abbrev cX5_bodyOf : ByteArray := prog_7_method_3_code
def yX5_bodyOf : MethodName := ⟨RX5, "bodyOf", "(LCloudHerd$Trace;ILCloudHerd$Cloud;II)I"⟩
abbrev cX5_leave : ByteArray := prog_7_method_4_code
def yX5_leave : MethodName := ⟨RX5, "leave", "(I)V"⟩
def RX6 : String := "CloudHerd"
def TX6 : u_T := fun k => match k with
  | 0 => ("CloudHerd", "rows", "[LCloudHerd$Row;", true)
  | 1 => ("CloudHerd", "tape", "LCloudHerd$Tape;", true)
  | 2 => ("CloudHerd", "now", "LCloudHerd$Herd;", true)
  | 3 => ("CloudHerd", "trial", "LCloudHerd$Herd;", true)
  | 4 => ("CloudHerd", "loner", "LCloudHerd$Cloud;", true)
  | 5 => ("CloudHerd", "images", "[LCloudHerd$Herd;", true)
  | 6 => ("CloudHerd", "acts", "LCloudHerd$Acts;", true)
  | 7 => ("CloudHerd", "steps", "LCloudHerd$Trace;", true)
  | 8 => ("CloudHerd", "latestFinding", "I", false)
  | _ => ("CloudHerd", "latestFault", "I", false)
def tyX6 : Nat → FieldType := fun k => match k with
  | 0 => .array (.object "CloudHerd$Row")
  | 1 => .object "CloudHerd$Tape"
  | 2 => .object "CloudHerd$Herd"
  | 3 => .object "CloudHerd$Herd"
  | 4 => .object "CloudHerd$Cloud"
  | 5 => .array (.object "CloudHerd$Herd")
  | 6 => .object "CloudHerd$Acts"
  | 7 => .object "CloudHerd$Trace"
  | 8 => .int
  | _ => .int
abbrev wsX60 : List Cond := u_ws RX6 TX6 10
theorem nmX6 : ∀ a, a < 10 → ∀ b, b < 10 → a ≠ b → (TX6 a).2.1 ≠ (TX6 b).2.1 := by decide +kernel
theorem tyX6_ok : ∀ k, k < 10 → parseFieldDescriptor (TX6 k).2.2.1 = some (tyX6 k) := by decide +kernel
abbrev cX6_init : ByteArray := prog_1_method_1_code
def yX6_init : MethodName := ⟨RX6, "<init>", "()V"⟩
abbrev cX6_row : ByteArray := prog_1_method_2_code
def yX6_row : MethodName := ⟨RX6, "row", "(III)I"⟩
abbrev cX6_set : ByteArray := prog_1_method_3_code
def yX6_set : MethodName := ⟨RX6, "set", "(III)I"⟩
abbrev cX6_copy : ByteArray := prog_1_method_4_code
def yX6_copy : MethodName := ⟨RX6, "copy", "(IIIII)I"⟩
abbrev cX6_drop : ByteArray := prog_1_method_5_code
def yX6_drop : MethodName := ⟨RX6, "drop", "(I)I"⟩
abbrev cX6_feed : ByteArray := prog_1_method_6_code
def yX6_feed : MethodName := ⟨RX6, "feed", "(I)I"⟩
abbrev cX6_herd : ByteArray := prog_1_method_7_code
def yX6_herd : MethodName := ⟨RX6, "herd", "()I"⟩
abbrev cX6_fault : ByteArray := prog_1_method_8_code
def yX6_fault : MethodName := ⟨RX6, "fault", "()I"⟩
abbrev cX6_undo : ByteArray := prog_1_method_9_code
def yX6_undo : MethodName := ⟨RX6, "undo", "()I"⟩
abbrev cX6_hours : ByteArray := prog_1_method_10_code
def yX6_hours : MethodName := ⟨RX6, "hours", "(I)I"⟩
abbrev cX6_lift : ByteArray := prog_1_method_11_code
def yX6_lift : MethodName := ⟨RX6, "lift", "(II)I"⟩
abbrev cX6_rains : ByteArray := prog_1_method_12_code
def yX6_rains : MethodName := ⟨RX6, "rains", "(II)I"⟩
abbrev cX6_cloud : ByteArray := prog_1_method_13_code
def yX6_cloud : MethodName := ⟨RX6, "cloud", "(II)I"⟩
abbrev cX6_cell : ByteArray := prog_1_method_14_code
def yX6_cell : MethodName := ⟨RX6, "cell", "(II)I"⟩
abbrev cX6_wind : ByteArray := prog_1_method_15_code
def yX6_wind : MethodName := ⟨RX6, "wind", "(II)I"⟩
abbrev cX6_ahead : ByteArray := prog_1_method_16_code
def yX6_ahead : MethodName := ⟨RX6, "ahead", "(III)I"⟩
abbrev cX6_earned : ByteArray := prog_1_method_17_code
def yX6_earned : MethodName := ⟨RX6, "earned", "(I)I"⟩
abbrev cX6_knot : ByteArray := prog_1_method_18_code
def yX6_knot : MethodName := ⟨RX6, "knot", "(II)I"⟩
abbrev cX6_wetHay : ByteArray := prog_1_method_19_code
def yX6_wetHay : MethodName := ⟨RX6, "wetHay", "(II)I"⟩
abbrev cX6_soon : ByteArray := prog_1_method_20_code
def yX6_soon : MethodName := ⟨RX6, "soon", "(II)I"⟩
abbrev cX6_heights : ByteArray := prog_1_method_21_code
def yX6_heights : MethodName := ⟨RX6, "heights", "(III)I"⟩
abbrev cX6_shade : ByteArray := prog_1_method_22_code
def yX6_shade : MethodName := ⟨RX6, "shade", "(II)I"⟩
abbrev cX6_dew : ByteArray := prog_1_method_23_code
def yX6_dew : MethodName := ⟨RX6, "dew", "(III)I"⟩
abbrev cX6_lost : ByteArray := prog_1_method_24_code
def yX6_lost : MethodName := ⟨RX6, "lost", "(IIIIII)I"⟩
abbrev cX6_kite : ByteArray := prog_1_method_25_code
def yX6_kite : MethodName := ⟨RX6, "kite", "(IIII)I"⟩
abbrev cX6_tuesday : ByteArray := prog_1_method_26_code
def yX6_tuesday : MethodName := ⟨RX6, "tuesday", "(IIII)I"⟩
abbrev cX6_guards : ByteArray := prog_1_method_27_code
def yX6_guards : MethodName := ⟨RX6, "guards", "(II)I"⟩
abbrev cX6_guardsValue : ByteArray := prog_1_method_28_code
def yX6_guardsValue : MethodName := ⟨RX6, "guardsValue", "(III)J"⟩
abbrev cX6_dues : ByteArray := prog_1_method_29_code
def yX6_dues : MethodName := ⟨RX6, "dues", "(I)I"⟩
abbrev cX6_image : ByteArray := prog_1_method_30_code
def yX6_image : MethodName := ⟨RX6, "image", "(I)I"⟩
abbrev cX6_restore : ByteArray := prog_1_method_31_code
def yX6_restore : MethodName := ⟨RX6, "restore", "(I)I"⟩
abbrev cX6_kind : ByteArray := prog_1_method_32_code
def yX6_kind : MethodName := ⟨RX6, "kind", "(I)I"⟩
abbrev cX6_as : ByteArray := prog_1_method_33_code
def yX6_as : MethodName := ⟨RX6, "as", "(II)I"⟩
abbrev cX6_ask : ByteArray := prog_1_method_34_code
def yX6_ask : MethodName := ⟨RX6, "ask", "(II)I"⟩
abbrev cX6_trace : ByteArray := prog_1_method_35_code
def yX6_trace : MethodName := ⟨RX6, "trace", "(I)I"⟩
abbrev cX6_count : ByteArray := prog_1_method_36_code
def yX6_count : MethodName := ⟨RX6, "count", "(I)I"⟩
abbrev cX6_status : ByteArray := prog_1_method_37_code
def yX6_status : MethodName := ⟨RX6, "status", "()I"⟩
abbrev cX6_within : ByteArray := prog_1_method_38_code
def yX6_within : MethodName := ⟨RX6, "within", "(III)Z"⟩
abbrev cX6_isRow : ByteArray := prog_1_method_39_code
def yX6_isRow : MethodName := ⟨RX6, "isRow", "(I)Z"⟩
abbrev cX6_isCell : ByteArray := prog_1_method_40_code
def yX6_isCell : MethodName := ⟨RX6, "isCell", "(I)Z"⟩
abbrev cX6_isCloud : ByteArray := prog_1_method_41_code
def yX6_isCloud : MethodName := ⟨RX6, "isCloud", "(I)Z"⟩
abbrev cX6_bit : ByteArray := prog_1_method_42_code
def yX6_bit : MethodName := ⟨RX6, "bit", "(Z)I"⟩
abbrev cX6_found : ByteArray := prog_1_method_43_code
def yX6_found : MethodName := ⟨RX6, "found", "(I)I"⟩
abbrev cX6_clean : ByteArray := prog_1_method_44_code
def yX6_clean : MethodName := ⟨RX6, "clean", "(I)I"⟩
abbrev cX6_rowsThere : ByteArray := prog_1_method_45_code
def yX6_rowsThere : MethodName := ⟨RX6, "rowsThere", "()I"⟩
abbrev cX6_tryHours : ByteArray := prog_1_method_46_code
def yX6_tryHours : MethodName := ⟨RX6, "tryHours", "(I)V"⟩
abbrev cX6_spread : ByteArray := prog_1_method_47_code
def yX6_spread : MethodName := ⟨RX6, "spread", "(LCloudHerd$Cloud;II)I"⟩
abbrev cX6_earnedAt : ByteArray := prog_1_method_48_code
def yX6_earnedAt : MethodName := ⟨RX6, "earnedAt", "(III)I"⟩
abbrev cX6_leavesDew : ByteArray := prog_1_method_49_code
def yX6_leavesDew : MethodName := ⟨RX6, "leavesDew", "(ILCloudHerd$Row;II)Z"⟩
abbrev cX6_tookWay : ByteArray := prog_1_method_50_code
def yX6_tookWay : MethodName := ⟨RX6, "tookWay", "(IIILCloudHerd$Row;II)Z"⟩
abbrev cX6_flewSo : ByteArray := prog_1_method_51_code
def yX6_flewSo : MethodName := ⟨RX6, "flewSo", "(IILCloudHerd$Row;II)Z"⟩
abbrev cX6_cellBehind : ByteArray := prog_1_method_52_code
def yX6_cellBehind : MethodName := ⟨RX6, "cellBehind", "(LCloudHerd$Cloud;II)I"⟩
abbrev cX6_lineRefusal : ByteArray := prog_1_method_53_code
def yX6_lineRefusal : MethodName := ⟨RX6, "lineRefusal", "(LCloudHerd$Row;I)I"⟩
abbrev cX6_bestPlaces : ByteArray := prog_1_method_54_code
def yX6_bestPlaces : MethodName := ⟨RX6, "bestPlaces", "(LCloudHerd$Row;I)I"⟩
abbrev cX6_valueAbove : ByteArray := prog_1_method_55_code
def yX6_valueAbove : MethodName := ⟨RX6, "valueAbove", "(LCloudHerd$Row;II)J"⟩
abbrev cX6_valueBelow : ByteArray := prog_1_method_56_code
def yX6_valueBelow : MethodName := ⟨RX6, "valueBelow", "(LCloudHerd$Row;II)J"⟩
abbrev cX6_lowest : ByteArray := prog_1_method_57_code
def yX6_lowest : MethodName := ⟨RX6, "lowest", "(JJI)J"⟩
def RX7 : String := "CloudHerdModel"
def TX7 : u_T := fun k => match k with
  | 0 => ("CloudHerdModel", "lanes", "[I", true)
  | 1 => ("CloudHerdModel", "sizes", "[I", true)
  | 2 => ("CloudHerdModel", "items", "[I", true)
  | 3 => ("CloudHerdModel", "status", "I", false)
  | 4 => ("CloudHerdModel", "isHerd", "Z", false)
  | 5 => ("CloudHerdModel", "st", "[I", true)
  | 6 => ("CloudHerdModel", "moved", "[I", true)
  | 7 => ("CloudHerdModel", "tape", "[I", true)
  | 8 => ("CloudHerdModel", "bytes", "I", false)
  | 9 => ("CloudHerdModel", "latest", "I", false)
  | 10 => ("CloudHerdModel", "place", "I", false)
  | 11 => ("CloudHerdModel", "token", "I", false)
  | 12 => ("CloudHerdModel", "value", "I", false)
  | 13 => ("CloudHerdModel", "begins", "I", false)
  | 14 => ("CloudHerdModel", "wrong", "I", false)
  | 15 => ("CloudHerdModel", "read", "[I", true)
  | 16 => ("CloudHerdModel", "onHay", "I", false)
  | 17 => ("CloudHerdModel", "acts", "[I", true)
  | 18 => ("CloudHerdModel", "actMany", "I", false)
  | 19 => ("CloudHerdModel", "aside", "[I", true)
  | 20 => ("CloudHerdModel", "can", "[Z", true)
  | 21 => ("CloudHerdModel", "then", "[Z", true)
  | 22 => ("CloudHerdModel", "bestSet", "I", false)
  | 23 => ("CloudHerdModel", "above", "J", false)
  | 24 => ("CloudHerdModel", "below", "J", false)
  | 25 => ("CloudHerdModel", "isKept", "[Z", true)
  | 26 => ("CloudHerdModel", "kept", "[I", true)
  | 27 => ("CloudHerdModel", "trace", "[I", true)
  | _ => ("CloudHerdModel", "traced", "I", false)
def tyX7 : Nat → FieldType := fun k => match k with
  | 0 => .array .int
  | 1 => .array .int
  | 2 => .array .int
  | 3 => .int
  | 4 => .boolean
  | 5 => .array .int
  | 6 => .array .int
  | 7 => .array .int
  | 8 => .int
  | 9 => .int
  | 10 => .int
  | 11 => .int
  | 12 => .int
  | 13 => .int
  | 14 => .int
  | 15 => .array .int
  | 16 => .int
  | 17 => .array .int
  | 18 => .int
  | 19 => .array .int
  | 20 => .array .boolean
  | 21 => .array .boolean
  | 22 => .int
  | 23 => .long
  | 24 => .long
  | 25 => .array .boolean
  | 26 => .array .int
  | 27 => .array .int
  | _ => .int
abbrev wsX70 : List Cond := u_ws RX7 TX7 29
theorem nmX7 : ∀ a, a < 29 → ∀ b, b < 29 → a ≠ b → (TX7 a).2.1 ≠ (TX7 b).2.1 := by decide +kernel
theorem tyX7_ok : ∀ k, k < 29 → parseFieldDescriptor (TX7 k).2.2.1 = some (tyX7 k) := by decide +kernel
abbrev cX7_init : ByteArray := prog_9_method_1_code
def yX7_init : MethodName := ⟨RX7, "<init>", "()V"⟩
abbrev cX7_in : ByteArray := prog_9_method_2_code
def yX7_in : MethodName := ⟨RX7, "in", "(JJJ)Z"⟩
abbrev cX7_find : ByteArray := prog_9_method_3_code
def yX7_find : MethodName := ⟨RX7, "find", "(I)I"⟩
abbrev cX7_well : ByteArray := prog_9_method_4_code
def yX7_well : MethodName := ⟨RX7, "well", "(I)I"⟩
abbrev cX7_isRow : ByteArray := prog_9_method_5_code
def yX7_isRow : MethodName := ⟨RX7, "isRow", "(I)Z"⟩
abbrev cX7_row : ByteArray := prog_9_method_6_code
def yX7_row : MethodName := ⟨RX7, "row", "(III)I"⟩
abbrev cX7_asLane : ByteArray := prog_9_method_7_code
def yX7_asLane : MethodName := ⟨RX7, "asLane", "(II)I"⟩
abbrev cX7_set : ByteArray := prog_9_method_8_code
def yX7_set : MethodName := ⟨RX7, "set", "(III)I"⟩
abbrev cX7_copy : ByteArray := prog_9_method_9_code
def yX7_copy : MethodName := ⟨RX7, "copy", "(IIIII)I"⟩
abbrev cX7_drop : ByteArray := prog_9_method_10_code
def yX7_drop : MethodName := ⟨RX7, "drop", "(I)I"⟩
abbrev cX7_feed : ByteArray := prog_9_method_11_code
def yX7_feed : MethodName := ⟨RX7, "feed", "(I)I"⟩
abbrev cX7_nextToken : ByteArray := prog_9_method_12_code
def yX7_nextToken : MethodName := ⟨RX7, "nextToken", "()V"⟩
abbrev cX7_faults : ByteArray := prog_9_method_13_code
def yX7_faults : MethodName := ⟨RX7, "faults", "(I)Z"⟩
abbrev cX7_isLetter : ByteArray := prog_9_method_14_code
def yX7_isLetter : MethodName := ⟨RX7, "isLetter", "(I)Z"⟩
abbrev cX7_takes : ByteArray := prog_9_method_15_code
def yX7_takes : MethodName := ⟨RX7, "takes", "(I)Z"⟩
abbrev cX7_isNumber : ByteArray := prog_9_method_16_code
def yX7_isNumber : MethodName := ⟨RX7, "isNumber", "(II)Z"⟩
abbrev cX7_taken : ByteArray := prog_9_method_17_code
def yX7_taken : MethodName := ⟨RX7, "taken", "()I"⟩
abbrev cX7_readWind : ByteArray := prog_9_method_18_code
def yX7_readWind : MethodName := ⟨RX7, "readWind", "(II)Z"⟩
abbrev cX7_readLaw : ByteArray := prog_9_method_19_code
def yX7_readLaw : MethodName := ⟨RX7, "readLaw", "()Z"⟩
abbrev cX7_readParish : ByteArray := prog_9_method_20_code
def yX7_readParish : MethodName := ⟨RX7, "readParish", "(I)Z"⟩
abbrev cX7_isTaken : ByteArray := prog_9_method_21_code
def yX7_isTaken : MethodName := ⟨RX7, "isTaken", "(I)Z"⟩
abbrev cX7_readCloud : ByteArray := prog_9_method_22_code
def yX7_readCloud : MethodName := ⟨RX7, "readCloud", "(I)Z"⟩
abbrev cX7_readHerd : ByteArray := prog_9_method_23_code
def yX7_readHerd : MethodName := ⟨RX7, "readHerd", "()Z"⟩
abbrev cX7_herd : ByteArray := prog_9_method_24_code
def yX7_herd : MethodName := ⟨RX7, "herd", "()I"⟩
abbrev cX7_fault : ByteArray := prog_9_method_25_code
def yX7_fault : MethodName := ⟨RX7, "fault", "()I"⟩
abbrev cX7_beside : ByteArray := prog_9_method_26_code
def yX7_beside : MethodName := ⟨RX7, "beside", "(II)I"⟩
abbrev cX7_other : ByteArray := prog_9_method_27_code
def yX7_other : MethodName := ⟨RX7, "other", "(I)I"⟩
abbrev cX7_drifts : ByteArray := prog_9_method_28_code
def yX7_drifts : MethodName := ⟨RX7, "drifts", "(IIII)I"⟩
abbrev cX7_drift : ByteArray := prog_9_method_29_code
def yX7_drift : MethodName := ⟨RX7, "drift", "(I)V"⟩
abbrev cX7_rainOf : ByteArray := prog_9_method_30_code
def yX7_rainOf : MethodName := ⟨RX7, "rainOf", "(I)I"⟩
abbrev cX7_rain : ByteArray := prog_9_method_31_code
def yX7_rain : MethodName := ⟨RX7, "rain", "(I)I"⟩
abbrev cX7_milk : ByteArray := prog_9_method_32_code
def yX7_milk : MethodName := ⟨RX7, "milk", "(I)V"⟩
abbrev cX7_isThere : ByteArray := prog_9_method_33_code
def yX7_isThere : MethodName := ⟨RX7, "isThere", "(I)Z"⟩
abbrev cX7_together : ByteArray := prog_9_method_34_code
def yX7_together : MethodName := ⟨RX7, "together", "()I"⟩
abbrev cX7_oneHour : ByteArray := prog_9_method_35_code
def yX7_oneHour : MethodName := ⟨RX7, "oneHour", "()I"⟩
abbrev cX7_oneAlone : ByteArray := prog_9_method_36_code
def yX7_oneAlone : MethodName := ⟨RX7, "oneAlone", "(I)I"⟩
abbrev cX7_note : ByteArray := prog_9_method_37_code
def yX7_note : MethodName := ⟨RX7, "note", "()V"⟩
abbrev cX7_undo : ByteArray := prog_9_method_38_code
def yX7_undo : MethodName := ⟨RX7, "undo", "()I"⟩
abbrev cX7_hours : ByteArray := prog_9_method_39_code
def yX7_hours : MethodName := ⟨RX7, "hours", "(I)I"⟩
abbrev cX7_isCloud : ByteArray := prog_9_method_40_code
def yX7_isCloud : MethodName := ⟨RX7, "isCloud", "(I)Z"⟩
abbrev cX7_setHeight : ByteArray := prog_9_method_41_code
def yX7_setHeight : MethodName := ⟨RX7, "setHeight", "(II)V"⟩
abbrev cX7_lift : ByteArray := prog_9_method_42_code
def yX7_lift : MethodName := ⟨RX7, "lift", "(II)I"⟩
abbrev cX7_rains : ByteArray := prog_9_method_43_code
def yX7_rains : MethodName := ⟨RX7, "rains", "(II)I"⟩
abbrev cX7_toldOf : ByteArray := prog_9_method_44_code
def yX7_toldOf : MethodName := ⟨RX7, "toldOf", "(II)I"⟩
abbrev cX7_cloud : ByteArray := prog_9_method_45_code
def yX7_cloud : MethodName := ⟨RX7, "cloud", "(II)I"⟩
abbrev cX7_isCell : ByteArray := prog_9_method_46_code
def yX7_isCell : MethodName := ⟨RX7, "isCell", "(I)Z"⟩
abbrev cX7_over : ByteArray := prog_9_method_47_code
def yX7_over : MethodName := ⟨RX7, "over", "(I)I"⟩
abbrev cX7_cell : ByteArray := prog_9_method_48_code
def yX7_cell : MethodName := ⟨RX7, "cell", "(II)I"⟩
abbrev cX7_wind : ByteArray := prog_9_method_49_code
def yX7_wind : MethodName := ⟨RX7, "wind", "(II)I"⟩
abbrev cX7_putAside : ByteArray := prog_9_method_50_code
def yX7_putAside : MethodName := ⟨RX7, "putAside", "()V"⟩
abbrev cX7_takeBack : ByteArray := prog_9_method_51_code
def yX7_takeBack : MethodName := ⟨RX7, "takeBack", "()V"⟩
abbrev cX7_goOn : ByteArray := prog_9_method_52_code
def yX7_goOn : MethodName := ⟨RX7, "goOn", "(I)V"⟩
abbrev cX7_ahead : ByteArray := prog_9_method_53_code
def yX7_ahead : MethodName := ⟨RX7, "ahead", "(III)I"⟩
abbrev cX7_earned : ByteArray := prog_9_method_54_code
def yX7_earned : MethodName := ⟨RX7, "earned", "(I)I"⟩
abbrev cX7_knot : ByteArray := prog_9_method_55_code
def yX7_knot : MethodName := ⟨RX7, "knot", "(II)I"⟩
abbrev cX7_wetHay : ByteArray := prog_9_method_56_code
def yX7_wetHay : MethodName := ⟨RX7, "wetHay", "(II)I"⟩
abbrev cX7_soon : ByteArray := prog_9_method_57_code
def yX7_soon : MethodName := ⟨RX7, "soon", "(II)I"⟩
abbrev cX7_heights : ByteArray := prog_9_method_58_code
def yX7_heights : MethodName := ⟨RX7, "heights", "(III)I"⟩
abbrev cX7_shade : ByteArray := prog_9_method_59_code
def yX7_shade : MethodName := ⟨RX7, "shade", "(II)I"⟩
abbrev cX7_lacks : ByteArray := prog_9_method_60_code
def yX7_lacks : MethodName := ⟨RX7, "lacks", "(III)I"⟩
abbrev cX7_isDew : ByteArray := prog_9_method_61_code
def yX7_isDew : MethodName := ⟨RX7, "isDew", "(III)Z"⟩
abbrev cX7_dew : ByteArray := prog_9_method_62_code
def yX7_dew : MethodName := ⟨RX7, "dew", "(III)I"⟩
abbrev cX7_lost : ByteArray := prog_9_method_63_code
def yX7_lost : MethodName := ⟨RX7, "lost", "(IIIIII)I"⟩
abbrev cX7_kite : ByteArray := prog_9_method_64_code
def yX7_kite : MethodName := ⟨RX7, "kite", "(IIII)I"⟩
abbrev cX7_common : ByteArray := prog_9_method_65_code
def yX7_common : MethodName := ⟨RX7, "common", "(JJ)J"⟩
abbrev cX7_tuesday : ByteArray := prog_9_method_66_code
def yX7_tuesday : MethodName := ⟨RX7, "tuesday", "(IIII)I"⟩
abbrev cX7_findGuards : ByteArray := prog_9_method_67_code
def yX7_findGuards : MethodName := ⟨RX7, "findGuards", "(II)I"⟩
abbrev cX7_guards : ByteArray := prog_9_method_68_code
def yX7_guards : MethodName := ⟨RX7, "guards", "(II)I"⟩
abbrev cX7_guardsValue : ByteArray := prog_9_method_69_code
def yX7_guardsValue : MethodName := ⟨RX7, "guardsValue", "(III)J"⟩
abbrev cX7_dues : ByteArray := prog_9_method_70_code
def yX7_dues : MethodName := ⟨RX7, "dues", "(I)I"⟩
abbrev cX7_image : ByteArray := prog_9_method_71_code
def yX7_image : MethodName := ⟨RX7, "image", "(I)I"⟩
abbrev cX7_restore : ByteArray := prog_9_method_72_code
def yX7_restore : MethodName := ⟨RX7, "restore", "(I)I"⟩
abbrev cX7_kind : ByteArray := prog_9_method_73_code
def yX7_kind : MethodName := ⟨RX7, "kind", "(I)I"⟩
abbrev cX7_isKind : ByteArray := prog_9_method_74_code
def yX7_isKind : MethodName := ⟨RX7, "isKind", "(II)Z"⟩
abbrev cX7_as : ByteArray := prog_9_method_75_code
def yX7_as : MethodName := ⟨RX7, "as", "(II)I"⟩
abbrev cX7_begin : ByteArray := prog_9_method_76_code
def yX7_begin : MethodName := ⟨RX7, "begin", "(I)V"⟩
abbrev cX7_lent : ByteArray := prog_9_method_77_code
def yX7_lent : MethodName := ⟨RX7, "lent", "(II)I"⟩
abbrev cX7_whiteMark : ByteArray := prog_9_method_78_code
def yX7_whiteMark : MethodName := ⟨RX7, "whiteMark", "(I)I"⟩
abbrev cX7_fogSize : ByteArray := prog_9_method_79_code
def yX7_fogSize : MethodName := ⟨RX7, "fogSize", "(I)I"⟩
abbrev cX7_sizeOfFog : ByteArray := prog_9_method_80_code
def yX7_sizeOfFog : MethodName := ⟨RX7, "sizeOfFog", "(I)I"⟩
abbrev cX7_markOf : ByteArray := prog_9_method_81_code
def yX7_markOf : MethodName := ⟨RX7, "markOf", "(I)I"⟩
abbrev cX7_whiteSize : ByteArray := prog_9_method_82_code
def yX7_whiteSize : MethodName := ⟨RX7, "whiteSize", "(I)I"⟩
abbrev cX7_sizeOf : ByteArray := prog_9_method_83_code
def yX7_sizeOf : MethodName := ⟨RX7, "sizeOf", "(I)I"⟩
abbrev cX7_ask : ByteArray := prog_9_method_84_code
def yX7_ask : MethodName := ⟨RX7, "ask", "(II)I"⟩
abbrev cX7_trace : ByteArray := prog_9_method_85_code
def yX7_trace : MethodName := ⟨RX7, "trace", "(I)I"⟩
abbrev cX7_count : ByteArray := prog_9_method_86_code
def yX7_count : MethodName := ⟨RX7, "count", "(I)I"⟩
abbrev cX7_status : ByteArray := prog_9_method_87_code
def yX7_status : MethodName := ⟨RX7, "status", "()I"⟩
def RJ6 : String := "java/lang/Integer"
def TJ6 : u_T := fun k => match k with
  | _ => ("", "", "", false)
def tyJ6 : Nat → FieldType := fun k => match k with
  | _ => .int
abbrev wsJ60 : List Cond := u_ws RJ6 TJ6 0
theorem nmJ6 : ∀ a, a < 0 → ∀ b, b < 0 → a ≠ b → (TJ6 a).2.1 ≠ (TJ6 b).2.1 := by decide +kernel
theorem tyJ6_ok : ∀ k, k < 0 → parseFieldDescriptor (TJ6 k).2.2.1 = some (tyJ6 k) := by decide +kernel
abbrev cJ6_bitCount_0f7a4 : ByteArray := prog_10_method_49_code
def yJ6_bitCount_0f7a4 : MethodName := ⟨RJ6, "bitCount", "(I)I"⟩
def RJ9 : String := "java/lang/Math"
def TJ9 : u_T := fun k => match k with
  | _ => ("", "", "", false)
def tyJ9 : Nat → FieldType := fun k => match k with
  | _ => .int
abbrev wsJ90 : List Cond := u_ws RJ9 TJ9 0
theorem nmJ9 : ∀ a, a < 0 → ∀ b, b < 0 → a ≠ b → (TJ9 a).2.1 ≠ (TJ9 b).2.1 := by decide +kernel
theorem tyJ9_ok : ∀ k, k < 0 → parseFieldDescriptor (TJ9 k).2.2.1 = some (tyJ9 k) := by decide +kernel
abbrev cJ9_max_7cf53 : ByteArray := prog_11_method_65_code
def yJ9_max_7cf53 : MethodName := ⟨RJ9, "max", "(II)I"⟩
abbrev cJ9_min_7cf53 : ByteArray := prog_11_method_69_code
def yJ9_min_7cf53 : MethodName := ⟨RJ9, "min", "(II)I"⟩
def RJ10 : String := "java/lang/System"
def TJ10 : u_T := fun k => match k with
  | _ => ("", "", "", false)
def tyJ10 : Nat → FieldType := fun k => match k with
  | _ => .int
abbrev wsJ100 : List Cond := u_ws RJ10 TJ10 0
theorem nmJ10 : ∀ a, a < 0 → ∀ b, b < 0 → a ≠ b → (TJ10 a).2.1 ≠ (TJ10 b).2.1 := by decide +kernel
theorem tyJ10_ok : ∀ k, k < 0 → parseFieldDescriptor (TJ10 k).2.2.1 = some (tyJ10 k) := by decide +kernel
def RL : String := "CloudHerdLaw"
abbrev cL_law : ByteArray := code
def yL_law : MethodName := ⟨RL, "law", "([I)Z"⟩
abbrev vwCl : List vw_C := [(RX0, TX0, 3), (RX1, TX1, 7), (RX2, TX2, 13), (RX3, TX3, 4), (RX4, TX4, 7), (RX5, TX5, 2), (RX6, TX6, 10), (RX7, TX7, 29)]
end
section
theorem dX0_init_0 : decode cX0_init 0 = .ok (.aload_n 0, 1) := by decide +kernel
theorem dX0_init_1 : decode cX0_init 1 = .ok (.invokespecial 3, 3) := by decide +kernel
theorem dX0_init_4 : decode cX0_init 4 = .ok (.aload_n 0, 1) := by decide +kernel
theorem dX0_init_5 : decode cX0_init 5 = .ok (.sipush 192, 3) := by decide +kernel
theorem dX0_init_8 : decode cX0_init 8 = .ok (.newarray .int, 2) := by decide +kernel
theorem dX0_init_10 : decode cX0_init 10 = .ok (.putfield 11, 3) := by decide +kernel
theorem dX0_init_13 : decode cX0_init 13 = .ok (.aload_n 0, 1) := by decide +kernel
theorem dX0_init_14 : decode cX0_init 14 = .ok (.iconst 0, 1) := by decide +kernel
theorem dX0_init_15 : decode cX0_init 15 = .ok (.putfield 15, 3) := by decide +kernel
theorem dX0_init_18 : decode cX0_init 18 = .ok (.aload_n 0, 1) := by decide +kernel
theorem dX0_init_19 : decode cX0_init 19 = .ok (.iconst 0, 1) := by decide +kernel
theorem dX0_init_20 : decode cX0_init 20 = .ok (.putfield 19, 3) := by decide +kernel
theorem dX0_init_23 : decode cX0_init 23 = .ok (.return_, 1) := by decide +kernel
theorem dX0_keep_0 : decode cX0_keep 0 = .ok (.aload_n 0, 1) := by decide +kernel
theorem dX0_keep_1 : decode cX0_keep 1 = .ok (.getfield 15, 3) := by decide +kernel
theorem dX0_keep_4 : decode cX0_keep 4 = .ok (.bipush 8, 2) := by decide +kernel
theorem dX0_keep_6 : decode cX0_keep 6 = .ok (.imul, 1) := by decide +kernel
theorem dX0_keep_7 : decode cX0_keep 7 = .ok (.istore_n 2, 1) := by decide +kernel
theorem dX0_keep_8 : decode cX0_keep 8 = .ok (.aload_n 0, 1) := by decide +kernel
theorem dX0_keep_9 : decode cX0_keep 9 = .ok (.getfield 11, 3) := by decide +kernel
theorem dX0_keep_12 : decode cX0_keep 12 = .ok (.iload_n 2, 1) := by decide +kernel
theorem dX0_keep_13 : decode cX0_keep 13 = .ok (.aload_n 1, 1) := by decide +kernel
theorem dX0_keep_14 : decode cX0_keep 14 = .ok (.getfield 22, 3) := by decide +kernel
theorem dX0_keep_17 : decode cX0_keep 17 = .ok (.iastore, 1) := by decide +kernel
theorem dX0_keep_18 : decode cX0_keep 18 = .ok (.aload_n 0, 1) := by decide +kernel
theorem dX0_keep_19 : decode cX0_keep 19 = .ok (.getfield 11, 3) := by decide +kernel
theorem dX0_keep_22 : decode cX0_keep 22 = .ok (.iload_n 2, 1) := by decide +kernel
theorem dX0_keep_23 : decode cX0_keep 23 = .ok (.iconst 1, 1) := by decide +kernel
theorem dX0_keep_24 : decode cX0_keep 24 = .ok (.iadd, 1) := by decide +kernel
theorem dX0_keep_25 : decode cX0_keep 25 = .ok (.aload_n 1, 1) := by decide +kernel
theorem dX0_keep_26 : decode cX0_keep 26 = .ok (.getfield 27, 3) := by decide +kernel
theorem dX0_keep_29 : decode cX0_keep 29 = .ok (.iastore, 1) := by decide +kernel
theorem dX0_keep_30 : decode cX0_keep 30 = .ok (.aload_n 0, 1) := by decide +kernel
theorem dX0_keep_31 : decode cX0_keep 31 = .ok (.getfield 11, 3) := by decide +kernel
theorem dX0_keep_34 : decode cX0_keep 34 = .ok (.iload_n 2, 1) := by decide +kernel
theorem dX0_keep_35 : decode cX0_keep 35 = .ok (.iconst 2, 1) := by decide +kernel
theorem dX0_keep_36 : decode cX0_keep 36 = .ok (.iadd, 1) := by decide +kernel
theorem dX0_keep_37 : decode cX0_keep 37 = .ok (.aload_n 1, 1) := by decide +kernel
theorem dX0_keep_38 : decode cX0_keep 38 = .ok (.getfield 30, 3) := by decide +kernel
theorem dX0_keep_41 : decode cX0_keep 41 = .ok (.iastore, 1) := by decide +kernel
theorem dX0_keep_42 : decode cX0_keep 42 = .ok (.iconst 0, 1) := by decide +kernel
theorem dX0_keep_43 : decode cX0_keep 43 = .ok (.istore_n 3, 1) := by decide +kernel
theorem dX0_keep_44 : decode cX0_keep 44 = .ok (.iload_n 3, 1) := by decide +kernel
theorem dX0_keep_45 : decode cX0_keep 45 = .ok (.iconst 5, 1) := by decide +kernel
theorem dX0_keep_46 : decode cX0_keep 46 = .ok (.if_icmp .ge 28, 3) := by decide +kernel
theorem dX0_keep_49 : decode cX0_keep 49 = .ok (.aload_n 0, 1) := by decide +kernel
theorem dX0_keep_50 : decode cX0_keep 50 = .ok (.getfield 11, 3) := by decide +kernel
theorem dX0_keep_53 : decode cX0_keep 53 = .ok (.iload_n 2, 1) := by decide +kernel
theorem dX0_keep_54 : decode cX0_keep 54 = .ok (.iconst 3, 1) := by decide +kernel
theorem dX0_keep_55 : decode cX0_keep 55 = .ok (.iadd, 1) := by decide +kernel
theorem dX0_keep_56 : decode cX0_keep 56 = .ok (.iload_n 3, 1) := by decide +kernel
theorem dX0_keep_57 : decode cX0_keep 57 = .ok (.iadd, 1) := by decide +kernel
theorem dX0_keep_58 : decode cX0_keep 58 = .ok (.aload_n 1, 1) := by decide +kernel
theorem dX0_keep_59 : decode cX0_keep 59 = .ok (.getfield 33, 3) := by decide +kernel
theorem dX0_keep_62 : decode cX0_keep 62 = .ok (.iload_n 3, 1) := by decide +kernel
theorem dX0_keep_63 : decode cX0_keep 63 = .ok (.aaload, 1) := by decide +kernel
theorem dX0_keep_64 : decode cX0_keep 64 = .ok (.invokevirtual 37, 3) := by decide +kernel
theorem dX0_keep_67 : decode cX0_keep 67 = .ok (.iastore, 1) := by decide +kernel
theorem dX0_keep_68 : decode cX0_keep 68 = .ok (.iinc 3 1, 3) := by decide +kernel
theorem dX0_keep_71 : decode cX0_keep 71 = .ok (.goto (-27), 3) := by decide +kernel
theorem dX0_keep_74 : decode cX0_keep 74 = .ok (.aload_n 0, 1) := by decide +kernel
theorem dX0_keep_75 : decode cX0_keep 75 = .ok (.aload_n 0, 1) := by decide +kernel
theorem dX0_keep_76 : decode cX0_keep 76 = .ok (.getfield 15, 3) := by decide +kernel
theorem dX0_keep_79 : decode cX0_keep 79 = .ok (.iconst 1, 1) := by decide +kernel
theorem dX0_keep_80 : decode cX0_keep 80 = .ok (.iadd, 1) := by decide +kernel
theorem dX0_keep_81 : decode cX0_keep 81 = .ok (.bipush 24, 2) := by decide +kernel
theorem dX0_keep_83 : decode cX0_keep 83 = .ok (.irem, 1) := by decide +kernel
theorem dX0_keep_84 : decode cX0_keep 84 = .ok (.putfield 15, 3) := by decide +kernel
theorem dX0_keep_87 : decode cX0_keep 87 = .ok (.aload_n 0, 1) := by decide +kernel
theorem dX0_keep_88 : decode cX0_keep 88 = .ok (.bipush 24, 2) := by decide +kernel
theorem dX0_keep_90 : decode cX0_keep 90 = .ok (.aload_n 0, 1) := by decide +kernel
theorem dX0_keep_91 : decode cX0_keep 91 = .ok (.getfield 19, 3) := by decide +kernel
theorem dX0_keep_94 : decode cX0_keep 94 = .ok (.iconst 1, 1) := by decide +kernel
theorem dX0_keep_95 : decode cX0_keep 95 = .ok (.iadd, 1) := by decide +kernel
theorem dX0_keep_96 : decode cX0_keep 96 = .ok (.invokestatic 43, 3) := by decide +kernel
theorem dX0_keep_99 : decode cX0_keep 99 = .ok (.putfield 19, 3) := by decide +kernel
theorem dX0_keep_102 : decode cX0_keep 102 = .ok (.return_, 1) := by decide +kernel
theorem dX0_takeBack_0 : decode cX0_takeBack 0 = .ok (.aload_n 0, 1) := by decide +kernel
theorem dX0_takeBack_1 : decode cX0_takeBack 1 = .ok (.aload_n 0, 1) := by decide +kernel
theorem dX0_takeBack_2 : decode cX0_takeBack 2 = .ok (.getfield 15, 3) := by decide +kernel
theorem dX0_takeBack_5 : decode cX0_takeBack 5 = .ok (.bipush 24, 2) := by decide +kernel
theorem dX0_takeBack_7 : decode cX0_takeBack 7 = .ok (.iadd, 1) := by decide +kernel
theorem dX0_takeBack_8 : decode cX0_takeBack 8 = .ok (.iconst 1, 1) := by decide +kernel
theorem dX0_takeBack_9 : decode cX0_takeBack 9 = .ok (.isub, 1) := by decide +kernel
theorem dX0_takeBack_10 : decode cX0_takeBack 10 = .ok (.bipush 24, 2) := by decide +kernel
theorem dX0_takeBack_12 : decode cX0_takeBack 12 = .ok (.irem, 1) := by decide +kernel
theorem dX0_takeBack_13 : decode cX0_takeBack 13 = .ok (.putfield 15, 3) := by decide +kernel
theorem dX0_takeBack_16 : decode cX0_takeBack 16 = .ok (.aload_n 0, 1) := by decide +kernel
theorem dX0_takeBack_17 : decode cX0_takeBack 17 = .ok (.dup, 1) := by decide +kernel
theorem dX0_takeBack_18 : decode cX0_takeBack 18 = .ok (.getfield 19, 3) := by decide +kernel
theorem dX0_takeBack_21 : decode cX0_takeBack 21 = .ok (.iconst 1, 1) := by decide +kernel
theorem dX0_takeBack_22 : decode cX0_takeBack 22 = .ok (.isub, 1) := by decide +kernel
theorem dX0_takeBack_23 : decode cX0_takeBack 23 = .ok (.putfield 19, 3) := by decide +kernel
theorem dX0_takeBack_26 : decode cX0_takeBack 26 = .ok (.aload_n 0, 1) := by decide +kernel
theorem dX0_takeBack_27 : decode cX0_takeBack 27 = .ok (.getfield 15, 3) := by decide +kernel
theorem dX0_takeBack_30 : decode cX0_takeBack 30 = .ok (.bipush 8, 2) := by decide +kernel
theorem dX0_takeBack_32 : decode cX0_takeBack 32 = .ok (.imul, 1) := by decide +kernel
theorem dX0_takeBack_33 : decode cX0_takeBack 33 = .ok (.istore_n 2, 1) := by decide +kernel
theorem dX0_takeBack_34 : decode cX0_takeBack 34 = .ok (.aload_n 1, 1) := by decide +kernel
theorem dX0_takeBack_35 : decode cX0_takeBack 35 = .ok (.aload_n 0, 1) := by decide +kernel
theorem dX0_takeBack_36 : decode cX0_takeBack 36 = .ok (.getfield 11, 3) := by decide +kernel
theorem dX0_takeBack_39 : decode cX0_takeBack 39 = .ok (.iload_n 2, 1) := by decide +kernel
theorem dX0_takeBack_40 : decode cX0_takeBack 40 = .ok (.iaload, 1) := by decide +kernel
theorem dX0_takeBack_41 : decode cX0_takeBack 41 = .ok (.putfield 22, 3) := by decide +kernel
theorem dX0_takeBack_44 : decode cX0_takeBack 44 = .ok (.aload_n 1, 1) := by decide +kernel
theorem dX0_takeBack_45 : decode cX0_takeBack 45 = .ok (.aload_n 0, 1) := by decide +kernel
theorem dX0_takeBack_46 : decode cX0_takeBack 46 = .ok (.getfield 11, 3) := by decide +kernel
theorem dX0_takeBack_49 : decode cX0_takeBack 49 = .ok (.iload_n 2, 1) := by decide +kernel
theorem dX0_takeBack_50 : decode cX0_takeBack 50 = .ok (.iconst 1, 1) := by decide +kernel
theorem dX0_takeBack_51 : decode cX0_takeBack 51 = .ok (.iadd, 1) := by decide +kernel
theorem dX0_takeBack_52 : decode cX0_takeBack 52 = .ok (.iaload, 1) := by decide +kernel
theorem dX0_takeBack_53 : decode cX0_takeBack 53 = .ok (.putfield 27, 3) := by decide +kernel
theorem dX0_takeBack_56 : decode cX0_takeBack 56 = .ok (.aload_n 1, 1) := by decide +kernel
theorem dX0_takeBack_57 : decode cX0_takeBack 57 = .ok (.aload_n 0, 1) := by decide +kernel
theorem dX0_takeBack_58 : decode cX0_takeBack 58 = .ok (.getfield 11, 3) := by decide +kernel
theorem dX0_takeBack_61 : decode cX0_takeBack 61 = .ok (.iload_n 2, 1) := by decide +kernel
theorem dX0_takeBack_62 : decode cX0_takeBack 62 = .ok (.iconst 2, 1) := by decide +kernel
theorem dX0_takeBack_63 : decode cX0_takeBack 63 = .ok (.iadd, 1) := by decide +kernel
theorem dX0_takeBack_64 : decode cX0_takeBack 64 = .ok (.iaload, 1) := by decide +kernel
theorem dX0_takeBack_65 : decode cX0_takeBack 65 = .ok (.putfield 30, 3) := by decide +kernel
theorem dX0_takeBack_68 : decode cX0_takeBack 68 = .ok (.iconst 0, 1) := by decide +kernel
theorem dX0_takeBack_69 : decode cX0_takeBack 69 = .ok (.istore_n 3, 1) := by decide +kernel
theorem dX0_takeBack_70 : decode cX0_takeBack 70 = .ok (.iload_n 3, 1) := by decide +kernel
theorem dX0_takeBack_71 : decode cX0_takeBack 71 = .ok (.iconst 5, 1) := by decide +kernel
theorem dX0_takeBack_72 : decode cX0_takeBack 72 = .ok (.if_icmp .ge 28, 3) := by decide +kernel
theorem dX0_takeBack_75 : decode cX0_takeBack 75 = .ok (.aload_n 1, 1) := by decide +kernel
theorem dX0_takeBack_76 : decode cX0_takeBack 76 = .ok (.getfield 33, 3) := by decide +kernel
theorem dX0_takeBack_79 : decode cX0_takeBack 79 = .ok (.iload_n 3, 1) := by decide +kernel
theorem dX0_takeBack_80 : decode cX0_takeBack 80 = .ok (.aaload, 1) := by decide +kernel
theorem dX0_takeBack_81 : decode cX0_takeBack 81 = .ok (.aload_n 0, 1) := by decide +kernel
theorem dX0_takeBack_82 : decode cX0_takeBack 82 = .ok (.getfield 11, 3) := by decide +kernel
theorem dX0_takeBack_85 : decode cX0_takeBack 85 = .ok (.iload_n 2, 1) := by decide +kernel
theorem dX0_takeBack_86 : decode cX0_takeBack 86 = .ok (.iconst 3, 1) := by decide +kernel
theorem dX0_takeBack_87 : decode cX0_takeBack 87 = .ok (.iadd, 1) := by decide +kernel
theorem dX0_takeBack_88 : decode cX0_takeBack 88 = .ok (.iload_n 3, 1) := by decide +kernel
theorem dX0_takeBack_89 : decode cX0_takeBack 89 = .ok (.iadd, 1) := by decide +kernel
theorem dX0_takeBack_90 : decode cX0_takeBack 90 = .ok (.iaload, 1) := by decide +kernel
theorem dX0_takeBack_91 : decode cX0_takeBack 91 = .ok (.invokevirtual 49, 3) := by decide +kernel
theorem dX0_takeBack_94 : decode cX0_takeBack 94 = .ok (.iinc 3 1, 3) := by decide +kernel
theorem dX0_takeBack_97 : decode cX0_takeBack 97 = .ok (.goto (-27), 3) := by decide +kernel
theorem dX0_takeBack_100 : decode cX0_takeBack 100 = .ok (.return_, 1) := by decide +kernel
theorem dX0_forget_0 : decode cX0_forget 0 = .ok (.aload_n 0, 1) := by decide +kernel
theorem dX0_forget_1 : decode cX0_forget 1 = .ok (.iconst 0, 1) := by decide +kernel
theorem dX0_forget_2 : decode cX0_forget 2 = .ok (.putfield 19, 3) := by decide +kernel
theorem dX0_forget_5 : decode cX0_forget 5 = .ok (.return_, 1) := by decide +kernel
theorem dX1_init_0 : decode cX1_init 0 = .ok (.aload_n 0, 1) := by decide +kernel
theorem dX1_init_1 : decode cX1_init 1 = .ok (.invokespecial 3, 3) := by decide +kernel
theorem dX1_init_4 : decode cX1_init 4 = .ok (.aload_n 0, 1) := by decide +kernel
theorem dX1_init_5 : decode cX1_init 5 = .ok (.iconst 0, 1) := by decide +kernel
theorem dX1_init_6 : decode cX1_init 6 = .ok (.putfield 9, 3) := by decide +kernel
theorem dX1_init_9 : decode cX1_init 9 = .ok (.aload_n 0, 1) := by decide +kernel
theorem dX1_init_10 : decode cX1_init 10 = .ok (.iconst 0, 1) := by decide +kernel
theorem dX1_init_11 : decode cX1_init 11 = .ok (.putfield 15, 3) := by decide +kernel
theorem dX1_init_14 : decode cX1_init 14 = .ok (.aload_n 0, 1) := by decide +kernel
theorem dX1_init_15 : decode cX1_init 15 = .ok (.iconst 0, 1) := by decide +kernel
theorem dX1_init_16 : decode cX1_init 16 = .ok (.putfield 18, 3) := by decide +kernel
theorem dX1_init_19 : decode cX1_init 19 = .ok (.aload_n 0, 1) := by decide +kernel
theorem dX1_init_20 : decode cX1_init 20 = .ok (.iconst 0, 1) := by decide +kernel
theorem dX1_init_21 : decode cX1_init 21 = .ok (.putfield 21, 3) := by decide +kernel
theorem dX1_init_24 : decode cX1_init 24 = .ok (.aload_n 0, 1) := by decide +kernel
theorem dX1_init_25 : decode cX1_init 25 = .ok (.iconst 0, 1) := by decide +kernel
theorem dX1_init_26 : decode cX1_init 26 = .ok (.putfield 24, 3) := by decide +kernel
theorem dX1_init_29 : decode cX1_init 29 = .ok (.aload_n 0, 1) := by decide +kernel
theorem dX1_init_30 : decode cX1_init 30 = .ok (.iconst 0, 1) := by decide +kernel
theorem dX1_init_31 : decode cX1_init 31 = .ok (.putfield 28, 3) := by decide +kernel
theorem dX1_init_34 : decode cX1_init 34 = .ok (.aload_n 0, 1) := by decide +kernel
theorem dX1_init_35 : decode cX1_init 35 = .ok (.iconst 0, 1) := by decide +kernel
theorem dX1_init_36 : decode cX1_init 36 = .ok (.putfield 31, 3) := by decide +kernel
theorem dX1_init_39 : decode cX1_init 39 = .ok (.return_, 1) := by decide +kernel
theorem dX1_begin_0 : decode cX1_begin 0 = .ok (.aload_n 0, 1) := by decide +kernel
theorem dX1_begin_1 : decode cX1_begin 1 = .ok (.iload_n 1, 1) := by decide +kernel
theorem dX1_begin_2 : decode cX1_begin 2 = .ok (.putfield 9, 3) := by decide +kernel
theorem dX1_begin_5 : decode cX1_begin 5 = .ok (.aload_n 0, 1) := by decide +kernel
theorem dX1_begin_6 : decode cX1_begin 6 = .ok (.iload_n 2, 1) := by decide +kernel
theorem dX1_begin_7 : decode cX1_begin 7 = .ok (.putfield 15, 3) := by decide +kernel
theorem dX1_begin_10 : decode cX1_begin 10 = .ok (.aload_n 0, 1) := by decide +kernel
theorem dX1_begin_11 : decode cX1_begin 11 = .ok (.iconst 0, 1) := by decide +kernel
theorem dX1_begin_12 : decode cX1_begin 12 = .ok (.putfield 18, 3) := by decide +kernel
theorem dX1_begin_15 : decode cX1_begin 15 = .ok (.aload_n 0, 1) := by decide +kernel
theorem dX1_begin_16 : decode cX1_begin 16 = .ok (.iload_n 3, 1) := by decide +kernel
theorem dX1_begin_17 : decode cX1_begin 17 = .ok (.putfield 21, 3) := by decide +kernel
theorem dX1_begin_20 : decode cX1_begin 20 = .ok (.aload_n 0, 1) := by decide +kernel
theorem dX1_begin_21 : decode cX1_begin 21 = .ok (.iconst 0, 1) := by decide +kernel
theorem dX1_begin_22 : decode cX1_begin 22 = .ok (.putfield 24, 3) := by decide +kernel
theorem dX1_begin_25 : decode cX1_begin 25 = .ok (.aload_n 0, 1) := by decide +kernel
theorem dX1_begin_26 : decode cX1_begin 26 = .ok (.iconst 1, 1) := by decide +kernel
theorem dX1_begin_27 : decode cX1_begin 27 = .ok (.putfield 28, 3) := by decide +kernel
theorem dX1_begin_30 : decode cX1_begin 30 = .ok (.aload_n 0, 1) := by decide +kernel
theorem dX1_begin_31 : decode cX1_begin 31 = .ok (.iconst 0, 1) := by decide +kernel
theorem dX1_begin_32 : decode cX1_begin 32 = .ok (.putfield 31, 3) := by decide +kernel
theorem dX1_begin_35 : decode cX1_begin 35 = .ok (.return_, 1) := by decide +kernel
theorem dX1_become_0 : decode cX1_become 0 = .ok (.aload_n 0, 1) := by decide +kernel
theorem dX1_become_1 : decode cX1_become 1 = .ok (.aload_n 1, 1) := by decide +kernel
theorem dX1_become_2 : decode cX1_become 2 = .ok (.getfield 9, 3) := by decide +kernel
theorem dX1_become_5 : decode cX1_become 5 = .ok (.putfield 9, 3) := by decide +kernel
theorem dX1_become_8 : decode cX1_become 8 = .ok (.aload_n 0, 1) := by decide +kernel
theorem dX1_become_9 : decode cX1_become 9 = .ok (.aload_n 1, 1) := by decide +kernel
theorem dX1_become_10 : decode cX1_become 10 = .ok (.getfield 15, 3) := by decide +kernel
theorem dX1_become_13 : decode cX1_become 13 = .ok (.putfield 15, 3) := by decide +kernel
theorem dX1_become_16 : decode cX1_become 16 = .ok (.aload_n 0, 1) := by decide +kernel
theorem dX1_become_17 : decode cX1_become 17 = .ok (.aload_n 1, 1) := by decide +kernel
theorem dX1_become_18 : decode cX1_become 18 = .ok (.getfield 18, 3) := by decide +kernel
theorem dX1_become_21 : decode cX1_become 21 = .ok (.putfield 18, 3) := by decide +kernel
theorem dX1_become_24 : decode cX1_become 24 = .ok (.aload_n 0, 1) := by decide +kernel
theorem dX1_become_25 : decode cX1_become 25 = .ok (.aload_n 1, 1) := by decide +kernel
theorem dX1_become_26 : decode cX1_become 26 = .ok (.getfield 21, 3) := by decide +kernel
theorem dX1_become_29 : decode cX1_become 29 = .ok (.putfield 21, 3) := by decide +kernel
theorem dX1_become_32 : decode cX1_become 32 = .ok (.aload_n 0, 1) := by decide +kernel
theorem dX1_become_33 : decode cX1_become 33 = .ok (.aload_n 1, 1) := by decide +kernel
theorem dX1_become_34 : decode cX1_become 34 = .ok (.getfield 24, 3) := by decide +kernel
theorem dX1_become_37 : decode cX1_become 37 = .ok (.putfield 24, 3) := by decide +kernel
theorem dX1_become_40 : decode cX1_become 40 = .ok (.aload_n 0, 1) := by decide +kernel
theorem dX1_become_41 : decode cX1_become 41 = .ok (.aload_n 1, 1) := by decide +kernel
theorem dX1_become_42 : decode cX1_become 42 = .ok (.getfield 28, 3) := by decide +kernel
theorem dX1_become_45 : decode cX1_become 45 = .ok (.putfield 28, 3) := by decide +kernel
theorem dX1_become_48 : decode cX1_become 48 = .ok (.aload_n 0, 1) := by decide +kernel
theorem dX1_become_49 : decode cX1_become 49 = .ok (.aload_n 1, 1) := by decide +kernel
theorem dX1_become_50 : decode cX1_become 50 = .ok (.getfield 31, 3) := by decide +kernel
theorem dX1_become_53 : decode cX1_become 53 = .ok (.putfield 31, 3) := by decide +kernel
theorem dX1_become_56 : decode cX1_become 56 = .ok (.return_, 1) := by decide +kernel
theorem dX1_packed_0 : decode cX1_packed 0 = .ok (.aload_n 0, 1) := by decide +kernel
theorem dX1_packed_1 : decode cX1_packed 1 = .ok (.getfield 15, 3) := by decide +kernel
theorem dX1_packed_4 : decode cX1_packed 4 = .ok (.aload_n 0, 1) := by decide +kernel
theorem dX1_packed_5 : decode cX1_packed 5 = .ok (.getfield 18, 3) := by decide +kernel
theorem dX1_packed_8 : decode cX1_packed 8 = .ok (.iconst 5, 1) := by decide +kernel
theorem dX1_packed_9 : decode cX1_packed 9 = .ok (.ishl, 1) := by decide +kernel
theorem dX1_packed_10 : decode cX1_packed 10 = .ok (.ior, 1) := by decide +kernel
theorem dX1_packed_11 : decode cX1_packed 11 = .ok (.aload_n 0, 1) := by decide +kernel
theorem dX1_packed_12 : decode cX1_packed 12 = .ok (.getfield 24, 3) := by decide +kernel
theorem dX1_packed_15 : decode cX1_packed 15 = .ok (.invokestatic 34, 3) := by decide +kernel
theorem dX1_packed_18 : decode cX1_packed 18 = .ok (.bipush 6, 2) := by decide +kernel
theorem dX1_packed_20 : decode cX1_packed 20 = .ok (.ishl, 1) := by decide +kernel
theorem dX1_packed_21 : decode cX1_packed 21 = .ok (.ior, 1) := by decide +kernel
theorem dX1_packed_22 : decode cX1_packed 22 = .ok (.aload_n 0, 1) := by decide +kernel
theorem dX1_packed_23 : decode cX1_packed 23 = .ok (.getfield 28, 3) := by decide +kernel
theorem dX1_packed_26 : decode cX1_packed 26 = .ok (.invokestatic 34, 3) := by decide +kernel
theorem dX1_packed_29 : decode cX1_packed 29 = .ok (.bipush 7, 2) := by decide +kernel
theorem dX1_packed_31 : decode cX1_packed 31 = .ok (.ishl, 1) := by decide +kernel
theorem dX1_packed_32 : decode cX1_packed 32 = .ok (.ior, 1) := by decide +kernel
theorem dX1_packed_33 : decode cX1_packed 33 = .ok (.aload_n 0, 1) := by decide +kernel
theorem dX1_packed_34 : decode cX1_packed 34 = .ok (.getfield 21, 3) := by decide +kernel
theorem dX1_packed_37 : decode cX1_packed 37 = .ok (.bipush 8, 2) := by decide +kernel
theorem dX1_packed_39 : decode cX1_packed 39 = .ok (.ishl, 1) := by decide +kernel
theorem dX1_packed_40 : decode cX1_packed 40 = .ok (.ior, 1) := by decide +kernel
theorem dX1_packed_41 : decode cX1_packed 41 = .ok (.ireturn, 1) := by decide +kernel
theorem dX1_unpack_0 : decode cX1_unpack 0 = .ok (.aload_n 0, 1) := by decide +kernel
theorem dX1_unpack_1 : decode cX1_unpack 1 = .ok (.iload_n 1, 1) := by decide +kernel
theorem dX1_unpack_2 : decode cX1_unpack 2 = .ok (.bipush 31, 2) := by decide +kernel
theorem dX1_unpack_4 : decode cX1_unpack 4 = .ok (.iand, 1) := by decide +kernel
theorem dX1_unpack_5 : decode cX1_unpack 5 = .ok (.putfield 15, 3) := by decide +kernel
theorem dX1_unpack_8 : decode cX1_unpack 8 = .ok (.aload_n 0, 1) := by decide +kernel
theorem dX1_unpack_9 : decode cX1_unpack 9 = .ok (.iload_n 1, 1) := by decide +kernel
theorem dX1_unpack_10 : decode cX1_unpack 10 = .ok (.iconst 5, 1) := by decide +kernel
theorem dX1_unpack_11 : decode cX1_unpack 11 = .ok (.iushr, 1) := by decide +kernel
theorem dX1_unpack_12 : decode cX1_unpack 12 = .ok (.iconst 1, 1) := by decide +kernel
theorem dX1_unpack_13 : decode cX1_unpack 13 = .ok (.iand, 1) := by decide +kernel
theorem dX1_unpack_14 : decode cX1_unpack 14 = .ok (.putfield 18, 3) := by decide +kernel
theorem dX1_unpack_17 : decode cX1_unpack 17 = .ok (.aload_n 0, 1) := by decide +kernel
theorem dX1_unpack_18 : decode cX1_unpack 18 = .ok (.iload_n 1, 1) := by decide +kernel
theorem dX1_unpack_19 : decode cX1_unpack 19 = .ok (.bipush 6, 2) := by decide +kernel
theorem dX1_unpack_21 : decode cX1_unpack 21 = .ok (.iushr, 1) := by decide +kernel
theorem dX1_unpack_22 : decode cX1_unpack 22 = .ok (.iconst 1, 1) := by decide +kernel
theorem dX1_unpack_23 : decode cX1_unpack 23 = .ok (.iand, 1) := by decide +kernel
theorem dX1_unpack_24 : decode cX1_unpack 24 = .ok (.ifCond .eq 7, 3) := by decide +kernel
theorem dX1_unpack_27 : decode cX1_unpack 27 = .ok (.iconst 1, 1) := by decide +kernel
theorem dX1_unpack_28 : decode cX1_unpack 28 = .ok (.goto 4, 3) := by decide +kernel
theorem dX1_unpack_31 : decode cX1_unpack 31 = .ok (.iconst 0, 1) := by decide +kernel
theorem dX1_unpack_32 : decode cX1_unpack 32 = .ok (.putfield 24, 3) := by decide +kernel
theorem dX1_unpack_35 : decode cX1_unpack 35 = .ok (.aload_n 0, 1) := by decide +kernel
theorem dX1_unpack_36 : decode cX1_unpack 36 = .ok (.iload_n 1, 1) := by decide +kernel
theorem dX1_unpack_37 : decode cX1_unpack 37 = .ok (.bipush 7, 2) := by decide +kernel
theorem dX1_unpack_39 : decode cX1_unpack 39 = .ok (.iushr, 1) := by decide +kernel
theorem dX1_unpack_40 : decode cX1_unpack 40 = .ok (.iconst 1, 1) := by decide +kernel
theorem dX1_unpack_41 : decode cX1_unpack 41 = .ok (.iand, 1) := by decide +kernel
theorem dX1_unpack_42 : decode cX1_unpack 42 = .ok (.ifCond .eq 7, 3) := by decide +kernel
theorem dX1_unpack_45 : decode cX1_unpack 45 = .ok (.iconst 1, 1) := by decide +kernel
theorem dX1_unpack_46 : decode cX1_unpack 46 = .ok (.goto 4, 3) := by decide +kernel
theorem dX1_unpack_49 : decode cX1_unpack 49 = .ok (.iconst 0, 1) := by decide +kernel
theorem dX1_unpack_50 : decode cX1_unpack 50 = .ok (.putfield 28, 3) := by decide +kernel
theorem dX1_unpack_53 : decode cX1_unpack 53 = .ok (.aload_n 0, 1) := by decide +kernel
theorem dX1_unpack_54 : decode cX1_unpack 54 = .ok (.iload_n 1, 1) := by decide +kernel
theorem dX1_unpack_55 : decode cX1_unpack 55 = .ok (.bipush 8, 2) := by decide +kernel
theorem dX1_unpack_57 : decode cX1_unpack 57 = .ok (.iushr, 1) := by decide +kernel
theorem dX1_unpack_58 : decode cX1_unpack 58 = .ok (.putfield 21, 3) := by decide +kernel
theorem dX1_unpack_61 : decode cX1_unpack 61 = .ok (.return_, 1) := by decide +kernel
theorem dX1_part_0 : decode cX1_part 0 = .ok (.iload_n 1, 1) := by decide +kernel
theorem dX1_part_1 : decode cX1_part 1 = .ok (.tableswitch 54 0 3 #[31, 36, 41, 46], 31) := by decide +kernel
theorem dX1_part_32 : decode cX1_part 32 = .ok (.aload_n 0, 1) := by decide +kernel
theorem dX1_part_33 : decode cX1_part 33 = .ok (.getfield 15, 3) := by decide +kernel
theorem dX1_part_36 : decode cX1_part 36 = .ok (.ireturn, 1) := by decide +kernel
theorem dX1_part_37 : decode cX1_part 37 = .ok (.aload_n 0, 1) := by decide +kernel
theorem dX1_part_38 : decode cX1_part 38 = .ok (.getfield 18, 3) := by decide +kernel
theorem dX1_part_41 : decode cX1_part 41 = .ok (.ireturn, 1) := by decide +kernel
theorem dX1_part_42 : decode cX1_part 42 = .ok (.aload_n 0, 1) := by decide +kernel
theorem dX1_part_43 : decode cX1_part 43 = .ok (.getfield 21, 3) := by decide +kernel
theorem dX1_part_46 : decode cX1_part 46 = .ok (.ireturn, 1) := by decide +kernel
theorem dX1_part_47 : decode cX1_part 47 = .ok (.aload_n 0, 1) := by decide +kernel
theorem dX1_part_48 : decode cX1_part 48 = .ok (.getfield 24, 3) := by decide +kernel
theorem dX1_part_51 : decode cX1_part 51 = .ok (.invokestatic 34, 3) := by decide +kernel
theorem dX1_part_54 : decode cX1_part 54 = .ok (.ireturn, 1) := by decide +kernel
theorem dX1_part_55 : decode cX1_part 55 = .ok (.aload_n 0, 1) := by decide +kernel
theorem dX1_part_56 : decode cX1_part 56 = .ok (.getfield 28, 3) := by decide +kernel
theorem dX1_part_59 : decode cX1_part 59 = .ok (.invokestatic 34, 3) := by decide +kernel
theorem dX1_part_62 : decode cX1_part 62 = .ok (.ireturn, 1) := by decide +kernel
theorem dX1_canRise_0 : decode cX1_canRise 0 = .ok (.aload_n 0, 1) := by decide +kernel
theorem dX1_canRise_1 : decode cX1_canRise 1 = .ok (.getfield 9, 3) := by decide +kernel
theorem dX1_canRise_4 : decode cX1_canRise 4 = .ok (.iconst 4, 1) := by decide +kernel
theorem dX1_canRise_5 : decode cX1_canRise 5 = .ok (.if_icmp .eq 15, 3) := by decide +kernel
theorem dX1_canRise_8 : decode cX1_canRise 8 = .ok (.aload_n 0, 1) := by decide +kernel
theorem dX1_canRise_9 : decode cX1_canRise 9 = .ok (.getfield 9, 3) := by decide +kernel
theorem dX1_canRise_12 : decode cX1_canRise 12 = .ok (.iconst 5, 1) := by decide +kernel
theorem dX1_canRise_13 : decode cX1_canRise 13 = .ok (.if_icmp .eq 7, 3) := by decide +kernel
theorem dX1_canRise_16 : decode cX1_canRise 16 = .ok (.iconst 1, 1) := by decide +kernel
theorem dX1_canRise_17 : decode cX1_canRise 17 = .ok (.goto 4, 3) := by decide +kernel
theorem dX1_canRise_20 : decode cX1_canRise 20 = .ok (.iconst 0, 1) := by decide +kernel
theorem dX1_canRise_21 : decode cX1_canRise 21 = .ok (.ireturn, 1) := by decide +kernel
theorem dX1_moveTo_0 : decode cX1_moveTo 0 = .ok (.iload_n 1, 1) := by decide +kernel
theorem dX1_moveTo_1 : decode cX1_moveTo 1 = .ok (.aload_n 0, 1) := by decide +kernel
theorem dX1_moveTo_2 : decode cX1_moveTo 2 = .ok (.getfield 18, 3) := by decide +kernel
theorem dX1_moveTo_5 : decode cX1_moveTo 5 = .ok (.if_icmp .le 17, 3) := by decide +kernel
theorem dX1_moveTo_8 : decode cX1_moveTo 8 = .ok (.aload_n 0, 1) := by decide +kernel
theorem dX1_moveTo_9 : decode cX1_moveTo 9 = .ok (.iconst 0, 1) := by decide +kernel
theorem dX1_moveTo_10 : decode cX1_moveTo 10 = .ok (.aload_n 0, 1) := by decide +kernel
theorem dX1_moveTo_11 : decode cX1_moveTo 11 = .ok (.getfield 21, 3) := by decide +kernel
theorem dX1_moveTo_14 : decode cX1_moveTo 14 = .ok (.iconst 2, 1) := by decide +kernel
theorem dX1_moveTo_15 : decode cX1_moveTo 15 = .ok (.isub, 1) := by decide +kernel
theorem dX1_moveTo_16 : decode cX1_moveTo 16 = .ok (.invokestatic 38, 3) := by decide +kernel
theorem dX1_moveTo_19 : decode cX1_moveTo 19 = .ok (.putfield 21, 3) := by decide +kernel
theorem dX1_moveTo_22 : decode cX1_moveTo 22 = .ok (.aload_n 0, 1) := by decide +kernel
theorem dX1_moveTo_23 : decode cX1_moveTo 23 = .ok (.iload_n 1, 1) := by decide +kernel
theorem dX1_moveTo_24 : decode cX1_moveTo 24 = .ok (.putfield 18, 3) := by decide +kernel
theorem dX1_moveTo_27 : decode cX1_moveTo 27 = .ok (.return_, 1) := by decide +kernel
theorem dX1_driftedFrom_0 : decode cX1_driftedFrom 0 = .ok (.aload_n 0, 1) := by decide +kernel
theorem dX1_driftedFrom_1 : decode cX1_driftedFrom 1 = .ok (.getfield 9, 3) := by decide +kernel
theorem dX1_driftedFrom_4 : decode cX1_driftedFrom 4 = .ok (.iconst 4, 1) := by decide +kernel
theorem dX1_driftedFrom_5 : decode cX1_driftedFrom 5 = .ok (.if_icmp .ne 5, 3) := by decide +kernel
theorem dX1_driftedFrom_8 : decode cX1_driftedFrom 8 = .ok (.iload_n 1, 1) := by decide +kernel
theorem dX1_driftedFrom_9 : decode cX1_driftedFrom 9 = .ok (.ireturn, 1) := by decide +kernel
theorem dX1_driftedFrom_10 : decode cX1_driftedFrom 10 = .ok (.iload_n 1, 1) := by decide +kernel
theorem dX1_driftedFrom_11 : decode cX1_driftedFrom 11 = .ok (.aload_n 0, 1) := by decide +kernel
theorem dX1_driftedFrom_12 : decode cX1_driftedFrom 12 = .ok (.getfield 9, 3) := by decide +kernel
theorem dX1_driftedFrom_15 : decode cX1_driftedFrom 15 = .ok (.iconst 5, 1) := by decide +kernel
theorem dX1_driftedFrom_16 : decode cX1_driftedFrom 16 = .ok (.if_icmp .ne 10, 3) := by decide +kernel
theorem dX1_driftedFrom_19 : decode cX1_driftedFrom 19 = .ok (.iload_n 2, 1) := by decide +kernel
theorem dX1_driftedFrom_20 : decode cX1_driftedFrom 20 = .ok (.invokestatic 44, 3) := by decide +kernel
theorem dX1_driftedFrom_23 : decode cX1_driftedFrom 23 = .ok (.goto 4, 3) := by decide +kernel
theorem dX1_driftedFrom_26 : decode cX1_driftedFrom 26 = .ok (.iload_n 2, 1) := by decide +kernel
theorem dX1_driftedFrom_27 : decode cX1_driftedFrom 27 = .ok (.invokestatic 48, 3) := by decide +kernel
theorem dX1_driftedFrom_30 : decode cX1_driftedFrom 30 = .ok (.ireturn, 1) := by decide +kernel
theorem dX1_opposite_0 : decode cX1_opposite 0 = .ok (.iload_n 0, 1) := by decide +kernel
theorem dX1_opposite_1 : decode cX1_opposite 1 = .ok (.tableswitch 39 1 4 #[31, 33, 35, 37], 31) := by decide +kernel
theorem dX1_opposite_32 : decode cX1_opposite 32 = .ok (.iconst 2, 1) := by decide +kernel
theorem dX1_opposite_33 : decode cX1_opposite 33 = .ok (.ireturn, 1) := by decide +kernel
theorem dX1_opposite_34 : decode cX1_opposite 34 = .ok (.iconst 1, 1) := by decide +kernel
theorem dX1_opposite_35 : decode cX1_opposite 35 = .ok (.ireturn, 1) := by decide +kernel
theorem dX1_opposite_36 : decode cX1_opposite 36 = .ok (.iconst 4, 1) := by decide +kernel
theorem dX1_opposite_37 : decode cX1_opposite 37 = .ok (.ireturn, 1) := by decide +kernel
theorem dX1_opposite_38 : decode cX1_opposite 38 = .ok (.iconst 3, 1) := by decide +kernel
theorem dX1_opposite_39 : decode cX1_opposite 39 = .ok (.ireturn, 1) := by decide +kernel
theorem dX1_opposite_40 : decode cX1_opposite 40 = .ok (.iload_n 0, 1) := by decide +kernel
theorem dX1_opposite_41 : decode cX1_opposite 41 = .ok (.ireturn, 1) := by decide +kernel
theorem dX1_beside_0 : decode cX1_beside 0 = .ok (.iload_n 0, 1) := by decide +kernel
theorem dX1_beside_1 : decode cX1_beside 1 = .ok (.bipush 8, 2) := by decide +kernel
theorem dX1_beside_3 : decode cX1_beside 3 = .ok (.irem, 1) := by decide +kernel
theorem dX1_beside_4 : decode cX1_beside 4 = .ok (.istore_n 2, 1) := by decide +kernel
theorem dX1_beside_5 : decode cX1_beside 5 = .ok (.iload_n 0, 1) := by decide +kernel
theorem dX1_beside_6 : decode cX1_beside 6 = .ok (.bipush 8, 2) := by decide +kernel
theorem dX1_beside_8 : decode cX1_beside 8 = .ok (.idiv, 1) := by decide +kernel
theorem dX1_beside_9 : decode cX1_beside 9 = .ok (.istore_n 3, 1) := by decide +kernel
theorem dX1_beside_10 : decode cX1_beside 10 = .ok (.iload_n 1, 1) := by decide +kernel
theorem dX1_beside_11 : decode cX1_beside 11 = .ok (.tableswitch 82 1 4 #[29, 43, 55, 69], 29) := by decide +kernel
theorem dX1_beside_40 : decode cX1_beside 40 = .ok (.iload_n 2, 1) := by decide +kernel
theorem dX1_beside_41 : decode cX1_beside 41 = .ok (.bipush 7, 2) := by decide +kernel
theorem dX1_beside_43 : decode cX1_beside 43 = .ok (.if_icmp .ge 9, 3) := by decide +kernel
theorem dX1_beside_46 : decode cX1_beside 46 = .ok (.iload_n 0, 1) := by decide +kernel
theorem dX1_beside_47 : decode cX1_beside 47 = .ok (.iconst 1, 1) := by decide +kernel
theorem dX1_beside_48 : decode cX1_beside 48 = .ok (.iadd, 1) := by decide +kernel
theorem dX1_beside_49 : decode cX1_beside 49 = .ok (.goto 4, 3) := by decide +kernel
theorem dX1_beside_52 : decode cX1_beside 52 = .ok (.iload_n 0, 1) := by decide +kernel
theorem dX1_beside_53 : decode cX1_beside 53 = .ok (.ireturn, 1) := by decide +kernel
theorem dX1_beside_54 : decode cX1_beside 54 = .ok (.iload_n 2, 1) := by decide +kernel
theorem dX1_beside_55 : decode cX1_beside 55 = .ok (.ifCond .le 9, 3) := by decide +kernel
theorem dX1_beside_58 : decode cX1_beside 58 = .ok (.iload_n 0, 1) := by decide +kernel
theorem dX1_beside_59 : decode cX1_beside 59 = .ok (.iconst 1, 1) := by decide +kernel
theorem dX1_beside_60 : decode cX1_beside 60 = .ok (.isub, 1) := by decide +kernel
theorem dX1_beside_61 : decode cX1_beside 61 = .ok (.goto 4, 3) := by decide +kernel
theorem dX1_beside_64 : decode cX1_beside 64 = .ok (.iload_n 0, 1) := by decide +kernel
theorem dX1_beside_65 : decode cX1_beside 65 = .ok (.ireturn, 1) := by decide +kernel
theorem dX1_beside_66 : decode cX1_beside 66 = .ok (.iload_n 3, 1) := by decide +kernel
theorem dX1_beside_67 : decode cX1_beside 67 = .ok (.iconst 3, 1) := by decide +kernel
theorem dX1_beside_68 : decode cX1_beside 68 = .ok (.if_icmp .ge 10, 3) := by decide +kernel
theorem dX1_beside_71 : decode cX1_beside 71 = .ok (.iload_n 0, 1) := by decide +kernel
theorem dX1_beside_72 : decode cX1_beside 72 = .ok (.bipush 8, 2) := by decide +kernel
theorem dX1_beside_74 : decode cX1_beside 74 = .ok (.iadd, 1) := by decide +kernel
theorem dX1_beside_75 : decode cX1_beside 75 = .ok (.goto 4, 3) := by decide +kernel
theorem dX1_beside_78 : decode cX1_beside 78 = .ok (.iload_n 0, 1) := by decide +kernel
theorem dX1_beside_79 : decode cX1_beside 79 = .ok (.ireturn, 1) := by decide +kernel
theorem dX1_beside_80 : decode cX1_beside 80 = .ok (.iload_n 3, 1) := by decide +kernel
theorem dX1_beside_81 : decode cX1_beside 81 = .ok (.ifCond .le 10, 3) := by decide +kernel
theorem dX1_beside_84 : decode cX1_beside 84 = .ok (.iload_n 0, 1) := by decide +kernel
theorem dX1_beside_85 : decode cX1_beside 85 = .ok (.bipush 8, 2) := by decide +kernel
theorem dX1_beside_87 : decode cX1_beside 87 = .ok (.isub, 1) := by decide +kernel
theorem dX1_beside_88 : decode cX1_beside 88 = .ok (.goto 4, 3) := by decide +kernel
theorem dX1_beside_91 : decode cX1_beside 91 = .ok (.iload_n 0, 1) := by decide +kernel
theorem dX1_beside_92 : decode cX1_beside 92 = .ok (.ireturn, 1) := by decide +kernel
theorem dX1_beside_93 : decode cX1_beside 93 = .ok (.iload_n 0, 1) := by decide +kernel
theorem dX1_beside_94 : decode cX1_beside 94 = .ok (.ireturn, 1) := by decide +kernel
theorem dX1_meets_0 : decode cX1_meets 0 = .ok (.aload_n 0, 1) := by decide +kernel
theorem dX1_meets_1 : decode cX1_meets 1 = .ok (.getfield 24, 3) := by decide +kernel
theorem dX1_meets_4 : decode cX1_meets 4 = .ok (.ifCond .ne 29, 3) := by decide +kernel
theorem dX1_meets_7 : decode cX1_meets 7 = .ok (.aload_n 0, 1) := by decide +kernel
theorem dX1_meets_8 : decode cX1_meets 8 = .ok (.getfield 15, 3) := by decide +kernel
theorem dX1_meets_11 : decode cX1_meets 11 = .ok (.aload_n 1, 1) := by decide +kernel
theorem dX1_meets_12 : decode cX1_meets 12 = .ok (.getfield 15, 3) := by decide +kernel
theorem dX1_meets_15 : decode cX1_meets 15 = .ok (.if_icmp .ne 18, 3) := by decide +kernel
theorem dX1_meets_18 : decode cX1_meets 18 = .ok (.aload_n 0, 1) := by decide +kernel
theorem dX1_meets_19 : decode cX1_meets 19 = .ok (.getfield 18, 3) := by decide +kernel
theorem dX1_meets_22 : decode cX1_meets 22 = .ok (.aload_n 1, 1) := by decide +kernel
theorem dX1_meets_23 : decode cX1_meets 23 = .ok (.getfield 18, 3) := by decide +kernel
theorem dX1_meets_26 : decode cX1_meets 26 = .ok (.if_icmp .ne 7, 3) := by decide +kernel
theorem dX1_meets_29 : decode cX1_meets 29 = .ok (.iconst 1, 1) := by decide +kernel
theorem dX1_meets_30 : decode cX1_meets 30 = .ok (.goto 4, 3) := by decide +kernel
theorem dX1_meets_33 : decode cX1_meets 33 = .ok (.iconst 0, 1) := by decide +kernel
theorem dX1_meets_34 : decode cX1_meets 34 = .ok (.ireturn, 1) := by decide +kernel
theorem dX1_swallow_0 : decode cX1_swallow 0 = .ok (.aload_n 0, 1) := by decide +kernel
theorem dX1_swallow_1 : decode cX1_swallow 1 = .ok (.bipush 40, 2) := by decide +kernel
theorem dX1_swallow_3 : decode cX1_swallow 3 = .ok (.aload_n 0, 1) := by decide +kernel
theorem dX1_swallow_4 : decode cX1_swallow 4 = .ok (.getfield 21, 3) := by decide +kernel
theorem dX1_swallow_7 : decode cX1_swallow 7 = .ok (.aload_n 1, 1) := by decide +kernel
theorem dX1_swallow_8 : decode cX1_swallow 8 = .ok (.getfield 21, 3) := by decide +kernel
theorem dX1_swallow_11 : decode cX1_swallow 11 = .ok (.iadd, 1) := by decide +kernel
theorem dX1_swallow_12 : decode cX1_swallow 12 = .ok (.invokestatic 51, 3) := by decide +kernel
theorem dX1_swallow_15 : decode cX1_swallow 15 = .ok (.putfield 21, 3) := by decide +kernel
theorem dX1_swallow_18 : decode cX1_swallow 18 = .ok (.aload_n 1, 1) := by decide +kernel
theorem dX1_swallow_19 : decode cX1_swallow 19 = .ok (.iconst 0, 1) := by decide +kernel
theorem dX1_swallow_20 : decode cX1_swallow 20 = .ok (.putfield 21, 3) := by decide +kernel
theorem dX1_swallow_23 : decode cX1_swallow 23 = .ok (.aload_n 1, 1) := by decide +kernel
theorem dX1_swallow_24 : decode cX1_swallow 24 = .ok (.iconst 1, 1) := by decide +kernel
theorem dX1_swallow_25 : decode cX1_swallow 25 = .ok (.putfield 24, 3) := by decide +kernel
theorem dX1_swallow_28 : decode cX1_swallow 28 = .ok (.return_, 1) := by decide +kernel
theorem dX1_rainOver_0 : decode cX1_rainOver 0 = .ok (.aload_n 0, 1) := by decide +kernel
theorem dX1_rainOver_1 : decode cX1_rainOver 1 = .ok (.aload_n 0, 1) := by decide +kernel
theorem dX1_rainOver_2 : decode cX1_rainOver 2 = .ok (.getfield 21, 3) := by decide +kernel
theorem dX1_rainOver_5 : decode cX1_rainOver 5 = .ok (.aload_n 0, 1) := by decide +kernel
theorem dX1_rainOver_6 : decode cX1_rainOver 6 = .ok (.iload_n 1, 1) := by decide +kernel
theorem dX1_rainOver_7 : decode cX1_rainOver 7 = .ok (.invokevirtual 54, 3) := by decide +kernel
theorem dX1_rainOver_10 : decode cX1_rainOver 10 = .ok (.invokestatic 51, 3) := by decide +kernel
theorem dX1_rainOver_13 : decode cX1_rainOver 13 = .ok (.putfield 31, 3) := by decide +kernel
theorem dX1_rainOver_16 : decode cX1_rainOver 16 = .ok (.aload_n 0, 1) := by decide +kernel
theorem dX1_rainOver_17 : decode cX1_rainOver 17 = .ok (.dup, 1) := by decide +kernel
theorem dX1_rainOver_18 : decode cX1_rainOver 18 = .ok (.getfield 21, 3) := by decide +kernel
theorem dX1_rainOver_21 : decode cX1_rainOver 21 = .ok (.aload_n 0, 1) := by decide +kernel
theorem dX1_rainOver_22 : decode cX1_rainOver 22 = .ok (.getfield 31, 3) := by decide +kernel
theorem dX1_rainOver_25 : decode cX1_rainOver 25 = .ok (.isub, 1) := by decide +kernel
theorem dX1_rainOver_26 : decode cX1_rainOver 26 = .ok (.putfield 21, 3) := by decide +kernel
theorem dX1_rainOver_29 : decode cX1_rainOver 29 = .ok (.return_, 1) := by decide +kernel
theorem dX1_pouring_0 : decode cX1_pouring 0 = .ok (.aload_n 0, 1) := by decide +kernel
theorem dX1_pouring_1 : decode cX1_pouring 1 = .ok (.getfield 9, 3) := by decide +kernel
theorem dX1_pouring_4 : decode cX1_pouring 4 = .ok (.tableswitch 69 1 5 #[36, 69, 54, 56, 56], 36) := by decide +kernel
theorem dX1_pouring_40 : decode cX1_pouring 40 = .ok (.iload_n 1, 1) := by decide +kernel
theorem dX1_pouring_41 : decode cX1_pouring 41 = .ok (.iconst 1, 1) := by decide +kernel
theorem dX1_pouring_42 : decode cX1_pouring 42 = .ok (.if_icmp .ne 14, 3) := by decide +kernel
theorem dX1_pouring_45 : decode cX1_pouring 45 = .ok (.aload_n 0, 1) := by decide +kernel
theorem dX1_pouring_46 : decode cX1_pouring 46 = .ok (.getfield 28, 3) := by decide +kernel
theorem dX1_pouring_49 : decode cX1_pouring 49 = .ok (.ifCond .eq 7, 3) := by decide +kernel
theorem dX1_pouring_52 : decode cX1_pouring 52 = .ok (.iconst 1, 1) := by decide +kernel
theorem dX1_pouring_53 : decode cX1_pouring 53 = .ok (.goto 4, 3) := by decide +kernel
theorem dX1_pouring_56 : decode cX1_pouring 56 = .ok (.iconst 0, 1) := by decide +kernel
theorem dX1_pouring_57 : decode cX1_pouring 57 = .ok (.ireturn, 1) := by decide +kernel
theorem dX1_pouring_58 : decode cX1_pouring 58 = .ok (.iconst 2, 1) := by decide +kernel
theorem dX1_pouring_59 : decode cX1_pouring 59 = .ok (.ireturn, 1) := by decide +kernel
theorem dX1_pouring_60 : decode cX1_pouring 60 = .ok (.aload_n 0, 1) := by decide +kernel
theorem dX1_pouring_61 : decode cX1_pouring 61 = .ok (.getfield 18, 3) := by decide +kernel
theorem dX1_pouring_64 : decode cX1_pouring 64 = .ok (.ifCond .ne 7, 3) := by decide +kernel
theorem dX1_pouring_67 : decode cX1_pouring 67 = .ok (.iconst 1, 1) := by decide +kernel
theorem dX1_pouring_68 : decode cX1_pouring 68 = .ok (.goto 4, 3) := by decide +kernel
theorem dX1_pouring_71 : decode cX1_pouring 71 = .ok (.iconst 0, 1) := by decide +kernel
theorem dX1_pouring_72 : decode cX1_pouring 72 = .ok (.ireturn, 1) := by decide +kernel
theorem dX1_pouring_73 : decode cX1_pouring 73 = .ok (.iconst 0, 1) := by decide +kernel
theorem dX1_pouring_74 : decode cX1_pouring 74 = .ok (.ireturn, 1) := by decide +kernel
theorem dX2_init_0 : decode cX2_init 0 = .ok (.aload_n 0, 1) := by decide +kernel
theorem dX2_init_1 : decode cX2_init 1 = .ok (.invokespecial 3, 3) := by decide +kernel
theorem dX2_init_4 : decode cX2_init 4 = .ok (.aload_n 0, 1) := by decide +kernel
theorem dX2_init_5 : decode cX2_init 5 = .ok (.iconst 0, 1) := by decide +kernel
theorem dX2_init_6 : decode cX2_init 6 = .ok (.putfield 9, 3) := by decide +kernel
theorem dX2_init_9 : decode cX2_init 9 = .ok (.aload_n 0, 1) := by decide +kernel
theorem dX2_init_10 : decode cX2_init 10 = .ok (.iconst 0, 1) := by decide +kernel
theorem dX2_init_11 : decode cX2_init 11 = .ok (.putfield 15, 3) := by decide +kernel
theorem dX2_init_14 : decode cX2_init 14 = .ok (.aload_n 0, 1) := by decide +kernel
theorem dX2_init_15 : decode cX2_init 15 = .ok (.iconst 0, 1) := by decide +kernel
theorem dX2_init_16 : decode cX2_init 16 = .ok (.putfield 19, 3) := by decide +kernel
theorem dX2_init_19 : decode cX2_init 19 = .ok (.aload_n 0, 1) := by decide +kernel
theorem dX2_init_20 : decode cX2_init 20 = .ok (.iconst 0, 1) := by decide +kernel
theorem dX2_init_21 : decode cX2_init 21 = .ok (.putfield 22, 3) := by decide +kernel
theorem dX2_init_24 : decode cX2_init 24 = .ok (.aload_n 0, 1) := by decide +kernel
theorem dX2_init_25 : decode cX2_init 25 = .ok (.iconst 0, 1) := by decide +kernel
theorem dX2_init_26 : decode cX2_init 26 = .ok (.putfield 25, 3) := by decide +kernel
theorem dX2_init_29 : decode cX2_init 29 = .ok (.aload_n 0, 1) := by decide +kernel
theorem dX2_init_30 : decode cX2_init 30 = .ok (.iconst 0, 1) := by decide +kernel
theorem dX2_init_31 : decode cX2_init 31 = .ok (.putfield 28, 3) := by decide +kernel
theorem dX2_init_34 : decode cX2_init 34 = .ok (.aload_n 0, 1) := by decide +kernel
theorem dX2_init_35 : decode cX2_init 35 = .ok (.iconst 0, 1) := by decide +kernel
theorem dX2_init_36 : decode cX2_init 36 = .ok (.putfield 31, 3) := by decide +kernel
theorem dX2_init_39 : decode cX2_init 39 = .ok (.aload_n 0, 1) := by decide +kernel
theorem dX2_init_40 : decode cX2_init 40 = .ok (.iconst 0, 1) := by decide +kernel
theorem dX2_init_41 : decode cX2_init 41 = .ok (.putfield 34, 3) := by decide +kernel
theorem dX2_init_44 : decode cX2_init 44 = .ok (.aload_n 0, 1) := by decide +kernel
theorem dX2_init_45 : decode cX2_init 45 = .ok (.bipush 12, 2) := by decide +kernel
theorem dX2_init_47 : decode cX2_init 47 = .ok (.newarray .int, 2) := by decide +kernel
theorem dX2_init_49 : decode cX2_init 49 = .ok (.putfield 37, 3) := by decide +kernel
theorem dX2_init_52 : decode cX2_init 52 = .ok (.aload_n 0, 1) := by decide +kernel
theorem dX2_init_53 : decode cX2_init 53 = .ok (.bipush 32, 2) := by decide +kernel
theorem dX2_init_55 : decode cX2_init 55 = .ok (.newarray .int, 2) := by decide +kernel
theorem dX2_init_57 : decode cX2_init 57 = .ok (.putfield 41, 3) := by decide +kernel
theorem dX2_init_60 : decode cX2_init 60 = .ok (.aload_n 0, 1) := by decide +kernel
theorem dX2_init_61 : decode cX2_init 61 = .ok (.iconst 5, 1) := by decide +kernel
theorem dX2_init_62 : decode cX2_init 62 = .ok (.anewarray 44, 3) := by decide +kernel
theorem dX2_init_65 : decode cX2_init 65 = .ok (.putfield 46, 3) := by decide +kernel
theorem dX2_init_68 : decode cX2_init 68 = .ok (.aload_n 0, 1) := by decide +kernel
theorem dX2_init_69 : decode cX2_init 69 = .ok (.iconst 0, 1) := by decide +kernel
theorem dX2_init_70 : decode cX2_init 70 = .ok (.putfield 50, 3) := by decide +kernel
theorem dX2_init_73 : decode cX2_init 73 = .ok (.aload_n 0, 1) := by decide +kernel
theorem dX2_init_74 : decode cX2_init 74 = .ok (.iconst 0, 1) := by decide +kernel
theorem dX2_init_75 : decode cX2_init 75 = .ok (.putfield 53, 3) := by decide +kernel
theorem dX2_init_78 : decode cX2_init 78 = .ok (.iconst 0, 1) := by decide +kernel
theorem dX2_init_79 : decode cX2_init 79 = .ok (.istore_n 1, 1) := by decide +kernel
theorem dX2_init_80 : decode cX2_init 80 = .ok (.iload_n 1, 1) := by decide +kernel
theorem dX2_init_81 : decode cX2_init 81 = .ok (.iconst 5, 1) := by decide +kernel
theorem dX2_init_82 : decode cX2_init 82 = .ok (.if_icmp .ge 22, 3) := by decide +kernel
theorem dX2_init_85 : decode cX2_init 85 = .ok (.aload_n 0, 1) := by decide +kernel
theorem dX2_init_86 : decode cX2_init 86 = .ok (.getfield 46, 3) := by decide +kernel
theorem dX2_init_89 : decode cX2_init 89 = .ok (.iload_n 1, 1) := by decide +kernel
theorem dX2_init_90 : decode cX2_init 90 = .ok (.new 44, 3) := by decide +kernel
theorem dX2_init_93 : decode cX2_init 93 = .ok (.dup, 1) := by decide +kernel
theorem dX2_init_94 : decode cX2_init 94 = .ok (.invokespecial 56, 3) := by decide +kernel
theorem dX2_init_97 : decode cX2_init 97 = .ok (.aastore, 1) := by decide +kernel
theorem dX2_init_98 : decode cX2_init 98 = .ok (.iinc 1 1, 3) := by decide +kernel
theorem dX2_init_101 : decode cX2_init 101 = .ok (.goto (-21), 3) := by decide +kernel
theorem dX2_init_104 : decode cX2_init 104 = .ok (.return_, 1) := by decide +kernel
theorem dX2_begin_0 : decode cX2_begin 0 = .ok (.aload_n 0, 1) := by decide +kernel
theorem dX2_begin_1 : decode cX2_begin 1 = .ok (.iconst 1, 1) := by decide +kernel
theorem dX2_begin_2 : decode cX2_begin 2 = .ok (.putfield 9, 3) := by decide +kernel
theorem dX2_begin_5 : decode cX2_begin 5 = .ok (.aload_n 0, 1) := by decide +kernel
theorem dX2_begin_6 : decode cX2_begin 6 = .ok (.iconst 0, 1) := by decide +kernel
theorem dX2_begin_7 : decode cX2_begin 7 = .ok (.putfield 22, 3) := by decide +kernel
theorem dX2_begin_10 : decode cX2_begin 10 = .ok (.aload_n 0, 1) := by decide +kernel
theorem dX2_begin_11 : decode cX2_begin 11 = .ok (.iconst 0, 1) := by decide +kernel
theorem dX2_begin_12 : decode cX2_begin 12 = .ok (.putfield 25, 3) := by decide +kernel
theorem dX2_begin_15 : decode cX2_begin 15 = .ok (.aload_n 0, 1) := by decide +kernel
theorem dX2_begin_16 : decode cX2_begin 16 = .ok (.iconst 0, 1) := by decide +kernel
theorem dX2_begin_17 : decode cX2_begin 17 = .ok (.putfield 28, 3) := by decide +kernel
theorem dX2_begin_20 : decode cX2_begin 20 = .ok (.aload_n 0, 1) := by decide +kernel
theorem dX2_begin_21 : decode cX2_begin 21 = .ok (.iconst 0, 1) := by decide +kernel
theorem dX2_begin_22 : decode cX2_begin 22 = .ok (.putfield 31, 3) := by decide +kernel
theorem dX2_begin_25 : decode cX2_begin 25 = .ok (.aload_n 0, 1) := by decide +kernel
theorem dX2_begin_26 : decode cX2_begin 26 = .ok (.iconst 0, 1) := by decide +kernel
theorem dX2_begin_27 : decode cX2_begin 27 = .ok (.putfield 34, 3) := by decide +kernel
theorem dX2_begin_30 : decode cX2_begin 30 = .ok (.iconst 0, 1) := by decide +kernel
theorem dX2_begin_31 : decode cX2_begin 31 = .ok (.istore_n 1, 1) := by decide +kernel
theorem dX2_begin_32 : decode cX2_begin 32 = .ok (.iload_n 1, 1) := by decide +kernel
theorem dX2_begin_33 : decode cX2_begin 33 = .ok (.bipush 32, 2) := by decide +kernel
theorem dX2_begin_35 : decode cX2_begin 35 = .ok (.if_icmp .ge 16, 3) := by decide +kernel
theorem dX2_begin_38 : decode cX2_begin 38 = .ok (.aload_n 0, 1) := by decide +kernel
theorem dX2_begin_39 : decode cX2_begin 39 = .ok (.getfield 41, 3) := by decide +kernel
theorem dX2_begin_42 : decode cX2_begin 42 = .ok (.iload_n 1, 1) := by decide +kernel
theorem dX2_begin_43 : decode cX2_begin 43 = .ok (.iconst 0, 1) := by decide +kernel
theorem dX2_begin_44 : decode cX2_begin 44 = .ok (.iastore, 1) := by decide +kernel
theorem dX2_begin_45 : decode cX2_begin 45 = .ok (.iinc 1 1, 3) := by decide +kernel
theorem dX2_begin_48 : decode cX2_begin 48 = .ok (.goto (-16), 3) := by decide +kernel
theorem dX2_begin_51 : decode cX2_begin 51 = .ok (.return_, 1) := by decide +kernel
theorem dX2_become_0 : decode cX2_become 0 = .ok (.aload_n 0, 1) := by decide +kernel
theorem dX2_become_1 : decode cX2_become 1 = .ok (.aload_n 1, 1) := by decide +kernel
theorem dX2_become_2 : decode cX2_become 2 = .ok (.getfield 9, 3) := by decide +kernel
theorem dX2_become_5 : decode cX2_become 5 = .ok (.putfield 9, 3) := by decide +kernel
theorem dX2_become_8 : decode cX2_become 8 = .ok (.aload_n 0, 1) := by decide +kernel
theorem dX2_become_9 : decode cX2_become 9 = .ok (.aload_n 1, 1) := by decide +kernel
theorem dX2_become_10 : decode cX2_become 10 = .ok (.getfield 15, 3) := by decide +kernel
theorem dX2_become_13 : decode cX2_become 13 = .ok (.putfield 15, 3) := by decide +kernel
theorem dX2_become_16 : decode cX2_become 16 = .ok (.aload_n 0, 1) := by decide +kernel
theorem dX2_become_17 : decode cX2_become 17 = .ok (.aload_n 1, 1) := by decide +kernel
theorem dX2_become_18 : decode cX2_become 18 = .ok (.getfield 19, 3) := by decide +kernel
theorem dX2_become_21 : decode cX2_become 21 = .ok (.putfield 19, 3) := by decide +kernel
theorem dX2_become_24 : decode cX2_become 24 = .ok (.aload_n 0, 1) := by decide +kernel
theorem dX2_become_25 : decode cX2_become 25 = .ok (.aload_n 1, 1) := by decide +kernel
theorem dX2_become_26 : decode cX2_become 26 = .ok (.getfield 22, 3) := by decide +kernel
theorem dX2_become_29 : decode cX2_become 29 = .ok (.putfield 22, 3) := by decide +kernel
theorem dX2_become_32 : decode cX2_become 32 = .ok (.aload_n 0, 1) := by decide +kernel
theorem dX2_become_33 : decode cX2_become 33 = .ok (.aload_n 1, 1) := by decide +kernel
theorem dX2_become_34 : decode cX2_become 34 = .ok (.getfield 25, 3) := by decide +kernel
theorem dX2_become_37 : decode cX2_become 37 = .ok (.putfield 25, 3) := by decide +kernel
theorem dX2_become_40 : decode cX2_become 40 = .ok (.aload_n 0, 1) := by decide +kernel
theorem dX2_become_41 : decode cX2_become 41 = .ok (.aload_n 1, 1) := by decide +kernel
theorem dX2_become_42 : decode cX2_become 42 = .ok (.getfield 28, 3) := by decide +kernel
theorem dX2_become_45 : decode cX2_become 45 = .ok (.putfield 28, 3) := by decide +kernel
theorem dX2_become_48 : decode cX2_become 48 = .ok (.aload_n 0, 1) := by decide +kernel
theorem dX2_become_49 : decode cX2_become 49 = .ok (.aload_n 1, 1) := by decide +kernel
theorem dX2_become_50 : decode cX2_become 50 = .ok (.getfield 31, 3) := by decide +kernel
theorem dX2_become_53 : decode cX2_become 53 = .ok (.putfield 31, 3) := by decide +kernel
theorem dX2_become_56 : decode cX2_become 56 = .ok (.aload_n 0, 1) := by decide +kernel
theorem dX2_become_57 : decode cX2_become 57 = .ok (.aload_n 1, 1) := by decide +kernel
theorem dX2_become_58 : decode cX2_become 58 = .ok (.getfield 34, 3) := by decide +kernel
theorem dX2_become_61 : decode cX2_become 61 = .ok (.putfield 34, 3) := by decide +kernel
theorem dX2_become_64 : decode cX2_become 64 = .ok (.aload_n 1, 1) := by decide +kernel
theorem dX2_become_65 : decode cX2_become 65 = .ok (.getfield 37, 3) := by decide +kernel
theorem dX2_become_68 : decode cX2_become 68 = .ok (.iconst 0, 1) := by decide +kernel
theorem dX2_become_69 : decode cX2_become 69 = .ok (.aload_n 0, 1) := by decide +kernel
theorem dX2_become_70 : decode cX2_become 70 = .ok (.getfield 37, 3) := by decide +kernel
theorem dX2_become_73 : decode cX2_become 73 = .ok (.iconst 0, 1) := by decide +kernel
theorem dX2_become_74 : decode cX2_become 74 = .ok (.bipush 12, 2) := by decide +kernel
theorem dX2_become_76 : decode cX2_become 76 = .ok (.invokestatic 57, 3) := by decide +kernel
theorem dX2_become_79 : decode cX2_become 79 = .ok (.aload_n 1, 1) := by decide +kernel
theorem dX2_become_80 : decode cX2_become 80 = .ok (.getfield 41, 3) := by decide +kernel
theorem dX2_become_83 : decode cX2_become 83 = .ok (.iconst 0, 1) := by decide +kernel
theorem dX2_become_84 : decode cX2_become 84 = .ok (.aload_n 0, 1) := by decide +kernel
theorem dX2_become_85 : decode cX2_become 85 = .ok (.getfield 41, 3) := by decide +kernel
theorem dX2_become_88 : decode cX2_become 88 = .ok (.iconst 0, 1) := by decide +kernel
theorem dX2_become_89 : decode cX2_become 89 = .ok (.bipush 32, 2) := by decide +kernel
theorem dX2_become_91 : decode cX2_become 91 = .ok (.invokestatic 57, 3) := by decide +kernel
theorem dX2_become_94 : decode cX2_become 94 = .ok (.iconst 0, 1) := by decide +kernel
theorem dX2_become_95 : decode cX2_become 95 = .ok (.istore_n 2, 1) := by decide +kernel
theorem dX2_become_96 : decode cX2_become 96 = .ok (.iload_n 2, 1) := by decide +kernel
theorem dX2_become_97 : decode cX2_become 97 = .ok (.iconst 5, 1) := by decide +kernel
theorem dX2_become_98 : decode cX2_become 98 = .ok (.if_icmp .ge 24, 3) := by decide +kernel
theorem dX2_become_101 : decode cX2_become 101 = .ok (.aload_n 0, 1) := by decide +kernel
theorem dX2_become_102 : decode cX2_become 102 = .ok (.getfield 46, 3) := by decide +kernel
theorem dX2_become_105 : decode cX2_become 105 = .ok (.iload_n 2, 1) := by decide +kernel
theorem dX2_become_106 : decode cX2_become 106 = .ok (.aaload, 1) := by decide +kernel
theorem dX2_become_107 : decode cX2_become 107 = .ok (.aload_n 1, 1) := by decide +kernel
theorem dX2_become_108 : decode cX2_become 108 = .ok (.getfield 46, 3) := by decide +kernel
theorem dX2_become_111 : decode cX2_become 111 = .ok (.iload_n 2, 1) := by decide +kernel
theorem dX2_become_112 : decode cX2_become 112 = .ok (.aaload, 1) := by decide +kernel
theorem dX2_become_113 : decode cX2_become 113 = .ok (.invokevirtual 63, 3) := by decide +kernel
theorem dX2_become_116 : decode cX2_become 116 = .ok (.iinc 2 1, 3) := by decide +kernel
theorem dX2_become_119 : decode cX2_become 119 = .ok (.goto (-23), 3) := by decide +kernel
theorem dX2_become_122 : decode cX2_become 122 = .ok (.return_, 1) := by decide +kernel
theorem dX2_blowing_0 : decode cX2_blowing 0 = .ok (.aload_n 0, 1) := by decide +kernel
theorem dX2_blowing_1 : decode cX2_blowing 1 = .ok (.getfield 37, 3) := by decide +kernel
theorem dX2_blowing_4 : decode cX2_blowing 4 = .ok (.iload_n 1, 1) := by decide +kernel
theorem dX2_blowing_5 : decode cX2_blowing 5 = .ok (.bipush 6, 2) := by decide +kernel
theorem dX2_blowing_7 : decode cX2_blowing 7 = .ok (.imul, 1) := by decide +kernel
theorem dX2_blowing_8 : decode cX2_blowing 8 = .ok (.iload_n 2, 1) := by decide +kernel
theorem dX2_blowing_9 : decode cX2_blowing 9 = .ok (.bipush 6, 2) := by decide +kernel
theorem dX2_blowing_11 : decode cX2_blowing 11 = .ok (.irem, 1) := by decide +kernel
theorem dX2_blowing_12 : decode cX2_blowing 12 = .ok (.iadd, 1) := by decide +kernel
theorem dX2_blowing_13 : decode cX2_blowing 13 = .ok (.iaload, 1) := by decide +kernel
theorem dX2_blowing_14 : decode cX2_blowing 14 = .ok (.ireturn, 1) := by decide +kernel
theorem dX2_cloudsOver_0 : decode cX2_cloudsOver 0 = .ok (.iconst 0, 1) := by decide +kernel
theorem dX2_cloudsOver_1 : decode cX2_cloudsOver 1 = .ok (.istore_n 2, 1) := by decide +kernel
theorem dX2_cloudsOver_2 : decode cX2_cloudsOver 2 = .ok (.iconst 0, 1) := by decide +kernel
theorem dX2_cloudsOver_3 : decode cX2_cloudsOver 3 = .ok (.istore_n 3, 1) := by decide +kernel
theorem dX2_cloudsOver_4 : decode cX2_cloudsOver 4 = .ok (.iload_n 3, 1) := by decide +kernel
theorem dX2_cloudsOver_5 : decode cX2_cloudsOver 5 = .ok (.aload_n 0, 1) := by decide +kernel
theorem dX2_cloudsOver_6 : decode cX2_cloudsOver 6 = .ok (.getfield 25, 3) := by decide +kernel
theorem dX2_cloudsOver_9 : decode cX2_cloudsOver 9 = .ok (.if_icmp .ge 40, 3) := by decide +kernel
theorem dX2_cloudsOver_12 : decode cX2_cloudsOver 12 = .ok (.aload_n 0, 1) := by decide +kernel
theorem dX2_cloudsOver_13 : decode cX2_cloudsOver 13 = .ok (.getfield 46, 3) := by decide +kernel
theorem dX2_cloudsOver_16 : decode cX2_cloudsOver 16 = .ok (.iload_n 3, 1) := by decide +kernel
theorem dX2_cloudsOver_17 : decode cX2_cloudsOver 17 = .ok (.aaload, 1) := by decide +kernel
theorem dX2_cloudsOver_18 : decode cX2_cloudsOver 18 = .ok (.getfield 67, 3) := by decide +kernel
theorem dX2_cloudsOver_21 : decode cX2_cloudsOver 21 = .ok (.ifCond .ne 22, 3) := by decide +kernel
theorem dX2_cloudsOver_24 : decode cX2_cloudsOver 24 = .ok (.aload_n 0, 1) := by decide +kernel
theorem dX2_cloudsOver_25 : decode cX2_cloudsOver 25 = .ok (.getfield 46, 3) := by decide +kernel
theorem dX2_cloudsOver_28 : decode cX2_cloudsOver 28 = .ok (.iload_n 3, 1) := by decide +kernel
theorem dX2_cloudsOver_29 : decode cX2_cloudsOver 29 = .ok (.aaload, 1) := by decide +kernel
theorem dX2_cloudsOver_30 : decode cX2_cloudsOver 30 = .ok (.getfield 70, 3) := by decide +kernel
theorem dX2_cloudsOver_33 : decode cX2_cloudsOver 33 = .ok (.iload_n 1, 1) := by decide +kernel
theorem dX2_cloudsOver_34 : decode cX2_cloudsOver 34 = .ok (.if_icmp .ne 9, 3) := by decide +kernel
theorem dX2_cloudsOver_37 : decode cX2_cloudsOver 37 = .ok (.iload_n 2, 1) := by decide +kernel
theorem dX2_cloudsOver_38 : decode cX2_cloudsOver 38 = .ok (.iconst 1, 1) := by decide +kernel
theorem dX2_cloudsOver_39 : decode cX2_cloudsOver 39 = .ok (.iload_n 3, 1) := by decide +kernel
theorem dX2_cloudsOver_40 : decode cX2_cloudsOver 40 = .ok (.ishl, 1) := by decide +kernel
theorem dX2_cloudsOver_41 : decode cX2_cloudsOver 41 = .ok (.ior, 1) := by decide +kernel
theorem dX2_cloudsOver_42 : decode cX2_cloudsOver 42 = .ok (.istore_n 2, 1) := by decide +kernel
theorem dX2_cloudsOver_43 : decode cX2_cloudsOver 43 = .ok (.iinc 3 1, 3) := by decide +kernel
theorem dX2_cloudsOver_46 : decode cX2_cloudsOver 46 = .ok (.goto (-42), 3) := by decide +kernel
theorem dX2_cloudsOver_49 : decode cX2_cloudsOver 49 = .ok (.iload_n 2, 1) := by decide +kernel
theorem dX2_cloudsOver_50 : decode cX2_cloudsOver 50 = .ok (.ireturn, 1) := by decide +kernel
theorem dX2_cloudsLeft_0 : decode cX2_cloudsLeft 0 = .ok (.iconst 0, 1) := by decide +kernel
theorem dX2_cloudsLeft_1 : decode cX2_cloudsLeft 1 = .ok (.istore_n 1, 1) := by decide +kernel
theorem dX2_cloudsLeft_2 : decode cX2_cloudsLeft 2 = .ok (.iconst 0, 1) := by decide +kernel
theorem dX2_cloudsLeft_3 : decode cX2_cloudsLeft 3 = .ok (.istore_n 2, 1) := by decide +kernel
theorem dX2_cloudsLeft_4 : decode cX2_cloudsLeft 4 = .ok (.iload_n 2, 1) := by decide +kernel
theorem dX2_cloudsLeft_5 : decode cX2_cloudsLeft 5 = .ok (.aload_n 0, 1) := by decide +kernel
theorem dX2_cloudsLeft_6 : decode cX2_cloudsLeft 6 = .ok (.getfield 25, 3) := by decide +kernel
theorem dX2_cloudsLeft_9 : decode cX2_cloudsLeft 9 = .ok (.if_icmp .ge 32, 3) := by decide +kernel
theorem dX2_cloudsLeft_12 : decode cX2_cloudsLeft 12 = .ok (.iload_n 1, 1) := by decide +kernel
theorem dX2_cloudsLeft_13 : decode cX2_cloudsLeft 13 = .ok (.aload_n 0, 1) := by decide +kernel
theorem dX2_cloudsLeft_14 : decode cX2_cloudsLeft 14 = .ok (.getfield 46, 3) := by decide +kernel
theorem dX2_cloudsLeft_17 : decode cX2_cloudsLeft 17 = .ok (.iload_n 2, 1) := by decide +kernel
theorem dX2_cloudsLeft_18 : decode cX2_cloudsLeft 18 = .ok (.aaload, 1) := by decide +kernel
theorem dX2_cloudsLeft_19 : decode cX2_cloudsLeft 19 = .ok (.getfield 67, 3) := by decide +kernel
theorem dX2_cloudsLeft_22 : decode cX2_cloudsLeft 22 = .ok (.ifCond .ne 7, 3) := by decide +kernel
theorem dX2_cloudsLeft_25 : decode cX2_cloudsLeft 25 = .ok (.iconst 1, 1) := by decide +kernel
theorem dX2_cloudsLeft_26 : decode cX2_cloudsLeft 26 = .ok (.goto 4, 3) := by decide +kernel
theorem dX2_cloudsLeft_29 : decode cX2_cloudsLeft 29 = .ok (.iconst 0, 1) := by decide +kernel
theorem dX2_cloudsLeft_30 : decode cX2_cloudsLeft 30 = .ok (.invokestatic 73, 3) := by decide +kernel
theorem dX2_cloudsLeft_33 : decode cX2_cloudsLeft 33 = .ok (.iadd, 1) := by decide +kernel
theorem dX2_cloudsLeft_34 : decode cX2_cloudsLeft 34 = .ok (.istore_n 1, 1) := by decide +kernel
theorem dX2_cloudsLeft_35 : decode cX2_cloudsLeft 35 = .ok (.iinc 2 1, 3) := by decide +kernel
theorem dX2_cloudsLeft_38 : decode cX2_cloudsLeft 38 = .ok (.goto (-34), 3) := by decide +kernel
theorem dX2_cloudsLeft_41 : decode cX2_cloudsLeft 41 = .ok (.iload_n 1, 1) := by decide +kernel
theorem dX2_cloudsLeft_42 : decode cX2_cloudsLeft 42 = .ok (.ireturn, 1) := by decide +kernel
theorem dX2_passHour_0 : decode cX2_passHour 0 = .ok (.aload_n 0, 1) := by decide +kernel
theorem dX2_passHour_1 : decode cX2_passHour 1 = .ok (.invokevirtual 77, 3) := by decide +kernel
theorem dX2_passHour_4 : decode cX2_passHour 4 = .ok (.aload_n 0, 1) := by decide +kernel
theorem dX2_passHour_5 : decode cX2_passHour 5 = .ok (.invokevirtual 80, 3) := by decide +kernel
theorem dX2_passHour_8 : decode cX2_passHour 8 = .ok (.aload_n 0, 1) := by decide +kernel
theorem dX2_passHour_9 : decode cX2_passHour 9 = .ok (.invokevirtual 83, 3) := by decide +kernel
theorem dX2_passHour_12 : decode cX2_passHour 12 = .ok (.aload_n 0, 1) := by decide +kernel
theorem dX2_passHour_13 : decode cX2_passHour 13 = .ok (.invokevirtual 86, 3) := by decide +kernel
theorem dX2_passHour_16 : decode cX2_passHour 16 = .ok (.aload_n 0, 1) := by decide +kernel
theorem dX2_passHour_17 : decode cX2_passHour 17 = .ok (.dup, 1) := by decide +kernel
theorem dX2_passHour_18 : decode cX2_passHour 18 = .ok (.getfield 28, 3) := by decide +kernel
theorem dX2_passHour_21 : decode cX2_passHour 21 = .ok (.iconst 1, 1) := by decide +kernel
theorem dX2_passHour_22 : decode cX2_passHour 22 = .ok (.iadd, 1) := by decide +kernel
theorem dX2_passHour_23 : decode cX2_passHour 23 = .ok (.putfield 28, 3) := by decide +kernel
theorem dX2_passHour_26 : decode cX2_passHour 26 = .ok (.return_, 1) := by decide +kernel
theorem dX2_passAlone_0 : decode cX2_passAlone 0 = .ok (.aload_n 0, 1) := by decide +kernel
theorem dX2_passAlone_1 : decode cX2_passAlone 1 = .ok (.aload_n 1, 1) := by decide +kernel
theorem dX2_passAlone_2 : decode cX2_passAlone 2 = .ok (.iload_n 2, 1) := by decide +kernel
theorem dX2_passAlone_3 : decode cX2_passAlone 3 = .ok (.invokevirtual 89, 3) := by decide +kernel
theorem dX2_passAlone_6 : decode cX2_passAlone 6 = .ok (.aload_n 0, 1) := by decide +kernel
theorem dX2_passAlone_7 : decode cX2_passAlone 7 = .ok (.aload_n 1, 1) := by decide +kernel
theorem dX2_passAlone_8 : decode cX2_passAlone 8 = .ok (.invokevirtual 93, 3) := by decide +kernel
theorem dX2_passAlone_11 : decode cX2_passAlone 11 = .ok (.istore_n 3, 1) := by decide +kernel
theorem dX2_passAlone_12 : decode cX2_passAlone 12 = .ok (.aload_n 0, 1) := by decide +kernel
theorem dX2_passAlone_13 : decode cX2_passAlone 13 = .ok (.aload_n 1, 1) := by decide +kernel
theorem dX2_passAlone_14 : decode cX2_passAlone 14 = .ok (.invokevirtual 97, 3) := by decide +kernel
theorem dX2_passAlone_17 : decode cX2_passAlone 17 = .ok (.pop, 1) := by decide +kernel
theorem dX2_passAlone_18 : decode cX2_passAlone 18 = .ok (.iload_n 3, 1) := by decide +kernel
theorem dX2_passAlone_19 : decode cX2_passAlone 19 = .ok (.ireturn, 1) := by decide +kernel
theorem dX2_driftAll_0 : decode cX2_driftAll 0 = .ok (.iconst 0, 1) := by decide +kernel
theorem dX2_driftAll_1 : decode cX2_driftAll 1 = .ok (.istore_n 1, 1) := by decide +kernel
theorem dX2_driftAll_2 : decode cX2_driftAll 2 = .ok (.iload_n 1, 1) := by decide +kernel
theorem dX2_driftAll_3 : decode cX2_driftAll 3 = .ok (.aload_n 0, 1) := by decide +kernel
theorem dX2_driftAll_4 : decode cX2_driftAll 4 = .ok (.getfield 25, 3) := by decide +kernel
theorem dX2_driftAll_7 : decode cX2_driftAll 7 = .ok (.if_icmp .ge 35, 3) := by decide +kernel
theorem dX2_driftAll_10 : decode cX2_driftAll 10 = .ok (.aload_n 0, 1) := by decide +kernel
theorem dX2_driftAll_11 : decode cX2_driftAll 11 = .ok (.getfield 46, 3) := by decide +kernel
theorem dX2_driftAll_14 : decode cX2_driftAll 14 = .ok (.iload_n 1, 1) := by decide +kernel
theorem dX2_driftAll_15 : decode cX2_driftAll 15 = .ok (.aaload, 1) := by decide +kernel
theorem dX2_driftAll_16 : decode cX2_driftAll 16 = .ok (.getfield 67, 3) := by decide +kernel
theorem dX2_driftAll_19 : decode cX2_driftAll 19 = .ok (.ifCond .ne 17, 3) := by decide +kernel
theorem dX2_driftAll_22 : decode cX2_driftAll 22 = .ok (.aload_n 0, 1) := by decide +kernel
theorem dX2_driftAll_23 : decode cX2_driftAll 23 = .ok (.aload_n 0, 1) := by decide +kernel
theorem dX2_driftAll_24 : decode cX2_driftAll 24 = .ok (.getfield 46, 3) := by decide +kernel
theorem dX2_driftAll_27 : decode cX2_driftAll 27 = .ok (.iload_n 1, 1) := by decide +kernel
theorem dX2_driftAll_28 : decode cX2_driftAll 28 = .ok (.aaload, 1) := by decide +kernel
theorem dX2_driftAll_29 : decode cX2_driftAll 29 = .ok (.aload_n 0, 1) := by decide +kernel
theorem dX2_driftAll_30 : decode cX2_driftAll 30 = .ok (.getfield 28, 3) := by decide +kernel
theorem dX2_driftAll_33 : decode cX2_driftAll 33 = .ok (.invokevirtual 89, 3) := by decide +kernel
theorem dX2_driftAll_36 : decode cX2_driftAll 36 = .ok (.iinc 1 1, 3) := by decide +kernel
theorem dX2_driftAll_39 : decode cX2_driftAll 39 = .ok (.goto (-37), 3) := by decide +kernel
theorem dX2_driftAll_42 : decode cX2_driftAll 42 = .ok (.return_, 1) := by decide +kernel
theorem dX2_driftOne_0 : decode cX2_driftOne 0 = .ok (.aload_n 1, 1) := by decide +kernel
theorem dX2_driftOne_1 : decode cX2_driftOne 1 = .ok (.aload_n 1, 1) := by decide +kernel
theorem dX2_driftOne_2 : decode cX2_driftOne 2 = .ok (.aload_n 1, 1) := by decide +kernel
theorem dX2_driftOne_3 : decode cX2_driftOne 3 = .ok (.getfield 70, 3) := by decide +kernel
theorem dX2_driftOne_6 : decode cX2_driftOne 6 = .ok (.aload_n 0, 1) := by decide +kernel
theorem dX2_driftOne_7 : decode cX2_driftOne 7 = .ok (.aload_n 1, 1) := by decide +kernel
theorem dX2_driftOne_8 : decode cX2_driftOne 8 = .ok (.getfield 100, 3) := by decide +kernel
theorem dX2_driftOne_11 : decode cX2_driftOne 11 = .ok (.iload_n 2, 1) := by decide +kernel
theorem dX2_driftOne_12 : decode cX2_driftOne 12 = .ok (.invokevirtual 103, 3) := by decide +kernel
theorem dX2_driftOne_15 : decode cX2_driftOne 15 = .ok (.invokevirtual 107, 3) := by decide +kernel
theorem dX2_driftOne_18 : decode cX2_driftOne 18 = .ok (.putfield 70, 3) := by decide +kernel
theorem dX2_driftOne_21 : decode cX2_driftOne 21 = .ok (.return_, 1) := by decide +kernel
theorem dX2_runTogether_0 : decode cX2_runTogether 0 = .ok (.aload_n 0, 1) := by decide +kernel
theorem dX2_runTogether_1 : decode cX2_runTogether 1 = .ok (.iconst 0, 1) := by decide +kernel
theorem dX2_runTogether_2 : decode cX2_runTogether 2 = .ok (.putfield 50, 3) := by decide +kernel
theorem dX2_runTogether_5 : decode cX2_runTogether 5 = .ok (.iconst 1, 1) := by decide +kernel
theorem dX2_runTogether_6 : decode cX2_runTogether 6 = .ok (.istore_n 1, 1) := by decide +kernel
theorem dX2_runTogether_7 : decode cX2_runTogether 7 = .ok (.iload_n 1, 1) := by decide +kernel
theorem dX2_runTogether_8 : decode cX2_runTogether 8 = .ok (.aload_n 0, 1) := by decide +kernel
theorem dX2_runTogether_9 : decode cX2_runTogether 9 = .ok (.getfield 25, 3) := by decide +kernel
theorem dX2_runTogether_12 : decode cX2_runTogether 12 = .ok (.if_icmp .ge 79, 3) := by decide +kernel
theorem dX2_runTogether_15 : decode cX2_runTogether 15 = .ok (.iconst 0, 1) := by decide +kernel
theorem dX2_runTogether_16 : decode cX2_runTogether 16 = .ok (.istore_n 2, 1) := by decide +kernel
theorem dX2_runTogether_17 : decode cX2_runTogether 17 = .ok (.iload_n 2, 1) := by decide +kernel
theorem dX2_runTogether_18 : decode cX2_runTogether 18 = .ok (.iload_n 1, 1) := by decide +kernel
theorem dX2_runTogether_19 : decode cX2_runTogether 19 = .ok (.if_icmp .ge 66, 3) := by decide +kernel
theorem dX2_runTogether_22 : decode cX2_runTogether 22 = .ok (.aload_n 0, 1) := by decide +kernel
theorem dX2_runTogether_23 : decode cX2_runTogether 23 = .ok (.getfield 46, 3) := by decide +kernel
theorem dX2_runTogether_26 : decode cX2_runTogether 26 = .ok (.iload_n 1, 1) := by decide +kernel
theorem dX2_runTogether_27 : decode cX2_runTogether 27 = .ok (.aaload, 1) := by decide +kernel
theorem dX2_runTogether_28 : decode cX2_runTogether 28 = .ok (.getfield 67, 3) := by decide +kernel
theorem dX2_runTogether_31 : decode cX2_runTogether 31 = .ok (.ifCond .ne 54, 3) := by decide +kernel
theorem dX2_runTogether_34 : decode cX2_runTogether 34 = .ok (.aload_n 0, 1) := by decide +kernel
theorem dX2_runTogether_35 : decode cX2_runTogether 35 = .ok (.getfield 46, 3) := by decide +kernel
theorem dX2_runTogether_38 : decode cX2_runTogether 38 = .ok (.iload_n 2, 1) := by decide +kernel
theorem dX2_runTogether_39 : decode cX2_runTogether 39 = .ok (.aaload, 1) := by decide +kernel
theorem dX2_runTogether_40 : decode cX2_runTogether 40 = .ok (.aload_n 0, 1) := by decide +kernel
theorem dX2_runTogether_41 : decode cX2_runTogether 41 = .ok (.getfield 46, 3) := by decide +kernel
theorem dX2_runTogether_44 : decode cX2_runTogether 44 = .ok (.iload_n 1, 1) := by decide +kernel
theorem dX2_runTogether_45 : decode cX2_runTogether 45 = .ok (.aaload, 1) := by decide +kernel
theorem dX2_runTogether_46 : decode cX2_runTogether 46 = .ok (.invokevirtual 110, 3) := by decide +kernel
theorem dX2_runTogether_49 : decode cX2_runTogether 49 = .ok (.ifCond .eq 30, 3) := by decide +kernel
theorem dX2_runTogether_52 : decode cX2_runTogether 52 = .ok (.aload_n 0, 1) := by decide +kernel
theorem dX2_runTogether_53 : decode cX2_runTogether 53 = .ok (.getfield 46, 3) := by decide +kernel
theorem dX2_runTogether_56 : decode cX2_runTogether 56 = .ok (.iload_n 2, 1) := by decide +kernel
theorem dX2_runTogether_57 : decode cX2_runTogether 57 = .ok (.aaload, 1) := by decide +kernel
theorem dX2_runTogether_58 : decode cX2_runTogether 58 = .ok (.aload_n 0, 1) := by decide +kernel
theorem dX2_runTogether_59 : decode cX2_runTogether 59 = .ok (.getfield 46, 3) := by decide +kernel
theorem dX2_runTogether_62 : decode cX2_runTogether 62 = .ok (.iload_n 1, 1) := by decide +kernel
theorem dX2_runTogether_63 : decode cX2_runTogether 63 = .ok (.aaload, 1) := by decide +kernel
theorem dX2_runTogether_64 : decode cX2_runTogether 64 = .ok (.invokevirtual 114, 3) := by decide +kernel
theorem dX2_runTogether_67 : decode cX2_runTogether 67 = .ok (.aload_n 0, 1) := by decide +kernel
theorem dX2_runTogether_68 : decode cX2_runTogether 68 = .ok (.dup, 1) := by decide +kernel
theorem dX2_runTogether_69 : decode cX2_runTogether 69 = .ok (.getfield 50, 3) := by decide +kernel
theorem dX2_runTogether_72 : decode cX2_runTogether 72 = .ok (.iconst 1, 1) := by decide +kernel
theorem dX2_runTogether_73 : decode cX2_runTogether 73 = .ok (.iload_n 1, 1) := by decide +kernel
theorem dX2_runTogether_74 : decode cX2_runTogether 74 = .ok (.ishl, 1) := by decide +kernel
theorem dX2_runTogether_75 : decode cX2_runTogether 75 = .ok (.ior, 1) := by decide +kernel
theorem dX2_runTogether_76 : decode cX2_runTogether 76 = .ok (.putfield 50, 3) := by decide +kernel
theorem dX2_runTogether_79 : decode cX2_runTogether 79 = .ok (.iinc 2 1, 3) := by decide +kernel
theorem dX2_runTogether_82 : decode cX2_runTogether 82 = .ok (.goto (-65), 3) := by decide +kernel
theorem dX2_runTogether_85 : decode cX2_runTogether 85 = .ok (.iinc 1 1, 3) := by decide +kernel
theorem dX2_runTogether_88 : decode cX2_runTogether 88 = .ok (.goto (-81), 3) := by decide +kernel
theorem dX2_runTogether_91 : decode cX2_runTogether 91 = .ok (.return_, 1) := by decide +kernel
theorem dX2_rainAll_0 : decode cX2_rainAll 0 = .ok (.aload_n 0, 1) := by decide +kernel
theorem dX2_rainAll_1 : decode cX2_rainAll 1 = .ok (.iconst 0, 1) := by decide +kernel
theorem dX2_rainAll_2 : decode cX2_rainAll 2 = .ok (.putfield 53, 3) := by decide +kernel
theorem dX2_rainAll_5 : decode cX2_rainAll 5 = .ok (.iconst 0, 1) := by decide +kernel
theorem dX2_rainAll_6 : decode cX2_rainAll 6 = .ok (.istore_n 1, 1) := by decide +kernel
theorem dX2_rainAll_7 : decode cX2_rainAll 7 = .ok (.iload_n 1, 1) := by decide +kernel
theorem dX2_rainAll_8 : decode cX2_rainAll 8 = .ok (.aload_n 0, 1) := by decide +kernel
theorem dX2_rainAll_9 : decode cX2_rainAll 9 = .ok (.getfield 25, 3) := by decide +kernel
theorem dX2_rainAll_12 : decode cX2_rainAll 12 = .ok (.if_icmp .ge 80, 3) := by decide +kernel
theorem dX2_rainAll_15 : decode cX2_rainAll 15 = .ok (.aload_n 0, 1) := by decide +kernel
theorem dX2_rainAll_16 : decode cX2_rainAll 16 = .ok (.getfield 46, 3) := by decide +kernel
theorem dX2_rainAll_19 : decode cX2_rainAll 19 = .ok (.iload_n 1, 1) := by decide +kernel
theorem dX2_rainAll_20 : decode cX2_rainAll 20 = .ok (.aaload, 1) := by decide +kernel
theorem dX2_rainAll_21 : decode cX2_rainAll 21 = .ok (.getfield 67, 3) := by decide +kernel
theorem dX2_rainAll_24 : decode cX2_rainAll 24 = .ok (.ifCond .ne 62, 3) := by decide +kernel
theorem dX2_rainAll_27 : decode cX2_rainAll 27 = .ok (.aload_n 0, 1) := by decide +kernel
theorem dX2_rainAll_28 : decode cX2_rainAll 28 = .ok (.dup, 1) := by decide +kernel
theorem dX2_rainAll_29 : decode cX2_rainAll 29 = .ok (.getfield 31, 3) := by decide +kernel
theorem dX2_rainAll_32 : decode cX2_rainAll 32 = .ok (.aload_n 0, 1) := by decide +kernel
theorem dX2_rainAll_33 : decode cX2_rainAll 33 = .ok (.aload_n 0, 1) := by decide +kernel
theorem dX2_rainAll_34 : decode cX2_rainAll 34 = .ok (.getfield 46, 3) := by decide +kernel
theorem dX2_rainAll_37 : decode cX2_rainAll 37 = .ok (.iload_n 1, 1) := by decide +kernel
theorem dX2_rainAll_38 : decode cX2_rainAll 38 = .ok (.aaload, 1) := by decide +kernel
theorem dX2_rainAll_39 : decode cX2_rainAll 39 = .ok (.invokevirtual 93, 3) := by decide +kernel
theorem dX2_rainAll_42 : decode cX2_rainAll 42 = .ok (.iadd, 1) := by decide +kernel
theorem dX2_rainAll_43 : decode cX2_rainAll 43 = .ok (.putfield 31, 3) := by decide +kernel
theorem dX2_rainAll_46 : decode cX2_rainAll 46 = .ok (.aload_n 0, 1) := by decide +kernel
theorem dX2_rainAll_47 : decode cX2_rainAll 47 = .ok (.dup, 1) := by decide +kernel
theorem dX2_rainAll_48 : decode cX2_rainAll 48 = .ok (.getfield 53, 3) := by decide +kernel
theorem dX2_rainAll_51 : decode cX2_rainAll 51 = .ok (.aload_n 0, 1) := by decide +kernel
theorem dX2_rainAll_52 : decode cX2_rainAll 52 = .ok (.getfield 41, 3) := by decide +kernel
theorem dX2_rainAll_55 : decode cX2_rainAll 55 = .ok (.aload_n 0, 1) := by decide +kernel
theorem dX2_rainAll_56 : decode cX2_rainAll 56 = .ok (.getfield 46, 3) := by decide +kernel
theorem dX2_rainAll_59 : decode cX2_rainAll 59 = .ok (.iload_n 1, 1) := by decide +kernel
theorem dX2_rainAll_60 : decode cX2_rainAll 60 = .ok (.aaload, 1) := by decide +kernel
theorem dX2_rainAll_61 : decode cX2_rainAll 61 = .ok (.getfield 70, 3) := by decide +kernel
theorem dX2_rainAll_64 : decode cX2_rainAll 64 = .ok (.iaload, 1) := by decide +kernel
theorem dX2_rainAll_65 : decode cX2_rainAll 65 = .ok (.iconst 2, 1) := by decide +kernel
theorem dX2_rainAll_66 : decode cX2_rainAll 66 = .ok (.if_icmp .ne 15, 3) := by decide +kernel
theorem dX2_rainAll_69 : decode cX2_rainAll 69 = .ok (.aload_n 0, 1) := by decide +kernel
theorem dX2_rainAll_70 : decode cX2_rainAll 70 = .ok (.getfield 46, 3) := by decide +kernel
theorem dX2_rainAll_73 : decode cX2_rainAll 73 = .ok (.iload_n 1, 1) := by decide +kernel
theorem dX2_rainAll_74 : decode cX2_rainAll 74 = .ok (.aaload, 1) := by decide +kernel
theorem dX2_rainAll_75 : decode cX2_rainAll 75 = .ok (.getfield 117, 3) := by decide +kernel
theorem dX2_rainAll_78 : decode cX2_rainAll 78 = .ok (.goto 4, 3) := by decide +kernel
theorem dX2_rainAll_81 : decode cX2_rainAll 81 = .ok (.iconst 0, 1) := by decide +kernel
theorem dX2_rainAll_82 : decode cX2_rainAll 82 = .ok (.iadd, 1) := by decide +kernel
theorem dX2_rainAll_83 : decode cX2_rainAll 83 = .ok (.putfield 53, 3) := by decide +kernel
theorem dX2_rainAll_86 : decode cX2_rainAll 86 = .ok (.iinc 1 1, 3) := by decide +kernel
theorem dX2_rainAll_89 : decode cX2_rainAll 89 = .ok (.goto (-82), 3) := by decide +kernel
theorem dX2_rainAll_92 : decode cX2_rainAll 92 = .ok (.return_, 1) := by decide +kernel
theorem dX2_rainOne_0 : decode cX2_rainOne 0 = .ok (.aload_n 0, 1) := by decide +kernel
theorem dX2_rainOne_1 : decode cX2_rainOne 1 = .ok (.getfield 41, 3) := by decide +kernel
theorem dX2_rainOne_4 : decode cX2_rainOne 4 = .ok (.aload_n 1, 1) := by decide +kernel
theorem dX2_rainOne_5 : decode cX2_rainOne 5 = .ok (.getfield 70, 3) := by decide +kernel
theorem dX2_rainOne_8 : decode cX2_rainOne 8 = .ok (.iaload, 1) := by decide +kernel
theorem dX2_rainOne_9 : decode cX2_rainOne 9 = .ok (.istore_n 2, 1) := by decide +kernel
theorem dX2_rainOne_10 : decode cX2_rainOne 10 = .ok (.aload_n 1, 1) := by decide +kernel
theorem dX2_rainOne_11 : decode cX2_rainOne 11 = .ok (.iload_n 2, 1) := by decide +kernel
theorem dX2_rainOne_12 : decode cX2_rainOne 12 = .ok (.invokevirtual 120, 3) := by decide +kernel
theorem dX2_rainOne_15 : decode cX2_rainOne 15 = .ok (.iload_n 2, 1) := by decide +kernel
theorem dX2_rainOne_16 : decode cX2_rainOne 16 = .ok (.iconst 1, 1) := by decide +kernel
theorem dX2_rainOne_17 : decode cX2_rainOne 17 = .ok (.if_icmp .ne 13, 3) := by decide +kernel
theorem dX2_rainOne_20 : decode cX2_rainOne 20 = .ok (.aload_n 0, 1) := by decide +kernel
theorem dX2_rainOne_21 : decode cX2_rainOne 21 = .ok (.getfield 15, 3) := by decide +kernel
theorem dX2_rainOne_24 : decode cX2_rainOne 24 = .ok (.aload_n 1, 1) := by decide +kernel
theorem dX2_rainOne_25 : decode cX2_rainOne 25 = .ok (.getfield 117, 3) := by decide +kernel
theorem dX2_rainOne_28 : decode cX2_rainOne 28 = .ok (.imul, 1) := by decide +kernel
theorem dX2_rainOne_29 : decode cX2_rainOne 29 = .ok (.ireturn, 1) := by decide +kernel
theorem dX2_rainOne_30 : decode cX2_rainOne 30 = .ok (.iload_n 2, 1) := by decide +kernel
theorem dX2_rainOne_31 : decode cX2_rainOne 31 = .ok (.iconst 2, 1) := by decide +kernel
theorem dX2_rainOne_32 : decode cX2_rainOne 32 = .ok (.if_icmp .ne 16, 3) := by decide +kernel
theorem dX2_rainOne_35 : decode cX2_rainOne 35 = .ok (.aload_n 0, 1) := by decide +kernel
theorem dX2_rainOne_36 : decode cX2_rainOne 36 = .ok (.getfield 19, 3) := by decide +kernel
theorem dX2_rainOne_39 : decode cX2_rainOne 39 = .ok (.ineg, 1) := by decide +kernel
theorem dX2_rainOne_40 : decode cX2_rainOne 40 = .ok (.aload_n 1, 1) := by decide +kernel
theorem dX2_rainOne_41 : decode cX2_rainOne 41 = .ok (.getfield 117, 3) := by decide +kernel
theorem dX2_rainOne_44 : decode cX2_rainOne 44 = .ok (.imul, 1) := by decide +kernel
theorem dX2_rainOne_45 : decode cX2_rainOne 45 = .ok (.goto 4, 3) := by decide +kernel
theorem dX2_rainOne_48 : decode cX2_rainOne 48 = .ok (.iconst 0, 1) := by decide +kernel
theorem dX2_rainOne_49 : decode cX2_rainOne 49 = .ok (.ireturn, 1) := by decide +kernel
theorem dX2_milkAll_0 : decode cX2_milkAll 0 = .ok (.iconst 0, 1) := by decide +kernel
theorem dX2_milkAll_1 : decode cX2_milkAll 1 = .ok (.istore_n 1, 1) := by decide +kernel
theorem dX2_milkAll_2 : decode cX2_milkAll 2 = .ok (.iload_n 1, 1) := by decide +kernel
theorem dX2_milkAll_3 : decode cX2_milkAll 3 = .ok (.aload_n 0, 1) := by decide +kernel
theorem dX2_milkAll_4 : decode cX2_milkAll 4 = .ok (.getfield 25, 3) := by decide +kernel
theorem dX2_milkAll_7 : decode cX2_milkAll 7 = .ok (.if_icmp .ge 28, 3) := by decide +kernel
theorem dX2_milkAll_10 : decode cX2_milkAll 10 = .ok (.aload_n 0, 1) := by decide +kernel
theorem dX2_milkAll_11 : decode cX2_milkAll 11 = .ok (.dup, 1) := by decide +kernel
theorem dX2_milkAll_12 : decode cX2_milkAll 12 = .ok (.getfield 34, 3) := by decide +kernel
theorem dX2_milkAll_15 : decode cX2_milkAll 15 = .ok (.aload_n 0, 1) := by decide +kernel
theorem dX2_milkAll_16 : decode cX2_milkAll 16 = .ok (.aload_n 0, 1) := by decide +kernel
theorem dX2_milkAll_17 : decode cX2_milkAll 17 = .ok (.getfield 46, 3) := by decide +kernel
theorem dX2_milkAll_20 : decode cX2_milkAll 20 = .ok (.iload_n 1, 1) := by decide +kernel
theorem dX2_milkAll_21 : decode cX2_milkAll 21 = .ok (.aaload, 1) := by decide +kernel
theorem dX2_milkAll_22 : decode cX2_milkAll 22 = .ok (.invokevirtual 97, 3) := by decide +kernel
theorem dX2_milkAll_25 : decode cX2_milkAll 25 = .ok (.iadd, 1) := by decide +kernel
theorem dX2_milkAll_26 : decode cX2_milkAll 26 = .ok (.putfield 34, 3) := by decide +kernel
theorem dX2_milkAll_29 : decode cX2_milkAll 29 = .ok (.iinc 1 1, 3) := by decide +kernel
theorem dX2_milkAll_32 : decode cX2_milkAll 32 = .ok (.goto (-30), 3) := by decide +kernel
theorem dX2_milkAll_35 : decode cX2_milkAll 35 = .ok (.return_, 1) := by decide +kernel
theorem dX2_milkOne_0 : decode cX2_milkOne 0 = .ok (.aload_n 1, 1) := by decide +kernel
theorem dX2_milkOne_1 : decode cX2_milkOne 1 = .ok (.getfield 100, 3) := by decide +kernel
theorem dX2_milkOne_4 : decode cX2_milkOne 4 = .ok (.ifCond .ne 23, 3) := by decide +kernel
theorem dX2_milkOne_7 : decode cX2_milkOne 7 = .ok (.aload_n 1, 1) := by decide +kernel
theorem dX2_milkOne_8 : decode cX2_milkOne 8 = .ok (.getfield 124, 3) := by decide +kernel
theorem dX2_milkOne_11 : decode cX2_milkOne 11 = .ok (.ifCond .eq 16, 3) := by decide +kernel
theorem dX2_milkOne_14 : decode cX2_milkOne 14 = .ok (.aload_n 0, 1) := by decide +kernel
theorem dX2_milkOne_15 : decode cX2_milkOne 15 = .ok (.getfield 41, 3) := by decide +kernel
theorem dX2_milkOne_18 : decode cX2_milkOne 18 = .ok (.aload_n 1, 1) := by decide +kernel
theorem dX2_milkOne_19 : decode cX2_milkOne 19 = .ok (.getfield 70, 3) := by decide +kernel
theorem dX2_milkOne_22 : decode cX2_milkOne 22 = .ok (.iaload, 1) := by decide +kernel
theorem dX2_milkOne_23 : decode cX2_milkOne 23 = .ok (.iconst 3, 1) := by decide +kernel
theorem dX2_milkOne_24 : decode cX2_milkOne 24 = .ok (.if_icmp .eq 5, 3) := by decide +kernel
theorem dX2_milkOne_27 : decode cX2_milkOne 27 = .ok (.iconst 0, 1) := by decide +kernel
theorem dX2_milkOne_28 : decode cX2_milkOne 28 = .ok (.ireturn, 1) := by decide +kernel
theorem dX2_milkOne_29 : decode cX2_milkOne 29 = .ok (.aload_n 1, 1) := by decide +kernel
theorem dX2_milkOne_30 : decode cX2_milkOne 30 = .ok (.dup, 1) := by decide +kernel
theorem dX2_milkOne_31 : decode cX2_milkOne 31 = .ok (.getfield 124, 3) := by decide +kernel
theorem dX2_milkOne_34 : decode cX2_milkOne 34 = .ok (.iconst 1, 1) := by decide +kernel
theorem dX2_milkOne_35 : decode cX2_milkOne 35 = .ok (.isub, 1) := by decide +kernel
theorem dX2_milkOne_36 : decode cX2_milkOne 36 = .ok (.putfield 124, 3) := by decide +kernel
theorem dX2_milkOne_39 : decode cX2_milkOne 39 = .ok (.iconst 1, 1) := by decide +kernel
theorem dX2_milkOne_40 : decode cX2_milkOne 40 = .ok (.ireturn, 1) := by decide +kernel
theorem dX3_init_0 : decode cX3_init 0 = .ok (.aload_n 0, 1) := by decide +kernel
theorem dX3_init_1 : decode cX3_init 1 = .ok (.invokespecial 3, 3) := by decide +kernel
theorem dX3_init_4 : decode cX3_init 4 = .ok (.aload_n 0, 1) := by decide +kernel
theorem dX3_init_5 : decode cX3_init 5 = .ok (.iconst 0, 1) := by decide +kernel
theorem dX3_init_6 : decode cX3_init 6 = .ok (.putfield 9, 3) := by decide +kernel
theorem dX3_init_9 : decode cX3_init 9 = .ok (.aload_n 0, 1) := by decide +kernel
theorem dX3_init_10 : decode cX3_init 10 = .ok (.iconst 0, 1) := by decide +kernel
theorem dX3_init_11 : decode cX3_init 11 = .ok (.putfield 15, 3) := by decide +kernel
theorem dX3_init_14 : decode cX3_init 14 = .ok (.aload_n 0, 1) := by decide +kernel
theorem dX3_init_15 : decode cX3_init 15 = .ok (.iconst 0, 1) := by decide +kernel
theorem dX3_init_16 : decode cX3_init 16 = .ok (.putfield 19, 3) := by decide +kernel
theorem dX3_init_19 : decode cX3_init 19 = .ok (.aload_n 0, 1) := by decide +kernel
theorem dX3_init_20 : decode cX3_init 20 = .ok (.bipush 40, 2) := by decide +kernel
theorem dX3_init_22 : decode cX3_init 22 = .ok (.newarray .int, 2) := by decide +kernel
theorem dX3_init_24 : decode cX3_init 24 = .ok (.putfield 22, 3) := by decide +kernel
theorem dX3_init_27 : decode cX3_init 27 = .ok (.return_, 1) := by decide +kernel
theorem dX3_begin_0 : decode cX3_begin 0 = .ok (.aload_n 0, 1) := by decide +kernel
theorem dX3_begin_1 : decode cX3_begin 1 = .ok (.iconst 1, 1) := by decide +kernel
theorem dX3_begin_2 : decode cX3_begin 2 = .ok (.putfield 9, 3) := by decide +kernel
theorem dX3_begin_5 : decode cX3_begin 5 = .ok (.aload_n 0, 1) := by decide +kernel
theorem dX3_begin_6 : decode cX3_begin 6 = .ok (.iload_n 1, 1) := by decide +kernel
theorem dX3_begin_7 : decode cX3_begin 7 = .ok (.putfield 15, 3) := by decide +kernel
theorem dX3_begin_10 : decode cX3_begin 10 = .ok (.aload_n 0, 1) := by decide +kernel
theorem dX3_begin_11 : decode cX3_begin 11 = .ok (.iload_n 2, 1) := by decide +kernel
theorem dX3_begin_12 : decode cX3_begin 12 = .ok (.putfield 19, 3) := by decide +kernel
theorem dX3_begin_15 : decode cX3_begin 15 = .ok (.iconst 0, 1) := by decide +kernel
theorem dX3_begin_16 : decode cX3_begin 16 = .ok (.istore_n 3, 1) := by decide +kernel
theorem dX3_begin_17 : decode cX3_begin 17 = .ok (.iload_n 3, 1) := by decide +kernel
theorem dX3_begin_18 : decode cX3_begin 18 = .ok (.iload_n 2, 1) := by decide +kernel
theorem dX3_begin_19 : decode cX3_begin 19 = .ok (.if_icmp .ge 16, 3) := by decide +kernel
theorem dX3_begin_22 : decode cX3_begin 22 = .ok (.aload_n 0, 1) := by decide +kernel
theorem dX3_begin_23 : decode cX3_begin 23 = .ok (.getfield 22, 3) := by decide +kernel
theorem dX3_begin_26 : decode cX3_begin 26 = .ok (.iload_n 3, 1) := by decide +kernel
theorem dX3_begin_27 : decode cX3_begin 27 = .ok (.iconst 0, 1) := by decide +kernel
theorem dX3_begin_28 : decode cX3_begin 28 = .ok (.iastore, 1) := by decide +kernel
theorem dX3_begin_29 : decode cX3_begin 29 = .ok (.iinc 3 1, 3) := by decide +kernel
theorem dX3_begin_32 : decode cX3_begin 32 = .ok (.goto (-15), 3) := by decide +kernel
theorem dX3_begin_35 : decode cX3_begin 35 = .ok (.return_, 1) := by decide +kernel
theorem dX3_has_0 : decode cX3_has 0 = .ok (.iload_n 1, 1) := by decide +kernel
theorem dX3_has_1 : decode cX3_has 1 = .ok (.ifCond .lt 29, 3) := by decide +kernel
theorem dX3_has_4 : decode cX3_has 4 = .ok (.iload_n 2, 1) := by decide +kernel
theorem dX3_has_5 : decode cX3_has 5 = .ok (.ifCond .lt 25, 3) := by decide +kernel
theorem dX3_has_8 : decode cX3_has 8 = .ok (.iload_n 2, 1) := by decide +kernel
theorem dX3_has_9 : decode cX3_has 9 = .ok (.aload_n 0, 1) := by decide +kernel
theorem dX3_has_10 : decode cX3_has 10 = .ok (.getfield 19, 3) := by decide +kernel
theorem dX3_has_13 : decode cX3_has 13 = .ok (.if_icmp .gt 17, 3) := by decide +kernel
theorem dX3_has_16 : decode cX3_has 16 = .ok (.iload_n 1, 1) := by decide +kernel
theorem dX3_has_17 : decode cX3_has 17 = .ok (.aload_n 0, 1) := by decide +kernel
theorem dX3_has_18 : decode cX3_has 18 = .ok (.getfield 19, 3) := by decide +kernel
theorem dX3_has_21 : decode cX3_has 21 = .ok (.iload_n 2, 1) := by decide +kernel
theorem dX3_has_22 : decode cX3_has 22 = .ok (.isub, 1) := by decide +kernel
theorem dX3_has_23 : decode cX3_has 23 = .ok (.if_icmp .gt 7, 3) := by decide +kernel
theorem dX3_has_26 : decode cX3_has 26 = .ok (.iconst 1, 1) := by decide +kernel
theorem dX3_has_27 : decode cX3_has 27 = .ok (.goto 4, 3) := by decide +kernel
theorem dX3_has_30 : decode cX3_has 30 = .ok (.iconst 0, 1) := by decide +kernel
theorem dX3_has_31 : decode cX3_has 31 = .ok (.ireturn, 1) := by decide +kernel
theorem dX3_lack_0 : decode cX3_lack 0 = .ok (.aload_n 0, 1) := by decide +kernel
theorem dX3_lack_1 : decode cX3_lack 1 = .ok (.getfield 9, 3) := by decide +kernel
theorem dX3_lack_4 : decode cX3_lack 4 = .ok (.ifCond .ne 5, 3) := by decide +kernel
theorem dX3_lack_7 : decode cX3_lack 7 = .ok (.iconst 1, 1) := by decide +kernel
theorem dX3_lack_8 : decode cX3_lack 8 = .ok (.ireturn, 1) := by decide +kernel
theorem dX3_lack_9 : decode cX3_lack 9 = .ok (.aload_n 0, 1) := by decide +kernel
theorem dX3_lack_10 : decode cX3_lack 10 = .ok (.iload_n 1, 1) := by decide +kernel
theorem dX3_lack_11 : decode cX3_lack 11 = .ok (.iload_n 2, 1) := by decide +kernel
theorem dX3_lack_12 : decode cX3_lack 12 = .ok (.invokevirtual 26, 3) := by decide +kernel
theorem dX3_lack_15 : decode cX3_lack 15 = .ok (.ifCond .eq 7, 3) := by decide +kernel
theorem dX3_lack_18 : decode cX3_lack 18 = .ok (.iconst 0, 1) := by decide +kernel
theorem dX3_lack_19 : decode cX3_lack 19 = .ok (.goto 4, 3) := by decide +kernel
theorem dX3_lack_22 : decode cX3_lack 22 = .ok (.iconst 2, 1) := by decide +kernel
theorem dX3_lack_23 : decode cX3_lack 23 = .ok (.ireturn, 1) := by decide +kernel
theorem dX3_put_0 : decode cX3_put 0 = .ok (.aload_n 0, 1) := by decide +kernel
theorem dX3_put_1 : decode cX3_put 1 = .ok (.getfield 22, 3) := by decide +kernel
theorem dX3_put_4 : decode cX3_put 4 = .ok (.iload_n 1, 1) := by decide +kernel
theorem dX3_put_5 : decode cX3_put 5 = .ok (.aload_n 0, 1) := by decide +kernel
theorem dX3_put_6 : decode cX3_put 6 = .ok (.getfield 15, 3) := by decide +kernel
theorem dX3_put_9 : decode cX3_put 9 = .ok (.ifCond .ne 8, 3) := by decide +kernel
theorem dX3_put_12 : decode cX3_put 12 = .ok (.iload_n 2, 1) := by decide +kernel
theorem dX3_put_13 : decode cX3_put 13 = .ok (.i2b, 1) := by decide +kernel
theorem dX3_put_14 : decode cX3_put 14 = .ok (.goto 17, 3) := by decide +kernel
theorem dX3_put_17 : decode cX3_put 17 = .ok (.aload_n 0, 1) := by decide +kernel
theorem dX3_put_18 : decode cX3_put 18 = .ok (.getfield 15, 3) := by decide +kernel
theorem dX3_put_21 : decode cX3_put 21 = .ok (.iconst 1, 1) := by decide +kernel
theorem dX3_put_22 : decode cX3_put 22 = .ok (.if_icmp .ne 8, 3) := by decide +kernel
theorem dX3_put_25 : decode cX3_put 25 = .ok (.iload_n 2, 1) := by decide +kernel
theorem dX3_put_26 : decode cX3_put 26 = .ok (.i2s, 1) := by decide +kernel
theorem dX3_put_27 : decode cX3_put 27 = .ok (.goto 4, 3) := by decide +kernel
theorem dX3_put_30 : decode cX3_put 30 = .ok (.iload_n 2, 1) := by decide +kernel
theorem dX3_put_31 : decode cX3_put 31 = .ok (.iastore, 1) := by decide +kernel
theorem dX3_put_32 : decode cX3_put 32 = .ok (.aload_n 0, 1) := by decide +kernel
theorem dX3_put_33 : decode cX3_put 33 = .ok (.getfield 22, 3) := by decide +kernel
theorem dX3_put_36 : decode cX3_put 36 = .ok (.iload_n 1, 1) := by decide +kernel
theorem dX3_put_37 : decode cX3_put 37 = .ok (.iaload, 1) := by decide +kernel
theorem dX3_put_38 : decode cX3_put 38 = .ok (.ireturn, 1) := by decide +kernel
theorem dX4_init_0 : decode cX4_init 0 = .ok (.aload_n 0, 1) := by decide +kernel
theorem dX4_init_1 : decode cX4_init 1 = .ok (.invokespecial 3, 3) := by decide +kernel
theorem dX4_init_4 : decode cX4_init 4 = .ok (.aload_n 0, 1) := by decide +kernel
theorem dX4_init_5 : decode cX4_init 5 = .ok (.bipush 120, 2) := by decide +kernel
theorem dX4_init_7 : decode cX4_init 7 = .ok (.newarray .int, 2) := by decide +kernel
theorem dX4_init_9 : decode cX4_init 9 = .ok (.putfield 9, 3) := by decide +kernel
theorem dX4_init_12 : decode cX4_init 12 = .ok (.aload_n 0, 1) := by decide +kernel
theorem dX4_init_13 : decode cX4_init 13 = .ok (.iconst 0, 1) := by decide +kernel
theorem dX4_init_14 : decode cX4_init 14 = .ok (.putfield 15, 3) := by decide +kernel
theorem dX4_init_17 : decode cX4_init 17 = .ok (.aload_n 0, 1) := by decide +kernel
theorem dX4_init_18 : decode cX4_init 18 = .ok (.iconst 0, 1) := by decide +kernel
theorem dX4_init_19 : decode cX4_init 19 = .ok (.putfield 19, 3) := by decide +kernel
theorem dX4_init_22 : decode cX4_init 22 = .ok (.aload_n 0, 1) := by decide +kernel
theorem dX4_init_23 : decode cX4_init 23 = .ok (.iconst 0, 1) := by decide +kernel
theorem dX4_init_24 : decode cX4_init 24 = .ok (.putfield 22, 3) := by decide +kernel
theorem dX4_init_27 : decode cX4_init 27 = .ok (.aload_n 0, 1) := by decide +kernel
theorem dX4_init_28 : decode cX4_init 28 = .ok (.bipush (-3), 2) := by decide +kernel
theorem dX4_init_30 : decode cX4_init 30 = .ok (.putfield 25, 3) := by decide +kernel
theorem dX4_init_33 : decode cX4_init 33 = .ok (.aload_n 0, 1) := by decide +kernel
theorem dX4_init_34 : decode cX4_init 34 = .ok (.iconst 0, 1) := by decide +kernel
theorem dX4_init_35 : decode cX4_init 35 = .ok (.putfield 28, 3) := by decide +kernel
theorem dX4_init_38 : decode cX4_init 38 = .ok (.aload_n 0, 1) := by decide +kernel
theorem dX4_init_39 : decode cX4_init 39 = .ok (.iconst 0, 1) := by decide +kernel
theorem dX4_init_40 : decode cX4_init 40 = .ok (.putfield 31, 3) := by decide +kernel
theorem dX4_init_43 : decode cX4_init 43 = .ok (.return_, 1) := by decide +kernel
theorem dX4_add_0 : decode cX4_add 0 = .ok (.aload_n 0, 1) := by decide +kernel
theorem dX4_add_1 : decode cX4_add 1 = .ok (.getfield 15, 3) := by decide +kernel
theorem dX4_add_4 : decode cX4_add 4 = .ok (.bipush 120, 2) := by decide +kernel
theorem dX4_add_6 : decode cX4_add 6 = .ok (.if_icmp .lt 5, 3) := by decide +kernel
theorem dX4_add_9 : decode cX4_add 9 = .ok (.iconst 0, 1) := by decide +kernel
theorem dX4_add_10 : decode cX4_add 10 = .ok (.ireturn, 1) := by decide +kernel
theorem dX4_add_11 : decode cX4_add 11 = .ok (.aload_n 0, 1) := by decide +kernel
theorem dX4_add_12 : decode cX4_add 12 = .ok (.getfield 9, 3) := by decide +kernel
theorem dX4_add_15 : decode cX4_add 15 = .ok (.aload_n 0, 1) := by decide +kernel
theorem dX4_add_16 : decode cX4_add 16 = .ok (.getfield 15, 3) := by decide +kernel
theorem dX4_add_19 : decode cX4_add 19 = .ok (.iload_n 1, 1) := by decide +kernel
theorem dX4_add_20 : decode cX4_add 20 = .ok (.iastore, 1) := by decide +kernel
theorem dX4_add_21 : decode cX4_add 21 = .ok (.aload_n 0, 1) := by decide +kernel
theorem dX4_add_22 : decode cX4_add 22 = .ok (.dup, 1) := by decide +kernel
theorem dX4_add_23 : decode cX4_add 23 = .ok (.getfield 15, 3) := by decide +kernel
theorem dX4_add_26 : decode cX4_add 26 = .ok (.iconst 1, 1) := by decide +kernel
theorem dX4_add_27 : decode cX4_add 27 = .ok (.iadd, 1) := by decide +kernel
theorem dX4_add_28 : decode cX4_add 28 = .ok (.putfield 15, 3) := by decide +kernel
theorem dX4_add_31 : decode cX4_add 31 = .ok (.iconst 1, 1) := by decide +kernel
theorem dX4_add_32 : decode cX4_add 32 = .ok (.ireturn, 1) := by decide +kernel
theorem dX4_read_0 : decode cX4_read 0 = .ok (.aload_n 0, 1) := by decide +kernel
theorem dX4_read_1 : decode cX4_read 1 = .ok (.iconst 0, 1) := by decide +kernel
theorem dX4_read_2 : decode cX4_read 2 = .ok (.putfield 31, 3) := by decide +kernel
theorem dX4_read_5 : decode cX4_read 5 = .ok (.aload_n 0, 1) := by decide +kernel
theorem dX4_read_6 : decode cX4_read 6 = .ok (.iconst 0, 1) := by decide +kernel
theorem dX4_read_7 : decode cX4_read 7 = .ok (.putfield 22, 3) := by decide +kernel
theorem dX4_read_10 : decode cX4_read 10 = .ok (.aload_n 0, 1) := by decide +kernel
theorem dX4_read_11 : decode cX4_read 11 = .ok (.invokevirtual 34, 3) := by decide +kernel
theorem dX4_read_14 : decode cX4_read 14 = .ok (.aload_n 1, 1) := by decide +kernel
theorem dX4_read_15 : decode cX4_read 15 = .ok (.invokevirtual 37, 3) := by decide +kernel
theorem dX4_read_18 : decode cX4_read 18 = .ok (.aload_n 0, 1) := by decide +kernel
theorem dX4_read_19 : decode cX4_read 19 = .ok (.aload_n 1, 1) := by decide +kernel
theorem dX4_read_20 : decode cX4_read 20 = .ok (.invokevirtual 42, 3) := by decide +kernel
theorem dX4_read_23 : decode cX4_read 23 = .ok (.aload_n 0, 1) := by decide +kernel
theorem dX4_read_24 : decode cX4_read 24 = .ok (.aload_n 1, 1) := by decide +kernel
theorem dX4_read_25 : decode cX4_read 25 = .ok (.bipush 108, 2) := by decide +kernel
theorem dX4_read_27 : decode cX4_read 27 = .ok (.iconst 0, 1) := by decide +kernel
theorem dX4_read_28 : decode cX4_read 28 = .ok (.invokevirtual 46, 3) := by decide +kernel
theorem dX4_read_31 : decode cX4_read 31 = .ok (.aload_n 0, 1) := by decide +kernel
theorem dX4_read_32 : decode cX4_read 32 = .ok (.aload_n 1, 1) := by decide +kernel
theorem dX4_read_33 : decode cX4_read 33 = .ok (.bipush 117, 2) := by decide +kernel
theorem dX4_read_35 : decode cX4_read 35 = .ok (.iconst 1, 1) := by decide +kernel
theorem dX4_read_36 : decode cX4_read 36 = .ok (.invokevirtual 46, 3) := by decide +kernel
theorem dX4_read_39 : decode cX4_read 39 = .ok (.aload_n 0, 1) := by decide +kernel
theorem dX4_read_40 : decode cX4_read 40 = .ok (.aload_n 1, 1) := by decide +kernel
theorem dX4_read_41 : decode cX4_read 41 = .ok (.invokevirtual 50, 3) := by decide +kernel
theorem dX4_read_44 : decode cX4_read 44 = .ok (.aload_n 0, 1) := by decide +kernel
theorem dX4_read_45 : decode cX4_read 45 = .ok (.aload_n 1, 1) := by decide +kernel
theorem dX4_read_46 : decode cX4_read 46 = .ok (.invokevirtual 53, 3) := by decide +kernel
theorem dX4_read_49 : decode cX4_read 49 = .ok (.aload_n 0, 1) := by decide +kernel
theorem dX4_read_50 : decode cX4_read 50 = .ok (.getfield 31, 3) := by decide +kernel
theorem dX4_read_53 : decode cX4_read 53 = .ok (.ifCond .ne 17, 3) := by decide +kernel
theorem dX4_read_56 : decode cX4_read 56 = .ok (.aload_n 0, 1) := by decide +kernel
theorem dX4_read_57 : decode cX4_read 57 = .ok (.getfield 25, 3) := by decide +kernel
theorem dX4_read_60 : decode cX4_read 60 = .ok (.bipush (-3), 2) := by decide +kernel
theorem dX4_read_62 : decode cX4_read 62 = .ok (.if_icmp .eq 8, 3) := by decide +kernel
theorem dX4_read_65 : decode cX4_read 65 = .ok (.aload_n 0, 1) := by decide +kernel
theorem dX4_read_66 : decode cX4_read 66 = .ok (.iconst 1, 1) := by decide +kernel
theorem dX4_read_67 : decode cX4_read 67 = .ok (.putfield 31, 3) := by decide +kernel
theorem dX4_read_70 : decode cX4_read 70 = .ok (.return_, 1) := by decide +kernel
theorem dX4_readLaw_0 : decode cX4_readLaw 0 = .ok (.aload_n 0, 1) := by decide +kernel
theorem dX4_readLaw_1 : decode cX4_readLaw 1 = .ok (.bipush 107, 2) := by decide +kernel
theorem dX4_readLaw_3 : decode cX4_readLaw 3 = .ok (.invokevirtual 56, 3) := by decide +kernel
theorem dX4_readLaw_6 : decode cX4_readLaw 6 = .ok (.aload_n 1, 1) := by decide +kernel
theorem dX4_readLaw_7 : decode cX4_readLaw 7 = .ok (.aload_n 0, 1) := by decide +kernel
theorem dX4_readLaw_8 : decode cX4_readLaw 8 = .ok (.iconst 1, 1) := by decide +kernel
theorem dX4_readLaw_9 : decode cX4_readLaw 9 = .ok (.bipush 9, 2) := by decide +kernel
theorem dX4_readLaw_11 : decode cX4_readLaw 11 = .ok (.iconst 0, 1) := by decide +kernel
theorem dX4_readLaw_12 : decode cX4_readLaw 12 = .ok (.invokevirtual 60, 3) := by decide +kernel
theorem dX4_readLaw_15 : decode cX4_readLaw 15 = .ok (.putfield 64, 3) := by decide +kernel
theorem dX4_readLaw_18 : decode cX4_readLaw 18 = .ok (.aload_n 0, 1) := by decide +kernel
theorem dX4_readLaw_19 : decode cX4_readLaw 19 = .ok (.bipush 44, 2) := by decide +kernel
theorem dX4_readLaw_21 : decode cX4_readLaw 21 = .ok (.invokevirtual 56, 3) := by decide +kernel
theorem dX4_readLaw_24 : decode cX4_readLaw 24 = .ok (.aload_n 1, 1) := by decide +kernel
theorem dX4_readLaw_25 : decode cX4_readLaw 25 = .ok (.aload_n 0, 1) := by decide +kernel
theorem dX4_readLaw_26 : decode cX4_readLaw 26 = .ok (.iconst 0, 1) := by decide +kernel
theorem dX4_readLaw_27 : decode cX4_readLaw 27 = .ok (.bipush 9, 2) := by decide +kernel
theorem dX4_readLaw_29 : decode cX4_readLaw 29 = .ok (.iconst 0, 1) := by decide +kernel
theorem dX4_readLaw_30 : decode cX4_readLaw 30 = .ok (.invokevirtual 60, 3) := by decide +kernel
theorem dX4_readLaw_33 : decode cX4_readLaw 33 = .ok (.putfield 67, 3) := by decide +kernel
theorem dX4_readLaw_36 : decode cX4_readLaw 36 = .ok (.aload_n 0, 1) := by decide +kernel
theorem dX4_readLaw_37 : decode cX4_readLaw 37 = .ok (.bipush 59, 2) := by decide +kernel
theorem dX4_readLaw_39 : decode cX4_readLaw 39 = .ok (.invokevirtual 56, 3) := by decide +kernel
theorem dX4_readLaw_42 : decode cX4_readLaw 42 = .ok (.return_, 1) := by decide +kernel
theorem dX4_readWind_0 : decode cX4_readWind 0 = .ok (.aload_n 0, 1) := by decide +kernel
theorem dX4_readWind_1 : decode cX4_readWind 1 = .ok (.iload_n 2, 1) := by decide +kernel
theorem dX4_readWind_2 : decode cX4_readWind 2 = .ok (.invokevirtual 56, 3) := by decide +kernel
theorem dX4_readWind_5 : decode cX4_readWind 5 = .ok (.iconst 0, 1) := by decide +kernel
theorem dX4_readWind_6 : decode cX4_readWind 6 = .ok (.istore 4, 2) := by decide +kernel
theorem dX4_readWind_8 : decode cX4_readWind 8 = .ok (.iload 4, 2) := by decide +kernel
theorem dX4_readWind_10 : decode cX4_readWind 10 = .ok (.bipush 6, 2) := by decide +kernel
theorem dX4_readWind_12 : decode cX4_readWind 12 = .ok (.if_icmp .ge 25, 3) := by decide +kernel
theorem dX4_readWind_15 : decode cX4_readWind 15 = .ok (.aload_n 1, 1) := by decide +kernel
theorem dX4_readWind_16 : decode cX4_readWind 16 = .ok (.getfield 70, 3) := by decide +kernel
theorem dX4_readWind_19 : decode cX4_readWind 19 = .ok (.iload_n 3, 1) := by decide +kernel
theorem dX4_readWind_20 : decode cX4_readWind 20 = .ok (.bipush 6, 2) := by decide +kernel
theorem dX4_readWind_22 : decode cX4_readWind 22 = .ok (.imul, 1) := by decide +kernel
theorem dX4_readWind_23 : decode cX4_readWind 23 = .ok (.iload 4, 2) := by decide +kernel
theorem dX4_readWind_25 : decode cX4_readWind 25 = .ok (.iadd, 1) := by decide +kernel
theorem dX4_readWind_26 : decode cX4_readWind 26 = .ok (.aload_n 0, 1) := by decide +kernel
theorem dX4_readWind_27 : decode cX4_readWind 27 = .ok (.invokevirtual 73, 3) := by decide +kernel
theorem dX4_readWind_30 : decode cX4_readWind 30 = .ok (.iastore, 1) := by decide +kernel
theorem dX4_readWind_31 : decode cX4_readWind 31 = .ok (.iinc 4 1, 3) := by decide +kernel
theorem dX4_readWind_34 : decode cX4_readWind 34 = .ok (.goto (-26), 3) := by decide +kernel
theorem dX4_readWind_37 : decode cX4_readWind 37 = .ok (.aload_n 0, 1) := by decide +kernel
theorem dX4_readWind_38 : decode cX4_readWind 38 = .ok (.bipush 59, 2) := by decide +kernel
theorem dX4_readWind_40 : decode cX4_readWind 40 = .ok (.invokevirtual 56, 3) := by decide +kernel
theorem dX4_readWind_43 : decode cX4_readWind 43 = .ok (.return_, 1) := by decide +kernel
theorem dX4_readParishes_0 : decode cX4_readParishes 0 = .ok (.iconst 0, 1) := by decide +kernel
theorem dX4_readParishes_1 : decode cX4_readParishes 1 = .ok (.istore_n 2, 1) := by decide +kernel
theorem dX4_readParishes_2 : decode cX4_readParishes 2 = .ok (.iconst 0, 1) := by decide +kernel
theorem dX4_readParishes_3 : decode cX4_readParishes 3 = .ok (.istore_n 3, 1) := by decide +kernel
theorem dX4_readParishes_4 : decode cX4_readParishes 4 = .ok (.iload_n 3, 1) := by decide +kernel
theorem dX4_readParishes_5 : decode cX4_readParishes 5 = .ok (.bipush 8, 2) := by decide +kernel
theorem dX4_readParishes_7 : decode cX4_readParishes 7 = .ok (.if_icmp .gt 90, 3) := by decide +kernel
theorem dX4_readParishes_10 : decode cX4_readParishes 10 = .ok (.aload_n 0, 1) := by decide +kernel
theorem dX4_readParishes_11 : decode cX4_readParishes 11 = .ok (.getfield 31, 3) := by decide +kernel
theorem dX4_readParishes_14 : decode cX4_readParishes 14 = .ok (.ifCond .ne 83, 3) := by decide +kernel
theorem dX4_readParishes_17 : decode cX4_readParishes 17 = .ok (.aload_n 0, 1) := by decide +kernel
theorem dX4_readParishes_18 : decode cX4_readParishes 18 = .ok (.getfield 25, 3) := by decide +kernel
theorem dX4_readParishes_21 : decode cX4_readParishes 21 = .ok (.invokestatic 77, 3) := by decide +kernel
theorem dX4_readParishes_24 : decode cX4_readParishes 24 = .ok (.ifCond .eq 73, 3) := by decide +kernel
theorem dX4_readParishes_27 : decode cX4_readParishes 27 = .ok (.iload_n 3, 1) := by decide +kernel
theorem dX4_readParishes_28 : decode cX4_readParishes 28 = .ok (.bipush 8, 2) := by decide +kernel
theorem dX4_readParishes_30 : decode cX4_readParishes 30 = .ok (.if_icmp .ne 9, 3) := by decide +kernel
theorem dX4_readParishes_33 : decode cX4_readParishes 33 = .ok (.aload_n 0, 1) := by decide +kernel
theorem dX4_readParishes_34 : decode cX4_readParishes 34 = .ok (.iconst 3, 1) := by decide +kernel
theorem dX4_readParishes_35 : decode cX4_readParishes 35 = .ok (.putfield 31, 3) := by decide +kernel
theorem dX4_readParishes_38 : decode cX4_readParishes 38 = .ok (.return_, 1) := by decide +kernel
theorem dX4_readParishes_39 : decode cX4_readParishes 39 = .ok (.aload_n 0, 1) := by decide +kernel
theorem dX4_readParishes_40 : decode cX4_readParishes 40 = .ok (.getfield 25, 3) := by decide +kernel
theorem dX4_readParishes_43 : decode cX4_readParishes 43 = .ok (.invokestatic 77, 3) := by decide +kernel
theorem dX4_readParishes_46 : decode cX4_readParishes 46 = .ok (.istore 4, 2) := by decide +kernel
theorem dX4_readParishes_48 : decode cX4_readParishes 48 = .ok (.aload_n 0, 1) := by decide +kernel
theorem dX4_readParishes_49 : decode cX4_readParishes 49 = .ok (.invokevirtual 34, 3) := by decide +kernel
theorem dX4_readParishes_52 : decode cX4_readParishes 52 = .ok (.aload_n 0, 1) := by decide +kernel
theorem dX4_readParishes_53 : decode cX4_readParishes 53 = .ok (.iconst 0, 1) := by decide +kernel
theorem dX4_readParishes_54 : decode cX4_readParishes 54 = .ok (.bipush 31, 2) := by decide +kernel
theorem dX4_readParishes_56 : decode cX4_readParishes 56 = .ok (.iload_n 2, 1) := by decide +kernel
theorem dX4_readParishes_57 : decode cX4_readParishes 57 = .ok (.invokevirtual 60, 3) := by decide +kernel
theorem dX4_readParishes_60 : decode cX4_readParishes 60 = .ok (.istore 5, 2) := by decide +kernel
theorem dX4_readParishes_62 : decode cX4_readParishes 62 = .ok (.aload_n 0, 1) := by decide +kernel
theorem dX4_readParishes_63 : decode cX4_readParishes 63 = .ok (.bipush 59, 2) := by decide +kernel
theorem dX4_readParishes_65 : decode cX4_readParishes 65 = .ok (.invokevirtual 56, 3) := by decide +kernel
theorem dX4_readParishes_68 : decode cX4_readParishes 68 = .ok (.aload_n 1, 1) := by decide +kernel
theorem dX4_readParishes_69 : decode cX4_readParishes 69 = .ok (.getfield 81, 3) := by decide +kernel
theorem dX4_readParishes_72 : decode cX4_readParishes 72 = .ok (.iload 5, 2) := by decide +kernel
theorem dX4_readParishes_74 : decode cX4_readParishes 74 = .ok (.iload 4, 2) := by decide +kernel
theorem dX4_readParishes_76 : decode cX4_readParishes 76 = .ok (.iastore, 1) := by decide +kernel
theorem dX4_readParishes_77 : decode cX4_readParishes 77 = .ok (.aload_n 1, 1) := by decide +kernel
theorem dX4_readParishes_78 : decode cX4_readParishes 78 = .ok (.iload_n 3, 1) := by decide +kernel
theorem dX4_readParishes_79 : decode cX4_readParishes 79 = .ok (.iconst 1, 1) := by decide +kernel
theorem dX4_readParishes_80 : decode cX4_readParishes 80 = .ok (.iadd, 1) := by decide +kernel
theorem dX4_readParishes_81 : decode cX4_readParishes 81 = .ok (.putfield 84, 3) := by decide +kernel
theorem dX4_readParishes_84 : decode cX4_readParishes 84 = .ok (.iload_n 2, 1) := by decide +kernel
theorem dX4_readParishes_85 : decode cX4_readParishes 85 = .ok (.iconst 1, 1) := by decide +kernel
theorem dX4_readParishes_86 : decode cX4_readParishes 86 = .ok (.iload 5, 2) := by decide +kernel
theorem dX4_readParishes_88 : decode cX4_readParishes 88 = .ok (.ishl, 1) := by decide +kernel
theorem dX4_readParishes_89 : decode cX4_readParishes 89 = .ok (.ior, 1) := by decide +kernel
theorem dX4_readParishes_90 : decode cX4_readParishes 90 = .ok (.istore_n 2, 1) := by decide +kernel
theorem dX4_readParishes_91 : decode cX4_readParishes 91 = .ok (.iinc 3 1, 3) := by decide +kernel
theorem dX4_readParishes_94 : decode cX4_readParishes 94 = .ok (.goto (-90), 3) := by decide +kernel
theorem dX4_readParishes_97 : decode cX4_readParishes 97 = .ok (.return_, 1) := by decide +kernel
theorem dX4_readClouds_0 : decode cX4_readClouds 0 = .ok (.iconst 0, 1) := by decide +kernel
theorem dX4_readClouds_1 : decode cX4_readClouds 1 = .ok (.istore_n 2, 1) := by decide +kernel
theorem dX4_readClouds_2 : decode cX4_readClouds 2 = .ok (.iconst 0, 1) := by decide +kernel
theorem dX4_readClouds_3 : decode cX4_readClouds 3 = .ok (.istore_n 3, 1) := by decide +kernel
theorem dX4_readClouds_4 : decode cX4_readClouds 4 = .ok (.iload_n 3, 1) := by decide +kernel
theorem dX4_readClouds_5 : decode cX4_readClouds 5 = .ok (.iconst 5, 1) := by decide +kernel
theorem dX4_readClouds_6 : decode cX4_readClouds 6 = .ok (.if_icmp .gt 111, 3) := by decide +kernel
theorem dX4_readClouds_9 : decode cX4_readClouds 9 = .ok (.aload_n 0, 1) := by decide +kernel
theorem dX4_readClouds_10 : decode cX4_readClouds 10 = .ok (.getfield 31, 3) := by decide +kernel
theorem dX4_readClouds_13 : decode cX4_readClouds 13 = .ok (.ifCond .ne 104, 3) := by decide +kernel
theorem dX4_readClouds_16 : decode cX4_readClouds 16 = .ok (.aload_n 0, 1) := by decide +kernel
theorem dX4_readClouds_17 : decode cX4_readClouds 17 = .ok (.getfield 25, 3) := by decide +kernel
theorem dX4_readClouds_20 : decode cX4_readClouds 20 = .ok (.invokestatic 87, 3) := by decide +kernel
theorem dX4_readClouds_23 : decode cX4_readClouds 23 = .ok (.ifCond .eq 94, 3) := by decide +kernel
theorem dX4_readClouds_26 : decode cX4_readClouds 26 = .ok (.iload_n 3, 1) := by decide +kernel
theorem dX4_readClouds_27 : decode cX4_readClouds 27 = .ok (.iconst 5, 1) := by decide +kernel
theorem dX4_readClouds_28 : decode cX4_readClouds 28 = .ok (.if_icmp .ne 9, 3) := by decide +kernel
theorem dX4_readClouds_31 : decode cX4_readClouds 31 = .ok (.aload_n 0, 1) := by decide +kernel
theorem dX4_readClouds_32 : decode cX4_readClouds 32 = .ok (.iconst 3, 1) := by decide +kernel
theorem dX4_readClouds_33 : decode cX4_readClouds 33 = .ok (.putfield 31, 3) := by decide +kernel
theorem dX4_readClouds_36 : decode cX4_readClouds 36 = .ok (.return_, 1) := by decide +kernel
theorem dX4_readClouds_37 : decode cX4_readClouds 37 = .ok (.aload_n 0, 1) := by decide +kernel
theorem dX4_readClouds_38 : decode cX4_readClouds 38 = .ok (.getfield 25, 3) := by decide +kernel
theorem dX4_readClouds_41 : decode cX4_readClouds 41 = .ok (.invokestatic 87, 3) := by decide +kernel
theorem dX4_readClouds_44 : decode cX4_readClouds 44 = .ok (.istore 4, 2) := by decide +kernel
theorem dX4_readClouds_46 : decode cX4_readClouds 46 = .ok (.aload_n 0, 1) := by decide +kernel
theorem dX4_readClouds_47 : decode cX4_readClouds 47 = .ok (.invokevirtual 34, 3) := by decide +kernel
theorem dX4_readClouds_50 : decode cX4_readClouds 50 = .ok (.aload_n 0, 1) := by decide +kernel
theorem dX4_readClouds_51 : decode cX4_readClouds 51 = .ok (.iconst 0, 1) := by decide +kernel
theorem dX4_readClouds_52 : decode cX4_readClouds 52 = .ok (.bipush 31, 2) := by decide +kernel
theorem dX4_readClouds_54 : decode cX4_readClouds 54 = .ok (.iload_n 2, 1) := by decide +kernel
theorem dX4_readClouds_55 : decode cX4_readClouds 55 = .ok (.invokevirtual 60, 3) := by decide +kernel
theorem dX4_readClouds_58 : decode cX4_readClouds 58 = .ok (.istore 5, 2) := by decide +kernel
theorem dX4_readClouds_60 : decode cX4_readClouds 60 = .ok (.aload_n 0, 1) := by decide +kernel
theorem dX4_readClouds_61 : decode cX4_readClouds 61 = .ok (.bipush 44, 2) := by decide +kernel
theorem dX4_readClouds_63 : decode cX4_readClouds 63 = .ok (.invokevirtual 56, 3) := by decide +kernel
theorem dX4_readClouds_66 : decode cX4_readClouds 66 = .ok (.aload_n 0, 1) := by decide +kernel
theorem dX4_readClouds_67 : decode cX4_readClouds 67 = .ok (.iconst 0, 1) := by decide +kernel
theorem dX4_readClouds_68 : decode cX4_readClouds 68 = .ok (.bipush 20, 2) := by decide +kernel
theorem dX4_readClouds_70 : decode cX4_readClouds 70 = .ok (.iconst 0, 1) := by decide +kernel
theorem dX4_readClouds_71 : decode cX4_readClouds 71 = .ok (.invokevirtual 60, 3) := by decide +kernel
theorem dX4_readClouds_74 : decode cX4_readClouds 74 = .ok (.istore 6, 2) := by decide +kernel
theorem dX4_readClouds_76 : decode cX4_readClouds 76 = .ok (.aload_n 0, 1) := by decide +kernel
theorem dX4_readClouds_77 : decode cX4_readClouds 77 = .ok (.bipush 59, 2) := by decide +kernel
theorem dX4_readClouds_79 : decode cX4_readClouds 79 = .ok (.invokevirtual 56, 3) := by decide +kernel
theorem dX4_readClouds_82 : decode cX4_readClouds 82 = .ok (.aload_n 1, 1) := by decide +kernel
theorem dX4_readClouds_83 : decode cX4_readClouds 83 = .ok (.getfield 90, 3) := by decide +kernel
theorem dX4_readClouds_86 : decode cX4_readClouds 86 = .ok (.iload_n 3, 1) := by decide +kernel
theorem dX4_readClouds_87 : decode cX4_readClouds 87 = .ok (.aaload, 1) := by decide +kernel
theorem dX4_readClouds_88 : decode cX4_readClouds 88 = .ok (.iload 4, 2) := by decide +kernel
theorem dX4_readClouds_90 : decode cX4_readClouds 90 = .ok (.iload 5, 2) := by decide +kernel
theorem dX4_readClouds_92 : decode cX4_readClouds 92 = .ok (.iload 6, 2) := by decide +kernel
theorem dX4_readClouds_94 : decode cX4_readClouds 94 = .ok (.invokevirtual 94, 3) := by decide +kernel
theorem dX4_readClouds_97 : decode cX4_readClouds 97 = .ok (.aload_n 1, 1) := by decide +kernel
theorem dX4_readClouds_98 : decode cX4_readClouds 98 = .ok (.iload_n 3, 1) := by decide +kernel
theorem dX4_readClouds_99 : decode cX4_readClouds 99 = .ok (.iconst 1, 1) := by decide +kernel
theorem dX4_readClouds_100 : decode cX4_readClouds 100 = .ok (.iadd, 1) := by decide +kernel
theorem dX4_readClouds_101 : decode cX4_readClouds 101 = .ok (.putfield 99, 3) := by decide +kernel
theorem dX4_readClouds_104 : decode cX4_readClouds 104 = .ok (.iload_n 2, 1) := by decide +kernel
theorem dX4_readClouds_105 : decode cX4_readClouds 105 = .ok (.iconst 1, 1) := by decide +kernel
theorem dX4_readClouds_106 : decode cX4_readClouds 106 = .ok (.iload 5, 2) := by decide +kernel
theorem dX4_readClouds_108 : decode cX4_readClouds 108 = .ok (.ishl, 1) := by decide +kernel
theorem dX4_readClouds_109 : decode cX4_readClouds 109 = .ok (.ior, 1) := by decide +kernel
theorem dX4_readClouds_110 : decode cX4_readClouds 110 = .ok (.istore_n 2, 1) := by decide +kernel
theorem dX4_readClouds_111 : decode cX4_readClouds 111 = .ok (.iinc 3 1, 3) := by decide +kernel
theorem dX4_readClouds_114 : decode cX4_readClouds 114 = .ok (.goto (-110), 3) := by decide +kernel
theorem dX4_readClouds_117 : decode cX4_readClouds 117 = .ok (.return_, 1) := by decide +kernel
theorem dX4_takeSign_0 : decode cX4_takeSign 0 = .ok (.aload_n 0, 1) := by decide +kernel
theorem dX4_takeSign_1 : decode cX4_takeSign 1 = .ok (.getfield 31, 3) := by decide +kernel
theorem dX4_takeSign_4 : decode cX4_takeSign 4 = .ok (.ifCond .ne 16, 3) := by decide +kernel
theorem dX4_takeSign_7 : decode cX4_takeSign 7 = .ok (.aload_n 0, 1) := by decide +kernel
theorem dX4_takeSign_8 : decode cX4_takeSign 8 = .ok (.getfield 25, 3) := by decide +kernel
theorem dX4_takeSign_11 : decode cX4_takeSign 11 = .ok (.iload_n 1, 1) := by decide +kernel
theorem dX4_takeSign_12 : decode cX4_takeSign 12 = .ok (.if_icmp .eq 8, 3) := by decide +kernel
theorem dX4_takeSign_15 : decode cX4_takeSign 15 = .ok (.aload_n 0, 1) := by decide +kernel
theorem dX4_takeSign_16 : decode cX4_takeSign 16 = .ok (.iconst 1, 1) := by decide +kernel
theorem dX4_takeSign_17 : decode cX4_takeSign 17 = .ok (.putfield 31, 3) := by decide +kernel
theorem dX4_takeSign_20 : decode cX4_takeSign 20 = .ok (.aload_n 0, 1) := by decide +kernel
theorem dX4_takeSign_21 : decode cX4_takeSign 21 = .ok (.getfield 31, 3) := by decide +kernel
theorem dX4_takeSign_24 : decode cX4_takeSign 24 = .ok (.ifCond .ne 7, 3) := by decide +kernel
theorem dX4_takeSign_27 : decode cX4_takeSign 27 = .ok (.aload_n 0, 1) := by decide +kernel
theorem dX4_takeSign_28 : decode cX4_takeSign 28 = .ok (.invokevirtual 34, 3) := by decide +kernel
theorem dX4_takeSign_31 : decode cX4_takeSign 31 = .ok (.return_, 1) := by decide +kernel
theorem dX4_takeDirection_0 : decode cX4_takeDirection 0 = .ok (.aload_n 0, 1) := by decide +kernel
theorem dX4_takeDirection_1 : decode cX4_takeDirection 1 = .ok (.getfield 25, 3) := by decide +kernel
theorem dX4_takeDirection_4 : decode cX4_takeDirection 4 = .ok (.invokestatic 102, 3) := by decide +kernel
theorem dX4_takeDirection_7 : decode cX4_takeDirection 7 = .ok (.istore_n 1, 1) := by decide +kernel
theorem dX4_takeDirection_8 : decode cX4_takeDirection 8 = .ok (.aload_n 0, 1) := by decide +kernel
theorem dX4_takeDirection_9 : decode cX4_takeDirection 9 = .ok (.getfield 31, 3) := by decide +kernel
theorem dX4_takeDirection_12 : decode cX4_takeDirection 12 = .ok (.ifCond .ne 12, 3) := by decide +kernel
theorem dX4_takeDirection_15 : decode cX4_takeDirection 15 = .ok (.iload_n 1, 1) := by decide +kernel
theorem dX4_takeDirection_16 : decode cX4_takeDirection 16 = .ok (.ifCond .ge 8, 3) := by decide +kernel
theorem dX4_takeDirection_19 : decode cX4_takeDirection 19 = .ok (.aload_n 0, 1) := by decide +kernel
theorem dX4_takeDirection_20 : decode cX4_takeDirection 20 = .ok (.iconst 1, 1) := by decide +kernel
theorem dX4_takeDirection_21 : decode cX4_takeDirection 21 = .ok (.putfield 31, 3) := by decide +kernel
theorem dX4_takeDirection_24 : decode cX4_takeDirection 24 = .ok (.aload_n 0, 1) := by decide +kernel
theorem dX4_takeDirection_25 : decode cX4_takeDirection 25 = .ok (.getfield 31, 3) := by decide +kernel
theorem dX4_takeDirection_28 : decode cX4_takeDirection 28 = .ok (.ifCond .eq 5, 3) := by decide +kernel
theorem dX4_takeDirection_31 : decode cX4_takeDirection 31 = .ok (.iconst 0, 1) := by decide +kernel
theorem dX4_takeDirection_32 : decode cX4_takeDirection 32 = .ok (.ireturn, 1) := by decide +kernel
theorem dX4_takeDirection_33 : decode cX4_takeDirection 33 = .ok (.aload_n 0, 1) := by decide +kernel
theorem dX4_takeDirection_34 : decode cX4_takeDirection 34 = .ok (.invokevirtual 34, 3) := by decide +kernel
theorem dX4_takeDirection_37 : decode cX4_takeDirection 37 = .ok (.iload_n 1, 1) := by decide +kernel
theorem dX4_takeDirection_38 : decode cX4_takeDirection 38 = .ok (.ireturn, 1) := by decide +kernel
theorem dX4_takeNumber_0 : decode cX4_takeNumber 0 = .ok (.aload_n 0, 1) := by decide +kernel
theorem dX4_takeNumber_1 : decode cX4_takeNumber 1 = .ok (.getfield 31, 3) := by decide +kernel
theorem dX4_takeNumber_4 : decode cX4_takeNumber 4 = .ok (.ifCond .ne 16, 3) := by decide +kernel
theorem dX4_takeNumber_7 : decode cX4_takeNumber 7 = .ok (.aload_n 0, 1) := by decide +kernel
theorem dX4_takeNumber_8 : decode cX4_takeNumber 8 = .ok (.getfield 25, 3) := by decide +kernel
theorem dX4_takeNumber_11 : decode cX4_takeNumber 11 = .ok (.iconst (-1), 1) := by decide +kernel
theorem dX4_takeNumber_12 : decode cX4_takeNumber 12 = .ok (.if_icmp .eq 8, 3) := by decide +kernel
theorem dX4_takeNumber_15 : decode cX4_takeNumber 15 = .ok (.aload_n 0, 1) := by decide +kernel
theorem dX4_takeNumber_16 : decode cX4_takeNumber 16 = .ok (.iconst 1, 1) := by decide +kernel
theorem dX4_takeNumber_17 : decode cX4_takeNumber 17 = .ok (.putfield 31, 3) := by decide +kernel
theorem dX4_takeNumber_20 : decode cX4_takeNumber 20 = .ok (.aload_n 0, 1) := by decide +kernel
theorem dX4_takeNumber_21 : decode cX4_takeNumber 21 = .ok (.getfield 31, 3) := by decide +kernel
theorem dX4_takeNumber_24 : decode cX4_takeNumber 24 = .ok (.ifCond .ne 31, 3) := by decide +kernel
theorem dX4_takeNumber_27 : decode cX4_takeNumber 27 = .ok (.aload_n 0, 1) := by decide +kernel
theorem dX4_takeNumber_28 : decode cX4_takeNumber 28 = .ok (.getfield 28, 3) := by decide +kernel
theorem dX4_takeNumber_31 : decode cX4_takeNumber 31 = .ok (.iload_n 1, 1) := by decide +kernel
theorem dX4_takeNumber_32 : decode cX4_takeNumber 32 = .ok (.iload_n 2, 1) := by decide +kernel
theorem dX4_takeNumber_33 : decode cX4_takeNumber 33 = .ok (.invokestatic 105, 3) := by decide +kernel
theorem dX4_takeNumber_36 : decode cX4_takeNumber 36 = .ok (.ifCond .eq 14, 3) := by decide +kernel
theorem dX4_takeNumber_39 : decode cX4_takeNumber 39 = .ok (.iload_n 3, 1) := by decide +kernel
theorem dX4_takeNumber_40 : decode cX4_takeNumber 40 = .ok (.aload_n 0, 1) := by decide +kernel
theorem dX4_takeNumber_41 : decode cX4_takeNumber 41 = .ok (.getfield 28, 3) := by decide +kernel
theorem dX4_takeNumber_44 : decode cX4_takeNumber 44 = .ok (.iushr, 1) := by decide +kernel
theorem dX4_takeNumber_45 : decode cX4_takeNumber 45 = .ok (.iconst 1, 1) := by decide +kernel
theorem dX4_takeNumber_46 : decode cX4_takeNumber 46 = .ok (.iand, 1) := by decide +kernel
theorem dX4_takeNumber_47 : decode cX4_takeNumber 47 = .ok (.ifCond .eq 8, 3) := by decide +kernel
theorem dX4_takeNumber_50 : decode cX4_takeNumber 50 = .ok (.aload_n 0, 1) := by decide +kernel
theorem dX4_takeNumber_51 : decode cX4_takeNumber 51 = .ok (.iconst 2, 1) := by decide +kernel
theorem dX4_takeNumber_52 : decode cX4_takeNumber 52 = .ok (.putfield 31, 3) := by decide +kernel
theorem dX4_takeNumber_55 : decode cX4_takeNumber 55 = .ok (.aload_n 0, 1) := by decide +kernel
theorem dX4_takeNumber_56 : decode cX4_takeNumber 56 = .ok (.getfield 31, 3) := by decide +kernel
theorem dX4_takeNumber_59 : decode cX4_takeNumber 59 = .ok (.ifCond .eq 5, 3) := by decide +kernel
theorem dX4_takeNumber_62 : decode cX4_takeNumber 62 = .ok (.iload_n 1, 1) := by decide +kernel
theorem dX4_takeNumber_63 : decode cX4_takeNumber 63 = .ok (.ireturn, 1) := by decide +kernel
theorem dX4_takeNumber_64 : decode cX4_takeNumber 64 = .ok (.aload_n 0, 1) := by decide +kernel
theorem dX4_takeNumber_65 : decode cX4_takeNumber 65 = .ok (.getfield 28, 3) := by decide +kernel
theorem dX4_takeNumber_68 : decode cX4_takeNumber 68 = .ok (.istore 4, 2) := by decide +kernel
theorem dX4_takeNumber_70 : decode cX4_takeNumber 70 = .ok (.aload_n 0, 1) := by decide +kernel
theorem dX4_takeNumber_71 : decode cX4_takeNumber 71 = .ok (.invokevirtual 34, 3) := by decide +kernel
theorem dX4_takeNumber_74 : decode cX4_takeNumber 74 = .ok (.iload 4, 2) := by decide +kernel
theorem dX4_takeNumber_76 : decode cX4_takeNumber 76 = .ok (.ireturn, 1) := by decide +kernel
theorem dX4_look_0 : decode cX4_look 0 = .ok (.aload_n 0, 1) := by decide +kernel
theorem dX4_look_1 : decode cX4_look 1 = .ok (.aload_n 0, 1) := by decide +kernel
theorem dX4_look_2 : decode cX4_look 2 = .ok (.getfield 22, 3) := by decide +kernel
theorem dX4_look_5 : decode cX4_look 5 = .ok (.putfield 19, 3) := by decide +kernel
theorem dX4_look_8 : decode cX4_look 8 = .ok (.aload_n 0, 1) := by decide +kernel
theorem dX4_look_9 : decode cX4_look 9 = .ok (.getfield 19, 3) := by decide +kernel
theorem dX4_look_12 : decode cX4_look 12 = .ok (.aload_n 0, 1) := by decide +kernel
theorem dX4_look_13 : decode cX4_look 13 = .ok (.getfield 15, 3) := by decide +kernel
theorem dX4_look_16 : decode cX4_look 16 = .ok (.if_icmp .lt 12, 3) := by decide +kernel
theorem dX4_look_19 : decode cX4_look 19 = .ok (.aload_n 0, 1) := by decide +kernel
theorem dX4_look_20 : decode cX4_look 20 = .ok (.bipush (-3), 2) := by decide +kernel
theorem dX4_look_22 : decode cX4_look 22 = .ok (.putfield 25, 3) := by decide +kernel
theorem dX4_look_25 : decode cX4_look 25 = .ok (.goto 64, 3) := by decide +kernel
theorem dX4_look_28 : decode cX4_look 28 = .ok (.aload_n 0, 1) := by decide +kernel
theorem dX4_look_29 : decode cX4_look 29 = .ok (.aload_n 0, 1) := by decide +kernel
theorem dX4_look_30 : decode cX4_look 30 = .ok (.getfield 19, 3) := by decide +kernel
theorem dX4_look_33 : decode cX4_look 33 = .ok (.invokevirtual 109, 3) := by decide +kernel
theorem dX4_look_36 : decode cX4_look 36 = .ok (.ifCond .eq 10, 3) := by decide +kernel
theorem dX4_look_39 : decode cX4_look 39 = .ok (.aload_n 0, 1) := by decide +kernel
theorem dX4_look_40 : decode cX4_look 40 = .ok (.invokevirtual 113, 3) := by decide +kernel
theorem dX4_look_43 : decode cX4_look 43 = .ok (.goto 46, 3) := by decide +kernel
theorem dX4_look_46 : decode cX4_look 46 = .ok (.aload_n 0, 1) := by decide +kernel
theorem dX4_look_47 : decode cX4_look 47 = .ok (.aload_n 0, 1) := by decide +kernel
theorem dX4_look_48 : decode cX4_look 48 = .ok (.getfield 19, 3) := by decide +kernel
theorem dX4_look_51 : decode cX4_look 51 = .ok (.iconst 1, 1) := by decide +kernel
theorem dX4_look_52 : decode cX4_look 52 = .ok (.iadd, 1) := by decide +kernel
theorem dX4_look_53 : decode cX4_look 53 = .ok (.putfield 22, 3) := by decide +kernel
theorem dX4_look_56 : decode cX4_look 56 = .ok (.aload_n 0, 1) := by decide +kernel
theorem dX4_look_57 : decode cX4_look 57 = .ok (.aload_n 0, 1) := by decide +kernel
theorem dX4_look_58 : decode cX4_look 58 = .ok (.getfield 9, 3) := by decide +kernel
theorem dX4_look_61 : decode cX4_look 61 = .ok (.aload_n 0, 1) := by decide +kernel
theorem dX4_look_62 : decode cX4_look 62 = .ok (.getfield 19, 3) := by decide +kernel
theorem dX4_look_65 : decode cX4_look 65 = .ok (.iaload, 1) := by decide +kernel
theorem dX4_look_66 : decode cX4_look 66 = .ok (.invokestatic 116, 3) := by decide +kernel
theorem dX4_look_69 : decode cX4_look 69 = .ok (.ifCond .eq 15, 3) := by decide +kernel
theorem dX4_look_72 : decode cX4_look 72 = .ok (.aload_n 0, 1) := by decide +kernel
theorem dX4_look_73 : decode cX4_look 73 = .ok (.getfield 9, 3) := by decide +kernel
theorem dX4_look_76 : decode cX4_look 76 = .ok (.aload_n 0, 1) := by decide +kernel
theorem dX4_look_77 : decode cX4_look 77 = .ok (.getfield 19, 3) := by decide +kernel
theorem dX4_look_80 : decode cX4_look 80 = .ok (.iaload, 1) := by decide +kernel
theorem dX4_look_81 : decode cX4_look 81 = .ok (.goto 5, 3) := by decide +kernel
theorem dX4_look_84 : decode cX4_look 84 = .ok (.bipush (-2), 2) := by decide +kernel
theorem dX4_look_86 : decode cX4_look 86 = .ok (.putfield 25, 3) := by decide +kernel
theorem dX4_look_89 : decode cX4_look 89 = .ok (.return_, 1) := by decide +kernel
theorem dX4_lookAtFigures_0 : decode cX4_lookAtFigures 0 = .ok (.aload_n 0, 1) := by decide +kernel
theorem dX4_lookAtFigures_1 : decode cX4_lookAtFigures 1 = .ok (.iconst 0, 1) := by decide +kernel
theorem dX4_lookAtFigures_2 : decode cX4_lookAtFigures 2 = .ok (.putfield 28, 3) := by decide +kernel
theorem dX4_lookAtFigures_5 : decode cX4_lookAtFigures 5 = .ok (.aload_n 0, 1) := by decide +kernel
theorem dX4_lookAtFigures_6 : decode cX4_lookAtFigures 6 = .ok (.aload_n 0, 1) := by decide +kernel
theorem dX4_lookAtFigures_7 : decode cX4_lookAtFigures 7 = .ok (.getfield 19, 3) := by decide +kernel
theorem dX4_lookAtFigures_10 : decode cX4_lookAtFigures 10 = .ok (.putfield 22, 3) := by decide +kernel
theorem dX4_lookAtFigures_13 : decode cX4_lookAtFigures 13 = .ok (.iconst 0, 1) := by decide +kernel
theorem dX4_lookAtFigures_14 : decode cX4_lookAtFigures 14 = .ok (.istore_n 1, 1) := by decide +kernel
theorem dX4_lookAtFigures_15 : decode cX4_lookAtFigures 15 = .ok (.iload_n 1, 1) := by decide +kernel
theorem dX4_lookAtFigures_16 : decode cX4_lookAtFigures 16 = .ok (.iconst 3, 1) := by decide +kernel
theorem dX4_lookAtFigures_17 : decode cX4_lookAtFigures 17 = .ok (.if_icmp .ge 54, 3) := by decide +kernel
theorem dX4_lookAtFigures_20 : decode cX4_lookAtFigures 20 = .ok (.aload_n 0, 1) := by decide +kernel
theorem dX4_lookAtFigures_21 : decode cX4_lookAtFigures 21 = .ok (.aload_n 0, 1) := by decide +kernel
theorem dX4_lookAtFigures_22 : decode cX4_lookAtFigures 22 = .ok (.getfield 22, 3) := by decide +kernel
theorem dX4_lookAtFigures_25 : decode cX4_lookAtFigures 25 = .ok (.invokevirtual 109, 3) := by decide +kernel
theorem dX4_lookAtFigures_28 : decode cX4_lookAtFigures 28 = .ok (.ifCond .eq 43, 3) := by decide +kernel
theorem dX4_lookAtFigures_31 : decode cX4_lookAtFigures 31 = .ok (.aload_n 0, 1) := by decide +kernel
theorem dX4_lookAtFigures_32 : decode cX4_lookAtFigures 32 = .ok (.aload_n 0, 1) := by decide +kernel
theorem dX4_lookAtFigures_33 : decode cX4_lookAtFigures 33 = .ok (.getfield 28, 3) := by decide +kernel
theorem dX4_lookAtFigures_36 : decode cX4_lookAtFigures 36 = .ok (.bipush 10, 2) := by decide +kernel
theorem dX4_lookAtFigures_38 : decode cX4_lookAtFigures 38 = .ok (.imul, 1) := by decide +kernel
theorem dX4_lookAtFigures_39 : decode cX4_lookAtFigures 39 = .ok (.aload_n 0, 1) := by decide +kernel
theorem dX4_lookAtFigures_40 : decode cX4_lookAtFigures 40 = .ok (.getfield 9, 3) := by decide +kernel
theorem dX4_lookAtFigures_43 : decode cX4_lookAtFigures 43 = .ok (.aload_n 0, 1) := by decide +kernel
theorem dX4_lookAtFigures_44 : decode cX4_lookAtFigures 44 = .ok (.getfield 22, 3) := by decide +kernel
theorem dX4_lookAtFigures_47 : decode cX4_lookAtFigures 47 = .ok (.iaload, 1) := by decide +kernel
theorem dX4_lookAtFigures_48 : decode cX4_lookAtFigures 48 = .ok (.iadd, 1) := by decide +kernel
theorem dX4_lookAtFigures_49 : decode cX4_lookAtFigures 49 = .ok (.bipush 48, 2) := by decide +kernel
theorem dX4_lookAtFigures_51 : decode cX4_lookAtFigures 51 = .ok (.isub, 1) := by decide +kernel
theorem dX4_lookAtFigures_52 : decode cX4_lookAtFigures 52 = .ok (.putfield 28, 3) := by decide +kernel
theorem dX4_lookAtFigures_55 : decode cX4_lookAtFigures 55 = .ok (.aload_n 0, 1) := by decide +kernel
theorem dX4_lookAtFigures_56 : decode cX4_lookAtFigures 56 = .ok (.dup, 1) := by decide +kernel
theorem dX4_lookAtFigures_57 : decode cX4_lookAtFigures 57 = .ok (.getfield 22, 3) := by decide +kernel
theorem dX4_lookAtFigures_60 : decode cX4_lookAtFigures 60 = .ok (.iconst 1, 1) := by decide +kernel
theorem dX4_lookAtFigures_61 : decode cX4_lookAtFigures 61 = .ok (.iadd, 1) := by decide +kernel
theorem dX4_lookAtFigures_62 : decode cX4_lookAtFigures 62 = .ok (.putfield 22, 3) := by decide +kernel
theorem dX4_lookAtFigures_65 : decode cX4_lookAtFigures 65 = .ok (.iinc 1 1, 3) := by decide +kernel
theorem dX4_lookAtFigures_68 : decode cX4_lookAtFigures 68 = .ok (.goto (-53), 3) := by decide +kernel
theorem dX4_lookAtFigures_71 : decode cX4_lookAtFigures 71 = .ok (.aload_n 0, 1) := by decide +kernel
theorem dX4_lookAtFigures_72 : decode cX4_lookAtFigures 72 = .ok (.aload_n 0, 1) := by decide +kernel
theorem dX4_lookAtFigures_73 : decode cX4_lookAtFigures 73 = .ok (.getfield 22, 3) := by decide +kernel
theorem dX4_lookAtFigures_76 : decode cX4_lookAtFigures 76 = .ok (.aload_n 0, 1) := by decide +kernel
theorem dX4_lookAtFigures_77 : decode cX4_lookAtFigures 77 = .ok (.getfield 19, 3) := by decide +kernel
theorem dX4_lookAtFigures_80 : decode cX4_lookAtFigures 80 = .ok (.isub, 1) := by decide +kernel
theorem dX4_lookAtFigures_81 : decode cX4_lookAtFigures 81 = .ok (.iconst 2, 1) := by decide +kernel
theorem dX4_lookAtFigures_82 : decode cX4_lookAtFigures 82 = .ok (.if_icmp .gt 7, 3) := by decide +kernel
theorem dX4_lookAtFigures_85 : decode cX4_lookAtFigures 85 = .ok (.iconst (-1), 1) := by decide +kernel
theorem dX4_lookAtFigures_86 : decode cX4_lookAtFigures 86 = .ok (.goto 5, 3) := by decide +kernel
theorem dX4_lookAtFigures_89 : decode cX4_lookAtFigures 89 = .ok (.bipush (-2), 2) := by decide +kernel
theorem dX4_lookAtFigures_91 : decode cX4_lookAtFigures 91 = .ok (.putfield 25, 3) := by decide +kernel
theorem dX4_lookAtFigures_94 : decode cX4_lookAtFigures 94 = .ok (.return_, 1) := by decide +kernel
theorem dX4_isFigure_0 : decode cX4_isFigure 0 = .ok (.iload_n 1, 1) := by decide +kernel
theorem dX4_isFigure_1 : decode cX4_isFigure 1 = .ok (.aload_n 0, 1) := by decide +kernel
theorem dX4_isFigure_2 : decode cX4_isFigure 2 = .ok (.getfield 15, 3) := by decide +kernel
theorem dX4_isFigure_5 : decode cX4_isFigure 5 = .ok (.if_icmp .ge 29, 3) := by decide +kernel
theorem dX4_isFigure_8 : decode cX4_isFigure 8 = .ok (.aload_n 0, 1) := by decide +kernel
theorem dX4_isFigure_9 : decode cX4_isFigure 9 = .ok (.getfield 9, 3) := by decide +kernel
theorem dX4_isFigure_12 : decode cX4_isFigure 12 = .ok (.iload_n 1, 1) := by decide +kernel
theorem dX4_isFigure_13 : decode cX4_isFigure 13 = .ok (.iaload, 1) := by decide +kernel
theorem dX4_isFigure_14 : decode cX4_isFigure 14 = .ok (.bipush 48, 2) := by decide +kernel
theorem dX4_isFigure_16 : decode cX4_isFigure 16 = .ok (.if_icmp .lt 18, 3) := by decide +kernel
theorem dX4_isFigure_19 : decode cX4_isFigure 19 = .ok (.aload_n 0, 1) := by decide +kernel
theorem dX4_isFigure_20 : decode cX4_isFigure 20 = .ok (.getfield 9, 3) := by decide +kernel
theorem dX4_isFigure_23 : decode cX4_isFigure 23 = .ok (.iload_n 1, 1) := by decide +kernel
theorem dX4_isFigure_24 : decode cX4_isFigure 24 = .ok (.iaload, 1) := by decide +kernel
theorem dX4_isFigure_25 : decode cX4_isFigure 25 = .ok (.bipush 57, 2) := by decide +kernel
theorem dX4_isFigure_27 : decode cX4_isFigure 27 = .ok (.if_icmp .gt 7, 3) := by decide +kernel
theorem dX4_isFigure_30 : decode cX4_isFigure 30 = .ok (.iconst 1, 1) := by decide +kernel
theorem dX4_isFigure_31 : decode cX4_isFigure 31 = .ok (.goto 4, 3) := by decide +kernel
theorem dX4_isFigure_34 : decode cX4_isFigure 34 = .ok (.iconst 0, 1) := by decide +kernel
theorem dX4_isFigure_35 : decode cX4_isFigure 35 = .ok (.ireturn, 1) := by decide +kernel
theorem dX4_isSign_0 : decode cX4_isSign 0 = .ok (.iload_n 0, 1) := by decide +kernel
theorem dX4_isSign_1 : decode cX4_isSign 1 = .ok (.bipush 97, 2) := by decide +kernel
theorem dX4_isSign_3 : decode cX4_isSign 3 = .ok (.bipush 122, 2) := by decide +kernel
theorem dX4_isSign_5 : decode cX4_isSign 5 = .ok (.invokestatic 105, 3) := by decide +kernel
theorem dX4_isSign_8 : decode cX4_isSign 8 = .ok (.ifCond .ne 15, 3) := by decide +kernel
theorem dX4_isSign_11 : decode cX4_isSign 11 = .ok (.iload_n 0, 1) := by decide +kernel
theorem dX4_isSign_12 : decode cX4_isSign 12 = .ok (.bipush 44, 2) := by decide +kernel
theorem dX4_isSign_14 : decode cX4_isSign 14 = .ok (.if_icmp .eq 9, 3) := by decide +kernel
theorem dX4_isSign_17 : decode cX4_isSign 17 = .ok (.iload_n 0, 1) := by decide +kernel
theorem dX4_isSign_18 : decode cX4_isSign 18 = .ok (.bipush 59, 2) := by decide +kernel
theorem dX4_isSign_20 : decode cX4_isSign 20 = .ok (.if_icmp .ne 7, 3) := by decide +kernel
theorem dX4_isSign_23 : decode cX4_isSign 23 = .ok (.iconst 1, 1) := by decide +kernel
theorem dX4_isSign_24 : decode cX4_isSign 24 = .ok (.goto 4, 3) := by decide +kernel
theorem dX4_isSign_27 : decode cX4_isSign 27 = .ok (.iconst 0, 1) := by decide +kernel
theorem dX4_isSign_28 : decode cX4_isSign 28 = .ok (.ireturn, 1) := by decide +kernel
theorem dX4_directionOf_0 : decode cX4_directionOf 0 = .ok (.iload_n 0, 1) := by decide +kernel
theorem dX4_directionOf_1 : decode cX4_directionOf 1 = .ok (.lookupswitch 61 #[(101, 53), (110, 59), (111, 51), (115, 57), (119, 55)], 51) := by decide +kernel
theorem dX4_directionOf_52 : decode cX4_directionOf 52 = .ok (.iconst 0, 1) := by decide +kernel
theorem dX4_directionOf_53 : decode cX4_directionOf 53 = .ok (.ireturn, 1) := by decide +kernel
theorem dX4_directionOf_54 : decode cX4_directionOf 54 = .ok (.iconst 1, 1) := by decide +kernel
theorem dX4_directionOf_55 : decode cX4_directionOf 55 = .ok (.ireturn, 1) := by decide +kernel
theorem dX4_directionOf_56 : decode cX4_directionOf 56 = .ok (.iconst 2, 1) := by decide +kernel
theorem dX4_directionOf_57 : decode cX4_directionOf 57 = .ok (.ireturn, 1) := by decide +kernel
theorem dX4_directionOf_58 : decode cX4_directionOf 58 = .ok (.iconst 3, 1) := by decide +kernel
theorem dX4_directionOf_59 : decode cX4_directionOf 59 = .ok (.ireturn, 1) := by decide +kernel
theorem dX4_directionOf_60 : decode cX4_directionOf 60 = .ok (.iconst 4, 1) := by decide +kernel
theorem dX4_directionOf_61 : decode cX4_directionOf 61 = .ok (.ireturn, 1) := by decide +kernel
theorem dX4_directionOf_62 : decode cX4_directionOf 62 = .ok (.iconst (-1), 1) := by decide +kernel
theorem dX4_directionOf_63 : decode cX4_directionOf 63 = .ok (.ireturn, 1) := by decide +kernel
theorem dX4_parishOf_0 : decode cX4_parishOf 0 = .ok (.iload_n 0, 1) := by decide +kernel
theorem dX4_parishOf_1 : decode cX4_parishOf 1 = .ok (.lookupswitch 41 #[(102, 35), (104, 37), (109, 39)], 35) := by decide +kernel
theorem dX4_parishOf_36 : decode cX4_parishOf 36 = .ok (.iconst 1, 1) := by decide +kernel
theorem dX4_parishOf_37 : decode cX4_parishOf 37 = .ok (.ireturn, 1) := by decide +kernel
theorem dX4_parishOf_38 : decode cX4_parishOf 38 = .ok (.iconst 2, 1) := by decide +kernel
theorem dX4_parishOf_39 : decode cX4_parishOf 39 = .ok (.ireturn, 1) := by decide +kernel
theorem dX4_parishOf_40 : decode cX4_parishOf 40 = .ok (.iconst 3, 1) := by decide +kernel
theorem dX4_parishOf_41 : decode cX4_parishOf 41 = .ok (.ireturn, 1) := by decide +kernel
theorem dX4_parishOf_42 : decode cX4_parishOf 42 = .ok (.iconst 0, 1) := by decide +kernel
theorem dX4_parishOf_43 : decode cX4_parishOf 43 = .ok (.ireturn, 1) := by decide +kernel
theorem dX4_sortOf_0 : decode cX4_sortOf 0 = .ok (.iload_n 0, 1) := by decide +kernel
theorem dX4_sortOf_1 : decode cX4_sortOf 1 = .ok (.lookupswitch 61 #[(97, 51), (98, 55), (103, 57), (112, 53), (121, 59)], 51) := by decide +kernel
theorem dX4_sortOf_52 : decode cX4_sortOf 52 = .ok (.iconst 1, 1) := by decide +kernel
theorem dX4_sortOf_53 : decode cX4_sortOf 53 = .ok (.ireturn, 1) := by decide +kernel
theorem dX4_sortOf_54 : decode cX4_sortOf 54 = .ok (.iconst 2, 1) := by decide +kernel
theorem dX4_sortOf_55 : decode cX4_sortOf 55 = .ok (.ireturn, 1) := by decide +kernel
theorem dX4_sortOf_56 : decode cX4_sortOf 56 = .ok (.iconst 3, 1) := by decide +kernel
theorem dX4_sortOf_57 : decode cX4_sortOf 57 = .ok (.ireturn, 1) := by decide +kernel
theorem dX4_sortOf_58 : decode cX4_sortOf 58 = .ok (.iconst 4, 1) := by decide +kernel
theorem dX4_sortOf_59 : decode cX4_sortOf 59 = .ok (.ireturn, 1) := by decide +kernel
theorem dX4_sortOf_60 : decode cX4_sortOf 60 = .ok (.iconst 5, 1) := by decide +kernel
theorem dX4_sortOf_61 : decode cX4_sortOf 61 = .ok (.ireturn, 1) := by decide +kernel
theorem dX4_sortOf_62 : decode cX4_sortOf 62 = .ok (.iconst 0, 1) := by decide +kernel
theorem dX4_sortOf_63 : decode cX4_sortOf 63 = .ok (.ireturn, 1) := by decide +kernel
theorem dX5_init_0 : decode cX5_init 0 = .ok (.aload_n 0, 1) := by decide +kernel
theorem dX5_init_1 : decode cX5_init 1 = .ok (.invokespecial 1, 3) := by decide +kernel
theorem dX5_init_4 : decode cX5_init 4 = .ok (.aload_n 0, 1) := by decide +kernel
theorem dX5_init_5 : decode cX5_init 5 = .ok (.bipush 16, 2) := by decide +kernel
theorem dX5_init_7 : decode cX5_init 7 = .ok (.newarray .int, 2) := by decide +kernel
theorem dX5_init_9 : decode cX5_init 9 = .ok (.putfield 9, 3) := by decide +kernel
theorem dX5_init_12 : decode cX5_init 12 = .ok (.aload_n 0, 1) := by decide +kernel
theorem dX5_init_13 : decode cX5_init 13 = .ok (.iconst 0, 1) := by decide +kernel
theorem dX5_init_14 : decode cX5_init 14 = .ok (.putfield 13, 3) := by decide +kernel
theorem dX5_init_17 : decode cX5_init 17 = .ok (.return_, 1) := by decide +kernel
theorem dX5_answer_0 : decode cX5_answer 0 = .ok (.aload_n 0, 1) := by decide +kernel
theorem dX5_answer_1 : decode cX5_answer 1 = .ok (.iconst 0, 1) := by decide +kernel
theorem dX5_answer_2 : decode cX5_answer 2 = .ok (.putfield 13, 3) := by decide +kernel
theorem dX5_answer_5 : decode cX5_answer 5 = .ok (.iload_n 3, 1) := by decide +kernel
theorem dX5_answer_6 : decode cX5_answer 6 = .ok (.ifCond .ne 14, 3) := by decide +kernel
theorem dX5_answer_9 : decode cX5_answer 9 = .ok (.getstatic 17, 3) := by decide +kernel
theorem dX5_answer_12 : decode cX5_answer 12 = .ok (.aload_n 1, 1) := by decide +kernel
theorem dX5_answer_13 : decode cX5_answer 13 = .ok (.getfield 20, 3) := by decide +kernel
theorem dX5_answer_16 : decode cX5_answer 16 = .ok (.iaload, 1) := by decide +kernel
theorem dX5_answer_17 : decode cX5_answer 17 = .ok (.goto 11, 3) := by decide +kernel
theorem dX5_answer_20 : decode cX5_answer 20 = .ok (.getstatic 25, 3) := by decide +kernel
theorem dX5_answer_23 : decode cX5_answer 23 = .ok (.aload_n 1, 1) := by decide +kernel
theorem dX5_answer_24 : decode cX5_answer 24 = .ok (.getfield 20, 3) := by decide +kernel
theorem dX5_answer_27 : decode cX5_answer 27 = .ok (.iaload, 1) := by decide +kernel
theorem dX5_answer_28 : decode cX5_answer 28 = .ok (.istore 4, 2) := by decide +kernel
theorem dX5_answer_30 : decode cX5_answer 30 = .ok (.aload_n 0, 1) := by decide +kernel
theorem dX5_answer_31 : decode cX5_answer 31 = .ok (.iload 4, 2) := by decide +kernel
theorem dX5_answer_33 : decode cX5_answer 33 = .ok (.aload_n 1, 1) := by decide +kernel
theorem dX5_answer_34 : decode cX5_answer 34 = .ok (.iload_n 2, 1) := by decide +kernel
theorem dX5_answer_35 : decode cX5_answer 35 = .ok (.iconst 1, 1) := by decide +kernel
theorem dX5_answer_36 : decode cX5_answer 36 = .ok (.invokestatic 28, 3) := by decide +kernel
theorem dX5_answer_39 : decode cX5_answer 39 = .ok (.ireturn, 1) := by decide +kernel
theorem dX5_bodyOf_0 : decode cX5_bodyOf 0 = .ok (.iload 4, 2) := by decide +kernel
theorem dX5_bodyOf_2 : decode cX5_bodyOf 2 = .ok (.bipush 8, 2) := by decide +kernel
theorem dX5_bodyOf_4 : decode cX5_bodyOf 4 = .ok (.if_icmp .le 5, 3) := by decide +kernel
theorem dX5_bodyOf_7 : decode cX5_bodyOf 7 = .ok (.iconst 0, 1) := by decide +kernel
theorem dX5_bodyOf_8 : decode cX5_bodyOf 8 = .ok (.ireturn, 1) := by decide +kernel
theorem dX5_bodyOf_9 : decode cX5_bodyOf 9 = .ok (.aload_n 0, 1) := by decide +kernel
theorem dX5_bodyOf_10 : decode cX5_bodyOf 10 = .ok (.iload_n 1, 1) := by decide +kernel
theorem dX5_bodyOf_11 : decode cX5_bodyOf 11 = .ok (.invokevirtual 32, 3) := by decide +kernel
theorem dX5_bodyOf_14 : decode cX5_bodyOf 14 = .ok (.iload 4, 2) := by decide +kernel
theorem dX5_bodyOf_16 : decode cX5_bodyOf 16 = .ok (.iconst 1, 1) := by decide +kernel
theorem dX5_bodyOf_17 : decode cX5_bodyOf 17 = .ok (.iadd, 1) := by decide +kernel
theorem dX5_bodyOf_18 : decode cX5_bodyOf 18 = .ok (.istore 5, 2) := by decide +kernel
theorem dX5_bodyOf_20 : decode cX5_bodyOf 20 = .ok (.iload_n 1, 1) := by decide +kernel
theorem dX5_bodyOf_21 : decode cX5_bodyOf 21 = .ok (.tableswitch 221 10 24 #[75, 80, 108, 120, 134, 221, 221, 221, 221, 221, 147, 149, 165, 180, 208], 75) := by decide +kernel
theorem dX5_bodyOf_96 : decode cX5_bodyOf 96 = .ok (.aload_n 2, 1) := by decide +kernel
theorem dX5_bodyOf_97 : decode cX5_bodyOf 97 = .ok (.getfield 36, 3) := by decide +kernel
theorem dX5_bodyOf_100 : decode cX5_bodyOf 100 = .ok (.ireturn, 1) := by decide +kernel
theorem dX5_bodyOf_101 : decode cX5_bodyOf 101 = .ok (.aload_n 0, 1) := by decide +kernel
theorem dX5_bodyOf_102 : decode cX5_bodyOf 102 = .ok (.bipush 10, 2) := by decide +kernel
theorem dX5_bodyOf_104 : decode cX5_bodyOf 104 = .ok (.aload_n 2, 1) := by decide +kernel
theorem dX5_bodyOf_105 : decode cX5_bodyOf 105 = .ok (.iload_n 3, 1) := by decide +kernel
theorem dX5_bodyOf_106 : decode cX5_bodyOf 106 = .ok (.iload 5, 2) := by decide +kernel
theorem dX5_bodyOf_108 : decode cX5_bodyOf 108 = .ok (.invokestatic 28, 3) := by decide +kernel
theorem dX5_bodyOf_111 : decode cX5_bodyOf 111 = .ok (.aload_n 0, 1) := by decide +kernel
theorem dX5_bodyOf_112 : decode cX5_bodyOf 112 = .ok (.getstatic 25, 3) := by decide +kernel
theorem dX5_bodyOf_115 : decode cX5_bodyOf 115 = .ok (.aload_n 2, 1) := by decide +kernel
theorem dX5_bodyOf_116 : decode cX5_bodyOf 116 = .ok (.getfield 20, 3) := by decide +kernel
theorem dX5_bodyOf_119 : decode cX5_bodyOf 119 = .ok (.iaload, 1) := by decide +kernel
theorem dX5_bodyOf_120 : decode cX5_bodyOf 120 = .ok (.aload_n 2, 1) := by decide +kernel
theorem dX5_bodyOf_121 : decode cX5_bodyOf 121 = .ok (.iload_n 3, 1) := by decide +kernel
theorem dX5_bodyOf_122 : decode cX5_bodyOf 122 = .ok (.iload 5, 2) := by decide +kernel
theorem dX5_bodyOf_124 : decode cX5_bodyOf 124 = .ok (.invokestatic 28, 3) := by decide +kernel
theorem dX5_bodyOf_127 : decode cX5_bodyOf 127 = .ok (.iadd, 1) := by decide +kernel
theorem dX5_bodyOf_128 : decode cX5_bodyOf 128 = .ok (.ireturn, 1) := by decide +kernel
theorem dX5_bodyOf_129 : decode cX5_bodyOf 129 = .ok (.aload_n 0, 1) := by decide +kernel
theorem dX5_bodyOf_130 : decode cX5_bodyOf 130 = .ok (.bipush 11, 2) := by decide +kernel
theorem dX5_bodyOf_132 : decode cX5_bodyOf 132 = .ok (.aload_n 2, 1) := by decide +kernel
theorem dX5_bodyOf_133 : decode cX5_bodyOf 133 = .ok (.iload_n 3, 1) := by decide +kernel
theorem dX5_bodyOf_134 : decode cX5_bodyOf 134 = .ok (.iload 5, 2) := by decide +kernel
theorem dX5_bodyOf_136 : decode cX5_bodyOf 136 = .ok (.invokestatic 28, 3) := by decide +kernel
theorem dX5_bodyOf_139 : decode cX5_bodyOf 139 = .ok (.ineg, 1) := by decide +kernel
theorem dX5_bodyOf_140 : decode cX5_bodyOf 140 = .ok (.ireturn, 1) := by decide +kernel
theorem dX5_bodyOf_141 : decode cX5_bodyOf 141 = .ok (.aload_n 0, 1) := by decide +kernel
theorem dX5_bodyOf_142 : decode cX5_bodyOf 142 = .ok (.bipush 10, 2) := by decide +kernel
theorem dX5_bodyOf_144 : decode cX5_bodyOf 144 = .ok (.aload_n 2, 1) := by decide +kernel
theorem dX5_bodyOf_145 : decode cX5_bodyOf 145 = .ok (.iload_n 3, 1) := by decide +kernel
theorem dX5_bodyOf_146 : decode cX5_bodyOf 146 = .ok (.iload 5, 2) := by decide +kernel
theorem dX5_bodyOf_148 : decode cX5_bodyOf 148 = .ok (.invokestatic 28, 3) := by decide +kernel
theorem dX5_bodyOf_151 : decode cX5_bodyOf 151 = .ok (.bipush 100, 2) := by decide +kernel
theorem dX5_bodyOf_153 : decode cX5_bodyOf 153 = .ok (.isub, 1) := by decide +kernel
theorem dX5_bodyOf_154 : decode cX5_bodyOf 154 = .ok (.ireturn, 1) := by decide +kernel
theorem dX5_bodyOf_155 : decode cX5_bodyOf 155 = .ok (.iconst 2, 1) := by decide +kernel
theorem dX5_bodyOf_156 : decode cX5_bodyOf 156 = .ok (.aload_n 0, 1) := by decide +kernel
theorem dX5_bodyOf_157 : decode cX5_bodyOf 157 = .ok (.bipush 13, 2) := by decide +kernel
theorem dX5_bodyOf_159 : decode cX5_bodyOf 159 = .ok (.aload_n 2, 1) := by decide +kernel
theorem dX5_bodyOf_160 : decode cX5_bodyOf 160 = .ok (.iload_n 3, 1) := by decide +kernel
theorem dX5_bodyOf_161 : decode cX5_bodyOf 161 = .ok (.iload 5, 2) := by decide +kernel
theorem dX5_bodyOf_163 : decode cX5_bodyOf 163 = .ok (.invokestatic 28, 3) := by decide +kernel
theorem dX5_bodyOf_166 : decode cX5_bodyOf 166 = .ok (.imul, 1) := by decide +kernel
theorem dX5_bodyOf_167 : decode cX5_bodyOf 167 = .ok (.ireturn, 1) := by decide +kernel
theorem dX5_bodyOf_168 : decode cX5_bodyOf 168 = .ok (.iload_n 3, 1) := by decide +kernel
theorem dX5_bodyOf_169 : decode cX5_bodyOf 169 = .ok (.ireturn, 1) := by decide +kernel
theorem dX5_bodyOf_170 : decode cX5_bodyOf 170 = .ok (.aload_n 0, 1) := by decide +kernel
theorem dX5_bodyOf_171 : decode cX5_bodyOf 171 = .ok (.bipush 20, 2) := by decide +kernel
theorem dX5_bodyOf_173 : decode cX5_bodyOf 173 = .ok (.aload_n 2, 1) := by decide +kernel
theorem dX5_bodyOf_174 : decode cX5_bodyOf 174 = .ok (.iload_n 3, 1) := by decide +kernel
theorem dX5_bodyOf_175 : decode cX5_bodyOf 175 = .ok (.iload 5, 2) := by decide +kernel
theorem dX5_bodyOf_177 : decode cX5_bodyOf 177 = .ok (.invokestatic 28, 3) := by decide +kernel
theorem dX5_bodyOf_180 : decode cX5_bodyOf 180 = .ok (.aload_n 2, 1) := by decide +kernel
theorem dX5_bodyOf_181 : decode cX5_bodyOf 181 = .ok (.getfield 39, 3) := by decide +kernel
theorem dX5_bodyOf_184 : decode cX5_bodyOf 184 = .ok (.iadd, 1) := by decide +kernel
theorem dX5_bodyOf_185 : decode cX5_bodyOf 185 = .ok (.ireturn, 1) := by decide +kernel
theorem dX5_bodyOf_186 : decode cX5_bodyOf 186 = .ok (.aload_n 0, 1) := by decide +kernel
theorem dX5_bodyOf_187 : decode cX5_bodyOf 187 = .ok (.bipush 21, 2) := by decide +kernel
theorem dX5_bodyOf_189 : decode cX5_bodyOf 189 = .ok (.aload_n 2, 1) := by decide +kernel
theorem dX5_bodyOf_190 : decode cX5_bodyOf 190 = .ok (.iload_n 3, 1) := by decide +kernel
theorem dX5_bodyOf_191 : decode cX5_bodyOf 191 = .ok (.iload 5, 2) := by decide +kernel
theorem dX5_bodyOf_193 : decode cX5_bodyOf 193 = .ok (.invokestatic 28, 3) := by decide +kernel
theorem dX5_bodyOf_196 : decode cX5_bodyOf 196 = .ok (.sipush 1000, 3) := by decide +kernel
theorem dX5_bodyOf_199 : decode cX5_bodyOf 199 = .ok (.isub, 1) := by decide +kernel
theorem dX5_bodyOf_200 : decode cX5_bodyOf 200 = .ok (.ireturn, 1) := by decide +kernel
theorem dX5_bodyOf_201 : decode cX5_bodyOf 201 = .ok (.aload_n 0, 1) := by decide +kernel
theorem dX5_bodyOf_202 : decode cX5_bodyOf 202 = .ok (.bipush 20, 2) := by decide +kernel
theorem dX5_bodyOf_204 : decode cX5_bodyOf 204 = .ok (.aload_n 2, 1) := by decide +kernel
theorem dX5_bodyOf_205 : decode cX5_bodyOf 205 = .ok (.iload_n 3, 1) := by decide +kernel
theorem dX5_bodyOf_206 : decode cX5_bodyOf 206 = .ok (.iload 5, 2) := by decide +kernel
theorem dX5_bodyOf_208 : decode cX5_bodyOf 208 = .ok (.invokestatic 28, 3) := by decide +kernel
theorem dX5_bodyOf_211 : decode cX5_bodyOf 211 = .ok (.aload_n 0, 1) := by decide +kernel
theorem dX5_bodyOf_212 : decode cX5_bodyOf 212 = .ok (.getstatic 17, 3) := by decide +kernel
theorem dX5_bodyOf_215 : decode cX5_bodyOf 215 = .ok (.aload_n 2, 1) := by decide +kernel
theorem dX5_bodyOf_216 : decode cX5_bodyOf 216 = .ok (.getfield 20, 3) := by decide +kernel
theorem dX5_bodyOf_219 : decode cX5_bodyOf 219 = .ok (.iaload, 1) := by decide +kernel
theorem dX5_bodyOf_220 : decode cX5_bodyOf 220 = .ok (.aload_n 2, 1) := by decide +kernel
theorem dX5_bodyOf_221 : decode cX5_bodyOf 221 = .ok (.iload_n 3, 1) := by decide +kernel
theorem dX5_bodyOf_222 : decode cX5_bodyOf 222 = .ok (.iload 5, 2) := by decide +kernel
theorem dX5_bodyOf_224 : decode cX5_bodyOf 224 = .ok (.invokestatic 28, 3) := by decide +kernel
theorem dX5_bodyOf_227 : decode cX5_bodyOf 227 = .ok (.isub, 1) := by decide +kernel
theorem dX5_bodyOf_228 : decode cX5_bodyOf 228 = .ok (.ireturn, 1) := by decide +kernel
theorem dX5_bodyOf_229 : decode cX5_bodyOf 229 = .ok (.iconst 2, 1) := by decide +kernel
theorem dX5_bodyOf_230 : decode cX5_bodyOf 230 = .ok (.aload_n 0, 1) := by decide +kernel
theorem dX5_bodyOf_231 : decode cX5_bodyOf 231 = .ok (.bipush 21, 2) := by decide +kernel
theorem dX5_bodyOf_233 : decode cX5_bodyOf 233 = .ok (.aload_n 2, 1) := by decide +kernel
theorem dX5_bodyOf_234 : decode cX5_bodyOf 234 = .ok (.iload_n 3, 1) := by decide +kernel
theorem dX5_bodyOf_235 : decode cX5_bodyOf 235 = .ok (.iload 5, 2) := by decide +kernel
theorem dX5_bodyOf_237 : decode cX5_bodyOf 237 = .ok (.invokestatic 28, 3) := by decide +kernel
theorem dX5_bodyOf_240 : decode cX5_bodyOf 240 = .ok (.imul, 1) := by decide +kernel
theorem dX5_bodyOf_241 : decode cX5_bodyOf 241 = .ok (.ireturn, 1) := by decide +kernel
theorem dX5_bodyOf_242 : decode cX5_bodyOf 242 = .ok (.iconst 0, 1) := by decide +kernel
theorem dX5_bodyOf_243 : decode cX5_bodyOf 243 = .ok (.ireturn, 1) := by decide +kernel
theorem dX5_leave_0 : decode cX5_leave 0 = .ok (.aload_n 0, 1) := by decide +kernel
theorem dX5_leave_1 : decode cX5_leave 1 = .ok (.getfield 13, 3) := by decide +kernel
theorem dX5_leave_4 : decode cX5_leave 4 = .ok (.bipush 16, 2) := by decide +kernel
theorem dX5_leave_6 : decode cX5_leave 6 = .ok (.if_icmp .ge 23, 3) := by decide +kernel
theorem dX5_leave_9 : decode cX5_leave 9 = .ok (.aload_n 0, 1) := by decide +kernel
theorem dX5_leave_10 : decode cX5_leave 10 = .ok (.getfield 9, 3) := by decide +kernel
theorem dX5_leave_13 : decode cX5_leave 13 = .ok (.aload_n 0, 1) := by decide +kernel
theorem dX5_leave_14 : decode cX5_leave 14 = .ok (.getfield 13, 3) := by decide +kernel
theorem dX5_leave_17 : decode cX5_leave 17 = .ok (.iload_n 1, 1) := by decide +kernel
theorem dX5_leave_18 : decode cX5_leave 18 = .ok (.iastore, 1) := by decide +kernel
theorem dX5_leave_19 : decode cX5_leave 19 = .ok (.aload_n 0, 1) := by decide +kernel
theorem dX5_leave_20 : decode cX5_leave 20 = .ok (.dup, 1) := by decide +kernel
theorem dX5_leave_21 : decode cX5_leave 21 = .ok (.getfield 13, 3) := by decide +kernel
theorem dX5_leave_24 : decode cX5_leave 24 = .ok (.iconst 1, 1) := by decide +kernel
theorem dX5_leave_25 : decode cX5_leave 25 = .ok (.iadd, 1) := by decide +kernel
theorem dX5_leave_26 : decode cX5_leave 26 = .ok (.putfield 13, 3) := by decide +kernel
theorem dX5_leave_29 : decode cX5_leave 29 = .ok (.return_, 1) := by decide +kernel
theorem dX6_init_0 : decode cX6_init 0 = .ok (.aload_n 0, 1) := by decide +kernel
theorem dX6_init_1 : decode cX6_init 1 = .ok (.invokespecial 3, 3) := by decide +kernel
theorem dX6_init_4 : decode cX6_init 4 = .ok (.aload_n 0, 1) := by decide +kernel
theorem dX6_init_5 : decode cX6_init 5 = .ok (.bipush 8, 2) := by decide +kernel
theorem dX6_init_7 : decode cX6_init 7 = .ok (.anewarray 9, 3) := by decide +kernel
theorem dX6_init_10 : decode cX6_init 10 = .ok (.putfield 11, 3) := by decide +kernel
theorem dX6_init_13 : decode cX6_init 13 = .ok (.aload_n 0, 1) := by decide +kernel
theorem dX6_init_14 : decode cX6_init 14 = .ok (.new 15, 3) := by decide +kernel
theorem dX6_init_17 : decode cX6_init 17 = .ok (.dup, 1) := by decide +kernel
theorem dX6_init_18 : decode cX6_init 18 = .ok (.invokespecial 17, 3) := by decide +kernel
theorem dX6_init_21 : decode cX6_init 21 = .ok (.putfield 18, 3) := by decide +kernel
theorem dX6_init_24 : decode cX6_init 24 = .ok (.aload_n 0, 1) := by decide +kernel
theorem dX6_init_25 : decode cX6_init 25 = .ok (.new 22, 3) := by decide +kernel
theorem dX6_init_28 : decode cX6_init 28 = .ok (.dup, 1) := by decide +kernel
theorem dX6_init_29 : decode cX6_init 29 = .ok (.invokespecial 24, 3) := by decide +kernel
theorem dX6_init_32 : decode cX6_init 32 = .ok (.putfield 25, 3) := by decide +kernel
theorem dX6_init_35 : decode cX6_init 35 = .ok (.aload_n 0, 1) := by decide +kernel
theorem dX6_init_36 : decode cX6_init 36 = .ok (.new 22, 3) := by decide +kernel
theorem dX6_init_39 : decode cX6_init 39 = .ok (.dup, 1) := by decide +kernel
theorem dX6_init_40 : decode cX6_init 40 = .ok (.invokespecial 24, 3) := by decide +kernel
theorem dX6_init_43 : decode cX6_init 43 = .ok (.putfield 29, 3) := by decide +kernel
theorem dX6_init_46 : decode cX6_init 46 = .ok (.aload_n 0, 1) := by decide +kernel
theorem dX6_init_47 : decode cX6_init 47 = .ok (.new 32, 3) := by decide +kernel
theorem dX6_init_50 : decode cX6_init 50 = .ok (.dup, 1) := by decide +kernel
theorem dX6_init_51 : decode cX6_init 51 = .ok (.invokespecial 34, 3) := by decide +kernel
theorem dX6_init_54 : decode cX6_init 54 = .ok (.putfield 35, 3) := by decide +kernel
theorem dX6_init_57 : decode cX6_init 57 = .ok (.aload_n 0, 1) := by decide +kernel
theorem dX6_init_58 : decode cX6_init 58 = .ok (.iconst 2, 1) := by decide +kernel
theorem dX6_init_59 : decode cX6_init 59 = .ok (.anewarray 22, 3) := by decide +kernel
theorem dX6_init_62 : decode cX6_init 62 = .ok (.putfield 39, 3) := by decide +kernel
theorem dX6_init_65 : decode cX6_init 65 = .ok (.aload_n 0, 1) := by decide +kernel
theorem dX6_init_66 : decode cX6_init 66 = .ok (.new 43, 3) := by decide +kernel
theorem dX6_init_69 : decode cX6_init 69 = .ok (.dup, 1) := by decide +kernel
theorem dX6_init_70 : decode cX6_init 70 = .ok (.invokespecial 45, 3) := by decide +kernel
theorem dX6_init_73 : decode cX6_init 73 = .ok (.putfield 46, 3) := by decide +kernel
theorem dX6_init_76 : decode cX6_init 76 = .ok (.aload_n 0, 1) := by decide +kernel
theorem dX6_init_77 : decode cX6_init 77 = .ok (.new 50, 3) := by decide +kernel
theorem dX6_init_80 : decode cX6_init 80 = .ok (.dup, 1) := by decide +kernel
theorem dX6_init_81 : decode cX6_init 81 = .ok (.invokespecial 52, 3) := by decide +kernel
theorem dX6_init_84 : decode cX6_init 84 = .ok (.putfield 53, 3) := by decide +kernel
theorem dX6_init_87 : decode cX6_init 87 = .ok (.aload_n 0, 1) := by decide +kernel
theorem dX6_init_88 : decode cX6_init 88 = .ok (.iconst 0, 1) := by decide +kernel
theorem dX6_init_89 : decode cX6_init 89 = .ok (.putfield 57, 3) := by decide +kernel
theorem dX6_init_92 : decode cX6_init 92 = .ok (.aload_n 0, 1) := by decide +kernel
theorem dX6_init_93 : decode cX6_init 93 = .ok (.iconst 0, 1) := by decide +kernel
theorem dX6_init_94 : decode cX6_init 94 = .ok (.putfield 61, 3) := by decide +kernel
theorem dX6_init_97 : decode cX6_init 97 = .ok (.iconst 0, 1) := by decide +kernel
theorem dX6_init_98 : decode cX6_init 98 = .ok (.istore_n 1, 1) := by decide +kernel
theorem dX6_init_99 : decode cX6_init 99 = .ok (.iload_n 1, 1) := by decide +kernel
theorem dX6_init_100 : decode cX6_init 100 = .ok (.bipush 8, 2) := by decide +kernel
theorem dX6_init_102 : decode cX6_init 102 = .ok (.if_icmp .ge 22, 3) := by decide +kernel
theorem dX6_init_105 : decode cX6_init 105 = .ok (.aload_n 0, 1) := by decide +kernel
theorem dX6_init_106 : decode cX6_init 106 = .ok (.getfield 11, 3) := by decide +kernel
theorem dX6_init_109 : decode cX6_init 109 = .ok (.iload_n 1, 1) := by decide +kernel
theorem dX6_init_110 : decode cX6_init 110 = .ok (.new 9, 3) := by decide +kernel
theorem dX6_init_113 : decode cX6_init 113 = .ok (.dup, 1) := by decide +kernel
theorem dX6_init_114 : decode cX6_init 114 = .ok (.invokespecial 64, 3) := by decide +kernel
theorem dX6_init_117 : decode cX6_init 117 = .ok (.aastore, 1) := by decide +kernel
theorem dX6_init_118 : decode cX6_init 118 = .ok (.iinc 1 1, 3) := by decide +kernel
theorem dX6_init_121 : decode cX6_init 121 = .ok (.goto (-22), 3) := by decide +kernel
theorem dX6_init_124 : decode cX6_init 124 = .ok (.iconst 0, 1) := by decide +kernel
theorem dX6_init_125 : decode cX6_init 125 = .ok (.istore_n 1, 1) := by decide +kernel
theorem dX6_init_126 : decode cX6_init 126 = .ok (.iload_n 1, 1) := by decide +kernel
theorem dX6_init_127 : decode cX6_init 127 = .ok (.iconst 2, 1) := by decide +kernel
theorem dX6_init_128 : decode cX6_init 128 = .ok (.if_icmp .ge 22, 3) := by decide +kernel
theorem dX6_init_131 : decode cX6_init 131 = .ok (.aload_n 0, 1) := by decide +kernel
theorem dX6_init_132 : decode cX6_init 132 = .ok (.getfield 39, 3) := by decide +kernel
theorem dX6_init_135 : decode cX6_init 135 = .ok (.iload_n 1, 1) := by decide +kernel
theorem dX6_init_136 : decode cX6_init 136 = .ok (.new 22, 3) := by decide +kernel
theorem dX6_init_139 : decode cX6_init 139 = .ok (.dup, 1) := by decide +kernel
theorem dX6_init_140 : decode cX6_init 140 = .ok (.invokespecial 24, 3) := by decide +kernel
theorem dX6_init_143 : decode cX6_init 143 = .ok (.aastore, 1) := by decide +kernel
theorem dX6_init_144 : decode cX6_init 144 = .ok (.iinc 1 1, 3) := by decide +kernel
theorem dX6_init_147 : decode cX6_init 147 = .ok (.goto (-21), 3) := by decide +kernel
theorem dX6_init_150 : decode cX6_init 150 = .ok (.return_, 1) := by decide +kernel
theorem dX6_row_0 : decode cX6_row 0 = .ok (.iload_n 1, 1) := by decide +kernel
theorem dX6_row_1 : decode cX6_row 1 = .ok (.invokestatic 65, 3) := by decide +kernel
theorem dX6_row_4 : decode cX6_row 4 = .ok (.ifCond .eq 18, 3) := by decide +kernel
theorem dX6_row_7 : decode cX6_row 7 = .ok (.iload_n 2, 1) := by decide +kernel
theorem dX6_row_8 : decode cX6_row 8 = .ok (.iconst 0, 1) := by decide +kernel
theorem dX6_row_9 : decode cX6_row 9 = .ok (.iconst 2, 1) := by decide +kernel
theorem dX6_row_10 : decode cX6_row 10 = .ok (.invokestatic 69, 3) := by decide +kernel
theorem dX6_row_13 : decode cX6_row 13 = .ok (.ifCond .eq 9, 3) := by decide +kernel
theorem dX6_row_16 : decode cX6_row 16 = .ok (.iload_n 3, 1) := by decide +kernel
theorem dX6_row_17 : decode cX6_row 17 = .ok (.bipush 40, 2) := by decide +kernel
theorem dX6_row_19 : decode cX6_row 19 = .ok (.if_icmp .le 6, 3) := by decide +kernel
theorem dX6_row_22 : decode cX6_row 22 = .ok (.ldc 73, 2) := by decide +kernel
theorem dX6_row_24 : decode cX6_row 24 = .ok (.ireturn, 1) := by decide +kernel
theorem dX6_row_25 : decode cX6_row 25 = .ok (.iload_n 3, 1) := by decide +kernel
theorem dX6_row_26 : decode cX6_row 26 = .ok (.ifCond .ge 9, 3) := by decide +kernel
theorem dX6_row_29 : decode cX6_row 29 = .ok (.aload_n 0, 1) := by decide +kernel
theorem dX6_row_30 : decode cX6_row 30 = .ok (.iconst 4, 1) := by decide +kernel
theorem dX6_row_31 : decode cX6_row 31 = .ok (.invokevirtual 74, 3) := by decide +kernel
theorem dX6_row_34 : decode cX6_row 34 = .ok (.ireturn, 1) := by decide +kernel
theorem dX6_row_35 : decode cX6_row 35 = .ok (.aload_n 0, 1) := by decide +kernel
theorem dX6_row_36 : decode cX6_row 36 = .ok (.getfield 11, 3) := by decide +kernel
theorem dX6_row_39 : decode cX6_row 39 = .ok (.iload_n 1, 1) := by decide +kernel
theorem dX6_row_40 : decode cX6_row 40 = .ok (.aaload, 1) := by decide +kernel
theorem dX6_row_41 : decode cX6_row 41 = .ok (.iload_n 2, 1) := by decide +kernel
theorem dX6_row_42 : decode cX6_row 42 = .ok (.iload_n 3, 1) := by decide +kernel
theorem dX6_row_43 : decode cX6_row 43 = .ok (.invokevirtual 78, 3) := by decide +kernel
theorem dX6_row_46 : decode cX6_row 46 = .ok (.aload_n 0, 1) := by decide +kernel
theorem dX6_row_47 : decode cX6_row 47 = .ok (.iload_n 3, 1) := by decide +kernel
theorem dX6_row_48 : decode cX6_row 48 = .ok (.invokevirtual 82, 3) := by decide +kernel
theorem dX6_row_51 : decode cX6_row 51 = .ok (.ireturn, 1) := by decide +kernel
theorem dX6_set_0 : decode cX6_set 0 = .ok (.iload_n 1, 1) := by decide +kernel
theorem dX6_set_1 : decode cX6_set 1 = .ok (.invokestatic 65, 3) := by decide +kernel
theorem dX6_set_4 : decode cX6_set 4 = .ok (.ifCond .ne 6, 3) := by decide +kernel
theorem dX6_set_7 : decode cX6_set 7 = .ok (.ldc 73, 2) := by decide +kernel
theorem dX6_set_9 : decode cX6_set 9 = .ok (.ireturn, 1) := by decide +kernel
theorem dX6_set_10 : decode cX6_set 10 = .ok (.aload_n 0, 1) := by decide +kernel
theorem dX6_set_11 : decode cX6_set 11 = .ok (.getfield 11, 3) := by decide +kernel
theorem dX6_set_14 : decode cX6_set 14 = .ok (.iload_n 1, 1) := by decide +kernel
theorem dX6_set_15 : decode cX6_set 15 = .ok (.aaload, 1) := by decide +kernel
theorem dX6_set_16 : decode cX6_set 16 = .ok (.iload_n 2, 1) := by decide +kernel
theorem dX6_set_17 : decode cX6_set 17 = .ok (.iconst 1, 1) := by decide +kernel
theorem dX6_set_18 : decode cX6_set 18 = .ok (.invokevirtual 85, 3) := by decide +kernel
theorem dX6_set_21 : decode cX6_set 21 = .ok (.istore 4, 2) := by decide +kernel
theorem dX6_set_23 : decode cX6_set 23 = .ok (.iload 4, 2) := by decide +kernel
theorem dX6_set_25 : decode cX6_set 25 = .ok (.ifCond .eq 12, 3) := by decide +kernel
theorem dX6_set_28 : decode cX6_set 28 = .ok (.aload_n 0, 1) := by decide +kernel
theorem dX6_set_29 : decode cX6_set 29 = .ok (.iload 4, 2) := by decide +kernel
theorem dX6_set_31 : decode cX6_set 31 = .ok (.invokevirtual 74, 3) := by decide +kernel
theorem dX6_set_34 : decode cX6_set 34 = .ok (.goto 18, 3) := by decide +kernel
theorem dX6_set_37 : decode cX6_set 37 = .ok (.aload_n 0, 1) := by decide +kernel
theorem dX6_set_38 : decode cX6_set 38 = .ok (.aload_n 0, 1) := by decide +kernel
theorem dX6_set_39 : decode cX6_set 39 = .ok (.getfield 11, 3) := by decide +kernel
theorem dX6_set_42 : decode cX6_set 42 = .ok (.iload_n 1, 1) := by decide +kernel
theorem dX6_set_43 : decode cX6_set 43 = .ok (.aaload, 1) := by decide +kernel
theorem dX6_set_44 : decode cX6_set 44 = .ok (.iload_n 2, 1) := by decide +kernel
theorem dX6_set_45 : decode cX6_set 45 = .ok (.iload_n 3, 1) := by decide +kernel
theorem dX6_set_46 : decode cX6_set 46 = .ok (.invokevirtual 89, 3) := by decide +kernel
theorem dX6_set_49 : decode cX6_set 49 = .ok (.invokevirtual 82, 3) := by decide +kernel
theorem dX6_set_52 : decode cX6_set 52 = .ok (.ireturn, 1) := by decide +kernel
theorem dX6_copy_0 : decode cX6_copy 0 = .ok (.iload_n 1, 1) := by decide +kernel
theorem dX6_copy_1 : decode cX6_copy 1 = .ok (.invokestatic 65, 3) := by decide +kernel
theorem dX6_copy_4 : decode cX6_copy 4 = .ok (.ifCond .eq 10, 3) := by decide +kernel
theorem dX6_copy_7 : decode cX6_copy 7 = .ok (.iload_n 3, 1) := by decide +kernel
theorem dX6_copy_8 : decode cX6_copy 8 = .ok (.invokestatic 65, 3) := by decide +kernel
theorem dX6_copy_11 : decode cX6_copy 11 = .ok (.ifCond .ne 6, 3) := by decide +kernel
theorem dX6_copy_14 : decode cX6_copy 14 = .ok (.ldc 73, 2) := by decide +kernel
theorem dX6_copy_16 : decode cX6_copy 16 = .ok (.ireturn, 1) := by decide +kernel
theorem dX6_copy_17 : decode cX6_copy 17 = .ok (.aload_n 0, 1) := by decide +kernel
theorem dX6_copy_18 : decode cX6_copy 18 = .ok (.getfield 11, 3) := by decide +kernel
theorem dX6_copy_21 : decode cX6_copy 21 = .ok (.iload_n 1, 1) := by decide +kernel
theorem dX6_copy_22 : decode cX6_copy 22 = .ok (.aaload, 1) := by decide +kernel
theorem dX6_copy_23 : decode cX6_copy 23 = .ok (.astore 6, 2) := by decide +kernel
theorem dX6_copy_25 : decode cX6_copy 25 = .ok (.aload_n 0, 1) := by decide +kernel
theorem dX6_copy_26 : decode cX6_copy 26 = .ok (.getfield 11, 3) := by decide +kernel
theorem dX6_copy_29 : decode cX6_copy 29 = .ok (.iload_n 3, 1) := by decide +kernel
theorem dX6_copy_30 : decode cX6_copy 30 = .ok (.aaload, 1) := by decide +kernel
theorem dX6_copy_31 : decode cX6_copy 31 = .ok (.astore 7, 2) := by decide +kernel
theorem dX6_copy_33 : decode cX6_copy 33 = .ok (.aload 6, 2) := by decide +kernel
theorem dX6_copy_35 : decode cX6_copy 35 = .ok (.getfield 92, 3) := by decide +kernel
theorem dX6_copy_38 : decode cX6_copy 38 = .ok (.ifCond .eq 11, 3) := by decide +kernel
theorem dX6_copy_41 : decode cX6_copy 41 = .ok (.aload 7, 2) := by decide +kernel
theorem dX6_copy_43 : decode cX6_copy 43 = .ok (.getfield 92, 3) := by decide +kernel
theorem dX6_copy_46 : decode cX6_copy 46 = .ok (.ifCond .ne 9, 3) := by decide +kernel
theorem dX6_copy_49 : decode cX6_copy 49 = .ok (.aload_n 0, 1) := by decide +kernel
theorem dX6_copy_50 : decode cX6_copy 50 = .ok (.iconst 1, 1) := by decide +kernel
theorem dX6_copy_51 : decode cX6_copy 51 = .ok (.invokevirtual 74, 3) := by decide +kernel
theorem dX6_copy_54 : decode cX6_copy 54 = .ok (.ireturn, 1) := by decide +kernel
theorem dX6_copy_55 : decode cX6_copy 55 = .ok (.aload 6, 2) := by decide +kernel
theorem dX6_copy_57 : decode cX6_copy 57 = .ok (.getfield 96, 3) := by decide +kernel
theorem dX6_copy_60 : decode cX6_copy 60 = .ok (.aload 7, 2) := by decide +kernel
theorem dX6_copy_62 : decode cX6_copy 62 = .ok (.getfield 96, 3) := by decide +kernel
theorem dX6_copy_65 : decode cX6_copy 65 = .ok (.if_icmp .eq 9, 3) := by decide +kernel
theorem dX6_copy_68 : decode cX6_copy 68 = .ok (.aload_n 0, 1) := by decide +kernel
theorem dX6_copy_69 : decode cX6_copy 69 = .ok (.iconst 5, 1) := by decide +kernel
theorem dX6_copy_70 : decode cX6_copy 70 = .ok (.invokevirtual 74, 3) := by decide +kernel
theorem dX6_copy_73 : decode cX6_copy 73 = .ok (.ireturn, 1) := by decide +kernel
theorem dX6_copy_74 : decode cX6_copy 74 = .ok (.aload 6, 2) := by decide +kernel
theorem dX6_copy_76 : decode cX6_copy 76 = .ok (.iload_n 2, 1) := by decide +kernel
theorem dX6_copy_77 : decode cX6_copy 77 = .ok (.iload 5, 2) := by decide +kernel
theorem dX6_copy_79 : decode cX6_copy 79 = .ok (.invokevirtual 99, 3) := by decide +kernel
theorem dX6_copy_82 : decode cX6_copy 82 = .ok (.ifCond .eq 15, 3) := by decide +kernel
theorem dX6_copy_85 : decode cX6_copy 85 = .ok (.aload 7, 2) := by decide +kernel
theorem dX6_copy_87 : decode cX6_copy 87 = .ok (.iload 4, 2) := by decide +kernel
theorem dX6_copy_89 : decode cX6_copy 89 = .ok (.iload 5, 2) := by decide +kernel
theorem dX6_copy_91 : decode cX6_copy 91 = .ok (.invokevirtual 99, 3) := by decide +kernel
theorem dX6_copy_94 : decode cX6_copy 94 = .ok (.ifCond .ne 9, 3) := by decide +kernel
theorem dX6_copy_97 : decode cX6_copy 97 = .ok (.aload_n 0, 1) := by decide +kernel
theorem dX6_copy_98 : decode cX6_copy 98 = .ok (.iconst 2, 1) := by decide +kernel
theorem dX6_copy_99 : decode cX6_copy 99 = .ok (.invokevirtual 74, 3) := by decide +kernel
theorem dX6_copy_102 : decode cX6_copy 102 = .ok (.ireturn, 1) := by decide +kernel
theorem dX6_copy_103 : decode cX6_copy 103 = .ok (.aload 6, 2) := by decide +kernel
theorem dX6_copy_105 : decode cX6_copy 105 = .ok (.getfield 103, 3) := by decide +kernel
theorem dX6_copy_108 : decode cX6_copy 108 = .ok (.iload_n 2, 1) := by decide +kernel
theorem dX6_copy_109 : decode cX6_copy 109 = .ok (.aload 7, 2) := by decide +kernel
theorem dX6_copy_111 : decode cX6_copy 111 = .ok (.getfield 103, 3) := by decide +kernel
theorem dX6_copy_114 : decode cX6_copy 114 = .ok (.iload 4, 2) := by decide +kernel
theorem dX6_copy_116 : decode cX6_copy 116 = .ok (.iload 5, 2) := by decide +kernel
theorem dX6_copy_118 : decode cX6_copy 118 = .ok (.invokestatic 107, 3) := by decide +kernel
theorem dX6_copy_121 : decode cX6_copy 121 = .ok (.aload_n 0, 1) := by decide +kernel
theorem dX6_copy_122 : decode cX6_copy 122 = .ok (.iload 5, 2) := by decide +kernel
theorem dX6_copy_124 : decode cX6_copy 124 = .ok (.invokevirtual 82, 3) := by decide +kernel
theorem dX6_copy_127 : decode cX6_copy 127 = .ok (.ireturn, 1) := by decide +kernel
theorem dX6_drop_0 : decode cX6_drop 0 = .ok (.iload_n 1, 1) := by decide +kernel
theorem dX6_drop_1 : decode cX6_drop 1 = .ok (.invokestatic 65, 3) := by decide +kernel
theorem dX6_drop_4 : decode cX6_drop 4 = .ok (.ifCond .ne 6, 3) := by decide +kernel
theorem dX6_drop_7 : decode cX6_drop 7 = .ok (.ldc 73, 2) := by decide +kernel
theorem dX6_drop_9 : decode cX6_drop 9 = .ok (.ireturn, 1) := by decide +kernel
theorem dX6_drop_10 : decode cX6_drop 10 = .ok (.aload_n 0, 1) := by decide +kernel
theorem dX6_drop_11 : decode cX6_drop 11 = .ok (.getfield 11, 3) := by decide +kernel
theorem dX6_drop_14 : decode cX6_drop 14 = .ok (.iload_n 1, 1) := by decide +kernel
theorem dX6_drop_15 : decode cX6_drop 15 = .ok (.aaload, 1) := by decide +kernel
theorem dX6_drop_16 : decode cX6_drop 16 = .ok (.getfield 92, 3) := by decide +kernel
theorem dX6_drop_19 : decode cX6_drop 19 = .ok (.ifCond .ne 9, 3) := by decide +kernel
theorem dX6_drop_22 : decode cX6_drop 22 = .ok (.aload_n 0, 1) := by decide +kernel
theorem dX6_drop_23 : decode cX6_drop 23 = .ok (.iconst 1, 1) := by decide +kernel
theorem dX6_drop_24 : decode cX6_drop 24 = .ok (.invokevirtual 74, 3) := by decide +kernel
theorem dX6_drop_27 : decode cX6_drop 27 = .ok (.ireturn, 1) := by decide +kernel
theorem dX6_drop_28 : decode cX6_drop 28 = .ok (.aload_n 0, 1) := by decide +kernel
theorem dX6_drop_29 : decode cX6_drop 29 = .ok (.getfield 11, 3) := by decide +kernel
theorem dX6_drop_32 : decode cX6_drop 32 = .ok (.iload_n 1, 1) := by decide +kernel
theorem dX6_drop_33 : decode cX6_drop 33 = .ok (.aaload, 1) := by decide +kernel
theorem dX6_drop_34 : decode cX6_drop 34 = .ok (.iconst 0, 1) := by decide +kernel
theorem dX6_drop_35 : decode cX6_drop 35 = .ok (.putfield 92, 3) := by decide +kernel
theorem dX6_drop_38 : decode cX6_drop 38 = .ok (.aload_n 0, 1) := by decide +kernel
theorem dX6_drop_39 : decode cX6_drop 39 = .ok (.aload_n 0, 1) := by decide +kernel
theorem dX6_drop_40 : decode cX6_drop 40 = .ok (.getfield 11, 3) := by decide +kernel
theorem dX6_drop_43 : decode cX6_drop 43 = .ok (.iload_n 1, 1) := by decide +kernel
theorem dX6_drop_44 : decode cX6_drop 44 = .ok (.aaload, 1) := by decide +kernel
theorem dX6_drop_45 : decode cX6_drop 45 = .ok (.getfield 113, 3) := by decide +kernel
theorem dX6_drop_48 : decode cX6_drop 48 = .ok (.invokevirtual 82, 3) := by decide +kernel
theorem dX6_drop_51 : decode cX6_drop 51 = .ok (.ireturn, 1) := by decide +kernel
theorem dX6_feed_0 : decode cX6_feed 0 = .ok (.iload_n 1, 1) := by decide +kernel
theorem dX6_feed_1 : decode cX6_feed 1 = .ok (.iconst 0, 1) := by decide +kernel
theorem dX6_feed_2 : decode cX6_feed 2 = .ok (.sipush 255, 3) := by decide +kernel
theorem dX6_feed_5 : decode cX6_feed 5 = .ok (.invokestatic 69, 3) := by decide +kernel
theorem dX6_feed_8 : decode cX6_feed 8 = .ok (.ifCond .ne 6, 3) := by decide +kernel
theorem dX6_feed_11 : decode cX6_feed 11 = .ok (.ldc 73, 2) := by decide +kernel
theorem dX6_feed_13 : decode cX6_feed 13 = .ok (.ireturn, 1) := by decide +kernel
theorem dX6_feed_14 : decode cX6_feed 14 = .ok (.aload_n 0, 1) := by decide +kernel
theorem dX6_feed_15 : decode cX6_feed 15 = .ok (.getfield 18, 3) := by decide +kernel
theorem dX6_feed_18 : decode cX6_feed 18 = .ok (.iload_n 1, 1) := by decide +kernel
theorem dX6_feed_19 : decode cX6_feed 19 = .ok (.invokevirtual 116, 3) := by decide +kernel
theorem dX6_feed_22 : decode cX6_feed 22 = .ok (.ifCond .eq 13, 3) := by decide +kernel
theorem dX6_feed_25 : decode cX6_feed 25 = .ok (.aload_n 0, 1) := by decide +kernel
theorem dX6_feed_26 : decode cX6_feed 26 = .ok (.getfield 18, 3) := by decide +kernel
theorem dX6_feed_29 : decode cX6_feed 29 = .ok (.getfield 119, 3) := by decide +kernel
theorem dX6_feed_32 : decode cX6_feed 32 = .ok (.goto 5, 3) := by decide +kernel
theorem dX6_feed_35 : decode cX6_feed 35 = .ok (.ldc 120, 2) := by decide +kernel
theorem dX6_feed_37 : decode cX6_feed 37 = .ok (.ireturn, 1) := by decide +kernel
theorem dX6_herd_0 : decode cX6_herd 0 = .ok (.aload_n 0, 1) := by decide +kernel
theorem dX6_herd_1 : decode cX6_herd 1 = .ok (.getfield 18, 3) := by decide +kernel
theorem dX6_herd_4 : decode cX6_herd 4 = .ok (.aload_n 0, 1) := by decide +kernel
theorem dX6_herd_5 : decode cX6_herd 5 = .ok (.getfield 29, 3) := by decide +kernel
theorem dX6_herd_8 : decode cX6_herd 8 = .ok (.invokevirtual 121, 3) := by decide +kernel
theorem dX6_herd_11 : decode cX6_herd 11 = .ok (.aload_n 0, 1) := by decide +kernel
theorem dX6_herd_12 : decode cX6_herd 12 = .ok (.getfield 18, 3) := by decide +kernel
theorem dX6_herd_15 : decode cX6_herd 15 = .ok (.iconst 0, 1) := by decide +kernel
theorem dX6_herd_16 : decode cX6_herd 16 = .ok (.putfield 119, 3) := by decide +kernel
theorem dX6_herd_19 : decode cX6_herd 19 = .ok (.aload_n 0, 1) := by decide +kernel
theorem dX6_herd_20 : decode cX6_herd 20 = .ok (.getfield 18, 3) := by decide +kernel
theorem dX6_herd_23 : decode cX6_herd 23 = .ok (.getfield 125, 3) := by decide +kernel
theorem dX6_herd_26 : decode cX6_herd 26 = .ok (.ifCond .eq 25, 3) := by decide +kernel
theorem dX6_herd_29 : decode cX6_herd 29 = .ok (.aload_n 0, 1) := by decide +kernel
theorem dX6_herd_30 : decode cX6_herd 30 = .ok (.aload_n 0, 1) := by decide +kernel
theorem dX6_herd_31 : decode cX6_herd 31 = .ok (.getfield 18, 3) := by decide +kernel
theorem dX6_herd_34 : decode cX6_herd 34 = .ok (.getfield 125, 3) := by decide +kernel
theorem dX6_herd_37 : decode cX6_herd 37 = .ok (.putfield 61, 3) := by decide +kernel
theorem dX6_herd_40 : decode cX6_herd 40 = .ok (.ldc 128, 2) := by decide +kernel
theorem dX6_herd_42 : decode cX6_herd 42 = .ok (.aload_n 0, 1) := by decide +kernel
theorem dX6_herd_43 : decode cX6_herd 43 = .ok (.getfield 18, 3) := by decide +kernel
theorem dX6_herd_46 : decode cX6_herd 46 = .ok (.getfield 129, 3) := by decide +kernel
theorem dX6_herd_49 : decode cX6_herd 49 = .ok (.isub, 1) := by decide +kernel
theorem dX6_herd_50 : decode cX6_herd 50 = .ok (.ireturn, 1) := by decide +kernel
theorem dX6_herd_51 : decode cX6_herd 51 = .ok (.aload_n 0, 1) := by decide +kernel
theorem dX6_herd_52 : decode cX6_herd 52 = .ok (.getfield 25, 3) := by decide +kernel
theorem dX6_herd_55 : decode cX6_herd 55 = .ok (.aload_n 0, 1) := by decide +kernel
theorem dX6_herd_56 : decode cX6_herd 56 = .ok (.getfield 29, 3) := by decide +kernel
theorem dX6_herd_59 : decode cX6_herd 59 = .ok (.invokevirtual 132, 3) := by decide +kernel
theorem dX6_herd_62 : decode cX6_herd 62 = .ok (.aload_n 0, 1) := by decide +kernel
theorem dX6_herd_63 : decode cX6_herd 63 = .ok (.getfield 46, 3) := by decide +kernel
theorem dX6_herd_66 : decode cX6_herd 66 = .ok (.invokevirtual 135, 3) := by decide +kernel
theorem dX6_herd_69 : decode cX6_herd 69 = .ok (.aload_n 0, 1) := by decide +kernel
theorem dX6_herd_70 : decode cX6_herd 70 = .ok (.getfield 25, 3) := by decide +kernel
theorem dX6_herd_73 : decode cX6_herd 73 = .ok (.getfield 138, 3) := by decide +kernel
theorem dX6_herd_76 : decode cX6_herd 76 = .ok (.ireturn, 1) := by decide +kernel
theorem dX6_fault_0 : decode cX6_fault 0 = .ok (.aload_n 0, 1) := by decide +kernel
theorem dX6_fault_1 : decode cX6_fault 1 = .ok (.getfield 61, 3) := by decide +kernel
theorem dX6_fault_4 : decode cX6_fault 4 = .ok (.ireturn, 1) := by decide +kernel
theorem dX6_undo_0 : decode cX6_undo 0 = .ok (.aload_n 0, 1) := by decide +kernel
theorem dX6_undo_1 : decode cX6_undo 1 = .ok (.getfield 46, 3) := by decide +kernel
theorem dX6_undo_4 : decode cX6_undo 4 = .ok (.getfield 141, 3) := by decide +kernel
theorem dX6_undo_7 : decode cX6_undo 7 = .ok (.ifCond .ne 6, 3) := by decide +kernel
theorem dX6_undo_10 : decode cX6_undo 10 = .ok (.ldc 142, 2) := by decide +kernel
theorem dX6_undo_12 : decode cX6_undo 12 = .ok (.ireturn, 1) := by decide +kernel
theorem dX6_undo_13 : decode cX6_undo 13 = .ok (.aload_n 0, 1) := by decide +kernel
theorem dX6_undo_14 : decode cX6_undo 14 = .ok (.getfield 46, 3) := by decide +kernel
theorem dX6_undo_17 : decode cX6_undo 17 = .ok (.aload_n 0, 1) := by decide +kernel
theorem dX6_undo_18 : decode cX6_undo 18 = .ok (.getfield 25, 3) := by decide +kernel
theorem dX6_undo_21 : decode cX6_undo 21 = .ok (.invokevirtual 143, 3) := by decide +kernel
theorem dX6_undo_24 : decode cX6_undo 24 = .ok (.aload_n 0, 1) := by decide +kernel
theorem dX6_undo_25 : decode cX6_undo 25 = .ok (.getfield 46, 3) := by decide +kernel
theorem dX6_undo_28 : decode cX6_undo 28 = .ok (.getfield 141, 3) := by decide +kernel
theorem dX6_undo_31 : decode cX6_undo 31 = .ok (.ireturn, 1) := by decide +kernel
theorem dX6_hours_0 : decode cX6_hours 0 = .ok (.aload_n 0, 1) := by decide +kernel
theorem dX6_hours_1 : decode cX6_hours 1 = .ok (.getfield 25, 3) := by decide +kernel
theorem dX6_hours_4 : decode cX6_hours 4 = .ok (.getfield 146, 3) := by decide +kernel
theorem dX6_hours_7 : decode cX6_hours 7 = .ok (.ifCond .ne 6, 3) := by decide +kernel
theorem dX6_hours_10 : decode cX6_hours 10 = .ok (.ldc 142, 2) := by decide +kernel
theorem dX6_hours_12 : decode cX6_hours 12 = .ok (.ireturn, 1) := by decide +kernel
theorem dX6_hours_13 : decode cX6_hours 13 = .ok (.iload_n 1, 1) := by decide +kernel
theorem dX6_hours_14 : decode cX6_hours 14 = .ok (.iconst 1, 1) := by decide +kernel
theorem dX6_hours_15 : decode cX6_hours 15 = .ok (.bipush 24, 2) := by decide +kernel
theorem dX6_hours_17 : decode cX6_hours 17 = .ok (.invokestatic 69, 3) := by decide +kernel
theorem dX6_hours_20 : decode cX6_hours 20 = .ok (.ifCond .ne 6, 3) := by decide +kernel
theorem dX6_hours_23 : decode cX6_hours 23 = .ok (.ldc 73, 2) := by decide +kernel
theorem dX6_hours_25 : decode cX6_hours 25 = .ok (.ireturn, 1) := by decide +kernel
theorem dX6_hours_26 : decode cX6_hours 26 = .ok (.aload_n 0, 1) := by decide +kernel
theorem dX6_hours_27 : decode cX6_hours 27 = .ok (.getfield 25, 3) := by decide +kernel
theorem dX6_hours_30 : decode cX6_hours 30 = .ok (.getfield 149, 3) := by decide +kernel
theorem dX6_hours_33 : decode cX6_hours 33 = .ok (.iload_n 1, 1) := by decide +kernel
theorem dX6_hours_34 : decode cX6_hours 34 = .ok (.iadd, 1) := by decide +kernel
theorem dX6_hours_35 : decode cX6_hours 35 = .ok (.sipush 999, 3) := by decide +kernel
theorem dX6_hours_38 : decode cX6_hours 38 = .ok (.if_icmp .le 6, 3) := by decide +kernel
theorem dX6_hours_41 : decode cX6_hours 41 = .ok (.ldc 120, 2) := by decide +kernel
theorem dX6_hours_43 : decode cX6_hours 43 = .ok (.ireturn, 1) := by decide +kernel
theorem dX6_hours_44 : decode cX6_hours 44 = .ok (.iconst 0, 1) := by decide +kernel
theorem dX6_hours_45 : decode cX6_hours 45 = .ok (.istore_n 2, 1) := by decide +kernel
theorem dX6_hours_46 : decode cX6_hours 46 = .ok (.iload_n 2, 1) := by decide +kernel
theorem dX6_hours_47 : decode cX6_hours 47 = .ok (.iload_n 1, 1) := by decide +kernel
theorem dX6_hours_48 : decode cX6_hours 48 = .ok (.if_icmp .ge 27, 3) := by decide +kernel
theorem dX6_hours_51 : decode cX6_hours 51 = .ok (.aload_n 0, 1) := by decide +kernel
theorem dX6_hours_52 : decode cX6_hours 52 = .ok (.getfield 46, 3) := by decide +kernel
theorem dX6_hours_55 : decode cX6_hours 55 = .ok (.aload_n 0, 1) := by decide +kernel
theorem dX6_hours_56 : decode cX6_hours 56 = .ok (.getfield 25, 3) := by decide +kernel
theorem dX6_hours_59 : decode cX6_hours 59 = .ok (.invokevirtual 152, 3) := by decide +kernel
theorem dX6_hours_62 : decode cX6_hours 62 = .ok (.aload_n 0, 1) := by decide +kernel
theorem dX6_hours_63 : decode cX6_hours 63 = .ok (.getfield 25, 3) := by decide +kernel
theorem dX6_hours_66 : decode cX6_hours 66 = .ok (.invokevirtual 155, 3) := by decide +kernel
theorem dX6_hours_69 : decode cX6_hours 69 = .ok (.iinc 2 1, 3) := by decide +kernel
theorem dX6_hours_72 : decode cX6_hours 72 = .ok (.goto (-26), 3) := by decide +kernel
theorem dX6_hours_75 : decode cX6_hours 75 = .ok (.aload_n 0, 1) := by decide +kernel
theorem dX6_hours_76 : decode cX6_hours 76 = .ok (.getfield 25, 3) := by decide +kernel
theorem dX6_hours_79 : decode cX6_hours 79 = .ok (.getfield 158, 3) := by decide +kernel
theorem dX6_hours_82 : decode cX6_hours 82 = .ok (.ireturn, 1) := by decide +kernel
theorem dX6_lift_0 : decode cX6_lift 0 = .ok (.aload_n 0, 1) := by decide +kernel
theorem dX6_lift_1 : decode cX6_lift 1 = .ok (.iload_n 1, 1) := by decide +kernel
theorem dX6_lift_2 : decode cX6_lift 2 = .ok (.invokevirtual 161, 3) := by decide +kernel
theorem dX6_lift_5 : decode cX6_lift 5 = .ok (.ifCond .eq 12, 3) := by decide +kernel
theorem dX6_lift_8 : decode cX6_lift 8 = .ok (.iload_n 2, 1) := by decide +kernel
theorem dX6_lift_9 : decode cX6_lift 9 = .ok (.iconst 0, 1) := by decide +kernel
theorem dX6_lift_10 : decode cX6_lift 10 = .ok (.iconst 1, 1) := by decide +kernel
theorem dX6_lift_11 : decode cX6_lift 11 = .ok (.invokestatic 69, 3) := by decide +kernel
theorem dX6_lift_14 : decode cX6_lift 14 = .ok (.ifCond .ne 6, 3) := by decide +kernel
theorem dX6_lift_17 : decode cX6_lift 17 = .ok (.ldc 73, 2) := by decide +kernel
theorem dX6_lift_19 : decode cX6_lift 19 = .ok (.ireturn, 1) := by decide +kernel
theorem dX6_lift_20 : decode cX6_lift 20 = .ok (.aload_n 0, 1) := by decide +kernel
theorem dX6_lift_21 : decode cX6_lift 21 = .ok (.getfield 25, 3) := by decide +kernel
theorem dX6_lift_24 : decode cX6_lift 24 = .ok (.getfield 164, 3) := by decide +kernel
theorem dX6_lift_27 : decode cX6_lift 27 = .ok (.iload_n 1, 1) := by decide +kernel
theorem dX6_lift_28 : decode cX6_lift 28 = .ok (.aaload, 1) := by decide +kernel
theorem dX6_lift_29 : decode cX6_lift 29 = .ok (.astore_n 3, 1) := by decide +kernel
theorem dX6_lift_30 : decode cX6_lift 30 = .ok (.aload_n 3, 1) := by decide +kernel
theorem dX6_lift_31 : decode cX6_lift 31 = .ok (.getfield 168, 3) := by decide +kernel
theorem dX6_lift_34 : decode cX6_lift 34 = .ok (.ifCond .ne 18, 3) := by decide +kernel
theorem dX6_lift_37 : decode cX6_lift 37 = .ok (.aload_n 3, 1) := by decide +kernel
theorem dX6_lift_38 : decode cX6_lift 38 = .ok (.invokevirtual 171, 3) := by decide +kernel
theorem dX6_lift_41 : decode cX6_lift 41 = .ok (.ifCond .eq 11, 3) := by decide +kernel
theorem dX6_lift_44 : decode cX6_lift 44 = .ok (.aload_n 3, 1) := by decide +kernel
theorem dX6_lift_45 : decode cX6_lift 45 = .ok (.getfield 175, 3) := by decide +kernel
theorem dX6_lift_48 : decode cX6_lift 48 = .ok (.iload_n 2, 1) := by decide +kernel
theorem dX6_lift_49 : decode cX6_lift 49 = .ok (.if_icmp .ne 6, 3) := by decide +kernel
theorem dX6_lift_52 : decode cX6_lift 52 = .ok (.ldc 142, 2) := by decide +kernel
theorem dX6_lift_54 : decode cX6_lift 54 = .ok (.ireturn, 1) := by decide +kernel
theorem dX6_lift_55 : decode cX6_lift 55 = .ok (.aload_n 0, 1) := by decide +kernel
theorem dX6_lift_56 : decode cX6_lift 56 = .ok (.getfield 46, 3) := by decide +kernel
theorem dX6_lift_59 : decode cX6_lift 59 = .ok (.aload_n 0, 1) := by decide +kernel
theorem dX6_lift_60 : decode cX6_lift 60 = .ok (.getfield 25, 3) := by decide +kernel
theorem dX6_lift_63 : decode cX6_lift 63 = .ok (.invokevirtual 152, 3) := by decide +kernel
theorem dX6_lift_66 : decode cX6_lift 66 = .ok (.aload_n 3, 1) := by decide +kernel
theorem dX6_lift_67 : decode cX6_lift 67 = .ok (.iload_n 2, 1) := by decide +kernel
theorem dX6_lift_68 : decode cX6_lift 68 = .ok (.invokevirtual 178, 3) := by decide +kernel
theorem dX6_lift_71 : decode cX6_lift 71 = .ok (.aload_n 3, 1) := by decide +kernel
theorem dX6_lift_72 : decode cX6_lift 72 = .ok (.getfield 182, 3) := by decide +kernel
theorem dX6_lift_75 : decode cX6_lift 75 = .ok (.ireturn, 1) := by decide +kernel
theorem dX6_rains_0 : decode cX6_rains 0 = .ok (.aload_n 0, 1) := by decide +kernel
theorem dX6_rains_1 : decode cX6_rains 1 = .ok (.iload_n 1, 1) := by decide +kernel
theorem dX6_rains_2 : decode cX6_rains 2 = .ok (.invokevirtual 161, 3) := by decide +kernel
theorem dX6_rains_5 : decode cX6_rains 5 = .ok (.ifCond .eq 12, 3) := by decide +kernel
theorem dX6_rains_8 : decode cX6_rains 8 = .ok (.iload_n 2, 1) := by decide +kernel
theorem dX6_rains_9 : decode cX6_rains 9 = .ok (.iconst 0, 1) := by decide +kernel
theorem dX6_rains_10 : decode cX6_rains 10 = .ok (.iconst 1, 1) := by decide +kernel
theorem dX6_rains_11 : decode cX6_rains 11 = .ok (.invokestatic 69, 3) := by decide +kernel
theorem dX6_rains_14 : decode cX6_rains 14 = .ok (.ifCond .ne 6, 3) := by decide +kernel
theorem dX6_rains_17 : decode cX6_rains 17 = .ok (.ldc 73, 2) := by decide +kernel
theorem dX6_rains_19 : decode cX6_rains 19 = .ok (.ireturn, 1) := by decide +kernel
theorem dX6_rains_20 : decode cX6_rains 20 = .ok (.aload_n 0, 1) := by decide +kernel
theorem dX6_rains_21 : decode cX6_rains 21 = .ok (.getfield 25, 3) := by decide +kernel
theorem dX6_rains_24 : decode cX6_rains 24 = .ok (.getfield 164, 3) := by decide +kernel
theorem dX6_rains_27 : decode cX6_rains 27 = .ok (.iload_n 1, 1) := by decide +kernel
theorem dX6_rains_28 : decode cX6_rains 28 = .ok (.aaload, 1) := by decide +kernel
theorem dX6_rains_29 : decode cX6_rains 29 = .ok (.astore_n 3, 1) := by decide +kernel
theorem dX6_rains_30 : decode cX6_rains 30 = .ok (.aload_n 3, 1) := by decide +kernel
theorem dX6_rains_31 : decode cX6_rains 31 = .ok (.getfield 168, 3) := by decide +kernel
theorem dX6_rains_34 : decode cX6_rains 34 = .ok (.ifCond .ne 19, 3) := by decide +kernel
theorem dX6_rains_37 : decode cX6_rains 37 = .ok (.aload_n 3, 1) := by decide +kernel
theorem dX6_rains_38 : decode cX6_rains 38 = .ok (.getfield 185, 3) := by decide +kernel
theorem dX6_rains_41 : decode cX6_rains 41 = .ok (.iconst 1, 1) := by decide +kernel
theorem dX6_rains_42 : decode cX6_rains 42 = .ok (.if_icmp .eq 14, 3) := by decide +kernel
theorem dX6_rains_45 : decode cX6_rains 45 = .ok (.aload_n 3, 1) := by decide +kernel
theorem dX6_rains_46 : decode cX6_rains 46 = .ok (.getfield 185, 3) := by decide +kernel
theorem dX6_rains_49 : decode cX6_rains 49 = .ok (.iconst 2, 1) := by decide +kernel
theorem dX6_rains_50 : decode cX6_rains 50 = .ok (.if_icmp .eq 6, 3) := by decide +kernel
theorem dX6_rains_53 : decode cX6_rains 53 = .ok (.ldc 142, 2) := by decide +kernel
theorem dX6_rains_55 : decode cX6_rains 55 = .ok (.ireturn, 1) := by decide +kernel
theorem dX6_rains_56 : decode cX6_rains 56 = .ok (.aload_n 3, 1) := by decide +kernel
theorem dX6_rains_57 : decode cX6_rains 57 = .ok (.getfield 188, 3) := by decide +kernel
theorem dX6_rains_60 : decode cX6_rains 60 = .ok (.invokestatic 191, 3) := by decide +kernel
theorem dX6_rains_63 : decode cX6_rains 63 = .ok (.istore 4, 2) := by decide +kernel
theorem dX6_rains_65 : decode cX6_rains 65 = .ok (.aload_n 0, 1) := by decide +kernel
theorem dX6_rains_66 : decode cX6_rains 66 = .ok (.getfield 46, 3) := by decide +kernel
theorem dX6_rains_69 : decode cX6_rains 69 = .ok (.aload_n 0, 1) := by decide +kernel
theorem dX6_rains_70 : decode cX6_rains 70 = .ok (.getfield 25, 3) := by decide +kernel
theorem dX6_rains_73 : decode cX6_rains 73 = .ok (.invokevirtual 152, 3) := by decide +kernel
theorem dX6_rains_76 : decode cX6_rains 76 = .ok (.aload_n 3, 1) := by decide +kernel
theorem dX6_rains_77 : decode cX6_rains 77 = .ok (.iload_n 2, 1) := by decide +kernel
theorem dX6_rains_78 : decode cX6_rains 78 = .ok (.iconst 1, 1) := by decide +kernel
theorem dX6_rains_79 : decode cX6_rains 79 = .ok (.if_icmp .ne 7, 3) := by decide +kernel
theorem dX6_rains_82 : decode cX6_rains 82 = .ok (.iconst 1, 1) := by decide +kernel
theorem dX6_rains_83 : decode cX6_rains 83 = .ok (.goto 4, 3) := by decide +kernel
theorem dX6_rains_86 : decode cX6_rains 86 = .ok (.iconst 0, 1) := by decide +kernel
theorem dX6_rains_87 : decode cX6_rains 87 = .ok (.putfield 188, 3) := by decide +kernel
theorem dX6_rains_90 : decode cX6_rains 90 = .ok (.iload 4, 2) := by decide +kernel
theorem dX6_rains_92 : decode cX6_rains 92 = .ok (.ireturn, 1) := by decide +kernel
theorem dX6_cloud_0 : decode cX6_cloud 0 = .ok (.aload_n 0, 1) := by decide +kernel
theorem dX6_cloud_1 : decode cX6_cloud 1 = .ok (.iload_n 1, 1) := by decide +kernel
theorem dX6_cloud_2 : decode cX6_cloud 2 = .ok (.invokevirtual 161, 3) := by decide +kernel
theorem dX6_cloud_5 : decode cX6_cloud 5 = .ok (.ifCond .eq 12, 3) := by decide +kernel
theorem dX6_cloud_8 : decode cX6_cloud 8 = .ok (.iload_n 2, 1) := by decide +kernel
theorem dX6_cloud_9 : decode cX6_cloud 9 = .ok (.iconst 0, 1) := by decide +kernel
theorem dX6_cloud_10 : decode cX6_cloud 10 = .ok (.iconst 4, 1) := by decide +kernel
theorem dX6_cloud_11 : decode cX6_cloud 11 = .ok (.invokestatic 69, 3) := by decide +kernel
theorem dX6_cloud_14 : decode cX6_cloud 14 = .ok (.ifCond .ne 6, 3) := by decide +kernel
theorem dX6_cloud_17 : decode cX6_cloud 17 = .ok (.ldc 73, 2) := by decide +kernel
theorem dX6_cloud_19 : decode cX6_cloud 19 = .ok (.ireturn, 1) := by decide +kernel
theorem dX6_cloud_20 : decode cX6_cloud 20 = .ok (.aload_n 0, 1) := by decide +kernel
theorem dX6_cloud_21 : decode cX6_cloud 21 = .ok (.getfield 25, 3) := by decide +kernel
theorem dX6_cloud_24 : decode cX6_cloud 24 = .ok (.getfield 164, 3) := by decide +kernel
theorem dX6_cloud_27 : decode cX6_cloud 27 = .ok (.iload_n 1, 1) := by decide +kernel
theorem dX6_cloud_28 : decode cX6_cloud 28 = .ok (.aaload, 1) := by decide +kernel
theorem dX6_cloud_29 : decode cX6_cloud 29 = .ok (.iload_n 2, 1) := by decide +kernel
theorem dX6_cloud_30 : decode cX6_cloud 30 = .ok (.invokevirtual 195, 3) := by decide +kernel
theorem dX6_cloud_33 : decode cX6_cloud 33 = .ok (.ireturn, 1) := by decide +kernel
theorem dX6_cell_0 : decode cX6_cell 0 = .ok (.aload_n 0, 1) := by decide +kernel
theorem dX6_cell_1 : decode cX6_cell 1 = .ok (.getfield 25, 3) := by decide +kernel
theorem dX6_cell_4 : decode cX6_cell 4 = .ok (.getfield 146, 3) := by decide +kernel
theorem dX6_cell_7 : decode cX6_cell 7 = .ok (.ifCond .ne 6, 3) := by decide +kernel
theorem dX6_cell_10 : decode cX6_cell 10 = .ok (.ldc 142, 2) := by decide +kernel
theorem dX6_cell_12 : decode cX6_cell 12 = .ok (.ireturn, 1) := by decide +kernel
theorem dX6_cell_13 : decode cX6_cell 13 = .ok (.iload_n 1, 1) := by decide +kernel
theorem dX6_cell_14 : decode cX6_cell 14 = .ok (.invokestatic 198, 3) := by decide +kernel
theorem dX6_cell_17 : decode cX6_cell 17 = .ok (.ifCond .eq 12, 3) := by decide +kernel
theorem dX6_cell_20 : decode cX6_cell 20 = .ok (.iload_n 2, 1) := by decide +kernel
theorem dX6_cell_21 : decode cX6_cell 21 = .ok (.iconst 0, 1) := by decide +kernel
theorem dX6_cell_22 : decode cX6_cell 22 = .ok (.iconst 1, 1) := by decide +kernel
theorem dX6_cell_23 : decode cX6_cell 23 = .ok (.invokestatic 69, 3) := by decide +kernel
theorem dX6_cell_26 : decode cX6_cell 26 = .ok (.ifCond .ne 6, 3) := by decide +kernel
theorem dX6_cell_29 : decode cX6_cell 29 = .ok (.ldc 73, 2) := by decide +kernel
theorem dX6_cell_31 : decode cX6_cell 31 = .ok (.ireturn, 1) := by decide +kernel
theorem dX6_cell_32 : decode cX6_cell 32 = .ok (.iload_n 2, 1) := by decide +kernel
theorem dX6_cell_33 : decode cX6_cell 33 = .ok (.ifCond .ne 15, 3) := by decide +kernel
theorem dX6_cell_36 : decode cX6_cell 36 = .ok (.aload_n 0, 1) := by decide +kernel
theorem dX6_cell_37 : decode cX6_cell 37 = .ok (.getfield 25, 3) := by decide +kernel
theorem dX6_cell_40 : decode cX6_cell 40 = .ok (.getfield 201, 3) := by decide +kernel
theorem dX6_cell_43 : decode cX6_cell 43 = .ok (.iload_n 1, 1) := by decide +kernel
theorem dX6_cell_44 : decode cX6_cell 44 = .ok (.iaload, 1) := by decide +kernel
theorem dX6_cell_45 : decode cX6_cell 45 = .ok (.goto 11, 3) := by decide +kernel
theorem dX6_cell_48 : decode cX6_cell 48 = .ok (.aload_n 0, 1) := by decide +kernel
theorem dX6_cell_49 : decode cX6_cell 49 = .ok (.getfield 25, 3) := by decide +kernel
theorem dX6_cell_52 : decode cX6_cell 52 = .ok (.iload_n 1, 1) := by decide +kernel
theorem dX6_cell_53 : decode cX6_cell 53 = .ok (.invokevirtual 204, 3) := by decide +kernel
theorem dX6_cell_56 : decode cX6_cell 56 = .ok (.ireturn, 1) := by decide +kernel
theorem dX6_wind_0 : decode cX6_wind 0 = .ok (.aload_n 0, 1) := by decide +kernel
theorem dX6_wind_1 : decode cX6_wind 1 = .ok (.getfield 25, 3) := by decide +kernel
theorem dX6_wind_4 : decode cX6_wind 4 = .ok (.getfield 146, 3) := by decide +kernel
theorem dX6_wind_7 : decode cX6_wind 7 = .ok (.ifCond .ne 6, 3) := by decide +kernel
theorem dX6_wind_10 : decode cX6_wind 10 = .ok (.ldc 142, 2) := by decide +kernel
theorem dX6_wind_12 : decode cX6_wind 12 = .ok (.ireturn, 1) := by decide +kernel
theorem dX6_wind_13 : decode cX6_wind 13 = .ok (.iload_n 1, 1) := by decide +kernel
theorem dX6_wind_14 : decode cX6_wind 14 = .ok (.iconst 0, 1) := by decide +kernel
theorem dX6_wind_15 : decode cX6_wind 15 = .ok (.iconst 1, 1) := by decide +kernel
theorem dX6_wind_16 : decode cX6_wind 16 = .ok (.invokestatic 69, 3) := by decide +kernel
theorem dX6_wind_19 : decode cX6_wind 19 = .ok (.ifCond .eq 12, 3) := by decide +kernel
theorem dX6_wind_22 : decode cX6_wind 22 = .ok (.iload_n 2, 1) := by decide +kernel
theorem dX6_wind_23 : decode cX6_wind 23 = .ok (.iconst 0, 1) := by decide +kernel
theorem dX6_wind_24 : decode cX6_wind 24 = .ok (.iconst 5, 1) := by decide +kernel
theorem dX6_wind_25 : decode cX6_wind 25 = .ok (.invokestatic 69, 3) := by decide +kernel
theorem dX6_wind_28 : decode cX6_wind 28 = .ok (.ifCond .ne 6, 3) := by decide +kernel
theorem dX6_wind_31 : decode cX6_wind 31 = .ok (.ldc 73, 2) := by decide +kernel
theorem dX6_wind_33 : decode cX6_wind 33 = .ok (.ireturn, 1) := by decide +kernel
theorem dX6_wind_34 : decode cX6_wind 34 = .ok (.aload_n 0, 1) := by decide +kernel
theorem dX6_wind_35 : decode cX6_wind 35 = .ok (.getfield 25, 3) := by decide +kernel
theorem dX6_wind_38 : decode cX6_wind 38 = .ok (.iload_n 1, 1) := by decide +kernel
theorem dX6_wind_39 : decode cX6_wind 39 = .ok (.iload_n 2, 1) := by decide +kernel
theorem dX6_wind_40 : decode cX6_wind 40 = .ok (.invokevirtual 207, 3) := by decide +kernel
theorem dX6_wind_43 : decode cX6_wind 43 = .ok (.ireturn, 1) := by decide +kernel
theorem dX6_ahead_0 : decode cX6_ahead 0 = .ok (.aload_n 0, 1) := by decide +kernel
theorem dX6_ahead_1 : decode cX6_ahead 1 = .ok (.iload_n 1, 1) := by decide +kernel
theorem dX6_ahead_2 : decode cX6_ahead 2 = .ok (.invokevirtual 161, 3) := by decide +kernel
theorem dX6_ahead_5 : decode cX6_ahead 5 = .ok (.ifCond .eq 22, 3) := by decide +kernel
theorem dX6_ahead_8 : decode cX6_ahead 8 = .ok (.iload_n 2, 1) := by decide +kernel
theorem dX6_ahead_9 : decode cX6_ahead 9 = .ok (.iconst 0, 1) := by decide +kernel
theorem dX6_ahead_10 : decode cX6_ahead 10 = .ok (.bipush 60, 2) := by decide +kernel
theorem dX6_ahead_12 : decode cX6_ahead 12 = .ok (.invokestatic 69, 3) := by decide +kernel
theorem dX6_ahead_15 : decode cX6_ahead 15 = .ok (.ifCond .eq 12, 3) := by decide +kernel
theorem dX6_ahead_18 : decode cX6_ahead 18 = .ok (.iload_n 3, 1) := by decide +kernel
theorem dX6_ahead_19 : decode cX6_ahead 19 = .ok (.iconst 0, 1) := by decide +kernel
theorem dX6_ahead_20 : decode cX6_ahead 20 = .ok (.iconst 3, 1) := by decide +kernel
theorem dX6_ahead_21 : decode cX6_ahead 21 = .ok (.invokestatic 69, 3) := by decide +kernel
theorem dX6_ahead_24 : decode cX6_ahead 24 = .ok (.ifCond .ne 6, 3) := by decide +kernel
theorem dX6_ahead_27 : decode cX6_ahead 27 = .ok (.ldc 73, 2) := by decide +kernel
theorem dX6_ahead_29 : decode cX6_ahead 29 = .ok (.ireturn, 1) := by decide +kernel
theorem dX6_ahead_30 : decode cX6_ahead 30 = .ok (.aload_n 0, 1) := by decide +kernel
theorem dX6_ahead_31 : decode cX6_ahead 31 = .ok (.iload_n 2, 1) := by decide +kernel
theorem dX6_ahead_32 : decode cX6_ahead 32 = .ok (.invokevirtual 210, 3) := by decide +kernel
theorem dX6_ahead_35 : decode cX6_ahead 35 = .ok (.aload_n 0, 1) := by decide +kernel
theorem dX6_ahead_36 : decode cX6_ahead 36 = .ok (.getfield 29, 3) := by decide +kernel
theorem dX6_ahead_39 : decode cX6_ahead 39 = .ok (.getfield 164, 3) := by decide +kernel
theorem dX6_ahead_42 : decode cX6_ahead 42 = .ok (.iload_n 1, 1) := by decide +kernel
theorem dX6_ahead_43 : decode cX6_ahead 43 = .ok (.aaload, 1) := by decide +kernel
theorem dX6_ahead_44 : decode cX6_ahead 44 = .ok (.iload_n 3, 1) := by decide +kernel
theorem dX6_ahead_45 : decode cX6_ahead 45 = .ok (.invokevirtual 195, 3) := by decide +kernel
theorem dX6_ahead_48 : decode cX6_ahead 48 = .ok (.ireturn, 1) := by decide +kernel
theorem dX6_earned_0 : decode cX6_earned 0 = .ok (.aload_n 0, 1) := by decide +kernel
theorem dX6_earned_1 : decode cX6_earned 1 = .ok (.getfield 25, 3) := by decide +kernel
theorem dX6_earned_4 : decode cX6_earned 4 = .ok (.getfield 146, 3) := by decide +kernel
theorem dX6_earned_7 : decode cX6_earned 7 = .ok (.ifCond .ne 6, 3) := by decide +kernel
theorem dX6_earned_10 : decode cX6_earned 10 = .ok (.ldc 142, 2) := by decide +kernel
theorem dX6_earned_12 : decode cX6_earned 12 = .ok (.ireturn, 1) := by decide +kernel
theorem dX6_earned_13 : decode cX6_earned 13 = .ok (.iload_n 1, 1) := by decide +kernel
theorem dX6_earned_14 : decode cX6_earned 14 = .ok (.iconst 0, 1) := by decide +kernel
theorem dX6_earned_15 : decode cX6_earned 15 = .ok (.bipush 60, 2) := by decide +kernel
theorem dX6_earned_17 : decode cX6_earned 17 = .ok (.invokestatic 69, 3) := by decide +kernel
theorem dX6_earned_20 : decode cX6_earned 20 = .ok (.ifCond .ne 6, 3) := by decide +kernel
theorem dX6_earned_23 : decode cX6_earned 23 = .ok (.ldc 73, 2) := by decide +kernel
theorem dX6_earned_25 : decode cX6_earned 25 = .ok (.ireturn, 1) := by decide +kernel
theorem dX6_earned_26 : decode cX6_earned 26 = .ok (.aload_n 0, 1) := by decide +kernel
theorem dX6_earned_27 : decode cX6_earned 27 = .ok (.iload_n 1, 1) := by decide +kernel
theorem dX6_earned_28 : decode cX6_earned 28 = .ok (.invokevirtual 210, 3) := by decide +kernel
theorem dX6_earned_31 : decode cX6_earned 31 = .ok (.aload_n 0, 1) := by decide +kernel
theorem dX6_earned_32 : decode cX6_earned 32 = .ok (.getfield 29, 3) := by decide +kernel
theorem dX6_earned_35 : decode cX6_earned 35 = .ok (.getfield 158, 3) := by decide +kernel
theorem dX6_earned_38 : decode cX6_earned 38 = .ok (.ireturn, 1) := by decide +kernel
theorem dX6_knot_0 : decode cX6_knot 0 = .ok (.aload_n 0, 1) := by decide +kernel
theorem dX6_knot_1 : decode cX6_knot 1 = .ok (.getfield 25, 3) := by decide +kernel
theorem dX6_knot_4 : decode cX6_knot 4 = .ok (.getfield 146, 3) := by decide +kernel
theorem dX6_knot_7 : decode cX6_knot 7 = .ok (.ifCond .ne 6, 3) := by decide +kernel
theorem dX6_knot_10 : decode cX6_knot 10 = .ok (.ldc 142, 2) := by decide +kernel
theorem dX6_knot_12 : decode cX6_knot 12 = .ok (.ireturn, 1) := by decide +kernel
theorem dX6_knot_13 : decode cX6_knot 13 = .ok (.iload_n 1, 1) := by decide +kernel
theorem dX6_knot_14 : decode cX6_knot 14 = .ok (.iconst 1, 1) := by decide +kernel
theorem dX6_knot_15 : decode cX6_knot 15 = .ok (.bipush 60, 2) := by decide +kernel
theorem dX6_knot_17 : decode cX6_knot 17 = .ok (.invokestatic 69, 3) := by decide +kernel
theorem dX6_knot_20 : decode cX6_knot 20 = .ok (.ifCond .eq 12, 3) := by decide +kernel
theorem dX6_knot_23 : decode cX6_knot 23 = .ok (.iload_n 2, 1) := by decide +kernel
theorem dX6_knot_24 : decode cX6_knot 24 = .ok (.iconst 0, 1) := by decide +kernel
theorem dX6_knot_25 : decode cX6_knot 25 = .ok (.iconst 1, 1) := by decide +kernel
theorem dX6_knot_26 : decode cX6_knot 26 = .ok (.invokestatic 69, 3) := by decide +kernel
theorem dX6_knot_29 : decode cX6_knot 29 = .ok (.ifCond .ne 6, 3) := by decide +kernel
theorem dX6_knot_32 : decode cX6_knot 32 = .ok (.ldc 73, 2) := by decide +kernel
theorem dX6_knot_34 : decode cX6_knot 34 = .ok (.ireturn, 1) := by decide +kernel
theorem dX6_knot_35 : decode cX6_knot 35 = .ok (.aload_n 0, 1) := by decide +kernel
theorem dX6_knot_36 : decode cX6_knot 36 = .ok (.getfield 29, 3) := by decide +kernel
theorem dX6_knot_39 : decode cX6_knot 39 = .ok (.aload_n 0, 1) := by decide +kernel
theorem dX6_knot_40 : decode cX6_knot 40 = .ok (.getfield 25, 3) := by decide +kernel
theorem dX6_knot_43 : decode cX6_knot 43 = .ok (.invokevirtual 132, 3) := by decide +kernel
theorem dX6_knot_46 : decode cX6_knot 46 = .ok (.iconst 0, 1) := by decide +kernel
theorem dX6_knot_47 : decode cX6_knot 47 = .ok (.istore_n 3, 1) := by decide +kernel
theorem dX6_knot_48 : decode cX6_knot 48 = .ok (.iload_n 3, 1) := by decide +kernel
theorem dX6_knot_49 : decode cX6_knot 49 = .ok (.iload_n 1, 1) := by decide +kernel
theorem dX6_knot_50 : decode cX6_knot 50 = .ok (.if_icmp .ge 42, 3) := by decide +kernel
theorem dX6_knot_53 : decode cX6_knot 53 = .ok (.aload_n 0, 1) := by decide +kernel
theorem dX6_knot_54 : decode cX6_knot 54 = .ok (.getfield 29, 3) := by decide +kernel
theorem dX6_knot_57 : decode cX6_knot 57 = .ok (.invokevirtual 155, 3) := by decide +kernel
theorem dX6_knot_60 : decode cX6_knot 60 = .ok (.aload_n 0, 1) := by decide +kernel
theorem dX6_knot_61 : decode cX6_knot 61 = .ok (.getfield 29, 3) := by decide +kernel
theorem dX6_knot_64 : decode cX6_knot 64 = .ok (.getfield 213, 3) := by decide +kernel
theorem dX6_knot_67 : decode cX6_knot 67 = .ok (.ifCond .eq 19, 3) := by decide +kernel
theorem dX6_knot_70 : decode cX6_knot 70 = .ok (.iload_n 2, 1) := by decide +kernel
theorem dX6_knot_71 : decode cX6_knot 71 = .ok (.ifCond .ne 7, 3) := by decide +kernel
theorem dX6_knot_74 : decode cX6_knot 74 = .ok (.iload_n 3, 1) := by decide +kernel
theorem dX6_knot_75 : decode cX6_knot 75 = .ok (.goto 10, 3) := by decide +kernel
theorem dX6_knot_78 : decode cX6_knot 78 = .ok (.aload_n 0, 1) := by decide +kernel
theorem dX6_knot_79 : decode cX6_knot 79 = .ok (.getfield 29, 3) := by decide +kernel
theorem dX6_knot_82 : decode cX6_knot 82 = .ok (.getfield 213, 3) := by decide +kernel
theorem dX6_knot_85 : decode cX6_knot 85 = .ok (.ireturn, 1) := by decide +kernel
theorem dX6_knot_86 : decode cX6_knot 86 = .ok (.iinc 3 1, 3) := by decide +kernel
theorem dX6_knot_89 : decode cX6_knot 89 = .ok (.goto (-41), 3) := by decide +kernel
theorem dX6_knot_92 : decode cX6_knot 92 = .ok (.ldc 216, 2) := by decide +kernel
theorem dX6_knot_94 : decode cX6_knot 94 = .ok (.ireturn, 1) := by decide +kernel
theorem dX6_wetHay_0 : decode cX6_wetHay 0 = .ok (.aload_n 0, 1) := by decide +kernel
theorem dX6_wetHay_1 : decode cX6_wetHay 1 = .ok (.getfield 25, 3) := by decide +kernel
theorem dX6_wetHay_4 : decode cX6_wetHay 4 = .ok (.getfield 146, 3) := by decide +kernel
theorem dX6_wetHay_7 : decode cX6_wetHay 7 = .ok (.ifCond .ne 6, 3) := by decide +kernel
theorem dX6_wetHay_10 : decode cX6_wetHay 10 = .ok (.ldc 142, 2) := by decide +kernel
theorem dX6_wetHay_12 : decode cX6_wetHay 12 = .ok (.ireturn, 1) := by decide +kernel
theorem dX6_wetHay_13 : decode cX6_wetHay 13 = .ok (.iload_n 1, 1) := by decide +kernel
theorem dX6_wetHay_14 : decode cX6_wetHay 14 = .ok (.iconst 1, 1) := by decide +kernel
theorem dX6_wetHay_15 : decode cX6_wetHay 15 = .ok (.bipush 60, 2) := by decide +kernel
theorem dX6_wetHay_17 : decode cX6_wetHay 17 = .ok (.invokestatic 69, 3) := by decide +kernel
theorem dX6_wetHay_20 : decode cX6_wetHay 20 = .ok (.ifCond .eq 12, 3) := by decide +kernel
theorem dX6_wetHay_23 : decode cX6_wetHay 23 = .ok (.iload_n 2, 1) := by decide +kernel
theorem dX6_wetHay_24 : decode cX6_wetHay 24 = .ok (.iconst 0, 1) := by decide +kernel
theorem dX6_wetHay_25 : decode cX6_wetHay 25 = .ok (.iconst 1, 1) := by decide +kernel
theorem dX6_wetHay_26 : decode cX6_wetHay 26 = .ok (.invokestatic 69, 3) := by decide +kernel
theorem dX6_wetHay_29 : decode cX6_wetHay 29 = .ok (.ifCond .ne 6, 3) := by decide +kernel
theorem dX6_wetHay_32 : decode cX6_wetHay 32 = .ok (.ldc 73, 2) := by decide +kernel
theorem dX6_wetHay_34 : decode cX6_wetHay 34 = .ok (.ireturn, 1) := by decide +kernel
theorem dX6_wetHay_35 : decode cX6_wetHay 35 = .ok (.ldc 216, 2) := by decide +kernel
theorem dX6_wetHay_37 : decode cX6_wetHay 37 = .ok (.istore_n 3, 1) := by decide +kernel
theorem dX6_wetHay_38 : decode cX6_wetHay 38 = .ok (.iconst 0, 1) := by decide +kernel
theorem dX6_wetHay_39 : decode cX6_wetHay 39 = .ok (.istore 4, 2) := by decide +kernel
theorem dX6_wetHay_41 : decode cX6_wetHay 41 = .ok (.aload_n 0, 1) := by decide +kernel
theorem dX6_wetHay_42 : decode cX6_wetHay 42 = .ok (.getfield 29, 3) := by decide +kernel
theorem dX6_wetHay_45 : decode cX6_wetHay 45 = .ok (.aload_n 0, 1) := by decide +kernel
theorem dX6_wetHay_46 : decode cX6_wetHay 46 = .ok (.getfield 25, 3) := by decide +kernel
theorem dX6_wetHay_49 : decode cX6_wetHay 49 = .ok (.invokevirtual 132, 3) := by decide +kernel
theorem dX6_wetHay_52 : decode cX6_wetHay 52 = .ok (.iconst 0, 1) := by decide +kernel
theorem dX6_wetHay_53 : decode cX6_wetHay 53 = .ok (.istore 5, 2) := by decide +kernel
theorem dX6_wetHay_55 : decode cX6_wetHay 55 = .ok (.iload 5, 2) := by decide +kernel
theorem dX6_wetHay_57 : decode cX6_wetHay 57 = .ok (.iload_n 1, 1) := by decide +kernel
theorem dX6_wetHay_58 : decode cX6_wetHay 58 = .ok (.if_icmp .ge 47, 3) := by decide +kernel
theorem dX6_wetHay_61 : decode cX6_wetHay 61 = .ok (.aload_n 0, 1) := by decide +kernel
theorem dX6_wetHay_62 : decode cX6_wetHay 62 = .ok (.getfield 29, 3) := by decide +kernel
theorem dX6_wetHay_65 : decode cX6_wetHay 65 = .ok (.invokevirtual 155, 3) := by decide +kernel
theorem dX6_wetHay_68 : decode cX6_wetHay 68 = .ok (.iload_n 3, 1) := by decide +kernel
theorem dX6_wetHay_69 : decode cX6_wetHay 69 = .ok (.ldc 216, 2) := by decide +kernel
theorem dX6_wetHay_71 : decode cX6_wetHay 71 = .ok (.if_icmp .ne 16, 3) := by decide +kernel
theorem dX6_wetHay_74 : decode cX6_wetHay 74 = .ok (.aload_n 0, 1) := by decide +kernel
theorem dX6_wetHay_75 : decode cX6_wetHay 75 = .ok (.getfield 29, 3) := by decide +kernel
theorem dX6_wetHay_78 : decode cX6_wetHay 78 = .ok (.getfield 217, 3) := by decide +kernel
theorem dX6_wetHay_81 : decode cX6_wetHay 81 = .ok (.ifCond .le 6, 3) := by decide +kernel
theorem dX6_wetHay_84 : decode cX6_wetHay 84 = .ok (.iload 5, 2) := by decide +kernel
theorem dX6_wetHay_86 : decode cX6_wetHay 86 = .ok (.istore_n 3, 1) := by decide +kernel
theorem dX6_wetHay_87 : decode cX6_wetHay 87 = .ok (.iload 4, 2) := by decide +kernel
theorem dX6_wetHay_89 : decode cX6_wetHay 89 = .ok (.aload_n 0, 1) := by decide +kernel
theorem dX6_wetHay_90 : decode cX6_wetHay 90 = .ok (.getfield 29, 3) := by decide +kernel
theorem dX6_wetHay_93 : decode cX6_wetHay 93 = .ok (.getfield 217, 3) := by decide +kernel
theorem dX6_wetHay_96 : decode cX6_wetHay 96 = .ok (.iadd, 1) := by decide +kernel
theorem dX6_wetHay_97 : decode cX6_wetHay 97 = .ok (.istore 4, 2) := by decide +kernel
theorem dX6_wetHay_99 : decode cX6_wetHay 99 = .ok (.iinc 5 1, 3) := by decide +kernel
theorem dX6_wetHay_102 : decode cX6_wetHay 102 = .ok (.goto (-47), 3) := by decide +kernel
theorem dX6_wetHay_105 : decode cX6_wetHay 105 = .ok (.iload_n 2, 1) := by decide +kernel
theorem dX6_wetHay_106 : decode cX6_wetHay 106 = .ok (.ifCond .ne 7, 3) := by decide +kernel
theorem dX6_wetHay_109 : decode cX6_wetHay 109 = .ok (.iload_n 3, 1) := by decide +kernel
theorem dX6_wetHay_110 : decode cX6_wetHay 110 = .ok (.goto 13, 3) := by decide +kernel
theorem dX6_wetHay_113 : decode cX6_wetHay 113 = .ok (.iload 4, 2) := by decide +kernel
theorem dX6_wetHay_115 : decode cX6_wetHay 115 = .ok (.aload_n 0, 1) := by decide +kernel
theorem dX6_wetHay_116 : decode cX6_wetHay 116 = .ok (.getfield 25, 3) := by decide +kernel
theorem dX6_wetHay_119 : decode cX6_wetHay 119 = .ok (.getfield 220, 3) := by decide +kernel
theorem dX6_wetHay_122 : decode cX6_wetHay 122 = .ok (.imul, 1) := by decide +kernel
theorem dX6_wetHay_123 : decode cX6_wetHay 123 = .ok (.ireturn, 1) := by decide +kernel
theorem dX6_soon_0 : decode cX6_soon 0 = .ok (.aload_n 0, 1) := by decide +kernel
theorem dX6_soon_1 : decode cX6_soon 1 = .ok (.iload_n 1, 1) := by decide +kernel
theorem dX6_soon_2 : decode cX6_soon 2 = .ok (.invokevirtual 161, 3) := by decide +kernel
theorem dX6_soon_5 : decode cX6_soon 5 = .ok (.ifCond .eq 10, 3) := by decide +kernel
theorem dX6_soon_8 : decode cX6_soon 8 = .ok (.iload_n 2, 1) := by decide +kernel
theorem dX6_soon_9 : decode cX6_soon 9 = .ok (.invokestatic 198, 3) := by decide +kernel
theorem dX6_soon_12 : decode cX6_soon 12 = .ok (.ifCond .ne 6, 3) := by decide +kernel
theorem dX6_soon_15 : decode cX6_soon 15 = .ok (.ldc 73, 2) := by decide +kernel
theorem dX6_soon_17 : decode cX6_soon 17 = .ok (.ireturn, 1) := by decide +kernel
theorem dX6_soon_18 : decode cX6_soon 18 = .ok (.aload_n 0, 1) := by decide +kernel
theorem dX6_soon_19 : decode cX6_soon 19 = .ok (.getfield 25, 3) := by decide +kernel
theorem dX6_soon_22 : decode cX6_soon 22 = .ok (.getfield 164, 3) := by decide +kernel
theorem dX6_soon_25 : decode cX6_soon 25 = .ok (.iload_n 1, 1) := by decide +kernel
theorem dX6_soon_26 : decode cX6_soon 26 = .ok (.aaload, 1) := by decide +kernel
theorem dX6_soon_27 : decode cX6_soon 27 = .ok (.astore_n 3, 1) := by decide +kernel
theorem dX6_soon_28 : decode cX6_soon 28 = .ok (.aload_n 3, 1) := by decide +kernel
theorem dX6_soon_29 : decode cX6_soon 29 = .ok (.getfield 168, 3) := by decide +kernel
theorem dX6_soon_32 : decode cX6_soon 32 = .ok (.ifCond .eq 6, 3) := by decide +kernel
theorem dX6_soon_35 : decode cX6_soon 35 = .ok (.ldc 142, 2) := by decide +kernel
theorem dX6_soon_37 : decode cX6_soon 37 = .ok (.ireturn, 1) := by decide +kernel
theorem dX6_soon_38 : decode cX6_soon 38 = .ok (.iconst 1, 1) := by decide +kernel
theorem dX6_soon_39 : decode cX6_soon 39 = .ok (.aload_n 3, 1) := by decide +kernel
theorem dX6_soon_40 : decode cX6_soon 40 = .ok (.getfield 223, 3) := by decide +kernel
theorem dX6_soon_43 : decode cX6_soon 43 = .ok (.ishl, 1) := by decide +kernel
theorem dX6_soon_44 : decode cX6_soon 44 = .ok (.istore 4, 2) := by decide +kernel
theorem dX6_soon_46 : decode cX6_soon 46 = .ok (.iconst 0, 1) := by decide +kernel
theorem dX6_soon_47 : decode cX6_soon 47 = .ok (.istore 5, 2) := by decide +kernel
theorem dX6_soon_49 : decode cX6_soon 49 = .ok (.iload 5, 2) := by decide +kernel
theorem dX6_soon_51 : decode cX6_soon 51 = .ok (.bipush 24, 2) := by decide +kernel
theorem dX6_soon_53 : decode cX6_soon 53 = .ok (.if_icmp .gt 40, 3) := by decide +kernel
theorem dX6_soon_56 : decode cX6_soon 56 = .ok (.iload 4, 2) := by decide +kernel
theorem dX6_soon_58 : decode cX6_soon 58 = .ok (.iload_n 2, 1) := by decide +kernel
theorem dX6_soon_59 : decode cX6_soon 59 = .ok (.iushr, 1) := by decide +kernel
theorem dX6_soon_60 : decode cX6_soon 60 = .ok (.iconst 1, 1) := by decide +kernel
theorem dX6_soon_61 : decode cX6_soon 61 = .ok (.iand, 1) := by decide +kernel
theorem dX6_soon_62 : decode cX6_soon 62 = .ok (.ifCond .eq 6, 3) := by decide +kernel
theorem dX6_soon_65 : decode cX6_soon 65 = .ok (.iload 5, 2) := by decide +kernel
theorem dX6_soon_67 : decode cX6_soon 67 = .ok (.ireturn, 1) := by decide +kernel
theorem dX6_soon_68 : decode cX6_soon 68 = .ok (.aload_n 0, 1) := by decide +kernel
theorem dX6_soon_69 : decode cX6_soon 69 = .ok (.aload_n 3, 1) := by decide +kernel
theorem dX6_soon_70 : decode cX6_soon 70 = .ok (.iload 4, 2) := by decide +kernel
theorem dX6_soon_72 : decode cX6_soon 72 = .ok (.aload_n 0, 1) := by decide +kernel
theorem dX6_soon_73 : decode cX6_soon 73 = .ok (.getfield 25, 3) := by decide +kernel
theorem dX6_soon_76 : decode cX6_soon 76 = .ok (.getfield 149, 3) := by decide +kernel
theorem dX6_soon_79 : decode cX6_soon 79 = .ok (.iload 5, 2) := by decide +kernel
theorem dX6_soon_81 : decode cX6_soon 81 = .ok (.iadd, 1) := by decide +kernel
theorem dX6_soon_82 : decode cX6_soon 82 = .ok (.invokevirtual 226, 3) := by decide +kernel
theorem dX6_soon_85 : decode cX6_soon 85 = .ok (.istore 4, 2) := by decide +kernel
theorem dX6_soon_87 : decode cX6_soon 87 = .ok (.iinc 5 1, 3) := by decide +kernel
theorem dX6_soon_90 : decode cX6_soon 90 = .ok (.goto (-41), 3) := by decide +kernel
theorem dX6_soon_93 : decode cX6_soon 93 = .ok (.ldc 216, 2) := by decide +kernel
theorem dX6_soon_95 : decode cX6_soon 95 = .ok (.ireturn, 1) := by decide +kernel
theorem dX6_heights_0 : decode cX6_heights 0 = .ok (.aload_n 0, 1) := by decide +kernel
theorem dX6_heights_1 : decode cX6_heights 1 = .ok (.iload_n 1, 1) := by decide +kernel
theorem dX6_heights_2 : decode cX6_heights 2 = .ok (.invokevirtual 161, 3) := by decide +kernel
theorem dX6_heights_5 : decode cX6_heights 5 = .ok (.ifCond .eq 22, 3) := by decide +kernel
theorem dX6_heights_8 : decode cX6_heights 8 = .ok (.iload_n 2, 1) := by decide +kernel
theorem dX6_heights_9 : decode cX6_heights 9 = .ok (.iconst 1, 1) := by decide +kernel
theorem dX6_heights_10 : decode cX6_heights 10 = .ok (.bipush 8, 2) := by decide +kernel
theorem dX6_heights_12 : decode cX6_heights 12 = .ok (.invokestatic 69, 3) := by decide +kernel
theorem dX6_heights_15 : decode cX6_heights 15 = .ok (.ifCond .eq 12, 3) := by decide +kernel
theorem dX6_heights_18 : decode cX6_heights 18 = .ok (.iload_n 3, 1) := by decide +kernel
theorem dX6_heights_19 : decode cX6_heights 19 = .ok (.iconst 0, 1) := by decide +kernel
theorem dX6_heights_20 : decode cX6_heights 20 = .ok (.iconst 1, 1) := by decide +kernel
theorem dX6_heights_21 : decode cX6_heights 21 = .ok (.invokestatic 69, 3) := by decide +kernel
theorem dX6_heights_24 : decode cX6_heights 24 = .ok (.ifCond .ne 6, 3) := by decide +kernel
theorem dX6_heights_27 : decode cX6_heights 27 = .ok (.ldc 73, 2) := by decide +kernel
theorem dX6_heights_29 : decode cX6_heights 29 = .ok (.ireturn, 1) := by decide +kernel
theorem dX6_heights_30 : decode cX6_heights 30 = .ok (.aload_n 0, 1) := by decide +kernel
theorem dX6_heights_31 : decode cX6_heights 31 = .ok (.getfield 25, 3) := by decide +kernel
theorem dX6_heights_34 : decode cX6_heights 34 = .ok (.getfield 164, 3) := by decide +kernel
theorem dX6_heights_37 : decode cX6_heights 37 = .ok (.iload_n 1, 1) := by decide +kernel
theorem dX6_heights_38 : decode cX6_heights 38 = .ok (.aaload, 1) := by decide +kernel
theorem dX6_heights_39 : decode cX6_heights 39 = .ok (.getfield 168, 3) := by decide +kernel
theorem dX6_heights_42 : decode cX6_heights 42 = .ok (.ifCond .eq 6, 3) := by decide +kernel
theorem dX6_heights_45 : decode cX6_heights 45 = .ok (.ldc 142, 2) := by decide +kernel
theorem dX6_heights_47 : decode cX6_heights 47 = .ok (.ireturn, 1) := by decide +kernel
theorem dX6_heights_48 : decode cX6_heights 48 = .ok (.aload_n 0, 1) := by decide +kernel
theorem dX6_heights_49 : decode cX6_heights 49 = .ok (.getfield 25, 3) := by decide +kernel
theorem dX6_heights_52 : decode cX6_heights 52 = .ok (.getfield 164, 3) := by decide +kernel
theorem dX6_heights_55 : decode cX6_heights 55 = .ok (.iload_n 1, 1) := by decide +kernel
theorem dX6_heights_56 : decode cX6_heights 56 = .ok (.aaload, 1) := by decide +kernel
theorem dX6_heights_57 : decode cX6_heights 57 = .ok (.invokevirtual 171, 3) := by decide +kernel
theorem dX6_heights_60 : decode cX6_heights 60 = .ok (.ifCond .eq 9, 3) := by decide +kernel
theorem dX6_heights_63 : decode cX6_heights 63 = .ok (.iconst 1, 1) := by decide +kernel
theorem dX6_heights_64 : decode cX6_heights 64 = .ok (.iload_n 2, 1) := by decide +kernel
theorem dX6_heights_65 : decode cX6_heights 65 = .ok (.ishl, 1) := by decide +kernel
theorem dX6_heights_66 : decode cX6_heights 66 = .ok (.goto 4, 3) := by decide +kernel
theorem dX6_heights_69 : decode cX6_heights 69 = .ok (.iconst 1, 1) := by decide +kernel
theorem dX6_heights_70 : decode cX6_heights 70 = .ok (.istore 4, 2) := by decide +kernel
theorem dX6_heights_72 : decode cX6_heights 72 = .ok (.iconst 0, 1) := by decide +kernel
theorem dX6_heights_73 : decode cX6_heights 73 = .ok (.istore 5, 2) := by decide +kernel
theorem dX6_heights_75 : decode cX6_heights 75 = .ok (.aload_n 0, 1) := by decide +kernel
theorem dX6_heights_76 : decode cX6_heights 76 = .ok (.iload_n 1, 1) := by decide +kernel
theorem dX6_heights_77 : decode cX6_heights 77 = .ok (.iload_n 2, 1) := by decide +kernel
theorem dX6_heights_78 : decode cX6_heights 78 = .ok (.iconst 0, 1) := by decide +kernel
theorem dX6_heights_79 : decode cX6_heights 79 = .ok (.invokevirtual 230, 3) := by decide +kernel
theorem dX6_heights_82 : decode cX6_heights 82 = .ok (.istore 6, 2) := by decide +kernel
theorem dX6_heights_84 : decode cX6_heights 84 = .ok (.iconst 1, 1) := by decide +kernel
theorem dX6_heights_85 : decode cX6_heights 85 = .ok (.istore 7, 2) := by decide +kernel
theorem dX6_heights_87 : decode cX6_heights 87 = .ok (.iload 7, 2) := by decide +kernel
theorem dX6_heights_89 : decode cX6_heights 89 = .ok (.iload 4, 2) := by decide +kernel
theorem dX6_heights_91 : decode cX6_heights 91 = .ok (.if_icmp .ge 34, 3) := by decide +kernel
theorem dX6_heights_94 : decode cX6_heights 94 = .ok (.aload_n 0, 1) := by decide +kernel
theorem dX6_heights_95 : decode cX6_heights 95 = .ok (.iload_n 1, 1) := by decide +kernel
theorem dX6_heights_96 : decode cX6_heights 96 = .ok (.iload_n 2, 1) := by decide +kernel
theorem dX6_heights_97 : decode cX6_heights 97 = .ok (.iload 7, 2) := by decide +kernel
theorem dX6_heights_99 : decode cX6_heights 99 = .ok (.invokevirtual 230, 3) := by decide +kernel
theorem dX6_heights_102 : decode cX6_heights 102 = .ok (.istore 8, 2) := by decide +kernel
theorem dX6_heights_104 : decode cX6_heights 104 = .ok (.iload 8, 2) := by decide +kernel
theorem dX6_heights_106 : decode cX6_heights 106 = .ok (.iload 6, 2) := by decide +kernel
theorem dX6_heights_108 : decode cX6_heights 108 = .ok (.if_icmp .le 11, 3) := by decide +kernel
theorem dX6_heights_111 : decode cX6_heights 111 = .ok (.iload 8, 2) := by decide +kernel
theorem dX6_heights_113 : decode cX6_heights 113 = .ok (.istore 6, 2) := by decide +kernel
theorem dX6_heights_115 : decode cX6_heights 115 = .ok (.iload 7, 2) := by decide +kernel
theorem dX6_heights_117 : decode cX6_heights 117 = .ok (.istore 5, 2) := by decide +kernel
theorem dX6_heights_119 : decode cX6_heights 119 = .ok (.iinc 7 1, 3) := by decide +kernel
theorem dX6_heights_122 : decode cX6_heights 122 = .ok (.goto (-35), 3) := by decide +kernel
theorem dX6_heights_125 : decode cX6_heights 125 = .ok (.iload_n 3, 1) := by decide +kernel
theorem dX6_heights_126 : decode cX6_heights 126 = .ok (.ifCond .ne 8, 3) := by decide +kernel
theorem dX6_heights_129 : decode cX6_heights 129 = .ok (.iload 5, 2) := by decide +kernel
theorem dX6_heights_131 : decode cX6_heights 131 = .ok (.goto 5, 3) := by decide +kernel
theorem dX6_heights_134 : decode cX6_heights 134 = .ok (.iload 6, 2) := by decide +kernel
theorem dX6_heights_136 : decode cX6_heights 136 = .ok (.ireturn, 1) := by decide +kernel
theorem dX6_shade_0 : decode cX6_shade 0 = .ok (.aload_n 0, 1) := by decide +kernel
theorem dX6_shade_1 : decode cX6_shade 1 = .ok (.getfield 25, 3) := by decide +kernel
theorem dX6_shade_4 : decode cX6_shade 4 = .ok (.getfield 146, 3) := by decide +kernel
theorem dX6_shade_7 : decode cX6_shade 7 = .ok (.ifCond .ne 6, 3) := by decide +kernel
theorem dX6_shade_10 : decode cX6_shade 10 = .ok (.ldc 142, 2) := by decide +kernel
theorem dX6_shade_12 : decode cX6_shade 12 = .ok (.ireturn, 1) := by decide +kernel
theorem dX6_shade_13 : decode cX6_shade 13 = .ok (.iload_n 1, 1) := by decide +kernel
theorem dX6_shade_14 : decode cX6_shade 14 = .ok (.invokestatic 198, 3) := by decide +kernel
theorem dX6_shade_17 : decode cX6_shade 17 = .ok (.ifCond .eq 13, 3) := by decide +kernel
theorem dX6_shade_20 : decode cX6_shade 20 = .ok (.iload_n 2, 1) := by decide +kernel
theorem dX6_shade_21 : decode cX6_shade 21 = .ok (.iconst 1, 1) := by decide +kernel
theorem dX6_shade_22 : decode cX6_shade 22 = .ok (.bipush 24, 2) := by decide +kernel
theorem dX6_shade_24 : decode cX6_shade 24 = .ok (.invokestatic 69, 3) := by decide +kernel
theorem dX6_shade_27 : decode cX6_shade 27 = .ok (.ifCond .ne 6, 3) := by decide +kernel
theorem dX6_shade_30 : decode cX6_shade 30 = .ok (.ldc 73, 2) := by decide +kernel
theorem dX6_shade_32 : decode cX6_shade 32 = .ok (.ireturn, 1) := by decide +kernel
theorem dX6_shade_33 : decode cX6_shade 33 = .ok (.iconst 0, 1) := by decide +kernel
theorem dX6_shade_34 : decode cX6_shade 34 = .ok (.istore_n 3, 1) := by decide +kernel
theorem dX6_shade_35 : decode cX6_shade 35 = .ok (.aload_n 0, 1) := by decide +kernel
theorem dX6_shade_36 : decode cX6_shade 36 = .ok (.getfield 29, 3) := by decide +kernel
theorem dX6_shade_39 : decode cX6_shade 39 = .ok (.aload_n 0, 1) := by decide +kernel
theorem dX6_shade_40 : decode cX6_shade 40 = .ok (.getfield 25, 3) := by decide +kernel
theorem dX6_shade_43 : decode cX6_shade 43 = .ok (.invokevirtual 132, 3) := by decide +kernel
theorem dX6_shade_46 : decode cX6_shade 46 = .ok (.iconst 0, 1) := by decide +kernel
theorem dX6_shade_47 : decode cX6_shade 47 = .ok (.istore 4, 2) := by decide +kernel
theorem dX6_shade_49 : decode cX6_shade 49 = .ok (.iload 4, 2) := by decide +kernel
theorem dX6_shade_51 : decode cX6_shade 51 = .ok (.iload_n 2, 1) := by decide +kernel
theorem dX6_shade_52 : decode cX6_shade 52 = .ok (.if_icmp .ge 34, 3) := by decide +kernel
theorem dX6_shade_55 : decode cX6_shade 55 = .ok (.aload_n 0, 1) := by decide +kernel
theorem dX6_shade_56 : decode cX6_shade 56 = .ok (.getfield 29, 3) := by decide +kernel
theorem dX6_shade_59 : decode cX6_shade 59 = .ok (.invokevirtual 155, 3) := by decide +kernel
theorem dX6_shade_62 : decode cX6_shade 62 = .ok (.aload_n 0, 1) := by decide +kernel
theorem dX6_shade_63 : decode cX6_shade 63 = .ok (.getfield 29, 3) := by decide +kernel
theorem dX6_shade_66 : decode cX6_shade 66 = .ok (.iload_n 1, 1) := by decide +kernel
theorem dX6_shade_67 : decode cX6_shade 67 = .ok (.invokevirtual 204, 3) := by decide +kernel
theorem dX6_shade_70 : decode cX6_shade 70 = .ok (.ifCond .eq 10, 3) := by decide +kernel
theorem dX6_shade_73 : decode cX6_shade 73 = .ok (.iload_n 3, 1) := by decide +kernel
theorem dX6_shade_74 : decode cX6_shade 74 = .ok (.iconst 1, 1) := by decide +kernel
theorem dX6_shade_75 : decode cX6_shade 75 = .ok (.iload 4, 2) := by decide +kernel
theorem dX6_shade_77 : decode cX6_shade 77 = .ok (.ishl, 1) := by decide +kernel
theorem dX6_shade_78 : decode cX6_shade 78 = .ok (.ior, 1) := by decide +kernel
theorem dX6_shade_79 : decode cX6_shade 79 = .ok (.istore_n 3, 1) := by decide +kernel
theorem dX6_shade_80 : decode cX6_shade 80 = .ok (.iinc 4 1, 3) := by decide +kernel
theorem dX6_shade_83 : decode cX6_shade 83 = .ok (.goto (-34), 3) := by decide +kernel
theorem dX6_shade_86 : decode cX6_shade 86 = .ok (.iload_n 3, 1) := by decide +kernel
theorem dX6_shade_87 : decode cX6_shade 87 = .ok (.ireturn, 1) := by decide +kernel
theorem dX6_dew_0 : decode cX6_dew 0 = .ok (.aload_n 0, 1) := by decide +kernel
theorem dX6_dew_1 : decode cX6_dew 1 = .ok (.getfield 25, 3) := by decide +kernel
theorem dX6_dew_4 : decode cX6_dew 4 = .ok (.getfield 146, 3) := by decide +kernel
theorem dX6_dew_7 : decode cX6_dew 7 = .ok (.ifCond .ne 6, 3) := by decide +kernel
theorem dX6_dew_10 : decode cX6_dew 10 = .ok (.ldc 142, 2) := by decide +kernel
theorem dX6_dew_12 : decode cX6_dew 12 = .ok (.ireturn, 1) := by decide +kernel
theorem dX6_dew_13 : decode cX6_dew 13 = .ok (.iload_n 1, 1) := by decide +kernel
theorem dX6_dew_14 : decode cX6_dew 14 = .ok (.invokestatic 65, 3) := by decide +kernel
theorem dX6_dew_17 : decode cX6_dew 17 = .ok (.ifCond .eq 13, 3) := by decide +kernel
theorem dX6_dew_20 : decode cX6_dew 20 = .ok (.iload_n 3, 1) := by decide +kernel
theorem dX6_dew_21 : decode cX6_dew 21 = .ok (.iconst 1, 1) := by decide +kernel
theorem dX6_dew_22 : decode cX6_dew 22 = .ok (.bipush 12, 2) := by decide +kernel
theorem dX6_dew_24 : decode cX6_dew 24 = .ok (.invokestatic 69, 3) := by decide +kernel
theorem dX6_dew_27 : decode cX6_dew 27 = .ok (.ifCond .ne 6, 3) := by decide +kernel
theorem dX6_dew_30 : decode cX6_dew 30 = .ok (.ldc 73, 2) := by decide +kernel
theorem dX6_dew_32 : decode cX6_dew 32 = .ok (.ireturn, 1) := by decide +kernel
theorem dX6_dew_33 : decode cX6_dew 33 = .ok (.aload_n 0, 1) := by decide +kernel
theorem dX6_dew_34 : decode cX6_dew 34 = .ok (.getfield 11, 3) := by decide +kernel
theorem dX6_dew_37 : decode cX6_dew 37 = .ok (.iload_n 1, 1) := by decide +kernel
theorem dX6_dew_38 : decode cX6_dew 38 = .ok (.aaload, 1) := by decide +kernel
theorem dX6_dew_39 : decode cX6_dew 39 = .ok (.iload_n 2, 1) := by decide +kernel
theorem dX6_dew_40 : decode cX6_dew 40 = .ok (.iload_n 3, 1) := by decide +kernel
theorem dX6_dew_41 : decode cX6_dew 41 = .ok (.invokevirtual 85, 3) := by decide +kernel
theorem dX6_dew_44 : decode cX6_dew 44 = .ok (.istore 4, 2) := by decide +kernel
theorem dX6_dew_46 : decode cX6_dew 46 = .ok (.iload 4, 2) := by decide +kernel
theorem dX6_dew_48 : decode cX6_dew 48 = .ok (.ifCond .eq 10, 3) := by decide +kernel
theorem dX6_dew_51 : decode cX6_dew 51 = .ok (.aload_n 0, 1) := by decide +kernel
theorem dX6_dew_52 : decode cX6_dew 52 = .ok (.iload 4, 2) := by decide +kernel
theorem dX6_dew_54 : decode cX6_dew 54 = .ok (.invokevirtual 74, 3) := by decide +kernel
theorem dX6_dew_57 : decode cX6_dew 57 = .ok (.ireturn, 1) := by decide +kernel
theorem dX6_dew_58 : decode cX6_dew 58 = .ok (.iconst 0, 1) := by decide +kernel
theorem dX6_dew_59 : decode cX6_dew 59 = .ok (.istore 5, 2) := by decide +kernel
theorem dX6_dew_61 : decode cX6_dew 61 = .ok (.iconst 0, 1) := by decide +kernel
theorem dX6_dew_62 : decode cX6_dew 62 = .ok (.istore 6, 2) := by decide +kernel
theorem dX6_dew_64 : decode cX6_dew 64 = .ok (.iload 6, 2) := by decide +kernel
theorem dX6_dew_66 : decode cX6_dew 66 = .ok (.aload_n 0, 1) := by decide +kernel
theorem dX6_dew_67 : decode cX6_dew 67 = .ok (.getfield 25, 3) := by decide +kernel
theorem dX6_dew_70 : decode cX6_dew 70 = .ok (.getfield 138, 3) := by decide +kernel
theorem dX6_dew_73 : decode cX6_dew 73 = .ok (.if_icmp .ge 51, 3) := by decide +kernel
theorem dX6_dew_76 : decode cX6_dew 76 = .ok (.aload_n 0, 1) := by decide +kernel
theorem dX6_dew_77 : decode cX6_dew 77 = .ok (.getfield 25, 3) := by decide +kernel
theorem dX6_dew_80 : decode cX6_dew 80 = .ok (.getfield 164, 3) := by decide +kernel
theorem dX6_dew_83 : decode cX6_dew 83 = .ok (.iload 6, 2) := by decide +kernel
theorem dX6_dew_85 : decode cX6_dew 85 = .ok (.aaload, 1) := by decide +kernel
theorem dX6_dew_86 : decode cX6_dew 86 = .ok (.getfield 168, 3) := by decide +kernel
theorem dX6_dew_89 : decode cX6_dew 89 = .ok (.ifCond .ne 29, 3) := by decide +kernel
theorem dX6_dew_92 : decode cX6_dew 92 = .ok (.aload_n 0, 1) := by decide +kernel
theorem dX6_dew_93 : decode cX6_dew 93 = .ok (.iload 6, 2) := by decide +kernel
theorem dX6_dew_95 : decode cX6_dew 95 = .ok (.aload_n 0, 1) := by decide +kernel
theorem dX6_dew_96 : decode cX6_dew 96 = .ok (.getfield 11, 3) := by decide +kernel
theorem dX6_dew_99 : decode cX6_dew 99 = .ok (.iload_n 1, 1) := by decide +kernel
theorem dX6_dew_100 : decode cX6_dew 100 = .ok (.aaload, 1) := by decide +kernel
theorem dX6_dew_101 : decode cX6_dew 101 = .ok (.iload_n 2, 1) := by decide +kernel
theorem dX6_dew_102 : decode cX6_dew 102 = .ok (.iload_n 3, 1) := by decide +kernel
theorem dX6_dew_103 : decode cX6_dew 103 = .ok (.invokevirtual 234, 3) := by decide +kernel
theorem dX6_dew_106 : decode cX6_dew 106 = .ok (.ifCond .eq 12, 3) := by decide +kernel
theorem dX6_dew_109 : decode cX6_dew 109 = .ok (.iload 5, 2) := by decide +kernel
theorem dX6_dew_111 : decode cX6_dew 111 = .ok (.iconst 1, 1) := by decide +kernel
theorem dX6_dew_112 : decode cX6_dew 112 = .ok (.iload 6, 2) := by decide +kernel
theorem dX6_dew_114 : decode cX6_dew 114 = .ok (.ishl, 1) := by decide +kernel
theorem dX6_dew_115 : decode cX6_dew 115 = .ok (.ior, 1) := by decide +kernel
theorem dX6_dew_116 : decode cX6_dew 116 = .ok (.istore 5, 2) := by decide +kernel
theorem dX6_dew_118 : decode cX6_dew 118 = .ok (.iinc 6 1, 3) := by decide +kernel
theorem dX6_dew_121 : decode cX6_dew 121 = .ok (.goto (-57), 3) := by decide +kernel
theorem dX6_dew_124 : decode cX6_dew 124 = .ok (.aload_n 0, 1) := by decide +kernel
theorem dX6_dew_125 : decode cX6_dew 125 = .ok (.iload 5, 2) := by decide +kernel
theorem dX6_dew_127 : decode cX6_dew 127 = .ok (.invokevirtual 82, 3) := by decide +kernel
theorem dX6_dew_130 : decode cX6_dew 130 = .ok (.ireturn, 1) := by decide +kernel
theorem dX6_lost_0 : decode cX6_lost 0 = .ok (.aload_n 0, 1) := by decide +kernel
theorem dX6_lost_1 : decode cX6_lost 1 = .ok (.iload_n 1, 1) := by decide +kernel
theorem dX6_lost_2 : decode cX6_lost 2 = .ok (.invokevirtual 161, 3) := by decide +kernel
theorem dX6_lost_5 : decode cX6_lost 5 = .ok (.ifCond .eq 40, 3) := by decide +kernel
theorem dX6_lost_8 : decode cX6_lost 8 = .ok (.iload_n 2, 1) := by decide +kernel
theorem dX6_lost_9 : decode cX6_lost 9 = .ok (.iconst 0, 1) := by decide +kernel
theorem dX6_lost_10 : decode cX6_lost 10 = .ok (.iconst 1, 1) := by decide +kernel
theorem dX6_lost_11 : decode cX6_lost 11 = .ok (.invokestatic 69, 3) := by decide +kernel
theorem dX6_lost_14 : decode cX6_lost 14 = .ok (.ifCond .eq 31, 3) := by decide +kernel
theorem dX6_lost_17 : decode cX6_lost 17 = .ok (.iload_n 3, 1) := by decide +kernel
theorem dX6_lost_18 : decode cX6_lost 18 = .ok (.invokestatic 65, 3) := by decide +kernel
theorem dX6_lost_21 : decode cX6_lost 21 = .ok (.ifCond .eq 24, 3) := by decide +kernel
theorem dX6_lost_24 : decode cX6_lost 24 = .ok (.iload 5, 2) := by decide +kernel
theorem dX6_lost_26 : decode cX6_lost 26 = .ok (.iconst 1, 1) := by decide +kernel
theorem dX6_lost_27 : decode cX6_lost 27 = .ok (.bipush 12, 2) := by decide +kernel
theorem dX6_lost_29 : decode cX6_lost 29 = .ok (.invokestatic 69, 3) := by decide +kernel
theorem dX6_lost_32 : decode cX6_lost 32 = .ok (.ifCond .eq 13, 3) := by decide +kernel
theorem dX6_lost_35 : decode cX6_lost 35 = .ok (.iload 6, 2) := by decide +kernel
theorem dX6_lost_37 : decode cX6_lost 37 = .ok (.iconst 0, 1) := by decide +kernel
theorem dX6_lost_38 : decode cX6_lost 38 = .ok (.iconst 1, 1) := by decide +kernel
theorem dX6_lost_39 : decode cX6_lost 39 = .ok (.invokestatic 69, 3) := by decide +kernel
theorem dX6_lost_42 : decode cX6_lost 42 = .ok (.ifCond .ne 6, 3) := by decide +kernel
theorem dX6_lost_45 : decode cX6_lost 45 = .ok (.ldc 73, 2) := by decide +kernel
theorem dX6_lost_47 : decode cX6_lost 47 = .ok (.ireturn, 1) := by decide +kernel
theorem dX6_lost_48 : decode cX6_lost 48 = .ok (.aload_n 0, 1) := by decide +kernel
theorem dX6_lost_49 : decode cX6_lost 49 = .ok (.getfield 11, 3) := by decide +kernel
theorem dX6_lost_52 : decode cX6_lost 52 = .ok (.iload_n 3, 1) := by decide +kernel
theorem dX6_lost_53 : decode cX6_lost 53 = .ok (.aaload, 1) := by decide +kernel
theorem dX6_lost_54 : decode cX6_lost 54 = .ok (.iload 4, 2) := by decide +kernel
theorem dX6_lost_56 : decode cX6_lost 56 = .ok (.iload 5, 2) := by decide +kernel
theorem dX6_lost_58 : decode cX6_lost 58 = .ok (.invokevirtual 85, 3) := by decide +kernel
theorem dX6_lost_61 : decode cX6_lost 61 = .ok (.istore 7, 2) := by decide +kernel
theorem dX6_lost_63 : decode cX6_lost 63 = .ok (.iload 7, 2) := by decide +kernel
theorem dX6_lost_65 : decode cX6_lost 65 = .ok (.ifCond .eq 10, 3) := by decide +kernel
theorem dX6_lost_68 : decode cX6_lost 68 = .ok (.aload_n 0, 1) := by decide +kernel
theorem dX6_lost_69 : decode cX6_lost 69 = .ok (.iload 7, 2) := by decide +kernel
theorem dX6_lost_71 : decode cX6_lost 71 = .ok (.invokevirtual 74, 3) := by decide +kernel
theorem dX6_lost_74 : decode cX6_lost 74 = .ok (.ireturn, 1) := by decide +kernel
theorem dX6_lost_75 : decode cX6_lost 75 = .ok (.iconst 0, 1) := by decide +kernel
theorem dX6_lost_76 : decode cX6_lost 76 = .ok (.istore 8, 2) := by decide +kernel
theorem dX6_lost_78 : decode cX6_lost 78 = .ok (.ldc 216, 2) := by decide +kernel
theorem dX6_lost_80 : decode cX6_lost 80 = .ok (.istore 9, 2) := by decide +kernel
theorem dX6_lost_82 : decode cX6_lost 82 = .ok (.bipush 31, 2) := by decide +kernel
theorem dX6_lost_84 : decode cX6_lost 84 = .ok (.istore 10, 2) := by decide +kernel
theorem dX6_lost_86 : decode cX6_lost 86 = .ok (.iload 10, 2) := by decide +kernel
theorem dX6_lost_88 : decode cX6_lost 88 = .ok (.ifCond .lt 37, 3) := by decide +kernel
theorem dX6_lost_91 : decode cX6_lost 91 = .ok (.aload_n 0, 1) := by decide +kernel
theorem dX6_lost_92 : decode cX6_lost 92 = .ok (.iload_n 1, 1) := by decide +kernel
theorem dX6_lost_93 : decode cX6_lost 93 = .ok (.iload 10, 2) := by decide +kernel
theorem dX6_lost_95 : decode cX6_lost 95 = .ok (.iload_n 2, 1) := by decide +kernel
theorem dX6_lost_96 : decode cX6_lost 96 = .ok (.aload_n 0, 1) := by decide +kernel
theorem dX6_lost_97 : decode cX6_lost 97 = .ok (.getfield 11, 3) := by decide +kernel
theorem dX6_lost_100 : decode cX6_lost 100 = .ok (.iload_n 3, 1) := by decide +kernel
theorem dX6_lost_101 : decode cX6_lost 101 = .ok (.aaload, 1) := by decide +kernel
theorem dX6_lost_102 : decode cX6_lost 102 = .ok (.iload 4, 2) := by decide +kernel
theorem dX6_lost_104 : decode cX6_lost 104 = .ok (.iload 5, 2) := by decide +kernel
theorem dX6_lost_106 : decode cX6_lost 106 = .ok (.invokevirtual 238, 3) := by decide +kernel
theorem dX6_lost_109 : decode cX6_lost 109 = .ok (.ifCond .eq 10, 3) := by decide +kernel
theorem dX6_lost_112 : decode cX6_lost 112 = .ok (.iinc 8 1, 3) := by decide +kernel
theorem dX6_lost_115 : decode cX6_lost 115 = .ok (.iload 10, 2) := by decide +kernel
theorem dX6_lost_117 : decode cX6_lost 117 = .ok (.istore 9, 2) := by decide +kernel
theorem dX6_lost_119 : decode cX6_lost 119 = .ok (.iinc 10 (-1), 3) := by decide +kernel
theorem dX6_lost_122 : decode cX6_lost 122 = .ok (.goto (-36), 3) := by decide +kernel
theorem dX6_lost_125 : decode cX6_lost 125 = .ok (.aload_n 0, 1) := by decide +kernel
theorem dX6_lost_126 : decode cX6_lost 126 = .ok (.iload 6, 2) := by decide +kernel
theorem dX6_lost_128 : decode cX6_lost 128 = .ok (.ifCond .ne 8, 3) := by decide +kernel
theorem dX6_lost_131 : decode cX6_lost 131 = .ok (.iload 8, 2) := by decide +kernel
theorem dX6_lost_133 : decode cX6_lost 133 = .ok (.goto 5, 3) := by decide +kernel
theorem dX6_lost_136 : decode cX6_lost 136 = .ok (.iload 9, 2) := by decide +kernel
theorem dX6_lost_138 : decode cX6_lost 138 = .ok (.invokevirtual 82, 3) := by decide +kernel
theorem dX6_lost_141 : decode cX6_lost 141 = .ok (.ireturn, 1) := by decide +kernel
theorem dX6_kite_0 : decode cX6_kite 0 = .ok (.aload_n 0, 1) := by decide +kernel
theorem dX6_kite_1 : decode cX6_kite 1 = .ok (.getfield 25, 3) := by decide +kernel
theorem dX6_kite_4 : decode cX6_kite 4 = .ok (.getfield 146, 3) := by decide +kernel
theorem dX6_kite_7 : decode cX6_kite 7 = .ok (.ifCond .ne 6, 3) := by decide +kernel
theorem dX6_kite_10 : decode cX6_kite 10 = .ok (.ldc 142, 2) := by decide +kernel
theorem dX6_kite_12 : decode cX6_kite 12 = .ok (.ireturn, 1) := by decide +kernel
theorem dX6_kite_13 : decode cX6_kite 13 = .ok (.iload_n 1, 1) := by decide +kernel
theorem dX6_kite_14 : decode cX6_kite 14 = .ok (.invokestatic 65, 3) := by decide +kernel
theorem dX6_kite_17 : decode cX6_kite 17 = .ok (.ifCond .eq 23, 3) := by decide +kernel
theorem dX6_kite_20 : decode cX6_kite 20 = .ok (.iload_n 3, 1) := by decide +kernel
theorem dX6_kite_21 : decode cX6_kite 21 = .ok (.iconst 1, 1) := by decide +kernel
theorem dX6_kite_22 : decode cX6_kite 22 = .ok (.bipush 12, 2) := by decide +kernel
theorem dX6_kite_24 : decode cX6_kite 24 = .ok (.invokestatic 69, 3) := by decide +kernel
theorem dX6_kite_27 : decode cX6_kite 27 = .ok (.ifCond .eq 13, 3) := by decide +kernel
theorem dX6_kite_30 : decode cX6_kite 30 = .ok (.iload 4, 2) := by decide +kernel
theorem dX6_kite_32 : decode cX6_kite 32 = .ok (.iconst 0, 1) := by decide +kernel
theorem dX6_kite_33 : decode cX6_kite 33 = .ok (.iconst 1, 1) := by decide +kernel
theorem dX6_kite_34 : decode cX6_kite 34 = .ok (.invokestatic 69, 3) := by decide +kernel
theorem dX6_kite_37 : decode cX6_kite 37 = .ok (.ifCond .ne 6, 3) := by decide +kernel
theorem dX6_kite_40 : decode cX6_kite 40 = .ok (.ldc 73, 2) := by decide +kernel
theorem dX6_kite_42 : decode cX6_kite 42 = .ok (.ireturn, 1) := by decide +kernel
theorem dX6_kite_43 : decode cX6_kite 43 = .ok (.aload_n 0, 1) := by decide +kernel
theorem dX6_kite_44 : decode cX6_kite 44 = .ok (.getfield 11, 3) := by decide +kernel
theorem dX6_kite_47 : decode cX6_kite 47 = .ok (.iload_n 1, 1) := by decide +kernel
theorem dX6_kite_48 : decode cX6_kite 48 = .ok (.aaload, 1) := by decide +kernel
theorem dX6_kite_49 : decode cX6_kite 49 = .ok (.iload_n 2, 1) := by decide +kernel
theorem dX6_kite_50 : decode cX6_kite 50 = .ok (.iload_n 3, 1) := by decide +kernel
theorem dX6_kite_51 : decode cX6_kite 51 = .ok (.invokevirtual 85, 3) := by decide +kernel
theorem dX6_kite_54 : decode cX6_kite 54 = .ok (.istore 5, 2) := by decide +kernel
theorem dX6_kite_56 : decode cX6_kite 56 = .ok (.iload 5, 2) := by decide +kernel
theorem dX6_kite_58 : decode cX6_kite 58 = .ok (.ifCond .eq 10, 3) := by decide +kernel
theorem dX6_kite_61 : decode cX6_kite 61 = .ok (.aload_n 0, 1) := by decide +kernel
theorem dX6_kite_62 : decode cX6_kite 62 = .ok (.iload 5, 2) := by decide +kernel
theorem dX6_kite_64 : decode cX6_kite 64 = .ok (.invokevirtual 74, 3) := by decide +kernel
theorem dX6_kite_67 : decode cX6_kite 67 = .ok (.ireturn, 1) := by decide +kernel
theorem dX6_kite_68 : decode cX6_kite 68 = .ok (.iconst 0, 1) := by decide +kernel
theorem dX6_kite_69 : decode cX6_kite 69 = .ok (.istore 6, 2) := by decide +kernel
theorem dX6_kite_71 : decode cX6_kite 71 = .ok (.ldc 216, 2) := by decide +kernel
theorem dX6_kite_73 : decode cX6_kite 73 = .ok (.istore 7, 2) := by decide +kernel
theorem dX6_kite_75 : decode cX6_kite 75 = .ok (.bipush 11, 2) := by decide +kernel
theorem dX6_kite_77 : decode cX6_kite 77 = .ok (.istore 8, 2) := by decide +kernel
theorem dX6_kite_79 : decode cX6_kite 79 = .ok (.iload 8, 2) := by decide +kernel
theorem dX6_kite_81 : decode cX6_kite 81 = .ok (.ifCond .lt 41, 3) := by decide +kernel
theorem dX6_kite_84 : decode cX6_kite 84 = .ok (.aload_n 0, 1) := by decide +kernel
theorem dX6_kite_85 : decode cX6_kite 85 = .ok (.iload 8, 2) := by decide +kernel
theorem dX6_kite_87 : decode cX6_kite 87 = .ok (.bipush 6, 2) := by decide +kernel
theorem dX6_kite_89 : decode cX6_kite 89 = .ok (.idiv, 1) := by decide +kernel
theorem dX6_kite_90 : decode cX6_kite 90 = .ok (.iload 8, 2) := by decide +kernel
theorem dX6_kite_92 : decode cX6_kite 92 = .ok (.bipush 6, 2) := by decide +kernel
theorem dX6_kite_94 : decode cX6_kite 94 = .ok (.irem, 1) := by decide +kernel
theorem dX6_kite_95 : decode cX6_kite 95 = .ok (.aload_n 0, 1) := by decide +kernel
theorem dX6_kite_96 : decode cX6_kite 96 = .ok (.getfield 11, 3) := by decide +kernel
theorem dX6_kite_99 : decode cX6_kite 99 = .ok (.iload_n 1, 1) := by decide +kernel
theorem dX6_kite_100 : decode cX6_kite 100 = .ok (.aaload, 1) := by decide +kernel
theorem dX6_kite_101 : decode cX6_kite 101 = .ok (.iload_n 2, 1) := by decide +kernel
theorem dX6_kite_102 : decode cX6_kite 102 = .ok (.iload_n 3, 1) := by decide +kernel
theorem dX6_kite_103 : decode cX6_kite 103 = .ok (.invokevirtual 242, 3) := by decide +kernel
theorem dX6_kite_106 : decode cX6_kite 106 = .ok (.ifCond .eq 10, 3) := by decide +kernel
theorem dX6_kite_109 : decode cX6_kite 109 = .ok (.iinc 6 1, 3) := by decide +kernel
theorem dX6_kite_112 : decode cX6_kite 112 = .ok (.iload 8, 2) := by decide +kernel
theorem dX6_kite_114 : decode cX6_kite 114 = .ok (.istore 7, 2) := by decide +kernel
theorem dX6_kite_116 : decode cX6_kite 116 = .ok (.iinc 8 (-1), 3) := by decide +kernel
theorem dX6_kite_119 : decode cX6_kite 119 = .ok (.goto (-40), 3) := by decide +kernel
theorem dX6_kite_122 : decode cX6_kite 122 = .ok (.aload_n 0, 1) := by decide +kernel
theorem dX6_kite_123 : decode cX6_kite 123 = .ok (.iload 4, 2) := by decide +kernel
theorem dX6_kite_125 : decode cX6_kite 125 = .ok (.ifCond .ne 8, 3) := by decide +kernel
theorem dX6_kite_128 : decode cX6_kite 128 = .ok (.iload 6, 2) := by decide +kernel
theorem dX6_kite_130 : decode cX6_kite 130 = .ok (.goto 5, 3) := by decide +kernel
theorem dX6_kite_133 : decode cX6_kite 133 = .ok (.iload 7, 2) := by decide +kernel
theorem dX6_kite_135 : decode cX6_kite 135 = .ok (.invokevirtual 82, 3) := by decide +kernel
theorem dX6_kite_138 : decode cX6_kite 138 = .ok (.ireturn, 1) := by decide +kernel
theorem dX6_tuesday_0 : decode cX6_tuesday 0 = .ok (.aload_n 0, 1) := by decide +kernel
theorem dX6_tuesday_1 : decode cX6_tuesday 1 = .ok (.iload_n 1, 1) := by decide +kernel
theorem dX6_tuesday_2 : decode cX6_tuesday 2 = .ok (.invokevirtual 161, 3) := by decide +kernel
theorem dX6_tuesday_5 : decode cX6_tuesday 5 = .ok (.ifCond .eq 30, 3) := by decide +kernel
theorem dX6_tuesday_8 : decode cX6_tuesday 8 = .ok (.iload_n 2, 1) := by decide +kernel
theorem dX6_tuesday_9 : decode cX6_tuesday 9 = .ok (.iconst 0, 1) := by decide +kernel
theorem dX6_tuesday_10 : decode cX6_tuesday 10 = .ok (.bipush 60, 2) := by decide +kernel
theorem dX6_tuesday_12 : decode cX6_tuesday 12 = .ok (.invokestatic 69, 3) := by decide +kernel
theorem dX6_tuesday_15 : decode cX6_tuesday 15 = .ok (.ifCond .eq 20, 3) := by decide +kernel
theorem dX6_tuesday_18 : decode cX6_tuesday 18 = .ok (.iload_n 3, 1) := by decide +kernel
theorem dX6_tuesday_19 : decode cX6_tuesday 19 = .ok (.invokestatic 198, 3) := by decide +kernel
theorem dX6_tuesday_22 : decode cX6_tuesday 22 = .ok (.ifCond .eq 13, 3) := by decide +kernel
theorem dX6_tuesday_25 : decode cX6_tuesday 25 = .ok (.iload 4, 2) := by decide +kernel
theorem dX6_tuesday_27 : decode cX6_tuesday 27 = .ok (.iconst 0, 1) := by decide +kernel
theorem dX6_tuesday_28 : decode cX6_tuesday 28 = .ok (.iconst 1, 1) := by decide +kernel
theorem dX6_tuesday_29 : decode cX6_tuesday 29 = .ok (.invokestatic 69, 3) := by decide +kernel
theorem dX6_tuesday_32 : decode cX6_tuesday 32 = .ok (.ifCond .ne 6, 3) := by decide +kernel
theorem dX6_tuesday_35 : decode cX6_tuesday 35 = .ok (.ldc 73, 2) := by decide +kernel
theorem dX6_tuesday_37 : decode cX6_tuesday 37 = .ok (.ireturn, 1) := by decide +kernel
theorem dX6_tuesday_38 : decode cX6_tuesday 38 = .ok (.aload_n 0, 1) := by decide +kernel
theorem dX6_tuesday_39 : decode cX6_tuesday 39 = .ok (.getfield 25, 3) := by decide +kernel
theorem dX6_tuesday_42 : decode cX6_tuesday 42 = .ok (.getfield 164, 3) := by decide +kernel
theorem dX6_tuesday_45 : decode cX6_tuesday 45 = .ok (.iload_n 1, 1) := by decide +kernel
theorem dX6_tuesday_46 : decode cX6_tuesday 46 = .ok (.aaload, 1) := by decide +kernel
theorem dX6_tuesday_47 : decode cX6_tuesday 47 = .ok (.getfield 168, 3) := by decide +kernel
theorem dX6_tuesday_50 : decode cX6_tuesday 50 = .ok (.ifCond .eq 6, 3) := by decide +kernel
theorem dX6_tuesday_53 : decode cX6_tuesday 53 = .ok (.ldc 142, 2) := by decide +kernel
theorem dX6_tuesday_55 : decode cX6_tuesday 55 = .ok (.ireturn, 1) := by decide +kernel
theorem dX6_tuesday_56 : decode cX6_tuesday 56 = .ok (.iconst 0, 1) := by decide +kernel
theorem dX6_tuesday_57 : decode cX6_tuesday 57 = .ok (.istore 5, 2) := by decide +kernel
theorem dX6_tuesday_59 : decode cX6_tuesday 59 = .ok (.iconst 0, 1) := by decide +kernel
theorem dX6_tuesday_60 : decode cX6_tuesday 60 = .ok (.istore 6, 2) := by decide +kernel
theorem dX6_tuesday_62 : decode cX6_tuesday 62 = .ok (.iload 6, 2) := by decide +kernel
theorem dX6_tuesday_64 : decode cX6_tuesday 64 = .ok (.bipush 6, 2) := by decide +kernel
theorem dX6_tuesday_66 : decode cX6_tuesday 66 = .ok (.if_icmp .ge 32, 3) := by decide +kernel
theorem dX6_tuesday_69 : decode cX6_tuesday 69 = .ok (.aload_n 0, 1) := by decide +kernel
theorem dX6_tuesday_70 : decode cX6_tuesday 70 = .ok (.aload_n 0, 1) := by decide +kernel
theorem dX6_tuesday_71 : decode cX6_tuesday 71 = .ok (.getfield 25, 3) := by decide +kernel
theorem dX6_tuesday_74 : decode cX6_tuesday 74 = .ok (.getfield 164, 3) := by decide +kernel
theorem dX6_tuesday_77 : decode cX6_tuesday 77 = .ok (.iload_n 1, 1) := by decide +kernel
theorem dX6_tuesday_78 : decode cX6_tuesday 78 = .ok (.aaload, 1) := by decide +kernel
theorem dX6_tuesday_79 : decode cX6_tuesday 79 = .ok (.iload 6, 2) := by decide +kernel
theorem dX6_tuesday_81 : decode cX6_tuesday 81 = .ok (.iload_n 2, 1) := by decide +kernel
theorem dX6_tuesday_82 : decode cX6_tuesday 82 = .ok (.invokevirtual 246, 3) := by decide +kernel
theorem dX6_tuesday_85 : decode cX6_tuesday 85 = .ok (.iload_n 3, 1) := by decide +kernel
theorem dX6_tuesday_86 : decode cX6_tuesday 86 = .ok (.if_icmp .ne 6, 3) := by decide +kernel
theorem dX6_tuesday_89 : decode cX6_tuesday 89 = .ok (.iinc 5 1, 3) := by decide +kernel
theorem dX6_tuesday_92 : decode cX6_tuesday 92 = .ok (.iinc 6 1, 3) := by decide +kernel
theorem dX6_tuesday_95 : decode cX6_tuesday 95 = .ok (.goto (-33), 3) := by decide +kernel
theorem dX6_tuesday_98 : decode cX6_tuesday 98 = .ok (.iload 5, 2) := by decide +kernel
theorem dX6_tuesday_100 : decode cX6_tuesday 100 = .ok (.i2l, 1) := by decide +kernel
theorem dX6_tuesday_101 : decode cX6_tuesday 101 = .ok (.ldc2_w 249, 3) := by decide +kernel
theorem dX6_tuesday_104 : decode cX6_tuesday 104 = .ok (.iload 4, 2) := by decide +kernel
theorem dX6_tuesday_106 : decode cX6_tuesday 106 = .ok (.invokestatic 251, 3) := by decide +kernel
theorem dX6_tuesday_109 : decode cX6_tuesday 109 = .ok (.l2i, 1) := by decide +kernel
theorem dX6_tuesday_110 : decode cX6_tuesday 110 = .ok (.ireturn, 1) := by decide +kernel
theorem dX6_guards_0 : decode cX6_guards 0 = .ok (.iload_n 1, 1) := by decide +kernel
theorem dX6_guards_1 : decode cX6_guards 1 = .ok (.invokestatic 65, 3) := by decide +kernel
theorem dX6_guards_4 : decode cX6_guards 4 = .ok (.ifCond .ne 6, 3) := by decide +kernel
theorem dX6_guards_7 : decode cX6_guards 7 = .ok (.ldc 73, 2) := by decide +kernel
theorem dX6_guards_9 : decode cX6_guards 9 = .ok (.ireturn, 1) := by decide +kernel
theorem dX6_guards_10 : decode cX6_guards 10 = .ok (.aload_n 0, 1) := by decide +kernel
theorem dX6_guards_11 : decode cX6_guards 11 = .ok (.aload_n 0, 1) := by decide +kernel
theorem dX6_guards_12 : decode cX6_guards 12 = .ok (.getfield 11, 3) := by decide +kernel
theorem dX6_guards_15 : decode cX6_guards 15 = .ok (.iload_n 1, 1) := by decide +kernel
theorem dX6_guards_16 : decode cX6_guards 16 = .ok (.aaload, 1) := by decide +kernel
theorem dX6_guards_17 : decode cX6_guards 17 = .ok (.iload_n 2, 1) := by decide +kernel
theorem dX6_guards_18 : decode cX6_guards 18 = .ok (.invokevirtual 255, 3) := by decide +kernel
theorem dX6_guards_21 : decode cX6_guards 21 = .ok (.istore_n 3, 1) := by decide +kernel
end
section
theorem dX6_guards_22 : decode cX6_guards 22 = .ok (.iload_n 3, 1) := by decide +kernel
theorem dX6_guards_23 : decode cX6_guards 23 = .ok (.ifCond .eq 7, 3) := by decide +kernel
theorem dX6_guards_26 : decode cX6_guards 26 = .ok (.iload_n 3, 1) := by decide +kernel
theorem dX6_guards_27 : decode cX6_guards 27 = .ok (.goto 13, 3) := by decide +kernel
theorem dX6_guards_30 : decode cX6_guards 30 = .ok (.aload_n 0, 1) := by decide +kernel
theorem dX6_guards_31 : decode cX6_guards 31 = .ok (.getfield 11, 3) := by decide +kernel
theorem dX6_guards_34 : decode cX6_guards 34 = .ok (.iload_n 1, 1) := by decide +kernel
theorem dX6_guards_35 : decode cX6_guards 35 = .ok (.aaload, 1) := by decide +kernel
theorem dX6_guards_36 : decode cX6_guards 36 = .ok (.iload_n 2, 1) := by decide +kernel
theorem dX6_guards_37 : decode cX6_guards 37 = .ok (.invokestatic 259, 3) := by decide +kernel
theorem dX6_guards_40 : decode cX6_guards 40 = .ok (.ireturn, 1) := by decide +kernel
theorem dX6_guardsValue_0 : decode cX6_guardsValue 0 = .ok (.iload_n 1, 1) := by decide +kernel
theorem dX6_guardsValue_1 : decode cX6_guardsValue 1 = .ok (.invokestatic 65, 3) := by decide +kernel
theorem dX6_guardsValue_4 : decode cX6_guardsValue 4 = .ok (.ifCond .eq 12, 3) := by decide +kernel
theorem dX6_guardsValue_7 : decode cX6_guardsValue 7 = .ok (.iload_n 3, 1) := by decide +kernel
theorem dX6_guardsValue_8 : decode cX6_guardsValue 8 = .ok (.iconst 0, 1) := by decide +kernel
theorem dX6_guardsValue_9 : decode cX6_guardsValue 9 = .ok (.iconst 1, 1) := by decide +kernel
theorem dX6_guardsValue_10 : decode cX6_guardsValue 10 = .ok (.invokestatic 69, 3) := by decide +kernel
theorem dX6_guardsValue_13 : decode cX6_guardsValue 13 = .ok (.ifCond .ne 7, 3) := by decide +kernel
theorem dX6_guardsValue_16 : decode cX6_guardsValue 16 = .ok (.ldc2_w 262, 3) := by decide +kernel
theorem dX6_guardsValue_19 : decode cX6_guardsValue 19 = .ok (.lreturn, 1) := by decide +kernel
theorem dX6_guardsValue_20 : decode cX6_guardsValue 20 = .ok (.aload_n 0, 1) := by decide +kernel
theorem dX6_guardsValue_21 : decode cX6_guardsValue 21 = .ok (.aload_n 0, 1) := by decide +kernel
theorem dX6_guardsValue_22 : decode cX6_guardsValue 22 = .ok (.getfield 11, 3) := by decide +kernel
theorem dX6_guardsValue_25 : decode cX6_guardsValue 25 = .ok (.iload_n 1, 1) := by decide +kernel
theorem dX6_guardsValue_26 : decode cX6_guardsValue 26 = .ok (.aaload, 1) := by decide +kernel
theorem dX6_guardsValue_27 : decode cX6_guardsValue 27 = .ok (.iload_n 2, 1) := by decide +kernel
theorem dX6_guardsValue_28 : decode cX6_guardsValue 28 = .ok (.invokevirtual 255, 3) := by decide +kernel
theorem dX6_guardsValue_31 : decode cX6_guardsValue 31 = .ok (.istore 4, 2) := by decide +kernel
theorem dX6_guardsValue_33 : decode cX6_guardsValue 33 = .ok (.iload 4, 2) := by decide +kernel
theorem dX6_guardsValue_35 : decode cX6_guardsValue 35 = .ok (.ifCond .eq 7, 3) := by decide +kernel
theorem dX6_guardsValue_38 : decode cX6_guardsValue 38 = .ok (.iload 4, 2) := by decide +kernel
theorem dX6_guardsValue_40 : decode cX6_guardsValue 40 = .ok (.i2l, 1) := by decide +kernel
theorem dX6_guardsValue_41 : decode cX6_guardsValue 41 = .ok (.lreturn, 1) := by decide +kernel
theorem dX6_guardsValue_42 : decode cX6_guardsValue 42 = .ok (.aload_n 0, 1) := by decide +kernel
theorem dX6_guardsValue_43 : decode cX6_guardsValue 43 = .ok (.getfield 11, 3) := by decide +kernel
theorem dX6_guardsValue_46 : decode cX6_guardsValue 46 = .ok (.iload_n 1, 1) := by decide +kernel
theorem dX6_guardsValue_47 : decode cX6_guardsValue 47 = .ok (.aaload, 1) := by decide +kernel
theorem dX6_guardsValue_48 : decode cX6_guardsValue 48 = .ok (.iload_n 2, 1) := by decide +kernel
theorem dX6_guardsValue_49 : decode cX6_guardsValue 49 = .ok (.invokestatic 259, 3) := by decide +kernel
theorem dX6_guardsValue_52 : decode cX6_guardsValue 52 = .ok (.istore 5, 2) := by decide +kernel
theorem dX6_guardsValue_54 : decode cX6_guardsValue 54 = .ok (.aload_n 0, 1) := by decide +kernel
theorem dX6_guardsValue_55 : decode cX6_guardsValue 55 = .ok (.getfield 11, 3) := by decide +kernel
theorem dX6_guardsValue_58 : decode cX6_guardsValue 58 = .ok (.iload_n 1, 1) := by decide +kernel
theorem dX6_guardsValue_59 : decode cX6_guardsValue 59 = .ok (.aaload, 1) := by decide +kernel
theorem dX6_guardsValue_60 : decode cX6_guardsValue 60 = .ok (.iload_n 2, 1) := by decide +kernel
theorem dX6_guardsValue_61 : decode cX6_guardsValue 61 = .ok (.iload 5, 2) := by decide +kernel
theorem dX6_guardsValue_63 : decode cX6_guardsValue 63 = .ok (.invokestatic 264, 3) := by decide +kernel
theorem dX6_guardsValue_66 : decode cX6_guardsValue 66 = .ok (.aload_n 0, 1) := by decide +kernel
theorem dX6_guardsValue_67 : decode cX6_guardsValue 67 = .ok (.getfield 11, 3) := by decide +kernel
theorem dX6_guardsValue_70 : decode cX6_guardsValue 70 = .ok (.iload_n 1, 1) := by decide +kernel
theorem dX6_guardsValue_71 : decode cX6_guardsValue 71 = .ok (.aaload, 1) := by decide +kernel
theorem dX6_guardsValue_72 : decode cX6_guardsValue 72 = .ok (.iload_n 2, 1) := by decide +kernel
theorem dX6_guardsValue_73 : decode cX6_guardsValue 73 = .ok (.iload 5, 2) := by decide +kernel
theorem dX6_guardsValue_75 : decode cX6_guardsValue 75 = .ok (.invokestatic 268, 3) := by decide +kernel
theorem dX6_guardsValue_78 : decode cX6_guardsValue 78 = .ok (.iload_n 3, 1) := by decide +kernel
theorem dX6_guardsValue_79 : decode cX6_guardsValue 79 = .ok (.invokestatic 251, 3) := by decide +kernel
theorem dX6_guardsValue_82 : decode cX6_guardsValue 82 = .ok (.lreturn, 1) := by decide +kernel
theorem dX6_dues_0 : decode cX6_dues 0 = .ok (.aload_n 0, 1) := by decide +kernel
theorem dX6_dues_1 : decode cX6_dues 1 = .ok (.getfield 25, 3) := by decide +kernel
theorem dX6_dues_4 : decode cX6_dues 4 = .ok (.getfield 146, 3) := by decide +kernel
theorem dX6_dues_7 : decode cX6_dues 7 = .ok (.ifCond .ne 6, 3) := by decide +kernel
theorem dX6_dues_10 : decode cX6_dues 10 = .ok (.ldc 142, 2) := by decide +kernel
theorem dX6_dues_12 : decode cX6_dues 12 = .ok (.ireturn, 1) := by decide +kernel
theorem dX6_dues_13 : decode cX6_dues 13 = .ok (.iload_n 1, 1) := by decide +kernel
theorem dX6_dues_14 : decode cX6_dues 14 = .ok (.iconst 0, 1) := by decide +kernel
theorem dX6_dues_15 : decode cX6_dues 15 = .ok (.bipush 60, 2) := by decide +kernel
theorem dX6_dues_17 : decode cX6_dues 17 = .ok (.invokestatic 69, 3) := by decide +kernel
theorem dX6_dues_20 : decode cX6_dues 20 = .ok (.ifCond .ne 6, 3) := by decide +kernel
theorem dX6_dues_23 : decode cX6_dues 23 = .ok (.ldc 73, 2) := by decide +kernel
theorem dX6_dues_25 : decode cX6_dues 25 = .ok (.ireturn, 1) := by decide +kernel
theorem dX6_dues_26 : decode cX6_dues 26 = .ok (.aload_n 0, 1) := by decide +kernel
theorem dX6_dues_27 : decode cX6_dues 27 = .ok (.iload_n 1, 1) := by decide +kernel
theorem dX6_dues_28 : decode cX6_dues 28 = .ok (.invokevirtual 210, 3) := by decide +kernel
theorem dX6_dues_31 : decode cX6_dues 31 = .ok (.aload_n 0, 1) := by decide +kernel
theorem dX6_dues_32 : decode cX6_dues 32 = .ok (.getfield 29, 3) := by decide +kernel
theorem dX6_dues_35 : decode cX6_dues 35 = .ok (.getfield 271, 3) := by decide +kernel
theorem dX6_dues_38 : decode cX6_dues 38 = .ok (.aload_n 0, 1) := by decide +kernel
theorem dX6_dues_39 : decode cX6_dues 39 = .ok (.getfield 25, 3) := by decide +kernel
theorem dX6_dues_42 : decode cX6_dues 42 = .ok (.getfield 271, 3) := by decide +kernel
theorem dX6_dues_45 : decode cX6_dues 45 = .ok (.isub, 1) := by decide +kernel
theorem dX6_dues_46 : decode cX6_dues 46 = .ok (.ireturn, 1) := by decide +kernel
theorem dX6_image_0 : decode cX6_image 0 = .ok (.iload_n 1, 1) := by decide +kernel
theorem dX6_image_1 : decode cX6_image 1 = .ok (.iconst 0, 1) := by decide +kernel
theorem dX6_image_2 : decode cX6_image 2 = .ok (.iconst 1, 1) := by decide +kernel
theorem dX6_image_3 : decode cX6_image 3 = .ok (.invokestatic 69, 3) := by decide +kernel
theorem dX6_image_6 : decode cX6_image 6 = .ok (.ifCond .ne 6, 3) := by decide +kernel
theorem dX6_image_9 : decode cX6_image 9 = .ok (.ldc 73, 2) := by decide +kernel
theorem dX6_image_11 : decode cX6_image 11 = .ok (.ireturn, 1) := by decide +kernel
theorem dX6_image_12 : decode cX6_image 12 = .ok (.aload_n 0, 1) := by decide +kernel
theorem dX6_image_13 : decode cX6_image 13 = .ok (.getfield 25, 3) := by decide +kernel
theorem dX6_image_16 : decode cX6_image 16 = .ok (.getfield 146, 3) := by decide +kernel
theorem dX6_image_19 : decode cX6_image 19 = .ok (.ifCond .ne 6, 3) := by decide +kernel
theorem dX6_image_22 : decode cX6_image 22 = .ok (.ldc 142, 2) := by decide +kernel
theorem dX6_image_24 : decode cX6_image 24 = .ok (.ireturn, 1) := by decide +kernel
theorem dX6_image_25 : decode cX6_image 25 = .ok (.aload_n 0, 1) := by decide +kernel
theorem dX6_image_26 : decode cX6_image 26 = .ok (.getfield 39, 3) := by decide +kernel
theorem dX6_image_29 : decode cX6_image 29 = .ok (.iload_n 1, 1) := by decide +kernel
theorem dX6_image_30 : decode cX6_image 30 = .ok (.aaload, 1) := by decide +kernel
theorem dX6_image_31 : decode cX6_image 31 = .ok (.aload_n 0, 1) := by decide +kernel
theorem dX6_image_32 : decode cX6_image 32 = .ok (.getfield 25, 3) := by decide +kernel
theorem dX6_image_35 : decode cX6_image 35 = .ok (.invokevirtual 132, 3) := by decide +kernel
theorem dX6_image_38 : decode cX6_image 38 = .ok (.iconst 1, 1) := by decide +kernel
theorem dX6_image_39 : decode cX6_image 39 = .ok (.ireturn, 1) := by decide +kernel
theorem dX6_restore_0 : decode cX6_restore 0 = .ok (.iload_n 1, 1) := by decide +kernel
theorem dX6_restore_1 : decode cX6_restore 1 = .ok (.iconst 0, 1) := by decide +kernel
theorem dX6_restore_2 : decode cX6_restore 2 = .ok (.iconst 1, 1) := by decide +kernel
theorem dX6_restore_3 : decode cX6_restore 3 = .ok (.invokestatic 69, 3) := by decide +kernel
theorem dX6_restore_6 : decode cX6_restore 6 = .ok (.ifCond .ne 6, 3) := by decide +kernel
theorem dX6_restore_9 : decode cX6_restore 9 = .ok (.ldc 73, 2) := by decide +kernel
theorem dX6_restore_11 : decode cX6_restore 11 = .ok (.ireturn, 1) := by decide +kernel
theorem dX6_restore_12 : decode cX6_restore 12 = .ok (.aload_n 0, 1) := by decide +kernel
theorem dX6_restore_13 : decode cX6_restore 13 = .ok (.getfield 39, 3) := by decide +kernel
theorem dX6_restore_16 : decode cX6_restore 16 = .ok (.iload_n 1, 1) := by decide +kernel
theorem dX6_restore_17 : decode cX6_restore 17 = .ok (.aaload, 1) := by decide +kernel
theorem dX6_restore_18 : decode cX6_restore 18 = .ok (.getfield 146, 3) := by decide +kernel
theorem dX6_restore_21 : decode cX6_restore 21 = .ok (.ifCond .ne 6, 3) := by decide +kernel
theorem dX6_restore_24 : decode cX6_restore 24 = .ok (.ldc 142, 2) := by decide +kernel
theorem dX6_restore_26 : decode cX6_restore 26 = .ok (.ireturn, 1) := by decide +kernel
theorem dX6_restore_27 : decode cX6_restore 27 = .ok (.aload_n 0, 1) := by decide +kernel
theorem dX6_restore_28 : decode cX6_restore 28 = .ok (.getfield 25, 3) := by decide +kernel
theorem dX6_restore_31 : decode cX6_restore 31 = .ok (.aload_n 0, 1) := by decide +kernel
theorem dX6_restore_32 : decode cX6_restore 32 = .ok (.getfield 39, 3) := by decide +kernel
theorem dX6_restore_35 : decode cX6_restore 35 = .ok (.iload_n 1, 1) := by decide +kernel
theorem dX6_restore_36 : decode cX6_restore 36 = .ok (.aaload, 1) := by decide +kernel
theorem dX6_restore_37 : decode cX6_restore 37 = .ok (.invokevirtual 132, 3) := by decide +kernel
theorem dX6_restore_40 : decode cX6_restore 40 = .ok (.aload_n 0, 1) := by decide +kernel
theorem dX6_restore_41 : decode cX6_restore 41 = .ok (.getfield 46, 3) := by decide +kernel
theorem dX6_restore_44 : decode cX6_restore 44 = .ok (.invokevirtual 135, 3) := by decide +kernel
theorem dX6_restore_47 : decode cX6_restore 47 = .ok (.iconst 1, 1) := by decide +kernel
theorem dX6_restore_48 : decode cX6_restore 48 = .ok (.ireturn, 1) := by decide +kernel
theorem dX6_kind_0 : decode cX6_kind 0 = .ok (.aload_n 0, 1) := by decide +kernel
theorem dX6_kind_1 : decode cX6_kind 1 = .ok (.iload_n 1, 1) := by decide +kernel
theorem dX6_kind_2 : decode cX6_kind 2 = .ok (.invokevirtual 161, 3) := by decide +kernel
theorem dX6_kind_5 : decode cX6_kind 5 = .ok (.ifCond .eq 18, 3) := by decide +kernel
theorem dX6_kind_8 : decode cX6_kind 8 = .ok (.aload_n 0, 1) := by decide +kernel
theorem dX6_kind_9 : decode cX6_kind 9 = .ok (.getfield 25, 3) := by decide +kernel
theorem dX6_kind_12 : decode cX6_kind 12 = .ok (.getfield 164, 3) := by decide +kernel
theorem dX6_kind_15 : decode cX6_kind 15 = .ok (.iload_n 1, 1) := by decide +kernel
theorem dX6_kind_16 : decode cX6_kind 16 = .ok (.aaload, 1) := by decide +kernel
theorem dX6_kind_17 : decode cX6_kind 17 = .ok (.getfield 185, 3) := by decide +kernel
theorem dX6_kind_20 : decode cX6_kind 20 = .ok (.goto 5, 3) := by decide +kernel
theorem dX6_kind_23 : decode cX6_kind 23 = .ok (.ldc 73, 2) := by decide +kernel
theorem dX6_kind_25 : decode cX6_kind 25 = .ok (.ireturn, 1) := by decide +kernel
theorem dX6_as_0 : decode cX6_as 0 = .ok (.aload_n 0, 1) := by decide +kernel
theorem dX6_as_1 : decode cX6_as 1 = .ok (.iload_n 1, 1) := by decide +kernel
theorem dX6_as_2 : decode cX6_as 2 = .ok (.invokevirtual 161, 3) := by decide +kernel
theorem dX6_as_5 : decode cX6_as 5 = .ok (.ifCond .eq 12, 3) := by decide +kernel
theorem dX6_as_8 : decode cX6_as 8 = .ok (.iload_n 2, 1) := by decide +kernel
theorem dX6_as_9 : decode cX6_as 9 = .ok (.iconst 0, 1) := by decide +kernel
theorem dX6_as_10 : decode cX6_as 10 = .ok (.iconst 5, 1) := by decide +kernel
theorem dX6_as_11 : decode cX6_as 11 = .ok (.invokestatic 69, 3) := by decide +kernel
theorem dX6_as_14 : decode cX6_as 14 = .ok (.ifCond .ne 6, 3) := by decide +kernel
theorem dX6_as_17 : decode cX6_as 17 = .ok (.ldc 73, 2) := by decide +kernel
theorem dX6_as_19 : decode cX6_as 19 = .ok (.ireturn, 1) := by decide +kernel
theorem dX6_as_20 : decode cX6_as 20 = .ok (.aload_n 0, 1) := by decide +kernel
theorem dX6_as_21 : decode cX6_as 21 = .ok (.getfield 25, 3) := by decide +kernel
theorem dX6_as_24 : decode cX6_as 24 = .ok (.getfield 164, 3) := by decide +kernel
theorem dX6_as_27 : decode cX6_as 27 = .ok (.iload_n 1, 1) := by decide +kernel
theorem dX6_as_28 : decode cX6_as 28 = .ok (.aaload, 1) := by decide +kernel
theorem dX6_as_29 : decode cX6_as 29 = .ok (.getfield 185, 3) := by decide +kernel
theorem dX6_as_32 : decode cX6_as 32 = .ok (.istore_n 3, 1) := by decide +kernel
theorem dX6_as_33 : decode cX6_as 33 = .ok (.iload_n 2, 1) := by decide +kernel
theorem dX6_as_34 : decode cX6_as 34 = .ok (.iload_n 3, 1) := by decide +kernel
theorem dX6_as_35 : decode cX6_as 35 = .ok (.if_icmp .eq 16, 3) := by decide +kernel
theorem dX6_as_38 : decode cX6_as 38 = .ok (.iload_n 2, 1) := by decide +kernel
theorem dX6_as_39 : decode cX6_as 39 = .ok (.getstatic 274, 3) := by decide +kernel
theorem dX6_as_42 : decode cX6_as 42 = .ok (.iload_n 3, 1) := by decide +kernel
theorem dX6_as_43 : decode cX6_as 43 = .ok (.iaload, 1) := by decide +kernel
theorem dX6_as_44 : decode cX6_as 44 = .ok (.if_icmp .eq 7, 3) := by decide +kernel
theorem dX6_as_47 : decode cX6_as 47 = .ok (.iload_n 2, 1) := by decide +kernel
theorem dX6_as_48 : decode cX6_as 48 = .ok (.ifCond .ne 7, 3) := by decide +kernel
theorem dX6_as_51 : decode cX6_as 51 = .ok (.iconst 1, 1) := by decide +kernel
theorem dX6_as_52 : decode cX6_as 52 = .ok (.goto 4, 3) := by decide +kernel
theorem dX6_as_55 : decode cX6_as 55 = .ok (.iconst 0, 1) := by decide +kernel
theorem dX6_as_56 : decode cX6_as 56 = .ok (.istore 4, 2) := by decide +kernel
theorem dX6_as_58 : decode cX6_as 58 = .ok (.iload 4, 2) := by decide +kernel
theorem dX6_as_60 : decode cX6_as 60 = .ok (.ifCond .eq 11, 3) := by decide +kernel
theorem dX6_as_63 : decode cX6_as 63 = .ok (.aload_n 0, 1) := by decide +kernel
theorem dX6_as_64 : decode cX6_as 64 = .ok (.iload_n 1, 1) := by decide +kernel
theorem dX6_as_65 : decode cX6_as 65 = .ok (.invokevirtual 82, 3) := by decide +kernel
theorem dX6_as_68 : decode cX6_as 68 = .ok (.goto 8, 3) := by decide +kernel
theorem dX6_as_71 : decode cX6_as 71 = .ok (.aload_n 0, 1) := by decide +kernel
theorem dX6_as_72 : decode cX6_as 72 = .ok (.iconst 3, 1) := by decide +kernel
theorem dX6_as_73 : decode cX6_as 73 = .ok (.invokevirtual 74, 3) := by decide +kernel
theorem dX6_as_76 : decode cX6_as 76 = .ok (.ireturn, 1) := by decide +kernel
theorem dX6_ask_0 : decode cX6_ask 0 = .ok (.aload_n 0, 1) := by decide +kernel
theorem dX6_ask_1 : decode cX6_ask 1 = .ok (.iload_n 1, 1) := by decide +kernel
theorem dX6_ask_2 : decode cX6_ask 2 = .ok (.invokevirtual 161, 3) := by decide +kernel
theorem dX6_ask_5 : decode cX6_ask 5 = .ok (.ifCond .eq 12, 3) := by decide +kernel
theorem dX6_ask_8 : decode cX6_ask 8 = .ok (.iload_n 2, 1) := by decide +kernel
theorem dX6_ask_9 : decode cX6_ask 9 = .ok (.iconst 0, 1) := by decide +kernel
theorem dX6_ask_10 : decode cX6_ask 10 = .ok (.iconst 1, 1) := by decide +kernel
theorem dX6_ask_11 : decode cX6_ask 11 = .ok (.invokestatic 69, 3) := by decide +kernel
theorem dX6_ask_14 : decode cX6_ask 14 = .ok (.ifCond .ne 6, 3) := by decide +kernel
theorem dX6_ask_17 : decode cX6_ask 17 = .ok (.ldc 73, 2) := by decide +kernel
theorem dX6_ask_19 : decode cX6_ask 19 = .ok (.ireturn, 1) := by decide +kernel
theorem dX6_ask_20 : decode cX6_ask 20 = .ok (.aload_n 0, 1) := by decide +kernel
theorem dX6_ask_21 : decode cX6_ask 21 = .ok (.getfield 53, 3) := by decide +kernel
theorem dX6_ask_24 : decode cX6_ask 24 = .ok (.aload_n 0, 1) := by decide +kernel
theorem dX6_ask_25 : decode cX6_ask 25 = .ok (.getfield 25, 3) := by decide +kernel
theorem dX6_ask_28 : decode cX6_ask 28 = .ok (.getfield 164, 3) := by decide +kernel
theorem dX6_ask_31 : decode cX6_ask 31 = .ok (.iload_n 1, 1) := by decide +kernel
theorem dX6_ask_32 : decode cX6_ask 32 = .ok (.aaload, 1) := by decide +kernel
theorem dX6_ask_33 : decode cX6_ask 33 = .ok (.iload_n 1, 1) := by decide +kernel
theorem dX6_ask_34 : decode cX6_ask 34 = .ok (.iload_n 2, 1) := by decide +kernel
theorem dX6_ask_35 : decode cX6_ask 35 = .ok (.invokevirtual 277, 3) := by decide +kernel
theorem dX6_ask_38 : decode cX6_ask 38 = .ok (.ireturn, 1) := by decide +kernel
theorem dX6_trace_0 : decode cX6_trace 0 = .ok (.iload_n 1, 1) := by decide +kernel
theorem dX6_trace_1 : decode cX6_trace 1 = .ok (.iconst 0, 1) := by decide +kernel
theorem dX6_trace_2 : decode cX6_trace 2 = .ok (.aload_n 0, 1) := by decide +kernel
theorem dX6_trace_3 : decode cX6_trace 3 = .ok (.getfield 53, 3) := by decide +kernel
theorem dX6_trace_6 : decode cX6_trace 6 = .ok (.getfield 280, 3) := by decide +kernel
theorem dX6_trace_9 : decode cX6_trace 9 = .ok (.iconst 1, 1) := by decide +kernel
theorem dX6_trace_10 : decode cX6_trace 10 = .ok (.isub, 1) := by decide +kernel
theorem dX6_trace_11 : decode cX6_trace 11 = .ok (.invokestatic 69, 3) := by decide +kernel
theorem dX6_trace_14 : decode cX6_trace 14 = .ok (.ifCond .eq 15, 3) := by decide +kernel
theorem dX6_trace_17 : decode cX6_trace 17 = .ok (.aload_n 0, 1) := by decide +kernel
theorem dX6_trace_18 : decode cX6_trace 18 = .ok (.getfield 53, 3) := by decide +kernel
theorem dX6_trace_21 : decode cX6_trace 21 = .ok (.getfield 281, 3) := by decide +kernel
theorem dX6_trace_24 : decode cX6_trace 24 = .ok (.iload_n 1, 1) := by decide +kernel
theorem dX6_trace_25 : decode cX6_trace 25 = .ok (.iaload, 1) := by decide +kernel
theorem dX6_trace_26 : decode cX6_trace 26 = .ok (.goto 5, 3) := by decide +kernel
theorem dX6_trace_29 : decode cX6_trace 29 = .ok (.ldc 216, 2) := by decide +kernel
theorem dX6_trace_31 : decode cX6_trace 31 = .ok (.ireturn, 1) := by decide +kernel
theorem dX6_count_0 : decode cX6_count 0 = .ok (.iload_n 1, 1) := by decide +kernel
theorem dX6_count_1 : decode cX6_count 1 = .ok (.tableswitch 120 0 8 #[51, 56, 64, 72, 80, 88, 96, 104, 112], 51) := by decide +kernel
theorem dX6_count_52 : decode cX6_count 52 = .ok (.aload_n 0, 1) := by decide +kernel
theorem dX6_count_53 : decode cX6_count 53 = .ok (.invokevirtual 284, 3) := by decide +kernel
theorem dX6_count_56 : decode cX6_count 56 = .ok (.ireturn, 1) := by decide +kernel
theorem dX6_count_57 : decode cX6_count 57 = .ok (.aload_n 0, 1) := by decide +kernel
theorem dX6_count_58 : decode cX6_count 58 = .ok (.getfield 25, 3) := by decide +kernel
theorem dX6_count_61 : decode cX6_count 61 = .ok (.getfield 138, 3) := by decide +kernel
theorem dX6_count_64 : decode cX6_count 64 = .ok (.ireturn, 1) := by decide +kernel
theorem dX6_count_65 : decode cX6_count 65 = .ok (.aload_n 0, 1) := by decide +kernel
theorem dX6_count_66 : decode cX6_count 66 = .ok (.getfield 25, 3) := by decide +kernel
theorem dX6_count_69 : decode cX6_count 69 = .ok (.getfield 288, 3) := by decide +kernel
theorem dX6_count_72 : decode cX6_count 72 = .ok (.ireturn, 1) := by decide +kernel
theorem dX6_count_73 : decode cX6_count 73 = .ok (.aload_n 0, 1) := by decide +kernel
theorem dX6_count_74 : decode cX6_count 74 = .ok (.getfield 25, 3) := by decide +kernel
theorem dX6_count_77 : decode cX6_count 77 = .ok (.getfield 149, 3) := by decide +kernel
theorem dX6_count_80 : decode cX6_count 80 = .ok (.ireturn, 1) := by decide +kernel
theorem dX6_count_81 : decode cX6_count 81 = .ok (.aload_n 0, 1) := by decide +kernel
theorem dX6_count_82 : decode cX6_count 82 = .ok (.getfield 25, 3) := by decide +kernel
theorem dX6_count_85 : decode cX6_count 85 = .ok (.getfield 158, 3) := by decide +kernel
theorem dX6_count_88 : decode cX6_count 88 = .ok (.ireturn, 1) := by decide +kernel
theorem dX6_count_89 : decode cX6_count 89 = .ok (.aload_n 0, 1) := by decide +kernel
theorem dX6_count_90 : decode cX6_count 90 = .ok (.getfield 25, 3) := by decide +kernel
theorem dX6_count_93 : decode cX6_count 93 = .ok (.getfield 271, 3) := by decide +kernel
theorem dX6_count_96 : decode cX6_count 96 = .ok (.ireturn, 1) := by decide +kernel
theorem dX6_count_97 : decode cX6_count 97 = .ok (.aload_n 0, 1) := by decide +kernel
theorem dX6_count_98 : decode cX6_count 98 = .ok (.getfield 25, 3) := by decide +kernel
theorem dX6_count_101 : decode cX6_count 101 = .ok (.invokevirtual 291, 3) := by decide +kernel
theorem dX6_count_104 : decode cX6_count 104 = .ok (.ireturn, 1) := by decide +kernel
theorem dX6_count_105 : decode cX6_count 105 = .ok (.aload_n 0, 1) := by decide +kernel
theorem dX6_count_106 : decode cX6_count 106 = .ok (.getfield 46, 3) := by decide +kernel
theorem dX6_count_109 : decode cX6_count 109 = .ok (.getfield 141, 3) := by decide +kernel
theorem dX6_count_112 : decode cX6_count 112 = .ok (.ireturn, 1) := by decide +kernel
theorem dX6_count_113 : decode cX6_count 113 = .ok (.aload_n 0, 1) := by decide +kernel
theorem dX6_count_114 : decode cX6_count 114 = .ok (.getfield 18, 3) := by decide +kernel
theorem dX6_count_117 : decode cX6_count 117 = .ok (.getfield 119, 3) := by decide +kernel
theorem dX6_count_120 : decode cX6_count 120 = .ok (.ireturn, 1) := by decide +kernel
theorem dX6_count_121 : decode cX6_count 121 = .ok (.ldc 73, 2) := by decide +kernel
theorem dX6_count_123 : decode cX6_count 123 = .ok (.ireturn, 1) := by decide +kernel
theorem dX6_status_0 : decode cX6_status 0 = .ok (.aload_n 0, 1) := by decide +kernel
theorem dX6_status_1 : decode cX6_status 1 = .ok (.getfield 57, 3) := by decide +kernel
theorem dX6_status_4 : decode cX6_status 4 = .ok (.ireturn, 1) := by decide +kernel
theorem dX6_within_0 : decode cX6_within 0 = .ok (.iload_n 0, 1) := by decide +kernel
theorem dX6_within_1 : decode cX6_within 1 = .ok (.iload_n 1, 1) := by decide +kernel
theorem dX6_within_2 : decode cX6_within 2 = .ok (.if_icmp .lt 12, 3) := by decide +kernel
theorem dX6_within_5 : decode cX6_within 5 = .ok (.iload_n 0, 1) := by decide +kernel
theorem dX6_within_6 : decode cX6_within 6 = .ok (.iload_n 2, 1) := by decide +kernel
theorem dX6_within_7 : decode cX6_within 7 = .ok (.if_icmp .gt 7, 3) := by decide +kernel
theorem dX6_within_10 : decode cX6_within 10 = .ok (.iconst 1, 1) := by decide +kernel
theorem dX6_within_11 : decode cX6_within 11 = .ok (.goto 4, 3) := by decide +kernel
theorem dX6_within_14 : decode cX6_within 14 = .ok (.iconst 0, 1) := by decide +kernel
theorem dX6_within_15 : decode cX6_within 15 = .ok (.ireturn, 1) := by decide +kernel
theorem dX6_isRow_0 : decode cX6_isRow 0 = .ok (.iload_n 0, 1) := by decide +kernel
theorem dX6_isRow_1 : decode cX6_isRow 1 = .ok (.iconst 0, 1) := by decide +kernel
theorem dX6_isRow_2 : decode cX6_isRow 2 = .ok (.bipush 7, 2) := by decide +kernel
theorem dX6_isRow_4 : decode cX6_isRow 4 = .ok (.invokestatic 69, 3) := by decide +kernel
theorem dX6_isRow_7 : decode cX6_isRow 7 = .ok (.ireturn, 1) := by decide +kernel
theorem dX6_isCell_0 : decode cX6_isCell 0 = .ok (.iload_n 0, 1) := by decide +kernel
theorem dX6_isCell_1 : decode cX6_isCell 1 = .ok (.iconst 0, 1) := by decide +kernel
theorem dX6_isCell_2 : decode cX6_isCell 2 = .ok (.bipush 31, 2) := by decide +kernel
theorem dX6_isCell_4 : decode cX6_isCell 4 = .ok (.invokestatic 69, 3) := by decide +kernel
theorem dX6_isCell_7 : decode cX6_isCell 7 = .ok (.ireturn, 1) := by decide +kernel
theorem dX6_isCloud_0 : decode cX6_isCloud 0 = .ok (.iload_n 1, 1) := by decide +kernel
theorem dX6_isCloud_1 : decode cX6_isCloud 1 = .ok (.iconst 0, 1) := by decide +kernel
theorem dX6_isCloud_2 : decode cX6_isCloud 2 = .ok (.aload_n 0, 1) := by decide +kernel
theorem dX6_isCloud_3 : decode cX6_isCloud 3 = .ok (.getfield 25, 3) := by decide +kernel
theorem dX6_isCloud_6 : decode cX6_isCloud 6 = .ok (.getfield 138, 3) := by decide +kernel
theorem dX6_isCloud_9 : decode cX6_isCloud 9 = .ok (.iconst 1, 1) := by decide +kernel
theorem dX6_isCloud_10 : decode cX6_isCloud 10 = .ok (.isub, 1) := by decide +kernel
theorem dX6_isCloud_11 : decode cX6_isCloud 11 = .ok (.invokestatic 69, 3) := by decide +kernel
theorem dX6_isCloud_14 : decode cX6_isCloud 14 = .ok (.ireturn, 1) := by decide +kernel
theorem dX6_bit_0 : decode cX6_bit 0 = .ok (.iload_n 0, 1) := by decide +kernel
theorem dX6_bit_1 : decode cX6_bit 1 = .ok (.ifCond .eq 7, 3) := by decide +kernel
theorem dX6_bit_4 : decode cX6_bit 4 = .ok (.iconst 1, 1) := by decide +kernel
theorem dX6_bit_5 : decode cX6_bit 5 = .ok (.goto 4, 3) := by decide +kernel
theorem dX6_bit_8 : decode cX6_bit 8 = .ok (.iconst 0, 1) := by decide +kernel
theorem dX6_bit_9 : decode cX6_bit 9 = .ok (.ireturn, 1) := by decide +kernel
theorem dX6_found_0 : decode cX6_found 0 = .ok (.aload_n 0, 1) := by decide +kernel
theorem dX6_found_1 : decode cX6_found 1 = .ok (.iload_n 1, 1) := by decide +kernel
theorem dX6_found_2 : decode cX6_found 2 = .ok (.putfield 57, 3) := by decide +kernel
theorem dX6_found_5 : decode cX6_found 5 = .ok (.ldc_w 294, 3) := by decide +kernel
theorem dX6_found_8 : decode cX6_found 8 = .ok (.iload_n 1, 1) := by decide +kernel
theorem dX6_found_9 : decode cX6_found 9 = .ok (.isub, 1) := by decide +kernel
theorem dX6_found_10 : decode cX6_found 10 = .ok (.ireturn, 1) := by decide +kernel
theorem dX6_clean_0 : decode cX6_clean 0 = .ok (.aload_n 0, 1) := by decide +kernel
theorem dX6_clean_1 : decode cX6_clean 1 = .ok (.iconst 0, 1) := by decide +kernel
theorem dX6_clean_2 : decode cX6_clean 2 = .ok (.putfield 57, 3) := by decide +kernel
theorem dX6_clean_5 : decode cX6_clean 5 = .ok (.iload_n 1, 1) := by decide +kernel
theorem dX6_clean_6 : decode cX6_clean 6 = .ok (.ireturn, 1) := by decide +kernel
theorem dX6_rowsThere_0 : decode cX6_rowsThere 0 = .ok (.iconst 0, 1) := by decide +kernel
theorem dX6_rowsThere_1 : decode cX6_rowsThere 1 = .ok (.istore_n 1, 1) := by decide +kernel
theorem dX6_rowsThere_2 : decode cX6_rowsThere 2 = .ok (.iconst 0, 1) := by decide +kernel
theorem dX6_rowsThere_3 : decode cX6_rowsThere 3 = .ok (.istore_n 2, 1) := by decide +kernel
theorem dX6_rowsThere_4 : decode cX6_rowsThere 4 = .ok (.iload_n 2, 1) := by decide +kernel
theorem dX6_rowsThere_5 : decode cX6_rowsThere 5 = .ok (.bipush 8, 2) := by decide +kernel
theorem dX6_rowsThere_7 : decode cX6_rowsThere 7 = .ok (.if_icmp .ge 24, 3) := by decide +kernel
theorem dX6_rowsThere_10 : decode cX6_rowsThere 10 = .ok (.iload_n 1, 1) := by decide +kernel
theorem dX6_rowsThere_11 : decode cX6_rowsThere 11 = .ok (.aload_n 0, 1) := by decide +kernel
theorem dX6_rowsThere_12 : decode cX6_rowsThere 12 = .ok (.getfield 11, 3) := by decide +kernel
theorem dX6_rowsThere_15 : decode cX6_rowsThere 15 = .ok (.iload_n 2, 1) := by decide +kernel
theorem dX6_rowsThere_16 : decode cX6_rowsThere 16 = .ok (.aaload, 1) := by decide +kernel
theorem dX6_rowsThere_17 : decode cX6_rowsThere 17 = .ok (.getfield 92, 3) := by decide +kernel
theorem dX6_rowsThere_20 : decode cX6_rowsThere 20 = .ok (.invokestatic 191, 3) := by decide +kernel
theorem dX6_rowsThere_23 : decode cX6_rowsThere 23 = .ok (.iadd, 1) := by decide +kernel
theorem dX6_rowsThere_24 : decode cX6_rowsThere 24 = .ok (.istore_n 1, 1) := by decide +kernel
theorem dX6_rowsThere_25 : decode cX6_rowsThere 25 = .ok (.iinc 2 1, 3) := by decide +kernel
theorem dX6_rowsThere_28 : decode cX6_rowsThere 28 = .ok (.goto (-24), 3) := by decide +kernel
theorem dX6_rowsThere_31 : decode cX6_rowsThere 31 = .ok (.iload_n 1, 1) := by decide +kernel
theorem dX6_rowsThere_32 : decode cX6_rowsThere 32 = .ok (.ireturn, 1) := by decide +kernel
theorem dX6_tryHours_0 : decode cX6_tryHours 0 = .ok (.aload_n 0, 1) := by decide +kernel
theorem dX6_tryHours_1 : decode cX6_tryHours 1 = .ok (.getfield 29, 3) := by decide +kernel
theorem dX6_tryHours_4 : decode cX6_tryHours 4 = .ok (.aload_n 0, 1) := by decide +kernel
theorem dX6_tryHours_5 : decode cX6_tryHours 5 = .ok (.getfield 25, 3) := by decide +kernel
theorem dX6_tryHours_8 : decode cX6_tryHours 8 = .ok (.invokevirtual 132, 3) := by decide +kernel
theorem dX6_tryHours_11 : decode cX6_tryHours 11 = .ok (.iconst 0, 1) := by decide +kernel
theorem dX6_tryHours_12 : decode cX6_tryHours 12 = .ok (.istore_n 2, 1) := by decide +kernel
theorem dX6_tryHours_13 : decode cX6_tryHours 13 = .ok (.iload_n 2, 1) := by decide +kernel
theorem dX6_tryHours_14 : decode cX6_tryHours 14 = .ok (.iload_n 1, 1) := by decide +kernel
theorem dX6_tryHours_15 : decode cX6_tryHours 15 = .ok (.if_icmp .ge 16, 3) := by decide +kernel
theorem dX6_tryHours_18 : decode cX6_tryHours 18 = .ok (.aload_n 0, 1) := by decide +kernel
theorem dX6_tryHours_19 : decode cX6_tryHours 19 = .ok (.getfield 29, 3) := by decide +kernel
theorem dX6_tryHours_22 : decode cX6_tryHours 22 = .ok (.invokevirtual 155, 3) := by decide +kernel
theorem dX6_tryHours_25 : decode cX6_tryHours 25 = .ok (.iinc 2 1, 3) := by decide +kernel
theorem dX6_tryHours_28 : decode cX6_tryHours 28 = .ok (.goto (-15), 3) := by decide +kernel
theorem dX6_tryHours_31 : decode cX6_tryHours 31 = .ok (.return_, 1) := by decide +kernel
theorem dX6_spread_0 : decode cX6_spread 0 = .ok (.iconst 0, 1) := by decide +kernel
theorem dX6_spread_1 : decode cX6_spread 1 = .ok (.istore 4, 2) := by decide +kernel
theorem dX6_spread_3 : decode cX6_spread 3 = .ok (.iconst 0, 1) := by decide +kernel
theorem dX6_spread_4 : decode cX6_spread 4 = .ok (.istore 5, 2) := by decide +kernel
theorem dX6_spread_6 : decode cX6_spread 6 = .ok (.iload 5, 2) := by decide +kernel
theorem dX6_spread_8 : decode cX6_spread 8 = .ok (.bipush 32, 2) := by decide +kernel
theorem dX6_spread_10 : decode cX6_spread 10 = .ok (.if_icmp .ge 69, 3) := by decide +kernel
theorem dX6_spread_13 : decode cX6_spread 13 = .ok (.iload_n 2, 1) := by decide +kernel
theorem dX6_spread_14 : decode cX6_spread 14 = .ok (.iload 5, 2) := by decide +kernel
theorem dX6_spread_16 : decode cX6_spread 16 = .ok (.iushr, 1) := by decide +kernel
theorem dX6_spread_17 : decode cX6_spread 17 = .ok (.iconst 1, 1) := by decide +kernel
theorem dX6_spread_18 : decode cX6_spread 18 = .ok (.iand, 1) := by decide +kernel
theorem dX6_spread_19 : decode cX6_spread 19 = .ok (.ifCond .eq 54, 3) := by decide +kernel
theorem dX6_spread_22 : decode cX6_spread 22 = .ok (.iload 4, 2) := by decide +kernel
theorem dX6_spread_24 : decode cX6_spread 24 = .ok (.iconst 1, 1) := by decide +kernel
theorem dX6_spread_25 : decode cX6_spread 25 = .ok (.aload_n 1, 1) := by decide +kernel
theorem dX6_spread_26 : decode cX6_spread 26 = .ok (.iload 5, 2) := by decide +kernel
theorem dX6_spread_28 : decode cX6_spread 28 = .ok (.aload_n 0, 1) := by decide +kernel
theorem dX6_spread_29 : decode cX6_spread 29 = .ok (.getfield 25, 3) := by decide +kernel
theorem dX6_spread_32 : decode cX6_spread 32 = .ok (.iconst 0, 1) := by decide +kernel
theorem dX6_spread_33 : decode cX6_spread 33 = .ok (.iload_n 3, 1) := by decide +kernel
theorem dX6_spread_34 : decode cX6_spread 34 = .ok (.invokevirtual 207, 3) := by decide +kernel
theorem dX6_spread_37 : decode cX6_spread 37 = .ok (.invokevirtual 295, 3) := by decide +kernel
theorem dX6_spread_40 : decode cX6_spread 40 = .ok (.ishl, 1) := by decide +kernel
theorem dX6_spread_41 : decode cX6_spread 41 = .ok (.ior, 1) := by decide +kernel
theorem dX6_spread_42 : decode cX6_spread 42 = .ok (.istore 4, 2) := by decide +kernel
theorem dX6_spread_44 : decode cX6_spread 44 = .ok (.aload_n 1, 1) := by decide +kernel
theorem dX6_spread_45 : decode cX6_spread 45 = .ok (.invokevirtual 171, 3) := by decide +kernel
theorem dX6_spread_48 : decode cX6_spread 48 = .ok (.ifCond .eq 25, 3) := by decide +kernel
theorem dX6_spread_51 : decode cX6_spread 51 = .ok (.iload 4, 2) := by decide +kernel
theorem dX6_spread_53 : decode cX6_spread 53 = .ok (.iconst 1, 1) := by decide +kernel
theorem dX6_spread_54 : decode cX6_spread 54 = .ok (.aload_n 1, 1) := by decide +kernel
theorem dX6_spread_55 : decode cX6_spread 55 = .ok (.iload 5, 2) := by decide +kernel
theorem dX6_spread_57 : decode cX6_spread 57 = .ok (.aload_n 0, 1) := by decide +kernel
theorem dX6_spread_58 : decode cX6_spread 58 = .ok (.getfield 25, 3) := by decide +kernel
theorem dX6_spread_61 : decode cX6_spread 61 = .ok (.iconst 1, 1) := by decide +kernel
theorem dX6_spread_62 : decode cX6_spread 62 = .ok (.iload_n 3, 1) := by decide +kernel
theorem dX6_spread_63 : decode cX6_spread 63 = .ok (.invokevirtual 207, 3) := by decide +kernel
theorem dX6_spread_66 : decode cX6_spread 66 = .ok (.invokevirtual 295, 3) := by decide +kernel
theorem dX6_spread_69 : decode cX6_spread 69 = .ok (.ishl, 1) := by decide +kernel
theorem dX6_spread_70 : decode cX6_spread 70 = .ok (.ior, 1) := by decide +kernel
theorem dX6_spread_71 : decode cX6_spread 71 = .ok (.istore 4, 2) := by decide +kernel
theorem dX6_spread_73 : decode cX6_spread 73 = .ok (.iinc 5 1, 3) := by decide +kernel
theorem dX6_spread_76 : decode cX6_spread 76 = .ok (.goto (-70), 3) := by decide +kernel
theorem dX6_spread_79 : decode cX6_spread 79 = .ok (.iload 4, 2) := by decide +kernel
theorem dX6_spread_81 : decode cX6_spread 81 = .ok (.ireturn, 1) := by decide +kernel
theorem dX6_earnedAt_0 : decode cX6_earnedAt 0 = .ok (.iconst 0, 1) := by decide +kernel
theorem dX6_earnedAt_1 : decode cX6_earnedAt 1 = .ok (.istore 4, 2) := by decide +kernel
theorem dX6_earnedAt_3 : decode cX6_earnedAt 3 = .ok (.aload_n 0, 1) := by decide +kernel
theorem dX6_earnedAt_4 : decode cX6_earnedAt 4 = .ok (.getfield 35, 3) := by decide +kernel
theorem dX6_earnedAt_7 : decode cX6_earnedAt 7 = .ok (.aload_n 0, 1) := by decide +kernel
theorem dX6_earnedAt_8 : decode cX6_earnedAt 8 = .ok (.getfield 25, 3) := by decide +kernel
theorem dX6_earnedAt_11 : decode cX6_earnedAt 11 = .ok (.getfield 164, 3) := by decide +kernel
theorem dX6_earnedAt_14 : decode cX6_earnedAt 14 = .ok (.iload_n 1, 1) := by decide +kernel
theorem dX6_earnedAt_15 : decode cX6_earnedAt 15 = .ok (.aaload, 1) := by decide +kernel
theorem dX6_earnedAt_16 : decode cX6_earnedAt 16 = .ok (.invokevirtual 298, 3) := by decide +kernel
theorem dX6_earnedAt_19 : decode cX6_earnedAt 19 = .ok (.iconst 0, 1) := by decide +kernel
theorem dX6_earnedAt_20 : decode cX6_earnedAt 20 = .ok (.istore 5, 2) := by decide +kernel
theorem dX6_earnedAt_22 : decode cX6_earnedAt 22 = .ok (.iload 5, 2) := by decide +kernel
theorem dX6_earnedAt_24 : decode cX6_earnedAt 24 = .ok (.iload_n 2, 1) := by decide +kernel
theorem dX6_earnedAt_25 : decode cX6_earnedAt 25 = .ok (.if_icmp .ge 48, 3) := by decide +kernel
theorem dX6_earnedAt_28 : decode cX6_earnedAt 28 = .ok (.aload_n 0, 1) := by decide +kernel
theorem dX6_earnedAt_29 : decode cX6_earnedAt 29 = .ok (.getfield 35, 3) := by decide +kernel
theorem dX6_earnedAt_32 : decode cX6_earnedAt 32 = .ok (.iload_n 3, 1) := by decide +kernel
theorem dX6_earnedAt_33 : decode cX6_earnedAt 33 = .ok (.iload 5, 2) := by decide +kernel
theorem dX6_earnedAt_35 : decode cX6_earnedAt 35 = .ok (.iushr, 1) := by decide +kernel
theorem dX6_earnedAt_36 : decode cX6_earnedAt 36 = .ok (.iconst 1, 1) := by decide +kernel
theorem dX6_earnedAt_37 : decode cX6_earnedAt 37 = .ok (.iand, 1) := by decide +kernel
theorem dX6_earnedAt_38 : decode cX6_earnedAt 38 = .ok (.invokevirtual 178, 3) := by decide +kernel
theorem dX6_earnedAt_41 : decode cX6_earnedAt 41 = .ok (.iload 4, 2) := by decide +kernel
theorem dX6_earnedAt_43 : decode cX6_earnedAt 43 = .ok (.aload_n 0, 1) := by decide +kernel
theorem dX6_earnedAt_44 : decode cX6_earnedAt 44 = .ok (.getfield 25, 3) := by decide +kernel
theorem dX6_earnedAt_47 : decode cX6_earnedAt 47 = .ok (.aload_n 0, 1) := by decide +kernel
theorem dX6_earnedAt_48 : decode cX6_earnedAt 48 = .ok (.getfield 35, 3) := by decide +kernel
theorem dX6_earnedAt_51 : decode cX6_earnedAt 51 = .ok (.aload_n 0, 1) := by decide +kernel
theorem dX6_earnedAt_52 : decode cX6_earnedAt 52 = .ok (.getfield 25, 3) := by decide +kernel
theorem dX6_earnedAt_55 : decode cX6_earnedAt 55 = .ok (.getfield 149, 3) := by decide +kernel
theorem dX6_earnedAt_58 : decode cX6_earnedAt 58 = .ok (.iload 5, 2) := by decide +kernel
theorem dX6_earnedAt_60 : decode cX6_earnedAt 60 = .ok (.iadd, 1) := by decide +kernel
theorem dX6_earnedAt_61 : decode cX6_earnedAt 61 = .ok (.invokevirtual 301, 3) := by decide +kernel
theorem dX6_earnedAt_64 : decode cX6_earnedAt 64 = .ok (.iadd, 1) := by decide +kernel
theorem dX6_earnedAt_65 : decode cX6_earnedAt 65 = .ok (.istore 4, 2) := by decide +kernel
theorem dX6_earnedAt_67 : decode cX6_earnedAt 67 = .ok (.iinc 5 1, 3) := by decide +kernel
theorem dX6_earnedAt_70 : decode cX6_earnedAt 70 = .ok (.goto (-48), 3) := by decide +kernel
theorem dX6_earnedAt_73 : decode cX6_earnedAt 73 = .ok (.iload 4, 2) := by decide +kernel
theorem dX6_earnedAt_75 : decode cX6_earnedAt 75 = .ok (.ireturn, 1) := by decide +kernel
theorem dX6_leavesDew_0 : decode cX6_leavesDew 0 = .ok (.aload_n 0, 1) := by decide +kernel
theorem dX6_leavesDew_1 : decode cX6_leavesDew 1 = .ok (.getfield 35, 3) := by decide +kernel
theorem dX6_leavesDew_4 : decode cX6_leavesDew 4 = .ok (.aload_n 0, 1) := by decide +kernel
theorem dX6_leavesDew_5 : decode cX6_leavesDew 5 = .ok (.getfield 25, 3) := by decide +kernel
theorem dX6_leavesDew_8 : decode cX6_leavesDew 8 = .ok (.getfield 164, 3) := by decide +kernel
theorem dX6_leavesDew_11 : decode cX6_leavesDew 11 = .ok (.iload_n 1, 1) := by decide +kernel
theorem dX6_leavesDew_12 : decode cX6_leavesDew 12 = .ok (.aaload, 1) := by decide +kernel
theorem dX6_leavesDew_13 : decode cX6_leavesDew 13 = .ok (.invokevirtual 298, 3) := by decide +kernel
theorem dX6_leavesDew_16 : decode cX6_leavesDew 16 = .ok (.iconst 0, 1) := by decide +kernel
theorem dX6_leavesDew_17 : decode cX6_leavesDew 17 = .ok (.istore 5, 2) := by decide +kernel
theorem dX6_leavesDew_19 : decode cX6_leavesDew 19 = .ok (.iload 5, 2) := by decide +kernel
theorem dX6_leavesDew_21 : decode cX6_leavesDew 21 = .ok (.iload 4, 2) := by decide +kernel
theorem dX6_leavesDew_23 : decode cX6_leavesDew 23 = .ok (.if_icmp .ge 66, 3) := by decide +kernel
theorem dX6_leavesDew_26 : decode cX6_leavesDew 26 = .ok (.aload_n 0, 1) := by decide +kernel
theorem dX6_leavesDew_27 : decode cX6_leavesDew 27 = .ok (.getfield 25, 3) := by decide +kernel
theorem dX6_leavesDew_30 : decode cX6_leavesDew 30 = .ok (.aload_n 0, 1) := by decide +kernel
theorem dX6_leavesDew_31 : decode cX6_leavesDew 31 = .ok (.getfield 35, 3) := by decide +kernel
theorem dX6_leavesDew_34 : decode cX6_leavesDew 34 = .ok (.aload_n 0, 1) := by decide +kernel
theorem dX6_leavesDew_35 : decode cX6_leavesDew 35 = .ok (.getfield 25, 3) := by decide +kernel
theorem dX6_leavesDew_38 : decode cX6_leavesDew 38 = .ok (.getfield 149, 3) := by decide +kernel
theorem dX6_leavesDew_41 : decode cX6_leavesDew 41 = .ok (.iload 5, 2) := by decide +kernel
theorem dX6_leavesDew_43 : decode cX6_leavesDew 43 = .ok (.iadd, 1) := by decide +kernel
theorem dX6_leavesDew_44 : decode cX6_leavesDew 44 = .ok (.invokevirtual 301, 3) := by decide +kernel
theorem dX6_leavesDew_47 : decode cX6_leavesDew 47 = .ok (.pop, 1) := by decide +kernel
theorem dX6_leavesDew_48 : decode cX6_leavesDew 48 = .ok (.aload_n 2, 1) := by decide +kernel
theorem dX6_leavesDew_49 : decode cX6_leavesDew 49 = .ok (.getfield 103, 3) := by decide +kernel
theorem dX6_leavesDew_52 : decode cX6_leavesDew 52 = .ok (.iload_n 3, 1) := by decide +kernel
theorem dX6_leavesDew_53 : decode cX6_leavesDew 53 = .ok (.iload 5, 2) := by decide +kernel
theorem dX6_leavesDew_55 : decode cX6_leavesDew 55 = .ok (.iadd, 1) := by decide +kernel
theorem dX6_leavesDew_56 : decode cX6_leavesDew 56 = .ok (.iaload, 1) := by decide +kernel
theorem dX6_leavesDew_57 : decode cX6_leavesDew 57 = .ok (.aload_n 0, 1) := by decide +kernel
theorem dX6_leavesDew_58 : decode cX6_leavesDew 58 = .ok (.getfield 35, 3) := by decide +kernel
theorem dX6_leavesDew_61 : decode cX6_leavesDew 61 = .ok (.getfield 305, 3) := by decide +kernel
theorem dX6_leavesDew_64 : decode cX6_leavesDew 64 = .ok (.ifCond .le 13, 3) := by decide +kernel
theorem dX6_leavesDew_67 : decode cX6_leavesDew 67 = .ok (.aload_n 0, 1) := by decide +kernel
theorem dX6_leavesDew_68 : decode cX6_leavesDew 68 = .ok (.getfield 35, 3) := by decide +kernel
theorem dX6_leavesDew_71 : decode cX6_leavesDew 71 = .ok (.getfield 223, 3) := by decide +kernel
theorem dX6_leavesDew_74 : decode cX6_leavesDew 74 = .ok (.goto 4, 3) := by decide +kernel
theorem dX6_leavesDew_77 : decode cX6_leavesDew 77 = .ok (.iconst (-1), 1) := by decide +kernel
theorem dX6_leavesDew_78 : decode cX6_leavesDew 78 = .ok (.if_icmp .eq 5, 3) := by decide +kernel
theorem dX6_leavesDew_81 : decode cX6_leavesDew 81 = .ok (.iconst 0, 1) := by decide +kernel
theorem dX6_leavesDew_82 : decode cX6_leavesDew 82 = .ok (.ireturn, 1) := by decide +kernel
theorem dX6_leavesDew_83 : decode cX6_leavesDew 83 = .ok (.iinc 5 1, 3) := by decide +kernel
theorem dX6_leavesDew_86 : decode cX6_leavesDew 86 = .ok (.goto (-67), 3) := by decide +kernel
theorem dX6_leavesDew_89 : decode cX6_leavesDew 89 = .ok (.iconst 1, 1) := by decide +kernel
theorem dX6_leavesDew_90 : decode cX6_leavesDew 90 = .ok (.ireturn, 1) := by decide +kernel
theorem dX6_tookWay_0 : decode cX6_tookWay 0 = .ok (.iload_n 2, 1) := by decide +kernel
theorem dX6_tookWay_1 : decode cX6_tookWay 1 = .ok (.istore 7, 2) := by decide +kernel
theorem dX6_tookWay_3 : decode cX6_tookWay 3 = .ok (.iconst 0, 1) := by decide +kernel
theorem dX6_tookWay_4 : decode cX6_tookWay 4 = .ok (.istore 8, 2) := by decide +kernel
theorem dX6_tookWay_6 : decode cX6_tookWay 6 = .ok (.iload 8, 2) := by decide +kernel
theorem dX6_tookWay_8 : decode cX6_tookWay 8 = .ok (.iload 6, 2) := by decide +kernel
theorem dX6_tookWay_10 : decode cX6_tookWay 10 = .ok (.if_icmp .ge 61, 3) := by decide +kernel
theorem dX6_tookWay_13 : decode cX6_tookWay 13 = .ok (.aload_n 0, 1) := by decide +kernel
theorem dX6_tookWay_14 : decode cX6_tookWay 14 = .ok (.getfield 25, 3) := by decide +kernel
theorem dX6_tookWay_17 : decode cX6_tookWay 17 = .ok (.getfield 164, 3) := by decide +kernel
theorem dX6_tookWay_20 : decode cX6_tookWay 20 = .ok (.iload_n 1, 1) := by decide +kernel
theorem dX6_tookWay_21 : decode cX6_tookWay 21 = .ok (.aaload, 1) := by decide +kernel
theorem dX6_tookWay_22 : decode cX6_tookWay 22 = .ok (.iload 7, 2) := by decide +kernel
theorem dX6_tookWay_24 : decode cX6_tookWay 24 = .ok (.aload_n 0, 1) := by decide +kernel
theorem dX6_tookWay_25 : decode cX6_tookWay 25 = .ok (.getfield 25, 3) := by decide +kernel
theorem dX6_tookWay_28 : decode cX6_tookWay 28 = .ok (.iload_n 3, 1) := by decide +kernel
theorem dX6_tookWay_29 : decode cX6_tookWay 29 = .ok (.aload_n 0, 1) := by decide +kernel
theorem dX6_tookWay_30 : decode cX6_tookWay 30 = .ok (.getfield 25, 3) := by decide +kernel
theorem dX6_tookWay_33 : decode cX6_tookWay 33 = .ok (.getfield 149, 3) := by decide +kernel
theorem dX6_tookWay_36 : decode cX6_tookWay 36 = .ok (.iload 8, 2) := by decide +kernel
theorem dX6_tookWay_38 : decode cX6_tookWay 38 = .ok (.iadd, 1) := by decide +kernel
theorem dX6_tookWay_39 : decode cX6_tookWay 39 = .ok (.invokevirtual 207, 3) := by decide +kernel
theorem dX6_tookWay_42 : decode cX6_tookWay 42 = .ok (.invokevirtual 295, 3) := by decide +kernel
theorem dX6_tookWay_45 : decode cX6_tookWay 45 = .ok (.istore 7, 2) := by decide +kernel
theorem dX6_tookWay_47 : decode cX6_tookWay 47 = .ok (.aload 4, 2) := by decide +kernel
theorem dX6_tookWay_49 : decode cX6_tookWay 49 = .ok (.getfield 103, 3) := by decide +kernel
theorem dX6_tookWay_52 : decode cX6_tookWay 52 = .ok (.iload 5, 2) := by decide +kernel
theorem dX6_tookWay_54 : decode cX6_tookWay 54 = .ok (.iload 8, 2) := by decide +kernel
theorem dX6_tookWay_56 : decode cX6_tookWay 56 = .ok (.iadd, 1) := by decide +kernel
theorem dX6_tookWay_57 : decode cX6_tookWay 57 = .ok (.iaload, 1) := by decide +kernel
theorem dX6_tookWay_58 : decode cX6_tookWay 58 = .ok (.iload 7, 2) := by decide +kernel
theorem dX6_tookWay_60 : decode cX6_tookWay 60 = .ok (.if_icmp .eq 5, 3) := by decide +kernel
theorem dX6_tookWay_63 : decode cX6_tookWay 63 = .ok (.iconst 0, 1) := by decide +kernel
theorem dX6_tookWay_64 : decode cX6_tookWay 64 = .ok (.ireturn, 1) := by decide +kernel
theorem dX6_tookWay_65 : decode cX6_tookWay 65 = .ok (.iinc 8 1, 3) := by decide +kernel
theorem dX6_tookWay_68 : decode cX6_tookWay 68 = .ok (.goto (-62), 3) := by decide +kernel
theorem dX6_tookWay_71 : decode cX6_tookWay 71 = .ok (.iconst 1, 1) := by decide +kernel
theorem dX6_tookWay_72 : decode cX6_tookWay 72 = .ok (.ireturn, 1) := by decide +kernel
theorem dX6_flewSo_0 : decode cX6_flewSo 0 = .ok (.iconst 0, 1) := by decide +kernel
theorem dX6_flewSo_1 : decode cX6_flewSo 1 = .ok (.istore 6, 2) := by decide +kernel
theorem dX6_flewSo_3 : decode cX6_flewSo 3 = .ok (.iload 6, 2) := by decide +kernel
theorem dX6_flewSo_5 : decode cX6_flewSo 5 = .ok (.iload 5, 2) := by decide +kernel
theorem dX6_flewSo_7 : decode cX6_flewSo 7 = .ok (.if_icmp .ge 36, 3) := by decide +kernel
theorem dX6_flewSo_10 : decode cX6_flewSo 10 = .ok (.aload_n 3, 1) := by decide +kernel
theorem dX6_flewSo_11 : decode cX6_flewSo 11 = .ok (.getfield 103, 3) := by decide +kernel
theorem dX6_flewSo_14 : decode cX6_flewSo 14 = .ok (.iload 4, 2) := by decide +kernel
theorem dX6_flewSo_16 : decode cX6_flewSo 16 = .ok (.iload 6, 2) := by decide +kernel
theorem dX6_flewSo_18 : decode cX6_flewSo 18 = .ok (.iadd, 1) := by decide +kernel
theorem dX6_flewSo_19 : decode cX6_flewSo 19 = .ok (.iaload, 1) := by decide +kernel
theorem dX6_flewSo_20 : decode cX6_flewSo 20 = .ok (.aload_n 0, 1) := by decide +kernel
theorem dX6_flewSo_21 : decode cX6_flewSo 21 = .ok (.getfield 25, 3) := by decide +kernel
theorem dX6_flewSo_24 : decode cX6_flewSo 24 = .ok (.iload_n 1, 1) := by decide +kernel
theorem dX6_flewSo_25 : decode cX6_flewSo 25 = .ok (.iload_n 2, 1) := by decide +kernel
theorem dX6_flewSo_26 : decode cX6_flewSo 26 = .ok (.iload 6, 2) := by decide +kernel
theorem dX6_flewSo_28 : decode cX6_flewSo 28 = .ok (.iadd, 1) := by decide +kernel
theorem dX6_flewSo_29 : decode cX6_flewSo 29 = .ok (.invokevirtual 207, 3) := by decide +kernel
theorem dX6_flewSo_32 : decode cX6_flewSo 32 = .ok (.if_icmp .eq 5, 3) := by decide +kernel
theorem dX6_flewSo_35 : decode cX6_flewSo 35 = .ok (.iconst 0, 1) := by decide +kernel
theorem dX6_flewSo_36 : decode cX6_flewSo 36 = .ok (.ireturn, 1) := by decide +kernel
theorem dX6_flewSo_37 : decode cX6_flewSo 37 = .ok (.iinc 6 1, 3) := by decide +kernel
theorem dX6_flewSo_40 : decode cX6_flewSo 40 = .ok (.goto (-37), 3) := by decide +kernel
theorem dX6_flewSo_43 : decode cX6_flewSo 43 = .ok (.iconst 1, 1) := by decide +kernel
theorem dX6_flewSo_44 : decode cX6_flewSo 44 = .ok (.ireturn, 1) := by decide +kernel
theorem dX6_cellBehind_0 : decode cX6_cellBehind 0 = .ok (.aload_n 1, 1) := by decide +kernel
theorem dX6_cellBehind_1 : decode cX6_cellBehind 1 = .ok (.getfield 223, 3) := by decide +kernel
theorem dX6_cellBehind_4 : decode cX6_cellBehind 4 = .ok (.istore 4, 2) := by decide +kernel
theorem dX6_cellBehind_6 : decode cX6_cellBehind 6 = .ok (.iconst 0, 1) := by decide +kernel
theorem dX6_cellBehind_7 : decode cX6_cellBehind 7 = .ok (.istore 5, 2) := by decide +kernel
theorem dX6_cellBehind_9 : decode cX6_cellBehind 9 = .ok (.iload 5, 2) := by decide +kernel
theorem dX6_cellBehind_11 : decode cX6_cellBehind 11 = .ok (.iload_n 3, 1) := by decide +kernel
theorem dX6_cellBehind_12 : decode cX6_cellBehind 12 = .ok (.if_icmp .ge 40, 3) := by decide +kernel
theorem dX6_cellBehind_15 : decode cX6_cellBehind 15 = .ok (.aload_n 1, 1) := by decide +kernel
theorem dX6_cellBehind_16 : decode cX6_cellBehind 16 = .ok (.iload 4, 2) := by decide +kernel
theorem dX6_cellBehind_18 : decode cX6_cellBehind 18 = .ok (.aload_n 0, 1) := by decide +kernel
theorem dX6_cellBehind_19 : decode cX6_cellBehind 19 = .ok (.getfield 25, 3) := by decide +kernel
theorem dX6_cellBehind_22 : decode cX6_cellBehind 22 = .ok (.aload_n 1, 1) := by decide +kernel
theorem dX6_cellBehind_23 : decode cX6_cellBehind 23 = .ok (.getfield 175, 3) := by decide +kernel
theorem dX6_cellBehind_26 : decode cX6_cellBehind 26 = .ok (.aload_n 0, 1) := by decide +kernel
theorem dX6_cellBehind_27 : decode cX6_cellBehind 27 = .ok (.getfield 25, 3) := by decide +kernel
theorem dX6_cellBehind_30 : decode cX6_cellBehind 30 = .ok (.getfield 149, 3) := by decide +kernel
theorem dX6_cellBehind_33 : decode cX6_cellBehind 33 = .ok (.iload_n 2, 1) := by decide +kernel
theorem dX6_cellBehind_34 : decode cX6_cellBehind 34 = .ok (.iadd, 1) := by decide +kernel
theorem dX6_cellBehind_35 : decode cX6_cellBehind 35 = .ok (.iload 5, 2) := by decide +kernel
theorem dX6_cellBehind_37 : decode cX6_cellBehind 37 = .ok (.iadd, 1) := by decide +kernel
theorem dX6_cellBehind_38 : decode cX6_cellBehind 38 = .ok (.invokevirtual 207, 3) := by decide +kernel
theorem dX6_cellBehind_41 : decode cX6_cellBehind 41 = .ok (.invokevirtual 295, 3) := by decide +kernel
theorem dX6_cellBehind_44 : decode cX6_cellBehind 44 = .ok (.istore 4, 2) := by decide +kernel
theorem dX6_cellBehind_46 : decode cX6_cellBehind 46 = .ok (.iinc 5 1, 3) := by decide +kernel
theorem dX6_cellBehind_49 : decode cX6_cellBehind 49 = .ok (.goto (-40), 3) := by decide +kernel
theorem dX6_cellBehind_52 : decode cX6_cellBehind 52 = .ok (.iload 4, 2) := by decide +kernel
theorem dX6_cellBehind_54 : decode cX6_cellBehind 54 = .ok (.ireturn, 1) := by decide +kernel
theorem dX6_lineRefusal_0 : decode cX6_lineRefusal 0 = .ok (.aload_n 1, 1) := by decide +kernel
theorem dX6_lineRefusal_1 : decode cX6_lineRefusal 1 = .ok (.iload_n 2, 1) := by decide +kernel
theorem dX6_lineRefusal_2 : decode cX6_lineRefusal 2 = .ok (.iconst 5, 1) := by decide +kernel
theorem dX6_lineRefusal_3 : decode cX6_lineRefusal 3 = .ok (.invokevirtual 85, 3) := by decide +kernel
theorem dX6_lineRefusal_6 : decode cX6_lineRefusal 6 = .ok (.istore_n 3, 1) := by decide +kernel
theorem dX6_lineRefusal_7 : decode cX6_lineRefusal 7 = .ok (.iload_n 3, 1) := by decide +kernel
theorem dX6_lineRefusal_8 : decode cX6_lineRefusal 8 = .ok (.ifCond .eq 9, 3) := by decide +kernel
theorem dX6_lineRefusal_11 : decode cX6_lineRefusal 11 = .ok (.aload_n 0, 1) := by decide +kernel
theorem dX6_lineRefusal_12 : decode cX6_lineRefusal 12 = .ok (.iload_n 3, 1) := by decide +kernel
theorem dX6_lineRefusal_13 : decode cX6_lineRefusal 13 = .ok (.invokevirtual 74, 3) := by decide +kernel
theorem dX6_lineRefusal_16 : decode cX6_lineRefusal 16 = .ok (.ireturn, 1) := by decide +kernel
theorem dX6_lineRefusal_17 : decode cX6_lineRefusal 17 = .ok (.iconst 0, 1) := by decide +kernel
theorem dX6_lineRefusal_18 : decode cX6_lineRefusal 18 = .ok (.istore 4, 2) := by decide +kernel
theorem dX6_lineRefusal_20 : decode cX6_lineRefusal 20 = .ok (.iload 4, 2) := by decide +kernel
theorem dX6_lineRefusal_22 : decode cX6_lineRefusal 22 = .ok (.iconst 5, 1) := by decide +kernel
theorem dX6_lineRefusal_23 : decode cX6_lineRefusal 23 = .ok (.if_icmp .ge 30, 3) := by decide +kernel
theorem dX6_lineRefusal_26 : decode cX6_lineRefusal 26 = .ok (.aload_n 1, 1) := by decide +kernel
theorem dX6_lineRefusal_27 : decode cX6_lineRefusal 27 = .ok (.getfield 103, 3) := by decide +kernel
theorem dX6_lineRefusal_30 : decode cX6_lineRefusal 30 = .ok (.iload_n 2, 1) := by decide +kernel
theorem dX6_lineRefusal_31 : decode cX6_lineRefusal 31 = .ok (.iload 4, 2) := by decide +kernel
theorem dX6_lineRefusal_33 : decode cX6_lineRefusal 33 = .ok (.iadd, 1) := by decide +kernel
theorem dX6_lineRefusal_34 : decode cX6_lineRefusal 34 = .ok (.iaload, 1) := by decide +kernel
theorem dX6_lineRefusal_35 : decode cX6_lineRefusal 35 = .ok (.iconst 1, 1) := by decide +kernel
theorem dX6_lineRefusal_36 : decode cX6_lineRefusal 36 = .ok (.bipush 20, 2) := by decide +kernel
theorem dX6_lineRefusal_38 : decode cX6_lineRefusal 38 = .ok (.invokestatic 69, 3) := by decide +kernel
theorem dX6_lineRefusal_41 : decode cX6_lineRefusal 41 = .ok (.ifCond .ne 6, 3) := by decide +kernel
theorem dX6_lineRefusal_44 : decode cX6_lineRefusal 44 = .ok (.ldc 73, 2) := by decide +kernel
theorem dX6_lineRefusal_46 : decode cX6_lineRefusal 46 = .ok (.ireturn, 1) := by decide +kernel
theorem dX6_lineRefusal_47 : decode cX6_lineRefusal 47 = .ok (.iinc 4 1, 3) := by decide +kernel
theorem dX6_lineRefusal_50 : decode cX6_lineRefusal 50 = .ok (.goto (-30), 3) := by decide +kernel
theorem dX6_lineRefusal_53 : decode cX6_lineRefusal 53 = .ok (.aload_n 0, 1) := by decide +kernel
theorem dX6_lineRefusal_54 : decode cX6_lineRefusal 54 = .ok (.iconst 0, 1) := by decide +kernel
theorem dX6_lineRefusal_55 : decode cX6_lineRefusal 55 = .ok (.invokevirtual 82, 3) := by decide +kernel
theorem dX6_lineRefusal_58 : decode cX6_lineRefusal 58 = .ok (.ireturn, 1) := by decide +kernel
theorem dX6_bestPlaces_0 : decode cX6_bestPlaces 0 = .ok (.iconst 1, 1) := by decide +kernel
theorem dX6_bestPlaces_1 : decode cX6_bestPlaces 1 = .ok (.istore_n 2, 1) := by decide +kernel
theorem dX6_bestPlaces_2 : decode cX6_bestPlaces 2 = .ok (.iconst 2, 1) := by decide +kernel
theorem dX6_bestPlaces_3 : decode cX6_bestPlaces 3 = .ok (.istore_n 3, 1) := by decide +kernel
theorem dX6_bestPlaces_4 : decode cX6_bestPlaces 4 = .ok (.iload_n 3, 1) := by decide +kernel
theorem dX6_bestPlaces_5 : decode cX6_bestPlaces 5 = .ok (.bipush 32, 2) := by decide +kernel
theorem dX6_bestPlaces_7 : decode cX6_bestPlaces 7 = .ok (.if_icmp .ge 49, 3) := by decide +kernel
theorem dX6_bestPlaces_10 : decode cX6_bestPlaces 10 = .ok (.aload_n 0, 1) := by decide +kernel
theorem dX6_bestPlaces_11 : decode cX6_bestPlaces 11 = .ok (.iload_n 1, 1) := by decide +kernel
theorem dX6_bestPlaces_12 : decode cX6_bestPlaces 12 = .ok (.iload_n 3, 1) := by decide +kernel
theorem dX6_bestPlaces_13 : decode cX6_bestPlaces 13 = .ok (.invokestatic 264, 3) := by decide +kernel
theorem dX6_bestPlaces_16 : decode cX6_bestPlaces 16 = .ok (.aload_n 0, 1) := by decide +kernel
theorem dX6_bestPlaces_17 : decode cX6_bestPlaces 17 = .ok (.iload_n 1, 1) := by decide +kernel
theorem dX6_bestPlaces_18 : decode cX6_bestPlaces 18 = .ok (.iload_n 2, 1) := by decide +kernel
theorem dX6_bestPlaces_19 : decode cX6_bestPlaces 19 = .ok (.invokestatic 268, 3) := by decide +kernel
theorem dX6_bestPlaces_22 : decode cX6_bestPlaces 22 = .ok (.lmul, 1) := by decide +kernel
theorem dX6_bestPlaces_23 : decode cX6_bestPlaces 23 = .ok (.lstore 4, 2) := by decide +kernel
theorem dX6_bestPlaces_25 : decode cX6_bestPlaces 25 = .ok (.aload_n 0, 1) := by decide +kernel
theorem dX6_bestPlaces_26 : decode cX6_bestPlaces 26 = .ok (.iload_n 1, 1) := by decide +kernel
theorem dX6_bestPlaces_27 : decode cX6_bestPlaces 27 = .ok (.iload_n 2, 1) := by decide +kernel
theorem dX6_bestPlaces_28 : decode cX6_bestPlaces 28 = .ok (.invokestatic 264, 3) := by decide +kernel
theorem dX6_bestPlaces_31 : decode cX6_bestPlaces 31 = .ok (.aload_n 0, 1) := by decide +kernel
theorem dX6_bestPlaces_32 : decode cX6_bestPlaces 32 = .ok (.iload_n 1, 1) := by decide +kernel
theorem dX6_bestPlaces_33 : decode cX6_bestPlaces 33 = .ok (.iload_n 3, 1) := by decide +kernel
theorem dX6_bestPlaces_34 : decode cX6_bestPlaces 34 = .ok (.invokestatic 268, 3) := by decide +kernel
theorem dX6_bestPlaces_37 : decode cX6_bestPlaces 37 = .ok (.lmul, 1) := by decide +kernel
theorem dX6_bestPlaces_38 : decode cX6_bestPlaces 38 = .ok (.lstore 6, 2) := by decide +kernel
theorem dX6_bestPlaces_40 : decode cX6_bestPlaces 40 = .ok (.lload 4, 2) := by decide +kernel
theorem dX6_bestPlaces_42 : decode cX6_bestPlaces 42 = .ok (.lload 6, 2) := by decide +kernel
theorem dX6_bestPlaces_44 : decode cX6_bestPlaces 44 = .ok (.lcmp, 1) := by decide +kernel
theorem dX6_bestPlaces_45 : decode cX6_bestPlaces 45 = .ok (.ifCond .le 5, 3) := by decide +kernel
theorem dX6_bestPlaces_48 : decode cX6_bestPlaces 48 = .ok (.iload_n 3, 1) := by decide +kernel
theorem dX6_bestPlaces_49 : decode cX6_bestPlaces 49 = .ok (.istore_n 2, 1) := by decide +kernel
theorem dX6_bestPlaces_50 : decode cX6_bestPlaces 50 = .ok (.iinc 3 1, 3) := by decide +kernel
theorem dX6_bestPlaces_53 : decode cX6_bestPlaces 53 = .ok (.goto (-49), 3) := by decide +kernel
theorem dX6_bestPlaces_56 : decode cX6_bestPlaces 56 = .ok (.iload_n 2, 1) := by decide +kernel
theorem dX6_bestPlaces_57 : decode cX6_bestPlaces 57 = .ok (.ireturn, 1) := by decide +kernel
theorem dX6_valueAbove_0 : decode cX6_valueAbove 0 = .ok (.iload_n 2, 1) := by decide +kernel
theorem dX6_valueAbove_1 : decode cX6_valueAbove 1 = .ok (.invokestatic 308, 3) := by decide +kernel
theorem dX6_valueAbove_4 : decode cX6_valueAbove 4 = .ok (.iconst 1, 1) := by decide +kernel
theorem dX6_valueAbove_5 : decode cX6_valueAbove 5 = .ok (.isub, 1) := by decide +kernel
theorem dX6_valueAbove_6 : decode cX6_valueAbove 6 = .ok (.i2l, 1) := by decide +kernel
theorem dX6_valueAbove_7 : decode cX6_valueAbove 7 = .ok (.lstore_n 3, 1) := by decide +kernel
theorem dX6_valueAbove_8 : decode cX6_valueAbove 8 = .ok (.iconst 0, 1) := by decide +kernel
theorem dX6_valueAbove_9 : decode cX6_valueAbove 9 = .ok (.istore 5, 2) := by decide +kernel
theorem dX6_valueAbove_11 : decode cX6_valueAbove 11 = .ok (.iload 5, 2) := by decide +kernel
theorem dX6_valueAbove_13 : decode cX6_valueAbove 13 = .ok (.iconst 5, 1) := by decide +kernel
theorem dX6_valueAbove_14 : decode cX6_valueAbove 14 = .ok (.if_icmp .ge 31, 3) := by decide +kernel
theorem dX6_valueAbove_17 : decode cX6_valueAbove 17 = .ok (.iload_n 2, 1) := by decide +kernel
theorem dX6_valueAbove_18 : decode cX6_valueAbove 18 = .ok (.iload 5, 2) := by decide +kernel
theorem dX6_valueAbove_20 : decode cX6_valueAbove 20 = .ok (.iushr, 1) := by decide +kernel
theorem dX6_valueAbove_21 : decode cX6_valueAbove 21 = .ok (.iconst 1, 1) := by decide +kernel
theorem dX6_valueAbove_22 : decode cX6_valueAbove 22 = .ok (.iand, 1) := by decide +kernel
theorem dX6_valueAbove_23 : decode cX6_valueAbove 23 = .ok (.ifCond .eq 16, 3) := by decide +kernel
theorem dX6_valueAbove_26 : decode cX6_valueAbove 26 = .ok (.lload_n 3, 1) := by decide +kernel
theorem dX6_valueAbove_27 : decode cX6_valueAbove 27 = .ok (.aload_n 0, 1) := by decide +kernel
theorem dX6_valueAbove_28 : decode cX6_valueAbove 28 = .ok (.getfield 103, 3) := by decide +kernel
theorem dX6_valueAbove_31 : decode cX6_valueAbove 31 = .ok (.iload_n 1, 1) := by decide +kernel
theorem dX6_valueAbove_32 : decode cX6_valueAbove 32 = .ok (.iload 5, 2) := by decide +kernel
theorem dX6_valueAbove_34 : decode cX6_valueAbove 34 = .ok (.iadd, 1) := by decide +kernel
theorem dX6_valueAbove_35 : decode cX6_valueAbove 35 = .ok (.iaload, 1) := by decide +kernel
theorem dX6_valueAbove_36 : decode cX6_valueAbove 36 = .ok (.i2l, 1) := by decide +kernel
theorem dX6_valueAbove_37 : decode cX6_valueAbove 37 = .ok (.lmul, 1) := by decide +kernel
theorem dX6_valueAbove_38 : decode cX6_valueAbove 38 = .ok (.lstore_n 3, 1) := by decide +kernel
theorem dX6_valueAbove_39 : decode cX6_valueAbove 39 = .ok (.iinc 5 1, 3) := by decide +kernel
theorem dX6_valueAbove_42 : decode cX6_valueAbove 42 = .ok (.goto (-31), 3) := by decide +kernel
theorem dX6_valueAbove_45 : decode cX6_valueAbove 45 = .ok (.lload_n 3, 1) := by decide +kernel
theorem dX6_valueAbove_46 : decode cX6_valueAbove 46 = .ok (.lreturn, 1) := by decide +kernel
theorem dX6_valueBelow_0 : decode cX6_valueBelow 0 = .ok (.lconst 1, 1) := by decide +kernel
theorem dX6_valueBelow_1 : decode cX6_valueBelow 1 = .ok (.lstore_n 3, 1) := by decide +kernel
theorem dX6_valueBelow_2 : decode cX6_valueBelow 2 = .ok (.lconst 0, 1) := by decide +kernel
theorem dX6_valueBelow_3 : decode cX6_valueBelow 3 = .ok (.lstore 5, 2) := by decide +kernel
theorem dX6_valueBelow_5 : decode cX6_valueBelow 5 = .ok (.iconst 0, 1) := by decide +kernel
theorem dX6_valueBelow_6 : decode cX6_valueBelow 6 = .ok (.istore 7, 2) := by decide +kernel
theorem dX6_valueBelow_8 : decode cX6_valueBelow 8 = .ok (.iload 7, 2) := by decide +kernel
theorem dX6_valueBelow_10 : decode cX6_valueBelow 10 = .ok (.iconst 5, 1) := by decide +kernel
theorem dX6_valueBelow_11 : decode cX6_valueBelow 11 = .ok (.if_icmp .ge 48, 3) := by decide +kernel
theorem dX6_valueBelow_14 : decode cX6_valueBelow 14 = .ok (.iload_n 2, 1) := by decide +kernel
theorem dX6_valueBelow_15 : decode cX6_valueBelow 15 = .ok (.iload 7, 2) := by decide +kernel
theorem dX6_valueBelow_17 : decode cX6_valueBelow 17 = .ok (.iushr, 1) := by decide +kernel
theorem dX6_valueBelow_18 : decode cX6_valueBelow 18 = .ok (.iconst 1, 1) := by decide +kernel
theorem dX6_valueBelow_19 : decode cX6_valueBelow 19 = .ok (.iand, 1) := by decide +kernel
theorem dX6_valueBelow_20 : decode cX6_valueBelow 20 = .ok (.ifCond .eq 33, 3) := by decide +kernel
theorem dX6_valueBelow_23 : decode cX6_valueBelow 23 = .ok (.lload 5, 2) := by decide +kernel
theorem dX6_valueBelow_25 : decode cX6_valueBelow 25 = .ok (.aload_n 0, 1) := by decide +kernel
theorem dX6_valueBelow_26 : decode cX6_valueBelow 26 = .ok (.getfield 103, 3) := by decide +kernel
theorem dX6_valueBelow_29 : decode cX6_valueBelow 29 = .ok (.iload_n 1, 1) := by decide +kernel
theorem dX6_valueBelow_30 : decode cX6_valueBelow 30 = .ok (.iload 7, 2) := by decide +kernel
theorem dX6_valueBelow_32 : decode cX6_valueBelow 32 = .ok (.iadd, 1) := by decide +kernel
theorem dX6_valueBelow_33 : decode cX6_valueBelow 33 = .ok (.iaload, 1) := by decide +kernel
theorem dX6_valueBelow_34 : decode cX6_valueBelow 34 = .ok (.i2l, 1) := by decide +kernel
theorem dX6_valueBelow_35 : decode cX6_valueBelow 35 = .ok (.lmul, 1) := by decide +kernel
theorem dX6_valueBelow_36 : decode cX6_valueBelow 36 = .ok (.lload_n 3, 1) := by decide +kernel
theorem dX6_valueBelow_37 : decode cX6_valueBelow 37 = .ok (.ladd, 1) := by decide +kernel
theorem dX6_valueBelow_38 : decode cX6_valueBelow 38 = .ok (.lstore 5, 2) := by decide +kernel
theorem dX6_valueBelow_40 : decode cX6_valueBelow 40 = .ok (.lload_n 3, 1) := by decide +kernel
theorem dX6_valueBelow_41 : decode cX6_valueBelow 41 = .ok (.aload_n 0, 1) := by decide +kernel
theorem dX6_valueBelow_42 : decode cX6_valueBelow 42 = .ok (.getfield 103, 3) := by decide +kernel
theorem dX6_valueBelow_45 : decode cX6_valueBelow 45 = .ok (.iload_n 1, 1) := by decide +kernel
theorem dX6_valueBelow_46 : decode cX6_valueBelow 46 = .ok (.iload 7, 2) := by decide +kernel
theorem dX6_valueBelow_48 : decode cX6_valueBelow 48 = .ok (.iadd, 1) := by decide +kernel
theorem dX6_valueBelow_49 : decode cX6_valueBelow 49 = .ok (.iaload, 1) := by decide +kernel
theorem dX6_valueBelow_50 : decode cX6_valueBelow 50 = .ok (.i2l, 1) := by decide +kernel
theorem dX6_valueBelow_51 : decode cX6_valueBelow 51 = .ok (.lmul, 1) := by decide +kernel
theorem dX6_valueBelow_52 : decode cX6_valueBelow 52 = .ok (.lstore_n 3, 1) := by decide +kernel
theorem dX6_valueBelow_53 : decode cX6_valueBelow 53 = .ok (.iinc 7 1, 3) := by decide +kernel
theorem dX6_valueBelow_56 : decode cX6_valueBelow 56 = .ok (.goto (-48), 3) := by decide +kernel
theorem dX6_valueBelow_59 : decode cX6_valueBelow 59 = .ok (.lload 5, 2) := by decide +kernel
theorem dX6_valueBelow_61 : decode cX6_valueBelow 61 = .ok (.lreturn, 1) := by decide +kernel
theorem dX6_lowest_0 : decode cX6_lowest 0 = .ok (.lload_n 0, 1) := by decide +kernel
theorem dX6_lowest_1 : decode cX6_lowest 1 = .ok (.lstore 5, 2) := by decide +kernel
theorem dX6_lowest_3 : decode cX6_lowest 3 = .ok (.lload_n 2, 1) := by decide +kernel
theorem dX6_lowest_4 : decode cX6_lowest 4 = .ok (.lstore 7, 2) := by decide +kernel
theorem dX6_lowest_6 : decode cX6_lowest 6 = .ok (.iconst 0, 1) := by decide +kernel
theorem dX6_lowest_7 : decode cX6_lowest 7 = .ok (.istore 9, 2) := by decide +kernel
theorem dX6_lowest_9 : decode cX6_lowest 9 = .ok (.iload 9, 2) := by decide +kernel
theorem dX6_lowest_11 : decode cX6_lowest 11 = .ok (.bipush 100, 2) := by decide +kernel
theorem dX6_lowest_13 : decode cX6_lowest 13 = .ok (.if_icmp .ge 31, 3) := by decide +kernel
theorem dX6_lowest_16 : decode cX6_lowest 16 = .ok (.lload 7, 2) := by decide +kernel
theorem dX6_lowest_18 : decode cX6_lowest 18 = .ok (.lconst 0, 1) := by decide +kernel
theorem dX6_lowest_19 : decode cX6_lowest 19 = .ok (.lcmp, 1) := by decide +kernel
theorem dX6_lowest_20 : decode cX6_lowest 20 = .ok (.ifCond .eq 24, 3) := by decide +kernel
theorem dX6_lowest_23 : decode cX6_lowest 23 = .ok (.lload 5, 2) := by decide +kernel
theorem dX6_lowest_25 : decode cX6_lowest 25 = .ok (.lload 7, 2) := by decide +kernel
theorem dX6_lowest_27 : decode cX6_lowest 27 = .ok (.lrem, 1) := by decide +kernel
theorem dX6_lowest_28 : decode cX6_lowest 28 = .ok (.lstore 10, 2) := by decide +kernel
theorem dX6_lowest_30 : decode cX6_lowest 30 = .ok (.lload 7, 2) := by decide +kernel
theorem dX6_lowest_32 : decode cX6_lowest 32 = .ok (.lstore 5, 2) := by decide +kernel
theorem dX6_lowest_34 : decode cX6_lowest 34 = .ok (.lload 10, 2) := by decide +kernel
theorem dX6_lowest_36 : decode cX6_lowest 36 = .ok (.lstore 7, 2) := by decide +kernel
theorem dX6_lowest_38 : decode cX6_lowest 38 = .ok (.iinc 9 1, 3) := by decide +kernel
theorem dX6_lowest_41 : decode cX6_lowest 41 = .ok (.goto (-32), 3) := by decide +kernel
theorem dX6_lowest_44 : decode cX6_lowest 44 = .ok (.iload 4, 2) := by decide +kernel
theorem dX6_lowest_46 : decode cX6_lowest 46 = .ok (.ifCond .ne 7, 3) := by decide +kernel
theorem dX6_lowest_49 : decode cX6_lowest 49 = .ok (.lload_n 0, 1) := by decide +kernel
theorem dX6_lowest_50 : decode cX6_lowest 50 = .ok (.goto 4, 3) := by decide +kernel
theorem dX6_lowest_53 : decode cX6_lowest 53 = .ok (.lload_n 2, 1) := by decide +kernel
theorem dX6_lowest_54 : decode cX6_lowest 54 = .ok (.lstore 9, 2) := by decide +kernel
theorem dX6_lowest_56 : decode cX6_lowest 56 = .ok (.lload 5, 2) := by decide +kernel
theorem dX6_lowest_58 : decode cX6_lowest 58 = .ok (.lconst 0, 1) := by decide +kernel
theorem dX6_lowest_59 : decode cX6_lowest 59 = .ok (.lcmp, 1) := by decide +kernel
theorem dX6_lowest_60 : decode cX6_lowest 60 = .ok (.ifCond .ne 8, 3) := by decide +kernel
theorem dX6_lowest_63 : decode cX6_lowest 63 = .ok (.lload 9, 2) := by decide +kernel
theorem dX6_lowest_65 : decode cX6_lowest 65 = .ok (.goto 8, 3) := by decide +kernel
theorem dX6_lowest_68 : decode cX6_lowest 68 = .ok (.lload 9, 2) := by decide +kernel
theorem dX6_lowest_70 : decode cX6_lowest 70 = .ok (.lload 5, 2) := by decide +kernel
theorem dX6_lowest_72 : decode cX6_lowest 72 = .ok (.ldiv, 1) := by decide +kernel
theorem dX6_lowest_73 : decode cX6_lowest 73 = .ok (.lreturn, 1) := by decide +kernel
theorem dX7_init_0 : decode cX7_init 0 = .ok (.aload_n 0, 1) := by decide +kernel
theorem dX7_init_1 : decode cX7_init 1 = .ok (.invokespecial 1, 3) := by decide +kernel
theorem dX7_init_4 : decode cX7_init 4 = .ok (.aload_n 0, 1) := by decide +kernel
theorem dX7_init_5 : decode cX7_init 5 = .ok (.bipush 8, 2) := by decide +kernel
theorem dX7_init_7 : decode cX7_init 7 = .ok (.newarray .int, 2) := by decide +kernel
theorem dX7_init_9 : decode cX7_init 9 = .ok (.putfield 7, 3) := by decide +kernel
theorem dX7_init_12 : decode cX7_init 12 = .ok (.aload_n 0, 1) := by decide +kernel
theorem dX7_init_13 : decode cX7_init 13 = .ok (.bipush 8, 2) := by decide +kernel
theorem dX7_init_15 : decode cX7_init 15 = .ok (.newarray .int, 2) := by decide +kernel
theorem dX7_init_17 : decode cX7_init 17 = .ok (.putfield 13, 3) := by decide +kernel
theorem dX7_init_20 : decode cX7_init 20 = .ok (.aload_n 0, 1) := by decide +kernel
theorem dX7_init_21 : decode cX7_init 21 = .ok (.sipush 320, 3) := by decide +kernel
theorem dX7_init_24 : decode cX7_init 24 = .ok (.newarray .int, 2) := by decide +kernel
theorem dX7_init_26 : decode cX7_init 26 = .ok (.putfield 16, 3) := by decide +kernel
theorem dX7_init_29 : decode cX7_init 29 = .ok (.aload_n 0, 1) := by decide +kernel
theorem dX7_init_30 : decode cX7_init 30 = .ok (.bipush 82, 2) := by decide +kernel
theorem dX7_init_32 : decode cX7_init 32 = .ok (.newarray .int, 2) := by decide +kernel
theorem dX7_init_34 : decode cX7_init 34 = .ok (.putfield 19, 3) := by decide +kernel
theorem dX7_init_37 : decode cX7_init 37 = .ok (.aload_n 0, 1) := by decide +kernel
theorem dX7_init_38 : decode cX7_init 38 = .ok (.bipush 40, 2) := by decide +kernel
theorem dX7_init_40 : decode cX7_init 40 = .ok (.newarray .int, 2) := by decide +kernel
theorem dX7_init_42 : decode cX7_init 42 = .ok (.putfield 22, 3) := by decide +kernel
theorem dX7_init_45 : decode cX7_init 45 = .ok (.aload_n 0, 1) := by decide +kernel
theorem dX7_init_46 : decode cX7_init 46 = .ok (.bipush 120, 2) := by decide +kernel
theorem dX7_init_48 : decode cX7_init 48 = .ok (.newarray .int, 2) := by decide +kernel
theorem dX7_init_50 : decode cX7_init 50 = .ok (.putfield 25, 3) := by decide +kernel
theorem dX7_init_53 : decode cX7_init 53 = .ok (.aload_n 0, 1) := by decide +kernel
theorem dX7_init_54 : decode cX7_init 54 = .ok (.bipush 82, 2) := by decide +kernel
theorem dX7_init_56 : decode cX7_init 56 = .ok (.newarray .int, 2) := by decide +kernel
theorem dX7_init_58 : decode cX7_init 58 = .ok (.putfield 28, 3) := by decide +kernel
theorem dX7_init_61 : decode cX7_init 61 = .ok (.aload_n 0, 1) := by decide +kernel
theorem dX7_init_62 : decode cX7_init 62 = .ok (.sipush 1968, 3) := by decide +kernel
theorem dX7_init_65 : decode cX7_init 65 = .ok (.newarray .int, 2) := by decide +kernel
theorem dX7_init_67 : decode cX7_init 67 = .ok (.putfield 31, 3) := by decide +kernel
theorem dX7_init_70 : decode cX7_init 70 = .ok (.aload_n 0, 1) := by decide +kernel
theorem dX7_init_71 : decode cX7_init 71 = .ok (.bipush 82, 2) := by decide +kernel
theorem dX7_init_73 : decode cX7_init 73 = .ok (.newarray .int, 2) := by decide +kernel
theorem dX7_init_75 : decode cX7_init 75 = .ok (.putfield 34, 3) := by decide +kernel
theorem dX7_init_78 : decode cX7_init 78 = .ok (.aload_n 0, 1) := by decide +kernel
theorem dX7_init_79 : decode cX7_init 79 = .ok (.bipush 32, 2) := by decide +kernel
theorem dX7_init_81 : decode cX7_init 81 = .ok (.newarray .boolean, 2) := by decide +kernel
theorem dX7_init_83 : decode cX7_init 83 = .ok (.putfield 37, 3) := by decide +kernel
theorem dX7_init_86 : decode cX7_init 86 = .ok (.aload_n 0, 1) := by decide +kernel
theorem dX7_init_87 : decode cX7_init 87 = .ok (.bipush 32, 2) := by decide +kernel
theorem dX7_init_89 : decode cX7_init 89 = .ok (.newarray .boolean, 2) := by decide +kernel
theorem dX7_init_91 : decode cX7_init 91 = .ok (.putfield 41, 3) := by decide +kernel
theorem dX7_init_94 : decode cX7_init 94 = .ok (.aload_n 0, 1) := by decide +kernel
theorem dX7_init_95 : decode cX7_init 95 = .ok (.iconst 2, 1) := by decide +kernel
theorem dX7_init_96 : decode cX7_init 96 = .ok (.newarray .boolean, 2) := by decide +kernel
theorem dX7_init_98 : decode cX7_init 98 = .ok (.putfield 44, 3) := by decide +kernel
theorem dX7_init_101 : decode cX7_init 101 = .ok (.aload_n 0, 1) := by decide +kernel
theorem dX7_init_102 : decode cX7_init 102 = .ok (.sipush 164, 3) := by decide +kernel
theorem dX7_init_105 : decode cX7_init 105 = .ok (.newarray .int, 2) := by decide +kernel
theorem dX7_init_107 : decode cX7_init 107 = .ok (.putfield 47, 3) := by decide +kernel
theorem dX7_init_110 : decode cX7_init 110 = .ok (.aload_n 0, 1) := by decide +kernel
theorem dX7_init_111 : decode cX7_init 111 = .ok (.bipush 16, 2) := by decide +kernel
theorem dX7_init_113 : decode cX7_init 113 = .ok (.newarray .int, 2) := by decide +kernel
theorem dX7_init_115 : decode cX7_init 115 = .ok (.putfield 50, 3) := by decide +kernel
theorem dX7_init_118 : decode cX7_init 118 = .ok (.iconst 0, 1) := by decide +kernel
theorem dX7_init_119 : decode cX7_init 119 = .ok (.istore_n 1, 1) := by decide +kernel
theorem dX7_init_120 : decode cX7_init 120 = .ok (.iload_n 1, 1) := by decide +kernel
theorem dX7_init_121 : decode cX7_init 121 = .ok (.bipush 8, 2) := by decide +kernel
theorem dX7_init_123 : decode cX7_init 123 = .ok (.if_icmp .ge 16, 3) := by decide +kernel
theorem dX7_init_126 : decode cX7_init 126 = .ok (.aload_n 0, 1) := by decide +kernel
theorem dX7_init_127 : decode cX7_init 127 = .ok (.getfield 13, 3) := by decide +kernel
theorem dX7_init_130 : decode cX7_init 130 = .ok (.iload_n 1, 1) := by decide +kernel
theorem dX7_init_131 : decode cX7_init 131 = .ok (.iconst (-1), 1) := by decide +kernel
theorem dX7_init_132 : decode cX7_init 132 = .ok (.iastore, 1) := by decide +kernel
theorem dX7_init_133 : decode cX7_init 133 = .ok (.iinc 1 1, 3) := by decide +kernel
theorem dX7_init_136 : decode cX7_init 136 = .ok (.goto (-16), 3) := by decide +kernel
theorem dX7_init_139 : decode cX7_init 139 = .ok (.return_, 1) := by decide +kernel
theorem dX7_in_0 : decode cX7_in 0 = .ok (.lload_n 0, 1) := by decide +kernel
theorem dX7_in_1 : decode cX7_in 1 = .ok (.lload_n 2, 1) := by decide +kernel
theorem dX7_in_2 : decode cX7_in 2 = .ok (.lcmp, 1) := by decide +kernel
theorem dX7_in_3 : decode cX7_in 3 = .ok (.ifCond .lt 14, 3) := by decide +kernel
theorem dX7_in_6 : decode cX7_in 6 = .ok (.lload_n 0, 1) := by decide +kernel
theorem dX7_in_7 : decode cX7_in 7 = .ok (.lload 4, 2) := by decide +kernel
theorem dX7_in_9 : decode cX7_in 9 = .ok (.lcmp, 1) := by decide +kernel
theorem dX7_in_10 : decode cX7_in 10 = .ok (.ifCond .gt 7, 3) := by decide +kernel
theorem dX7_in_13 : decode cX7_in 13 = .ok (.iconst 1, 1) := by decide +kernel
theorem dX7_in_14 : decode cX7_in 14 = .ok (.goto 4, 3) := by decide +kernel
theorem dX7_in_17 : decode cX7_in 17 = .ok (.iconst 0, 1) := by decide +kernel
theorem dX7_in_18 : decode cX7_in 18 = .ok (.ireturn, 1) := by decide +kernel
theorem dX7_find_0 : decode cX7_find 0 = .ok (.aload_n 0, 1) := by decide +kernel
theorem dX7_find_1 : decode cX7_find 1 = .ok (.iload_n 1, 1) := by decide +kernel
theorem dX7_find_2 : decode cX7_find 2 = .ok (.putfield 53, 3) := by decide +kernel
theorem dX7_find_5 : decode cX7_find 5 = .ok (.ldc 57, 2) := by decide +kernel
theorem dX7_find_7 : decode cX7_find 7 = .ok (.iload_n 1, 1) := by decide +kernel
theorem dX7_find_8 : decode cX7_find 8 = .ok (.isub, 1) := by decide +kernel
theorem dX7_find_9 : decode cX7_find 9 = .ok (.ireturn, 1) := by decide +kernel
theorem dX7_well_0 : decode cX7_well 0 = .ok (.aload_n 0, 1) := by decide +kernel
theorem dX7_well_1 : decode cX7_well 1 = .ok (.iconst 0, 1) := by decide +kernel
theorem dX7_well_2 : decode cX7_well 2 = .ok (.putfield 53, 3) := by decide +kernel
theorem dX7_well_5 : decode cX7_well 5 = .ok (.iload_n 1, 1) := by decide +kernel
theorem dX7_well_6 : decode cX7_well 6 = .ok (.ireturn, 1) := by decide +kernel
theorem dX7_isRow_0 : decode cX7_isRow 0 = .ok (.iload_n 0, 1) := by decide +kernel
theorem dX7_isRow_1 : decode cX7_isRow 1 = .ok (.i2l, 1) := by decide +kernel
theorem dX7_isRow_2 : decode cX7_isRow 2 = .ok (.lconst 0, 1) := by decide +kernel
theorem dX7_isRow_3 : decode cX7_isRow 3 = .ok (.ldc2_w 58, 3) := by decide +kernel
theorem dX7_isRow_6 : decode cX7_isRow 6 = .ok (.invokestatic 60, 3) := by decide +kernel
theorem dX7_isRow_9 : decode cX7_isRow 9 = .ok (.ireturn, 1) := by decide +kernel
theorem dX7_row_0 : decode cX7_row 0 = .ok (.iload_n 1, 1) := by decide +kernel
theorem dX7_row_1 : decode cX7_row 1 = .ok (.invokestatic 64, 3) := by decide +kernel
theorem dX7_row_4 : decode cX7_row 4 = .ok (.ifCond .eq 21, 3) := by decide +kernel
theorem dX7_row_7 : decode cX7_row 7 = .ok (.iload_n 2, 1) := by decide +kernel
theorem dX7_row_8 : decode cX7_row 8 = .ok (.i2l, 1) := by decide +kernel
theorem dX7_row_9 : decode cX7_row 9 = .ok (.lconst 0, 1) := by decide +kernel
theorem dX7_row_10 : decode cX7_row 10 = .ok (.ldc2_w 68, 3) := by decide +kernel
theorem dX7_row_13 : decode cX7_row 13 = .ok (.invokestatic 60, 3) := by decide +kernel
theorem dX7_row_16 : decode cX7_row 16 = .ok (.ifCond .eq 9, 3) := by decide +kernel
theorem dX7_row_19 : decode cX7_row 19 = .ok (.iload_n 3, 1) := by decide +kernel
theorem dX7_row_20 : decode cX7_row 20 = .ok (.bipush 40, 2) := by decide +kernel
theorem dX7_row_22 : decode cX7_row 22 = .ok (.if_icmp .le 6, 3) := by decide +kernel
theorem dX7_row_25 : decode cX7_row 25 = .ok (.ldc 70, 2) := by decide +kernel
theorem dX7_row_27 : decode cX7_row 27 = .ok (.ireturn, 1) := by decide +kernel
theorem dX7_row_28 : decode cX7_row 28 = .ok (.iload_n 3, 1) := by decide +kernel
theorem dX7_row_29 : decode cX7_row 29 = .ok (.ifCond .ge 9, 3) := by decide +kernel
theorem dX7_row_32 : decode cX7_row 32 = .ok (.aload_n 0, 1) := by decide +kernel
theorem dX7_row_33 : decode cX7_row 33 = .ok (.iconst 4, 1) := by decide +kernel
theorem dX7_row_34 : decode cX7_row 34 = .ok (.invokevirtual 71, 3) := by decide +kernel
theorem dX7_row_37 : decode cX7_row 37 = .ok (.ireturn, 1) := by decide +kernel
theorem dX7_row_38 : decode cX7_row 38 = .ok (.aload_n 0, 1) := by decide +kernel
theorem dX7_row_39 : decode cX7_row 39 = .ok (.getfield 7, 3) := by decide +kernel
theorem dX7_row_42 : decode cX7_row 42 = .ok (.iload_n 1, 1) := by decide +kernel
theorem dX7_row_43 : decode cX7_row 43 = .ok (.iload_n 2, 1) := by decide +kernel
theorem dX7_row_44 : decode cX7_row 44 = .ok (.iastore, 1) := by decide +kernel
theorem dX7_row_45 : decode cX7_row 45 = .ok (.aload_n 0, 1) := by decide +kernel
theorem dX7_row_46 : decode cX7_row 46 = .ok (.getfield 13, 3) := by decide +kernel
theorem dX7_row_49 : decode cX7_row 49 = .ok (.iload_n 1, 1) := by decide +kernel
theorem dX7_row_50 : decode cX7_row 50 = .ok (.iload_n 3, 1) := by decide +kernel
theorem dX7_row_51 : decode cX7_row 51 = .ok (.iastore, 1) := by decide +kernel
theorem dX7_row_52 : decode cX7_row 52 = .ok (.iconst 0, 1) := by decide +kernel
theorem dX7_row_53 : decode cX7_row 53 = .ok (.istore 4, 2) := by decide +kernel
theorem dX7_row_55 : decode cX7_row 55 = .ok (.iload 4, 2) := by decide +kernel
theorem dX7_row_57 : decode cX7_row 57 = .ok (.bipush 40, 2) := by decide +kernel
theorem dX7_row_59 : decode cX7_row 59 = .ok (.if_icmp .ge 22, 3) := by decide +kernel
theorem dX7_row_62 : decode cX7_row 62 = .ok (.aload_n 0, 1) := by decide +kernel
theorem dX7_row_63 : decode cX7_row 63 = .ok (.getfield 16, 3) := by decide +kernel
theorem dX7_row_66 : decode cX7_row 66 = .ok (.bipush 40, 2) := by decide +kernel
theorem dX7_row_68 : decode cX7_row 68 = .ok (.iload_n 1, 1) := by decide +kernel
theorem dX7_row_69 : decode cX7_row 69 = .ok (.imul, 1) := by decide +kernel
theorem dX7_row_70 : decode cX7_row 70 = .ok (.iload 4, 2) := by decide +kernel
theorem dX7_row_72 : decode cX7_row 72 = .ok (.iadd, 1) := by decide +kernel
theorem dX7_row_73 : decode cX7_row 73 = .ok (.iconst 0, 1) := by decide +kernel
theorem dX7_row_74 : decode cX7_row 74 = .ok (.iastore, 1) := by decide +kernel
theorem dX7_row_75 : decode cX7_row 75 = .ok (.iinc 4 1, 3) := by decide +kernel
theorem dX7_row_78 : decode cX7_row 78 = .ok (.goto (-23), 3) := by decide +kernel
theorem dX7_row_81 : decode cX7_row 81 = .ok (.aload_n 0, 1) := by decide +kernel
theorem dX7_row_82 : decode cX7_row 82 = .ok (.iload_n 3, 1) := by decide +kernel
theorem dX7_row_83 : decode cX7_row 83 = .ok (.invokevirtual 75, 3) := by decide +kernel
theorem dX7_row_86 : decode cX7_row 86 = .ok (.ireturn, 1) := by decide +kernel
theorem dX7_asLane_0 : decode cX7_asLane 0 = .ok (.iload_n 0, 1) := by decide +kernel
theorem dX7_asLane_1 : decode cX7_asLane 1 = .ok (.ifCond .ne 13, 3) := by decide +kernel
theorem dX7_asLane_4 : decode cX7_asLane 4 = .ok (.iload_n 1, 1) := by decide +kernel
theorem dX7_asLane_5 : decode cX7_asLane 5 = .ok (.bipush 24, 2) := by decide +kernel
theorem dX7_asLane_7 : decode cX7_asLane 7 = .ok (.ishl, 1) := by decide +kernel
theorem dX7_asLane_8 : decode cX7_asLane 8 = .ok (.bipush 24, 2) := by decide +kernel
theorem dX7_asLane_10 : decode cX7_asLane 10 = .ok (.ishr, 1) := by decide +kernel
theorem dX7_asLane_11 : decode cX7_asLane 11 = .ok (.goto 19, 3) := by decide +kernel
theorem dX7_asLane_14 : decode cX7_asLane 14 = .ok (.iload_n 0, 1) := by decide +kernel
theorem dX7_asLane_15 : decode cX7_asLane 15 = .ok (.iconst 1, 1) := by decide +kernel
theorem dX7_asLane_16 : decode cX7_asLane 16 = .ok (.if_icmp .ne 13, 3) := by decide +kernel
theorem dX7_asLane_19 : decode cX7_asLane 19 = .ok (.iload_n 1, 1) := by decide +kernel
theorem dX7_asLane_20 : decode cX7_asLane 20 = .ok (.bipush 16, 2) := by decide +kernel
theorem dX7_asLane_22 : decode cX7_asLane 22 = .ok (.ishl, 1) := by decide +kernel
theorem dX7_asLane_23 : decode cX7_asLane 23 = .ok (.bipush 16, 2) := by decide +kernel
theorem dX7_asLane_25 : decode cX7_asLane 25 = .ok (.ishr, 1) := by decide +kernel
theorem dX7_asLane_26 : decode cX7_asLane 26 = .ok (.goto 4, 3) := by decide +kernel
theorem dX7_asLane_29 : decode cX7_asLane 29 = .ok (.iload_n 1, 1) := by decide +kernel
theorem dX7_asLane_30 : decode cX7_asLane 30 = .ok (.ireturn, 1) := by decide +kernel
theorem dX7_set_0 : decode cX7_set 0 = .ok (.iload_n 1, 1) := by decide +kernel
theorem dX7_set_1 : decode cX7_set 1 = .ok (.invokestatic 64, 3) := by decide +kernel
theorem dX7_set_4 : decode cX7_set 4 = .ok (.ifCond .ne 6, 3) := by decide +kernel
theorem dX7_set_7 : decode cX7_set 7 = .ok (.ldc 70, 2) := by decide +kernel
theorem dX7_set_9 : decode cX7_set 9 = .ok (.ireturn, 1) := by decide +kernel
theorem dX7_set_10 : decode cX7_set 10 = .ok (.aload_n 0, 1) := by decide +kernel
theorem dX7_set_11 : decode cX7_set 11 = .ok (.getfield 13, 3) := by decide +kernel
theorem dX7_set_14 : decode cX7_set 14 = .ok (.iload_n 1, 1) := by decide +kernel
theorem dX7_set_15 : decode cX7_set 15 = .ok (.iaload, 1) := by decide +kernel
theorem dX7_set_16 : decode cX7_set 16 = .ok (.ifCond .ge 9, 3) := by decide +kernel
theorem dX7_set_19 : decode cX7_set 19 = .ok (.aload_n 0, 1) := by decide +kernel
theorem dX7_set_20 : decode cX7_set 20 = .ok (.iconst 1, 1) := by decide +kernel
theorem dX7_set_21 : decode cX7_set 21 = .ok (.invokevirtual 71, 3) := by decide +kernel
theorem dX7_set_24 : decode cX7_set 24 = .ok (.ireturn, 1) := by decide +kernel
theorem dX7_set_25 : decode cX7_set 25 = .ok (.iload_n 2, 1) := by decide +kernel
theorem dX7_set_26 : decode cX7_set 26 = .ok (.i2l, 1) := by decide +kernel
theorem dX7_set_27 : decode cX7_set 27 = .ok (.lconst 0, 1) := by decide +kernel
theorem dX7_set_28 : decode cX7_set 28 = .ok (.aload_n 0, 1) := by decide +kernel
theorem dX7_set_29 : decode cX7_set 29 = .ok (.getfield 13, 3) := by decide +kernel
theorem dX7_set_32 : decode cX7_set 32 = .ok (.iload_n 1, 1) := by decide +kernel
theorem dX7_set_33 : decode cX7_set 33 = .ok (.iaload, 1) := by decide +kernel
theorem dX7_set_34 : decode cX7_set 34 = .ok (.iconst 1, 1) := by decide +kernel
theorem dX7_set_35 : decode cX7_set 35 = .ok (.isub, 1) := by decide +kernel
theorem dX7_set_36 : decode cX7_set 36 = .ok (.i2l, 1) := by decide +kernel
theorem dX7_set_37 : decode cX7_set 37 = .ok (.invokestatic 60, 3) := by decide +kernel
theorem dX7_set_40 : decode cX7_set 40 = .ok (.ifCond .ne 9, 3) := by decide +kernel
theorem dX7_set_43 : decode cX7_set 43 = .ok (.aload_n 0, 1) := by decide +kernel
theorem dX7_set_44 : decode cX7_set 44 = .ok (.iconst 2, 1) := by decide +kernel
theorem dX7_set_45 : decode cX7_set 45 = .ok (.invokevirtual 71, 3) := by decide +kernel
theorem dX7_set_48 : decode cX7_set 48 = .ok (.ireturn, 1) := by decide +kernel
theorem dX7_set_49 : decode cX7_set 49 = .ok (.aload_n 0, 1) := by decide +kernel
theorem dX7_set_50 : decode cX7_set 50 = .ok (.getfield 16, 3) := by decide +kernel
theorem dX7_set_53 : decode cX7_set 53 = .ok (.bipush 40, 2) := by decide +kernel
theorem dX7_set_55 : decode cX7_set 55 = .ok (.iload_n 1, 1) := by decide +kernel
theorem dX7_set_56 : decode cX7_set 56 = .ok (.imul, 1) := by decide +kernel
theorem dX7_set_57 : decode cX7_set 57 = .ok (.iload_n 2, 1) := by decide +kernel
theorem dX7_set_58 : decode cX7_set 58 = .ok (.iadd, 1) := by decide +kernel
theorem dX7_set_59 : decode cX7_set 59 = .ok (.aload_n 0, 1) := by decide +kernel
theorem dX7_set_60 : decode cX7_set 60 = .ok (.getfield 7, 3) := by decide +kernel
theorem dX7_set_63 : decode cX7_set 63 = .ok (.iload_n 1, 1) := by decide +kernel
theorem dX7_set_64 : decode cX7_set 64 = .ok (.iaload, 1) := by decide +kernel
theorem dX7_set_65 : decode cX7_set 65 = .ok (.iload_n 3, 1) := by decide +kernel
theorem dX7_set_66 : decode cX7_set 66 = .ok (.invokestatic 78, 3) := by decide +kernel
theorem dX7_set_69 : decode cX7_set 69 = .ok (.iastore, 1) := by decide +kernel
theorem dX7_set_70 : decode cX7_set 70 = .ok (.aload_n 0, 1) := by decide +kernel
theorem dX7_set_71 : decode cX7_set 71 = .ok (.aload_n 0, 1) := by decide +kernel
theorem dX7_set_72 : decode cX7_set 72 = .ok (.getfield 16, 3) := by decide +kernel
theorem dX7_set_75 : decode cX7_set 75 = .ok (.bipush 40, 2) := by decide +kernel
theorem dX7_set_77 : decode cX7_set 77 = .ok (.iload_n 1, 1) := by decide +kernel
theorem dX7_set_78 : decode cX7_set 78 = .ok (.imul, 1) := by decide +kernel
theorem dX7_set_79 : decode cX7_set 79 = .ok (.iload_n 2, 1) := by decide +kernel
theorem dX7_set_80 : decode cX7_set 80 = .ok (.iadd, 1) := by decide +kernel
theorem dX7_set_81 : decode cX7_set 81 = .ok (.iaload, 1) := by decide +kernel
theorem dX7_set_82 : decode cX7_set 82 = .ok (.invokevirtual 75, 3) := by decide +kernel
theorem dX7_set_85 : decode cX7_set 85 = .ok (.ireturn, 1) := by decide +kernel
theorem dX7_copy_0 : decode cX7_copy 0 = .ok (.iload_n 1, 1) := by decide +kernel
theorem dX7_copy_1 : decode cX7_copy 1 = .ok (.invokestatic 64, 3) := by decide +kernel
theorem dX7_copy_4 : decode cX7_copy 4 = .ok (.ifCond .eq 10, 3) := by decide +kernel
theorem dX7_copy_7 : decode cX7_copy 7 = .ok (.iload_n 3, 1) := by decide +kernel
theorem dX7_copy_8 : decode cX7_copy 8 = .ok (.invokestatic 64, 3) := by decide +kernel
theorem dX7_copy_11 : decode cX7_copy 11 = .ok (.ifCond .ne 6, 3) := by decide +kernel
theorem dX7_copy_14 : decode cX7_copy 14 = .ok (.ldc 70, 2) := by decide +kernel
theorem dX7_copy_16 : decode cX7_copy 16 = .ok (.ireturn, 1) := by decide +kernel
theorem dX7_copy_17 : decode cX7_copy 17 = .ok (.aload_n 0, 1) := by decide +kernel
theorem dX7_copy_18 : decode cX7_copy 18 = .ok (.getfield 13, 3) := by decide +kernel
theorem dX7_copy_21 : decode cX7_copy 21 = .ok (.iload_n 1, 1) := by decide +kernel
theorem dX7_copy_22 : decode cX7_copy 22 = .ok (.iaload, 1) := by decide +kernel
theorem dX7_copy_23 : decode cX7_copy 23 = .ok (.ifCond .lt 12, 3) := by decide +kernel
theorem dX7_copy_26 : decode cX7_copy 26 = .ok (.aload_n 0, 1) := by decide +kernel
theorem dX7_copy_27 : decode cX7_copy 27 = .ok (.getfield 13, 3) := by decide +kernel
theorem dX7_copy_30 : decode cX7_copy 30 = .ok (.iload_n 3, 1) := by decide +kernel
theorem dX7_copy_31 : decode cX7_copy 31 = .ok (.iaload, 1) := by decide +kernel
theorem dX7_copy_32 : decode cX7_copy 32 = .ok (.ifCond .ge 9, 3) := by decide +kernel
theorem dX7_copy_35 : decode cX7_copy 35 = .ok (.aload_n 0, 1) := by decide +kernel
theorem dX7_copy_36 : decode cX7_copy 36 = .ok (.iconst 1, 1) := by decide +kernel
theorem dX7_copy_37 : decode cX7_copy 37 = .ok (.invokevirtual 71, 3) := by decide +kernel
theorem dX7_copy_40 : decode cX7_copy 40 = .ok (.ireturn, 1) := by decide +kernel
theorem dX7_copy_41 : decode cX7_copy 41 = .ok (.aload_n 0, 1) := by decide +kernel
theorem dX7_copy_42 : decode cX7_copy 42 = .ok (.getfield 7, 3) := by decide +kernel
theorem dX7_copy_45 : decode cX7_copy 45 = .ok (.iload_n 1, 1) := by decide +kernel
theorem dX7_copy_46 : decode cX7_copy 46 = .ok (.iaload, 1) := by decide +kernel
theorem dX7_copy_47 : decode cX7_copy 47 = .ok (.aload_n 0, 1) := by decide +kernel
theorem dX7_copy_48 : decode cX7_copy 48 = .ok (.getfield 7, 3) := by decide +kernel
theorem dX7_copy_51 : decode cX7_copy 51 = .ok (.iload_n 3, 1) := by decide +kernel
theorem dX7_copy_52 : decode cX7_copy 52 = .ok (.iaload, 1) := by decide +kernel
theorem dX7_copy_53 : decode cX7_copy 53 = .ok (.if_icmp .eq 9, 3) := by decide +kernel
theorem dX7_copy_56 : decode cX7_copy 56 = .ok (.aload_n 0, 1) := by decide +kernel
theorem dX7_copy_57 : decode cX7_copy 57 = .ok (.iconst 5, 1) := by decide +kernel
theorem dX7_copy_58 : decode cX7_copy 58 = .ok (.invokevirtual 71, 3) := by decide +kernel
theorem dX7_copy_61 : decode cX7_copy 61 = .ok (.ireturn, 1) := by decide +kernel
theorem dX7_copy_62 : decode cX7_copy 62 = .ok (.iload 5, 2) := by decide +kernel
theorem dX7_copy_64 : decode cX7_copy 64 = .ok (.ifCond .lt 44, 3) := by decide +kernel
theorem dX7_copy_67 : decode cX7_copy 67 = .ok (.iload_n 2, 1) := by decide +kernel
theorem dX7_copy_68 : decode cX7_copy 68 = .ok (.i2l, 1) := by decide +kernel
theorem dX7_copy_69 : decode cX7_copy 69 = .ok (.lconst 0, 1) := by decide +kernel
theorem dX7_copy_70 : decode cX7_copy 70 = .ok (.aload_n 0, 1) := by decide +kernel
theorem dX7_copy_71 : decode cX7_copy 71 = .ok (.getfield 13, 3) := by decide +kernel
theorem dX7_copy_74 : decode cX7_copy 74 = .ok (.iload_n 1, 1) := by decide +kernel
theorem dX7_copy_75 : decode cX7_copy 75 = .ok (.iaload, 1) := by decide +kernel
theorem dX7_copy_76 : decode cX7_copy 76 = .ok (.i2l, 1) := by decide +kernel
theorem dX7_copy_77 : decode cX7_copy 77 = .ok (.iload 5, 2) := by decide +kernel
theorem dX7_copy_79 : decode cX7_copy 79 = .ok (.i2l, 1) := by decide +kernel
theorem dX7_copy_80 : decode cX7_copy 80 = .ok (.lsub, 1) := by decide +kernel
theorem dX7_copy_81 : decode cX7_copy 81 = .ok (.invokestatic 60, 3) := by decide +kernel
theorem dX7_copy_84 : decode cX7_copy 84 = .ok (.ifCond .eq 24, 3) := by decide +kernel
theorem dX7_copy_87 : decode cX7_copy 87 = .ok (.iload 4, 2) := by decide +kernel
theorem dX7_copy_89 : decode cX7_copy 89 = .ok (.i2l, 1) := by decide +kernel
theorem dX7_copy_90 : decode cX7_copy 90 = .ok (.lconst 0, 1) := by decide +kernel
theorem dX7_copy_91 : decode cX7_copy 91 = .ok (.aload_n 0, 1) := by decide +kernel
theorem dX7_copy_92 : decode cX7_copy 92 = .ok (.getfield 13, 3) := by decide +kernel
theorem dX7_copy_95 : decode cX7_copy 95 = .ok (.iload_n 3, 1) := by decide +kernel
theorem dX7_copy_96 : decode cX7_copy 96 = .ok (.iaload, 1) := by decide +kernel
theorem dX7_copy_97 : decode cX7_copy 97 = .ok (.i2l, 1) := by decide +kernel
theorem dX7_copy_98 : decode cX7_copy 98 = .ok (.iload 5, 2) := by decide +kernel
theorem dX7_copy_100 : decode cX7_copy 100 = .ok (.i2l, 1) := by decide +kernel
theorem dX7_copy_101 : decode cX7_copy 101 = .ok (.lsub, 1) := by decide +kernel
theorem dX7_copy_102 : decode cX7_copy 102 = .ok (.invokestatic 60, 3) := by decide +kernel
theorem dX7_copy_105 : decode cX7_copy 105 = .ok (.ifCond .ne 9, 3) := by decide +kernel
theorem dX7_copy_108 : decode cX7_copy 108 = .ok (.aload_n 0, 1) := by decide +kernel
theorem dX7_copy_109 : decode cX7_copy 109 = .ok (.iconst 2, 1) := by decide +kernel
theorem dX7_copy_110 : decode cX7_copy 110 = .ok (.invokevirtual 71, 3) := by decide +kernel
theorem dX7_copy_113 : decode cX7_copy 113 = .ok (.ireturn, 1) := by decide +kernel
theorem dX7_copy_114 : decode cX7_copy 114 = .ok (.iconst 0, 1) := by decide +kernel
theorem dX7_copy_115 : decode cX7_copy 115 = .ok (.istore 6, 2) := by decide +kernel
theorem dX7_copy_117 : decode cX7_copy 117 = .ok (.iload 6, 2) := by decide +kernel
theorem dX7_copy_119 : decode cX7_copy 119 = .ok (.iload 5, 2) := by decide +kernel
theorem dX7_copy_121 : decode cX7_copy 121 = .ok (.if_icmp .ge 30, 3) := by decide +kernel
theorem dX7_copy_124 : decode cX7_copy 124 = .ok (.aload_n 0, 1) := by decide +kernel
theorem dX7_copy_125 : decode cX7_copy 125 = .ok (.getfield 22, 3) := by decide +kernel
theorem dX7_copy_128 : decode cX7_copy 128 = .ok (.iload 6, 2) := by decide +kernel
theorem dX7_copy_130 : decode cX7_copy 130 = .ok (.aload_n 0, 1) := by decide +kernel
theorem dX7_copy_131 : decode cX7_copy 131 = .ok (.getfield 16, 3) := by decide +kernel
theorem dX7_copy_134 : decode cX7_copy 134 = .ok (.bipush 40, 2) := by decide +kernel
theorem dX7_copy_136 : decode cX7_copy 136 = .ok (.iload_n 1, 1) := by decide +kernel
theorem dX7_copy_137 : decode cX7_copy 137 = .ok (.imul, 1) := by decide +kernel
theorem dX7_copy_138 : decode cX7_copy 138 = .ok (.iload_n 2, 1) := by decide +kernel
theorem dX7_copy_139 : decode cX7_copy 139 = .ok (.iadd, 1) := by decide +kernel
theorem dX7_copy_140 : decode cX7_copy 140 = .ok (.iload 6, 2) := by decide +kernel
theorem dX7_copy_142 : decode cX7_copy 142 = .ok (.iadd, 1) := by decide +kernel
theorem dX7_copy_143 : decode cX7_copy 143 = .ok (.iaload, 1) := by decide +kernel
theorem dX7_copy_144 : decode cX7_copy 144 = .ok (.iastore, 1) := by decide +kernel
theorem dX7_copy_145 : decode cX7_copy 145 = .ok (.iinc 6 1, 3) := by decide +kernel
theorem dX7_copy_148 : decode cX7_copy 148 = .ok (.goto (-31), 3) := by decide +kernel
theorem dX7_copy_151 : decode cX7_copy 151 = .ok (.iconst 0, 1) := by decide +kernel
theorem dX7_copy_152 : decode cX7_copy 152 = .ok (.istore 6, 2) := by decide +kernel
theorem dX7_copy_154 : decode cX7_copy 154 = .ok (.iload 6, 2) := by decide +kernel
theorem dX7_copy_156 : decode cX7_copy 156 = .ok (.iload 5, 2) := by decide +kernel
theorem dX7_copy_158 : decode cX7_copy 158 = .ok (.if_icmp .ge 31, 3) := by decide +kernel
theorem dX7_copy_161 : decode cX7_copy 161 = .ok (.aload_n 0, 1) := by decide +kernel
theorem dX7_copy_162 : decode cX7_copy 162 = .ok (.getfield 16, 3) := by decide +kernel
theorem dX7_copy_165 : decode cX7_copy 165 = .ok (.bipush 40, 2) := by decide +kernel
theorem dX7_copy_167 : decode cX7_copy 167 = .ok (.iload_n 3, 1) := by decide +kernel
theorem dX7_copy_168 : decode cX7_copy 168 = .ok (.imul, 1) := by decide +kernel
theorem dX7_copy_169 : decode cX7_copy 169 = .ok (.iload 4, 2) := by decide +kernel
theorem dX7_copy_171 : decode cX7_copy 171 = .ok (.iadd, 1) := by decide +kernel
theorem dX7_copy_172 : decode cX7_copy 172 = .ok (.iload 6, 2) := by decide +kernel
theorem dX7_copy_174 : decode cX7_copy 174 = .ok (.iadd, 1) := by decide +kernel
theorem dX7_copy_175 : decode cX7_copy 175 = .ok (.aload_n 0, 1) := by decide +kernel
theorem dX7_copy_176 : decode cX7_copy 176 = .ok (.getfield 22, 3) := by decide +kernel
theorem dX7_copy_179 : decode cX7_copy 179 = .ok (.iload 6, 2) := by decide +kernel
theorem dX7_copy_181 : decode cX7_copy 181 = .ok (.iaload, 1) := by decide +kernel
theorem dX7_copy_182 : decode cX7_copy 182 = .ok (.iastore, 1) := by decide +kernel
theorem dX7_copy_183 : decode cX7_copy 183 = .ok (.iinc 6 1, 3) := by decide +kernel
theorem dX7_copy_186 : decode cX7_copy 186 = .ok (.goto (-32), 3) := by decide +kernel
theorem dX7_copy_189 : decode cX7_copy 189 = .ok (.aload_n 0, 1) := by decide +kernel
theorem dX7_copy_190 : decode cX7_copy 190 = .ok (.iload 5, 2) := by decide +kernel
theorem dX7_copy_192 : decode cX7_copy 192 = .ok (.invokevirtual 75, 3) := by decide +kernel
theorem dX7_copy_195 : decode cX7_copy 195 = .ok (.ireturn, 1) := by decide +kernel
theorem dX7_drop_0 : decode cX7_drop 0 = .ok (.iload_n 1, 1) := by decide +kernel
theorem dX7_drop_1 : decode cX7_drop 1 = .ok (.invokestatic 64, 3) := by decide +kernel
theorem dX7_drop_4 : decode cX7_drop 4 = .ok (.ifCond .ne 6, 3) := by decide +kernel
theorem dX7_drop_7 : decode cX7_drop 7 = .ok (.ldc 70, 2) := by decide +kernel
theorem dX7_drop_9 : decode cX7_drop 9 = .ok (.ireturn, 1) := by decide +kernel
theorem dX7_drop_10 : decode cX7_drop 10 = .ok (.aload_n 0, 1) := by decide +kernel
theorem dX7_drop_11 : decode cX7_drop 11 = .ok (.getfield 13, 3) := by decide +kernel
theorem dX7_drop_14 : decode cX7_drop 14 = .ok (.iload_n 1, 1) := by decide +kernel
theorem dX7_drop_15 : decode cX7_drop 15 = .ok (.iaload, 1) := by decide +kernel
theorem dX7_drop_16 : decode cX7_drop 16 = .ok (.ifCond .ge 9, 3) := by decide +kernel
theorem dX7_drop_19 : decode cX7_drop 19 = .ok (.aload_n 0, 1) := by decide +kernel
theorem dX7_drop_20 : decode cX7_drop 20 = .ok (.iconst 1, 1) := by decide +kernel
theorem dX7_drop_21 : decode cX7_drop 21 = .ok (.invokevirtual 71, 3) := by decide +kernel
theorem dX7_drop_24 : decode cX7_drop 24 = .ok (.ireturn, 1) := by decide +kernel
theorem dX7_drop_25 : decode cX7_drop 25 = .ok (.aload_n 0, 1) := by decide +kernel
theorem dX7_drop_26 : decode cX7_drop 26 = .ok (.getfield 13, 3) := by decide +kernel
theorem dX7_drop_29 : decode cX7_drop 29 = .ok (.iload_n 1, 1) := by decide +kernel
theorem dX7_drop_30 : decode cX7_drop 30 = .ok (.iaload, 1) := by decide +kernel
theorem dX7_drop_31 : decode cX7_drop 31 = .ok (.istore_n 2, 1) := by decide +kernel
theorem dX7_drop_32 : decode cX7_drop 32 = .ok (.aload_n 0, 1) := by decide +kernel
theorem dX7_drop_33 : decode cX7_drop 33 = .ok (.getfield 13, 3) := by decide +kernel
theorem dX7_drop_36 : decode cX7_drop 36 = .ok (.iload_n 1, 1) := by decide +kernel
theorem dX7_drop_37 : decode cX7_drop 37 = .ok (.iconst (-1), 1) := by decide +kernel
theorem dX7_drop_38 : decode cX7_drop 38 = .ok (.iastore, 1) := by decide +kernel
theorem dX7_drop_39 : decode cX7_drop 39 = .ok (.aload_n 0, 1) := by decide +kernel
theorem dX7_drop_40 : decode cX7_drop 40 = .ok (.iload_n 2, 1) := by decide +kernel
theorem dX7_drop_41 : decode cX7_drop 41 = .ok (.invokevirtual 75, 3) := by decide +kernel
theorem dX7_drop_44 : decode cX7_drop 44 = .ok (.ireturn, 1) := by decide +kernel
theorem dX7_feed_0 : decode cX7_feed 0 = .ok (.iload_n 1, 1) := by decide +kernel
theorem dX7_feed_1 : decode cX7_feed 1 = .ok (.i2l, 1) := by decide +kernel
theorem dX7_feed_2 : decode cX7_feed 2 = .ok (.lconst 0, 1) := by decide +kernel
theorem dX7_feed_3 : decode cX7_feed 3 = .ok (.ldc2_w 82, 3) := by decide +kernel
theorem dX7_feed_6 : decode cX7_feed 6 = .ok (.invokestatic 60, 3) := by decide +kernel
theorem dX7_feed_9 : decode cX7_feed 9 = .ok (.ifCond .ne 6, 3) := by decide +kernel
theorem dX7_feed_12 : decode cX7_feed 12 = .ok (.ldc 70, 2) := by decide +kernel
theorem dX7_feed_14 : decode cX7_feed 14 = .ok (.ireturn, 1) := by decide +kernel
theorem dX7_feed_15 : decode cX7_feed 15 = .ok (.aload_n 0, 1) := by decide +kernel
theorem dX7_feed_16 : decode cX7_feed 16 = .ok (.getfield 84, 3) := by decide +kernel
theorem dX7_feed_19 : decode cX7_feed 19 = .ok (.bipush 120, 2) := by decide +kernel
theorem dX7_feed_21 : decode cX7_feed 21 = .ok (.if_icmp .ne 6, 3) := by decide +kernel
theorem dX7_feed_24 : decode cX7_feed 24 = .ok (.ldc 87, 2) := by decide +kernel
theorem dX7_feed_26 : decode cX7_feed 26 = .ok (.ireturn, 1) := by decide +kernel
theorem dX7_feed_27 : decode cX7_feed 27 = .ok (.aload_n 0, 1) := by decide +kernel
theorem dX7_feed_28 : decode cX7_feed 28 = .ok (.getfield 25, 3) := by decide +kernel
theorem dX7_feed_31 : decode cX7_feed 31 = .ok (.aload_n 0, 1) := by decide +kernel
theorem dX7_feed_32 : decode cX7_feed 32 = .ok (.getfield 84, 3) := by decide +kernel
theorem dX7_feed_35 : decode cX7_feed 35 = .ok (.iload_n 1, 1) := by decide +kernel
theorem dX7_feed_36 : decode cX7_feed 36 = .ok (.iastore, 1) := by decide +kernel
theorem dX7_feed_37 : decode cX7_feed 37 = .ok (.aload_n 0, 1) := by decide +kernel
theorem dX7_feed_38 : decode cX7_feed 38 = .ok (.dup, 1) := by decide +kernel
theorem dX7_feed_39 : decode cX7_feed 39 = .ok (.getfield 84, 3) := by decide +kernel
theorem dX7_feed_42 : decode cX7_feed 42 = .ok (.iconst 1, 1) := by decide +kernel
theorem dX7_feed_43 : decode cX7_feed 43 = .ok (.iadd, 1) := by decide +kernel
theorem dX7_feed_44 : decode cX7_feed 44 = .ok (.putfield 84, 3) := by decide +kernel
theorem dX7_feed_47 : decode cX7_feed 47 = .ok (.aload_n 0, 1) := by decide +kernel
theorem dX7_feed_48 : decode cX7_feed 48 = .ok (.getfield 84, 3) := by decide +kernel
theorem dX7_feed_51 : decode cX7_feed 51 = .ok (.ireturn, 1) := by decide +kernel
theorem dX7_nextToken_0 : decode cX7_nextToken 0 = .ok (.aload_n 0, 1) := by decide +kernel
theorem dX7_nextToken_1 : decode cX7_nextToken 1 = .ok (.aload_n 0, 1) := by decide +kernel
theorem dX7_nextToken_2 : decode cX7_nextToken 2 = .ok (.getfield 88, 3) := by decide +kernel
theorem dX7_nextToken_5 : decode cX7_nextToken 5 = .ok (.putfield 91, 3) := by decide +kernel
theorem dX7_nextToken_8 : decode cX7_nextToken 8 = .ok (.aload_n 0, 1) := by decide +kernel
theorem dX7_nextToken_9 : decode cX7_nextToken 9 = .ok (.aload_n 0, 1) := by decide +kernel
theorem dX7_nextToken_10 : decode cX7_nextToken 10 = .ok (.getfield 88, 3) := by decide +kernel
theorem dX7_nextToken_13 : decode cX7_nextToken 13 = .ok (.aload_n 0, 1) := by decide +kernel
theorem dX7_nextToken_14 : decode cX7_nextToken 14 = .ok (.getfield 84, 3) := by decide +kernel
theorem dX7_nextToken_17 : decode cX7_nextToken 17 = .ok (.if_icmp .ne 7, 3) := by decide +kernel
theorem dX7_nextToken_20 : decode cX7_nextToken 20 = .ok (.iconst 3, 1) := by decide +kernel
theorem dX7_nextToken_21 : decode cX7_nextToken 21 = .ok (.goto 4, 3) := by decide +kernel
theorem dX7_nextToken_24 : decode cX7_nextToken 24 = .ok (.iconst 0, 1) := by decide +kernel
theorem dX7_nextToken_25 : decode cX7_nextToken 25 = .ok (.putfield 94, 3) := by decide +kernel
theorem dX7_nextToken_28 : decode cX7_nextToken 28 = .ok (.aload_n 0, 1) := by decide +kernel
theorem dX7_nextToken_29 : decode cX7_nextToken 29 = .ok (.iconst 0, 1) := by decide +kernel
theorem dX7_nextToken_30 : decode cX7_nextToken 30 = .ok (.putfield 97, 3) := by decide +kernel
theorem dX7_nextToken_33 : decode cX7_nextToken 33 = .ok (.aload_n 0, 1) := by decide +kernel
theorem dX7_nextToken_34 : decode cX7_nextToken 34 = .ok (.getfield 88, 3) := by decide +kernel
theorem dX7_nextToken_37 : decode cX7_nextToken 37 = .ok (.aload_n 0, 1) := by decide +kernel
theorem dX7_nextToken_38 : decode cX7_nextToken 38 = .ok (.getfield 84, 3) := by decide +kernel
theorem dX7_nextToken_41 : decode cX7_nextToken 41 = .ok (.if_icmp .ge 78, 3) := by decide +kernel
theorem dX7_nextToken_44 : decode cX7_nextToken 44 = .ok (.aload_n 0, 1) := by decide +kernel
theorem dX7_nextToken_45 : decode cX7_nextToken 45 = .ok (.getfield 25, 3) := by decide +kernel
theorem dX7_nextToken_48 : decode cX7_nextToken 48 = .ok (.aload_n 0, 1) := by decide +kernel
theorem dX7_nextToken_49 : decode cX7_nextToken 49 = .ok (.getfield 88, 3) := by decide +kernel
theorem dX7_nextToken_52 : decode cX7_nextToken 52 = .ok (.iaload, 1) := by decide +kernel
theorem dX7_nextToken_53 : decode cX7_nextToken 53 = .ok (.i2l, 1) := by decide +kernel
theorem dX7_nextToken_54 : decode cX7_nextToken 54 = .ok (.ldc2_w 100, 3) := by decide +kernel
theorem dX7_nextToken_57 : decode cX7_nextToken 57 = .ok (.ldc2_w 102, 3) := by decide +kernel
theorem dX7_nextToken_60 : decode cX7_nextToken 60 = .ok (.invokestatic 60, 3) := by decide +kernel
theorem dX7_nextToken_63 : decode cX7_nextToken 63 = .ok (.ifCond .eq 56, 3) := by decide +kernel
theorem dX7_nextToken_66 : decode cX7_nextToken 66 = .ok (.aload_n 0, 1) := by decide +kernel
theorem dX7_nextToken_67 : decode cX7_nextToken 67 = .ok (.aload_n 0, 1) := by decide +kernel
theorem dX7_nextToken_68 : decode cX7_nextToken 68 = .ok (.getfield 97, 3) := by decide +kernel
theorem dX7_nextToken_71 : decode cX7_nextToken 71 = .ok (.bipush 99, 2) := by decide +kernel
theorem dX7_nextToken_73 : decode cX7_nextToken 73 = .ok (.if_icmp .le 10, 3) := by decide +kernel
theorem dX7_nextToken_76 : decode cX7_nextToken 76 = .ok (.aload_n 0, 1) := by decide +kernel
theorem dX7_nextToken_77 : decode cX7_nextToken 77 = .ok (.getfield 97, 3) := by decide +kernel
theorem dX7_nextToken_80 : decode cX7_nextToken 80 = .ok (.goto 23, 3) := by decide +kernel
theorem dX7_nextToken_83 : decode cX7_nextToken 83 = .ok (.bipush 10, 2) := by decide +kernel
theorem dX7_nextToken_85 : decode cX7_nextToken 85 = .ok (.aload_n 0, 1) := by decide +kernel
theorem dX7_nextToken_86 : decode cX7_nextToken 86 = .ok (.getfield 97, 3) := by decide +kernel
theorem dX7_nextToken_89 : decode cX7_nextToken 89 = .ok (.imul, 1) := by decide +kernel
theorem dX7_nextToken_90 : decode cX7_nextToken 90 = .ok (.aload_n 0, 1) := by decide +kernel
theorem dX7_nextToken_91 : decode cX7_nextToken 91 = .ok (.getfield 25, 3) := by decide +kernel
theorem dX7_nextToken_94 : decode cX7_nextToken 94 = .ok (.aload_n 0, 1) := by decide +kernel
theorem dX7_nextToken_95 : decode cX7_nextToken 95 = .ok (.getfield 88, 3) := by decide +kernel
theorem dX7_nextToken_98 : decode cX7_nextToken 98 = .ok (.iaload, 1) := by decide +kernel
theorem dX7_nextToken_99 : decode cX7_nextToken 99 = .ok (.iadd, 1) := by decide +kernel
theorem dX7_nextToken_100 : decode cX7_nextToken 100 = .ok (.bipush 48, 2) := by decide +kernel
theorem dX7_nextToken_102 : decode cX7_nextToken 102 = .ok (.isub, 1) := by decide +kernel
theorem dX7_nextToken_103 : decode cX7_nextToken 103 = .ok (.putfield 97, 3) := by decide +kernel
theorem dX7_nextToken_106 : decode cX7_nextToken 106 = .ok (.aload_n 0, 1) := by decide +kernel
theorem dX7_nextToken_107 : decode cX7_nextToken 107 = .ok (.dup, 1) := by decide +kernel
theorem dX7_nextToken_108 : decode cX7_nextToken 108 = .ok (.getfield 88, 3) := by decide +kernel
theorem dX7_nextToken_111 : decode cX7_nextToken 111 = .ok (.iconst 1, 1) := by decide +kernel
theorem dX7_nextToken_112 : decode cX7_nextToken 112 = .ok (.iadd, 1) := by decide +kernel
theorem dX7_nextToken_113 : decode cX7_nextToken 113 = .ok (.putfield 88, 3) := by decide +kernel
theorem dX7_nextToken_116 : decode cX7_nextToken 116 = .ok (.goto (-83), 3) := by decide +kernel
theorem dX7_nextToken_119 : decode cX7_nextToken 119 = .ok (.aload_n 0, 1) := by decide +kernel
theorem dX7_nextToken_120 : decode cX7_nextToken 120 = .ok (.getfield 88, 3) := by decide +kernel
theorem dX7_nextToken_123 : decode cX7_nextToken 123 = .ok (.aload_n 0, 1) := by decide +kernel
theorem dX7_nextToken_124 : decode cX7_nextToken 124 = .ok (.getfield 91, 3) := by decide +kernel
theorem dX7_nextToken_127 : decode cX7_nextToken 127 = .ok (.if_icmp .le 28, 3) := by decide +kernel
theorem dX7_nextToken_130 : decode cX7_nextToken 130 = .ok (.aload_n 0, 1) := by decide +kernel
theorem dX7_nextToken_131 : decode cX7_nextToken 131 = .ok (.aload_n 0, 1) := by decide +kernel
theorem dX7_nextToken_132 : decode cX7_nextToken 132 = .ok (.getfield 88, 3) := by decide +kernel
theorem dX7_nextToken_135 : decode cX7_nextToken 135 = .ok (.aload_n 0, 1) := by decide +kernel
theorem dX7_nextToken_136 : decode cX7_nextToken 136 = .ok (.getfield 91, 3) := by decide +kernel
theorem dX7_nextToken_139 : decode cX7_nextToken 139 = .ok (.isub, 1) := by decide +kernel
theorem dX7_nextToken_140 : decode cX7_nextToken 140 = .ok (.iconst 2, 1) := by decide +kernel
theorem dX7_nextToken_141 : decode cX7_nextToken 141 = .ok (.if_icmp .le 7, 3) := by decide +kernel
theorem dX7_nextToken_144 : decode cX7_nextToken 144 = .ok (.iconst 0, 1) := by decide +kernel
theorem dX7_nextToken_145 : decode cX7_nextToken 145 = .ok (.goto 4, 3) := by decide +kernel
theorem dX7_nextToken_148 : decode cX7_nextToken 148 = .ok (.iconst 2, 1) := by decide +kernel
theorem dX7_nextToken_149 : decode cX7_nextToken 149 = .ok (.putfield 94, 3) := by decide +kernel
theorem dX7_nextToken_152 : decode cX7_nextToken 152 = .ok (.goto 77, 3) := by decide +kernel
theorem dX7_nextToken_155 : decode cX7_nextToken 155 = .ok (.aload_n 0, 1) := by decide +kernel
theorem dX7_nextToken_156 : decode cX7_nextToken 156 = .ok (.getfield 94, 3) := by decide +kernel
theorem dX7_nextToken_159 : decode cX7_nextToken 159 = .ok (.ifCond .ne 70, 3) := by decide +kernel
theorem dX7_nextToken_162 : decode cX7_nextToken 162 = .ok (.aload_n 0, 1) := by decide +kernel
theorem dX7_nextToken_163 : decode cX7_nextToken 163 = .ok (.aload_n 0, 1) := by decide +kernel
theorem dX7_nextToken_164 : decode cX7_nextToken 164 = .ok (.getfield 25, 3) := by decide +kernel
theorem dX7_nextToken_167 : decode cX7_nextToken 167 = .ok (.aload_n 0, 1) := by decide +kernel
theorem dX7_nextToken_168 : decode cX7_nextToken 168 = .ok (.getfield 88, 3) := by decide +kernel
theorem dX7_nextToken_171 : decode cX7_nextToken 171 = .ok (.iaload, 1) := by decide +kernel
theorem dX7_nextToken_172 : decode cX7_nextToken 172 = .ok (.putfield 97, 3) := by decide +kernel
theorem dX7_nextToken_175 : decode cX7_nextToken 175 = .ok (.aload_n 0, 1) := by decide +kernel
theorem dX7_nextToken_176 : decode cX7_nextToken 176 = .ok (.aload_n 0, 1) := by decide +kernel
theorem dX7_nextToken_177 : decode cX7_nextToken 177 = .ok (.getfield 97, 3) := by decide +kernel
theorem dX7_nextToken_180 : decode cX7_nextToken 180 = .ok (.i2l, 1) := by decide +kernel
theorem dX7_nextToken_181 : decode cX7_nextToken 181 = .ok (.ldc2_w 104, 3) := by decide +kernel
theorem dX7_nextToken_184 : decode cX7_nextToken 184 = .ok (.ldc2_w 106, 3) := by decide +kernel
theorem dX7_nextToken_187 : decode cX7_nextToken 187 = .ok (.invokestatic 60, 3) := by decide +kernel
theorem dX7_nextToken_190 : decode cX7_nextToken 190 = .ok (.ifCond .ne 21, 3) := by decide +kernel
theorem dX7_nextToken_193 : decode cX7_nextToken 193 = .ok (.aload_n 0, 1) := by decide +kernel
theorem dX7_nextToken_194 : decode cX7_nextToken 194 = .ok (.getfield 97, 3) := by decide +kernel
theorem dX7_nextToken_197 : decode cX7_nextToken 197 = .ok (.bipush 44, 2) := by decide +kernel
theorem dX7_nextToken_199 : decode cX7_nextToken 199 = .ok (.if_icmp .eq 12, 3) := by decide +kernel
theorem dX7_nextToken_202 : decode cX7_nextToken 202 = .ok (.aload_n 0, 1) := by decide +kernel
theorem dX7_nextToken_203 : decode cX7_nextToken 203 = .ok (.getfield 97, 3) := by decide +kernel
theorem dX7_nextToken_206 : decode cX7_nextToken 206 = .ok (.bipush 59, 2) := by decide +kernel
theorem dX7_nextToken_208 : decode cX7_nextToken 208 = .ok (.if_icmp .ne 7, 3) := by decide +kernel
theorem dX7_nextToken_211 : decode cX7_nextToken 211 = .ok (.iconst 1, 1) := by decide +kernel
theorem dX7_nextToken_212 : decode cX7_nextToken 212 = .ok (.goto 4, 3) := by decide +kernel
theorem dX7_nextToken_215 : decode cX7_nextToken 215 = .ok (.iconst 0, 1) := by decide +kernel
theorem dX7_nextToken_216 : decode cX7_nextToken 216 = .ok (.putfield 94, 3) := by decide +kernel
theorem dX7_nextToken_219 : decode cX7_nextToken 219 = .ok (.aload_n 0, 1) := by decide +kernel
theorem dX7_nextToken_220 : decode cX7_nextToken 220 = .ok (.dup, 1) := by decide +kernel
theorem dX7_nextToken_221 : decode cX7_nextToken 221 = .ok (.getfield 88, 3) := by decide +kernel
theorem dX7_nextToken_224 : decode cX7_nextToken 224 = .ok (.iconst 1, 1) := by decide +kernel
theorem dX7_nextToken_225 : decode cX7_nextToken 225 = .ok (.iadd, 1) := by decide +kernel
theorem dX7_nextToken_226 : decode cX7_nextToken 226 = .ok (.putfield 88, 3) := by decide +kernel
theorem dX7_nextToken_229 : decode cX7_nextToken 229 = .ok (.return_, 1) := by decide +kernel
theorem dX7_faults_0 : decode cX7_faults 0 = .ok (.aload_n 0, 1) := by decide +kernel
theorem dX7_faults_1 : decode cX7_faults 1 = .ok (.iload_n 1, 1) := by decide +kernel
theorem dX7_faults_2 : decode cX7_faults 2 = .ok (.putfield 108, 3) := by decide +kernel
theorem dX7_faults_5 : decode cX7_faults 5 = .ok (.iconst 0, 1) := by decide +kernel
theorem dX7_faults_6 : decode cX7_faults 6 = .ok (.ireturn, 1) := by decide +kernel
theorem dX7_isLetter_0 : decode cX7_isLetter 0 = .ok (.aload_n 0, 1) := by decide +kernel
theorem dX7_isLetter_1 : decode cX7_isLetter 1 = .ok (.getfield 94, 3) := by decide +kernel
theorem dX7_isLetter_4 : decode cX7_isLetter 4 = .ok (.iconst 1, 1) := by decide +kernel
theorem dX7_isLetter_5 : decode cX7_isLetter 5 = .ok (.if_icmp .ne 15, 3) := by decide +kernel
theorem dX7_isLetter_8 : decode cX7_isLetter 8 = .ok (.aload_n 0, 1) := by decide +kernel
theorem dX7_isLetter_9 : decode cX7_isLetter 9 = .ok (.getfield 97, 3) := by decide +kernel
theorem dX7_isLetter_12 : decode cX7_isLetter 12 = .ok (.iload_n 1, 1) := by decide +kernel
theorem dX7_isLetter_13 : decode cX7_isLetter 13 = .ok (.if_icmp .ne 7, 3) := by decide +kernel
theorem dX7_isLetter_16 : decode cX7_isLetter 16 = .ok (.iconst 1, 1) := by decide +kernel
theorem dX7_isLetter_17 : decode cX7_isLetter 17 = .ok (.goto 4, 3) := by decide +kernel
theorem dX7_isLetter_20 : decode cX7_isLetter 20 = .ok (.iconst 0, 1) := by decide +kernel
theorem dX7_isLetter_21 : decode cX7_isLetter 21 = .ok (.ireturn, 1) := by decide +kernel
theorem dX7_takes_0 : decode cX7_takes 0 = .ok (.aload_n 0, 1) := by decide +kernel
theorem dX7_takes_1 : decode cX7_takes 1 = .ok (.iload_n 1, 1) := by decide +kernel
theorem dX7_takes_2 : decode cX7_takes 2 = .ok (.invokevirtual 111, 3) := by decide +kernel
theorem dX7_takes_5 : decode cX7_takes 5 = .ok (.ifCond .ne 9, 3) := by decide +kernel
theorem dX7_takes_8 : decode cX7_takes 8 = .ok (.aload_n 0, 1) := by decide +kernel
theorem dX7_takes_9 : decode cX7_takes 9 = .ok (.iconst 1, 1) := by decide +kernel
theorem dX7_takes_10 : decode cX7_takes 10 = .ok (.invokevirtual 114, 3) := by decide +kernel
theorem dX7_takes_13 : decode cX7_takes 13 = .ok (.ireturn, 1) := by decide +kernel
theorem dX7_takes_14 : decode cX7_takes 14 = .ok (.aload_n 0, 1) := by decide +kernel
theorem dX7_takes_15 : decode cX7_takes 15 = .ok (.invokevirtual 117, 3) := by decide +kernel
theorem dX7_takes_18 : decode cX7_takes 18 = .ok (.iconst 1, 1) := by decide +kernel
theorem dX7_takes_19 : decode cX7_takes 19 = .ok (.ireturn, 1) := by decide +kernel
theorem dX7_isNumber_0 : decode cX7_isNumber 0 = .ok (.aload_n 0, 1) := by decide +kernel
theorem dX7_isNumber_1 : decode cX7_isNumber 1 = .ok (.getfield 94, 3) := by decide +kernel
theorem dX7_isNumber_4 : decode cX7_isNumber 4 = .ok (.iconst 2, 1) := by decide +kernel
theorem dX7_isNumber_5 : decode cX7_isNumber 5 = .ok (.if_icmp .ne 34, 3) := by decide +kernel
theorem dX7_isNumber_8 : decode cX7_isNumber 8 = .ok (.aload_n 0, 1) := by decide +kernel
theorem dX7_isNumber_9 : decode cX7_isNumber 9 = .ok (.getfield 97, 3) := by decide +kernel
theorem dX7_isNumber_12 : decode cX7_isNumber 12 = .ok (.i2l, 1) := by decide +kernel
theorem dX7_isNumber_13 : decode cX7_isNumber 13 = .ok (.iload_n 1, 1) := by decide +kernel
theorem dX7_isNumber_14 : decode cX7_isNumber 14 = .ok (.i2l, 1) := by decide +kernel
theorem dX7_isNumber_15 : decode cX7_isNumber 15 = .ok (.iload_n 2, 1) := by decide +kernel
theorem dX7_isNumber_16 : decode cX7_isNumber 16 = .ok (.i2l, 1) := by decide +kernel
theorem dX7_isNumber_17 : decode cX7_isNumber 17 = .ok (.invokestatic 60, 3) := by decide +kernel
theorem dX7_isNumber_20 : decode cX7_isNumber 20 = .ok (.ifCond .ne 11, 3) := by decide +kernel
theorem dX7_isNumber_23 : decode cX7_isNumber 23 = .ok (.aload_n 0, 1) := by decide +kernel
theorem dX7_isNumber_24 : decode cX7_isNumber 24 = .ok (.iconst 2, 1) := by decide +kernel
theorem dX7_isNumber_25 : decode cX7_isNumber 25 = .ok (.invokevirtual 114, 3) := by decide +kernel
theorem dX7_isNumber_28 : decode cX7_isNumber 28 = .ok (.ifCond .eq 7, 3) := by decide +kernel
theorem dX7_isNumber_31 : decode cX7_isNumber 31 = .ok (.iconst 1, 1) := by decide +kernel
theorem dX7_isNumber_32 : decode cX7_isNumber 32 = .ok (.goto 12, 3) := by decide +kernel
theorem dX7_isNumber_35 : decode cX7_isNumber 35 = .ok (.iconst 0, 1) := by decide +kernel
theorem dX7_isNumber_36 : decode cX7_isNumber 36 = .ok (.goto 8, 3) := by decide +kernel
theorem dX7_isNumber_39 : decode cX7_isNumber 39 = .ok (.aload_n 0, 1) := by decide +kernel
theorem dX7_isNumber_40 : decode cX7_isNumber 40 = .ok (.iconst 1, 1) := by decide +kernel
theorem dX7_isNumber_41 : decode cX7_isNumber 41 = .ok (.invokevirtual 114, 3) := by decide +kernel
theorem dX7_isNumber_44 : decode cX7_isNumber 44 = .ok (.ireturn, 1) := by decide +kernel
theorem dX7_taken_0 : decode cX7_taken 0 = .ok (.aload_n 0, 1) := by decide +kernel
theorem dX7_taken_1 : decode cX7_taken 1 = .ok (.getfield 97, 3) := by decide +kernel
theorem dX7_taken_4 : decode cX7_taken 4 = .ok (.istore_n 1, 1) := by decide +kernel
theorem dX7_taken_5 : decode cX7_taken 5 = .ok (.aload_n 0, 1) := by decide +kernel
theorem dX7_taken_6 : decode cX7_taken 6 = .ok (.invokevirtual 117, 3) := by decide +kernel
theorem dX7_taken_9 : decode cX7_taken 9 = .ok (.iload_n 1, 1) := by decide +kernel
theorem dX7_taken_10 : decode cX7_taken 10 = .ok (.ireturn, 1) := by decide +kernel
theorem dX7_readWind_0 : decode cX7_readWind 0 = .ok (.aload_n 0, 1) := by decide +kernel
theorem dX7_readWind_1 : decode cX7_readWind 1 = .ok (.iload_n 1, 1) := by decide +kernel
theorem dX7_readWind_2 : decode cX7_readWind 2 = .ok (.invokevirtual 120, 3) := by decide +kernel
theorem dX7_readWind_5 : decode cX7_readWind 5 = .ok (.ifCond .ne 5, 3) := by decide +kernel
theorem dX7_readWind_8 : decode cX7_readWind 8 = .ok (.iconst 0, 1) := by decide +kernel
theorem dX7_readWind_9 : decode cX7_readWind 9 = .ok (.ireturn, 1) := by decide +kernel
theorem dX7_readWind_10 : decode cX7_readWind 10 = .ok (.iconst 0, 1) := by decide +kernel
theorem dX7_readWind_11 : decode cX7_readWind 11 = .ok (.istore_n 3, 1) := by decide +kernel
theorem dX7_readWind_12 : decode cX7_readWind 12 = .ok (.iload_n 3, 1) := by decide +kernel
theorem dX7_readWind_13 : decode cX7_readWind 13 = .ok (.bipush 6, 2) := by decide +kernel
theorem dX7_readWind_15 : decode cX7_readWind 15 = .ok (.if_icmp .ge 102, 3) := by decide +kernel
theorem dX7_readWind_18 : decode cX7_readWind 18 = .ok (.aload_n 0, 1) := by decide +kernel
theorem dX7_readWind_19 : decode cX7_readWind 19 = .ok (.bipush 111, 2) := by decide +kernel
theorem dX7_readWind_21 : decode cX7_readWind 21 = .ok (.invokevirtual 111, 3) := by decide +kernel
theorem dX7_readWind_24 : decode cX7_readWind 24 = .ok (.ifCond .eq 7, 3) := by decide +kernel
theorem dX7_readWind_27 : decode cX7_readWind 27 = .ok (.iconst 0, 1) := by decide +kernel
theorem dX7_readWind_28 : decode cX7_readWind 28 = .ok (.goto 56, 3) := by decide +kernel
theorem dX7_readWind_31 : decode cX7_readWind 31 = .ok (.aload_n 0, 1) := by decide +kernel
theorem dX7_readWind_32 : decode cX7_readWind 32 = .ok (.bipush 101, 2) := by decide +kernel
theorem dX7_readWind_34 : decode cX7_readWind 34 = .ok (.invokevirtual 111, 3) := by decide +kernel
theorem dX7_readWind_37 : decode cX7_readWind 37 = .ok (.ifCond .eq 7, 3) := by decide +kernel
theorem dX7_readWind_40 : decode cX7_readWind 40 = .ok (.iconst 1, 1) := by decide +kernel
theorem dX7_readWind_41 : decode cX7_readWind 41 = .ok (.goto 43, 3) := by decide +kernel
theorem dX7_readWind_44 : decode cX7_readWind 44 = .ok (.aload_n 0, 1) := by decide +kernel
theorem dX7_readWind_45 : decode cX7_readWind 45 = .ok (.bipush 119, 2) := by decide +kernel
theorem dX7_readWind_47 : decode cX7_readWind 47 = .ok (.invokevirtual 111, 3) := by decide +kernel
theorem dX7_readWind_50 : decode cX7_readWind 50 = .ok (.ifCond .eq 7, 3) := by decide +kernel
theorem dX7_readWind_53 : decode cX7_readWind 53 = .ok (.iconst 2, 1) := by decide +kernel
theorem dX7_readWind_54 : decode cX7_readWind 54 = .ok (.goto 30, 3) := by decide +kernel
theorem dX7_readWind_57 : decode cX7_readWind 57 = .ok (.aload_n 0, 1) := by decide +kernel
theorem dX7_readWind_58 : decode cX7_readWind 58 = .ok (.bipush 115, 2) := by decide +kernel
theorem dX7_readWind_60 : decode cX7_readWind 60 = .ok (.invokevirtual 111, 3) := by decide +kernel
theorem dX7_readWind_63 : decode cX7_readWind 63 = .ok (.ifCond .eq 7, 3) := by decide +kernel
theorem dX7_readWind_66 : decode cX7_readWind 66 = .ok (.iconst 3, 1) := by decide +kernel
theorem dX7_readWind_67 : decode cX7_readWind 67 = .ok (.goto 17, 3) := by decide +kernel
theorem dX7_readWind_70 : decode cX7_readWind 70 = .ok (.aload_n 0, 1) := by decide +kernel
theorem dX7_readWind_71 : decode cX7_readWind 71 = .ok (.bipush 110, 2) := by decide +kernel
theorem dX7_readWind_73 : decode cX7_readWind 73 = .ok (.invokevirtual 111, 3) := by decide +kernel
theorem dX7_readWind_76 : decode cX7_readWind 76 = .ok (.ifCond .eq 7, 3) := by decide +kernel
theorem dX7_readWind_79 : decode cX7_readWind 79 = .ok (.iconst 4, 1) := by decide +kernel
theorem dX7_readWind_80 : decode cX7_readWind 80 = .ok (.goto 4, 3) := by decide +kernel
theorem dX7_readWind_83 : decode cX7_readWind 83 = .ok (.iconst (-1), 1) := by decide +kernel
theorem dX7_readWind_84 : decode cX7_readWind 84 = .ok (.istore 4, 2) := by decide +kernel
theorem dX7_readWind_86 : decode cX7_readWind 86 = .ok (.iload 4, 2) := by decide +kernel
theorem dX7_readWind_88 : decode cX7_readWind 88 = .ok (.ifCond .ge 9, 3) := by decide +kernel
theorem dX7_readWind_91 : decode cX7_readWind 91 = .ok (.aload_n 0, 1) := by decide +kernel
theorem dX7_readWind_92 : decode cX7_readWind 92 = .ok (.iconst 1, 1) := by decide +kernel
theorem dX7_readWind_93 : decode cX7_readWind 93 = .ok (.invokevirtual 114, 3) := by decide +kernel
theorem dX7_readWind_96 : decode cX7_readWind 96 = .ok (.ireturn, 1) := by decide +kernel
theorem dX7_readWind_97 : decode cX7_readWind 97 = .ok (.aload_n 0, 1) := by decide +kernel
theorem dX7_readWind_98 : decode cX7_readWind 98 = .ok (.getfield 28, 3) := by decide +kernel
theorem dX7_readWind_101 : decode cX7_readWind 101 = .ok (.iload_n 2, 1) := by decide +kernel
theorem dX7_readWind_102 : decode cX7_readWind 102 = .ok (.iload_n 3, 1) := by decide +kernel
theorem dX7_readWind_103 : decode cX7_readWind 103 = .ok (.iadd, 1) := by decide +kernel
theorem dX7_readWind_104 : decode cX7_readWind 104 = .ok (.iload 4, 2) := by decide +kernel
theorem dX7_readWind_106 : decode cX7_readWind 106 = .ok (.iastore, 1) := by decide +kernel
theorem dX7_readWind_107 : decode cX7_readWind 107 = .ok (.aload_n 0, 1) := by decide +kernel
theorem dX7_readWind_108 : decode cX7_readWind 108 = .ok (.invokevirtual 117, 3) := by decide +kernel
theorem dX7_readWind_111 : decode cX7_readWind 111 = .ok (.iinc 3 1, 3) := by decide +kernel
theorem dX7_readWind_114 : decode cX7_readWind 114 = .ok (.goto (-102), 3) := by decide +kernel
theorem dX7_readWind_117 : decode cX7_readWind 117 = .ok (.aload_n 0, 1) := by decide +kernel
theorem dX7_readWind_118 : decode cX7_readWind 118 = .ok (.bipush 59, 2) := by decide +kernel
theorem dX7_readWind_120 : decode cX7_readWind 120 = .ok (.invokevirtual 120, 3) := by decide +kernel
theorem dX7_readWind_123 : decode cX7_readWind 123 = .ok (.ireturn, 1) := by decide +kernel
theorem dX7_readLaw_0 : decode cX7_readLaw 0 = .ok (.aload_n 0, 1) := by decide +kernel
theorem dX7_readLaw_1 : decode cX7_readLaw 1 = .ok (.bipush 107, 2) := by decide +kernel
theorem dX7_readLaw_3 : decode cX7_readLaw 3 = .ok (.invokevirtual 120, 3) := by decide +kernel
theorem dX7_readLaw_6 : decode cX7_readLaw 6 = .ok (.ifCond .eq 13, 3) := by decide +kernel
theorem dX7_readLaw_9 : decode cX7_readLaw 9 = .ok (.aload_n 0, 1) := by decide +kernel
theorem dX7_readLaw_10 : decode cX7_readLaw 10 = .ok (.iconst 1, 1) := by decide +kernel
theorem dX7_readLaw_11 : decode cX7_readLaw 11 = .ok (.bipush 9, 2) := by decide +kernel
theorem dX7_readLaw_13 : decode cX7_readLaw 13 = .ok (.invokevirtual 123, 3) := by decide +kernel
theorem dX7_readLaw_16 : decode cX7_readLaw 16 = .ok (.ifCond .ne 5, 3) := by decide +kernel
theorem dX7_readLaw_19 : decode cX7_readLaw 19 = .ok (.iconst 0, 1) := by decide +kernel
theorem dX7_readLaw_20 : decode cX7_readLaw 20 = .ok (.ireturn, 1) := by decide +kernel
theorem dX7_readLaw_21 : decode cX7_readLaw 21 = .ok (.aload_n 0, 1) := by decide +kernel
theorem dX7_readLaw_22 : decode cX7_readLaw 22 = .ok (.getfield 28, 3) := by decide +kernel
theorem dX7_readLaw_25 : decode cX7_readLaw 25 = .ok (.bipush 44, 2) := by decide +kernel
theorem dX7_readLaw_27 : decode cX7_readLaw 27 = .ok (.aload_n 0, 1) := by decide +kernel
theorem dX7_readLaw_28 : decode cX7_readLaw 28 = .ok (.invokevirtual 127, 3) := by decide +kernel
theorem dX7_readLaw_31 : decode cX7_readLaw 31 = .ok (.iastore, 1) := by decide +kernel
theorem dX7_readLaw_32 : decode cX7_readLaw 32 = .ok (.aload_n 0, 1) := by decide +kernel
theorem dX7_readLaw_33 : decode cX7_readLaw 33 = .ok (.bipush 44, 2) := by decide +kernel
theorem dX7_readLaw_35 : decode cX7_readLaw 35 = .ok (.invokevirtual 120, 3) := by decide +kernel
theorem dX7_readLaw_38 : decode cX7_readLaw 38 = .ok (.ifCond .eq 13, 3) := by decide +kernel
theorem dX7_readLaw_41 : decode cX7_readLaw 41 = .ok (.aload_n 0, 1) := by decide +kernel
theorem dX7_readLaw_42 : decode cX7_readLaw 42 = .ok (.iconst 0, 1) := by decide +kernel
theorem dX7_readLaw_43 : decode cX7_readLaw 43 = .ok (.bipush 9, 2) := by decide +kernel
theorem dX7_readLaw_45 : decode cX7_readLaw 45 = .ok (.invokevirtual 123, 3) := by decide +kernel
theorem dX7_readLaw_48 : decode cX7_readLaw 48 = .ok (.ifCond .ne 5, 3) := by decide +kernel
theorem dX7_readLaw_51 : decode cX7_readLaw 51 = .ok (.iconst 0, 1) := by decide +kernel
theorem dX7_readLaw_52 : decode cX7_readLaw 52 = .ok (.ireturn, 1) := by decide +kernel
theorem dX7_readLaw_53 : decode cX7_readLaw 53 = .ok (.aload_n 0, 1) := by decide +kernel
theorem dX7_readLaw_54 : decode cX7_readLaw 54 = .ok (.getfield 28, 3) := by decide +kernel
theorem dX7_readLaw_57 : decode cX7_readLaw 57 = .ok (.bipush 45, 2) := by decide +kernel
theorem dX7_readLaw_59 : decode cX7_readLaw 59 = .ok (.aload_n 0, 1) := by decide +kernel
theorem dX7_readLaw_60 : decode cX7_readLaw 60 = .ok (.invokevirtual 127, 3) := by decide +kernel
theorem dX7_readLaw_63 : decode cX7_readLaw 63 = .ok (.iastore, 1) := by decide +kernel
theorem dX7_readLaw_64 : decode cX7_readLaw 64 = .ok (.aload_n 0, 1) := by decide +kernel
theorem dX7_readLaw_65 : decode cX7_readLaw 65 = .ok (.bipush 59, 2) := by decide +kernel
theorem dX7_readLaw_67 : decode cX7_readLaw 67 = .ok (.invokevirtual 120, 3) := by decide +kernel
theorem dX7_readLaw_70 : decode cX7_readLaw 70 = .ok (.ireturn, 1) := by decide +kernel
theorem dX7_readParish_0 : decode cX7_readParish 0 = .ok (.aload_n 0, 1) := by decide +kernel
theorem dX7_readParish_1 : decode cX7_readParish 1 = .ok (.getfield 28, 3) := by decide +kernel
theorem dX7_readParish_4 : decode cX7_readParish 4 = .ok (.bipush 49, 2) := by decide +kernel
theorem dX7_readParish_6 : decode cX7_readParish 6 = .ok (.iaload, 1) := by decide +kernel
theorem dX7_readParish_7 : decode cX7_readParish 7 = .ok (.bipush 8, 2) := by decide +kernel
theorem dX7_readParish_9 : decode cX7_readParish 9 = .ok (.if_icmp .ne 9, 3) := by decide +kernel
theorem dX7_readParish_12 : decode cX7_readParish 12 = .ok (.aload_n 0, 1) := by decide +kernel
theorem dX7_readParish_13 : decode cX7_readParish 13 = .ok (.iconst 3, 1) := by decide +kernel
theorem dX7_readParish_14 : decode cX7_readParish 14 = .ok (.invokevirtual 114, 3) := by decide +kernel
theorem dX7_readParish_17 : decode cX7_readParish 17 = .ok (.ireturn, 1) := by decide +kernel
theorem dX7_readParish_18 : decode cX7_readParish 18 = .ok (.aload_n 0, 1) := by decide +kernel
theorem dX7_readParish_19 : decode cX7_readParish 19 = .ok (.invokevirtual 117, 3) := by decide +kernel
theorem dX7_readParish_22 : decode cX7_readParish 22 = .ok (.aload_n 0, 1) := by decide +kernel
theorem dX7_readParish_23 : decode cX7_readParish 23 = .ok (.iconst 0, 1) := by decide +kernel
theorem dX7_readParish_24 : decode cX7_readParish 24 = .ok (.bipush 31, 2) := by decide +kernel
theorem dX7_readParish_26 : decode cX7_readParish 26 = .ok (.invokevirtual 123, 3) := by decide +kernel
theorem dX7_readParish_29 : decode cX7_readParish 29 = .ok (.ifCond .eq 26, 3) := by decide +kernel
theorem dX7_readParish_32 : decode cX7_readParish 32 = .ok (.aload_n 0, 1) := by decide +kernel
theorem dX7_readParish_33 : decode cX7_readParish 33 = .ok (.getfield 28, 3) := by decide +kernel
theorem dX7_readParish_36 : decode cX7_readParish 36 = .ok (.bipush 12, 2) := by decide +kernel
theorem dX7_readParish_38 : decode cX7_readParish 38 = .ok (.aload_n 0, 1) := by decide +kernel
theorem dX7_readParish_39 : decode cX7_readParish 39 = .ok (.getfield 97, 3) := by decide +kernel
theorem dX7_readParish_42 : decode cX7_readParish 42 = .ok (.iadd, 1) := by decide +kernel
theorem dX7_readParish_43 : decode cX7_readParish 43 = .ok (.iaload, 1) := by decide +kernel
theorem dX7_readParish_44 : decode cX7_readParish 44 = .ok (.ifCond .le 13, 3) := by decide +kernel
theorem dX7_readParish_47 : decode cX7_readParish 47 = .ok (.aload_n 0, 1) := by decide +kernel
theorem dX7_readParish_48 : decode cX7_readParish 48 = .ok (.iconst 2, 1) := by decide +kernel
theorem dX7_readParish_49 : decode cX7_readParish 49 = .ok (.invokevirtual 114, 3) := by decide +kernel
theorem dX7_readParish_52 : decode cX7_readParish 52 = .ok (.ifCond .ne 5, 3) := by decide +kernel
theorem dX7_readParish_55 : decode cX7_readParish 55 = .ok (.iconst 0, 1) := by decide +kernel
theorem dX7_readParish_56 : decode cX7_readParish 56 = .ok (.ireturn, 1) := by decide +kernel
theorem dX7_readParish_57 : decode cX7_readParish 57 = .ok (.aload_n 0, 1) := by decide +kernel
theorem dX7_readParish_58 : decode cX7_readParish 58 = .ok (.getfield 28, 3) := by decide +kernel
theorem dX7_readParish_61 : decode cX7_readParish 61 = .ok (.bipush 12, 2) := by decide +kernel
theorem dX7_readParish_63 : decode cX7_readParish 63 = .ok (.aload_n 0, 1) := by decide +kernel
theorem dX7_readParish_64 : decode cX7_readParish 64 = .ok (.invokevirtual 127, 3) := by decide +kernel
theorem dX7_readParish_67 : decode cX7_readParish 67 = .ok (.iadd, 1) := by decide +kernel
theorem dX7_readParish_68 : decode cX7_readParish 68 = .ok (.iload_n 1, 1) := by decide +kernel
theorem dX7_readParish_69 : decode cX7_readParish 69 = .ok (.iastore, 1) := by decide +kernel
theorem dX7_readParish_70 : decode cX7_readParish 70 = .ok (.aload_n 0, 1) := by decide +kernel
theorem dX7_readParish_71 : decode cX7_readParish 71 = .ok (.getfield 28, 3) := by decide +kernel
theorem dX7_readParish_74 : decode cX7_readParish 74 = .ok (.bipush 49, 2) := by decide +kernel
theorem dX7_readParish_76 : decode cX7_readParish 76 = .ok (.dup2, 1) := by decide +kernel
theorem dX7_readParish_77 : decode cX7_readParish 77 = .ok (.iaload, 1) := by decide +kernel
theorem dX7_readParish_78 : decode cX7_readParish 78 = .ok (.iconst 1, 1) := by decide +kernel
theorem dX7_readParish_79 : decode cX7_readParish 79 = .ok (.iadd, 1) := by decide +kernel
theorem dX7_readParish_80 : decode cX7_readParish 80 = .ok (.iastore, 1) := by decide +kernel
theorem dX7_readParish_81 : decode cX7_readParish 81 = .ok (.aload_n 0, 1) := by decide +kernel
theorem dX7_readParish_82 : decode cX7_readParish 82 = .ok (.bipush 59, 2) := by decide +kernel
theorem dX7_readParish_84 : decode cX7_readParish 84 = .ok (.invokevirtual 120, 3) := by decide +kernel
theorem dX7_readParish_87 : decode cX7_readParish 87 = .ok (.ireturn, 1) := by decide +kernel
theorem dX7_isTaken_0 : decode cX7_isTaken 0 = .ok (.iconst 0, 1) := by decide +kernel
theorem dX7_isTaken_1 : decode cX7_isTaken 1 = .ok (.istore_n 2, 1) := by decide +kernel
theorem dX7_isTaken_2 : decode cX7_isTaken 2 = .ok (.iconst 0, 1) := by decide +kernel
theorem dX7_isTaken_3 : decode cX7_isTaken 3 = .ok (.istore_n 3, 1) := by decide +kernel
theorem dX7_isTaken_4 : decode cX7_isTaken 4 = .ok (.iload_n 3, 1) := by decide +kernel
theorem dX7_isTaken_5 : decode cX7_isTaken 5 = .ok (.aload_n 0, 1) := by decide +kernel
theorem dX7_isTaken_6 : decode cX7_isTaken 6 = .ok (.getfield 28, 3) := by decide +kernel
theorem dX7_isTaken_9 : decode cX7_isTaken 9 = .ok (.bipush 50, 2) := by decide +kernel
theorem dX7_isTaken_11 : decode cX7_isTaken 11 = .ok (.iaload, 1) := by decide +kernel
theorem dX7_isTaken_12 : decode cX7_isTaken 12 = .ok (.if_icmp .ge 32, 3) := by decide +kernel
theorem dX7_isTaken_15 : decode cX7_isTaken 15 = .ok (.iload_n 2, 1) := by decide +kernel
theorem dX7_isTaken_16 : decode cX7_isTaken 16 = .ok (.ifCond .ne 16, 3) := by decide +kernel
theorem dX7_isTaken_19 : decode cX7_isTaken 19 = .ok (.aload_n 0, 1) := by decide +kernel
theorem dX7_isTaken_20 : decode cX7_isTaken 20 = .ok (.getfield 28, 3) := by decide +kernel
theorem dX7_isTaken_23 : decode cX7_isTaken 23 = .ok (.bipush 56, 2) := by decide +kernel
theorem dX7_isTaken_25 : decode cX7_isTaken 25 = .ok (.iload_n 3, 1) := by decide +kernel
theorem dX7_isTaken_26 : decode cX7_isTaken 26 = .ok (.iadd, 1) := by decide +kernel
theorem dX7_isTaken_27 : decode cX7_isTaken 27 = .ok (.iaload, 1) := by decide +kernel
theorem dX7_isTaken_28 : decode cX7_isTaken 28 = .ok (.iload_n 1, 1) := by decide +kernel
theorem dX7_isTaken_29 : decode cX7_isTaken 29 = .ok (.if_icmp .ne 7, 3) := by decide +kernel
theorem dX7_isTaken_32 : decode cX7_isTaken 32 = .ok (.iconst 1, 1) := by decide +kernel
theorem dX7_isTaken_33 : decode cX7_isTaken 33 = .ok (.goto 4, 3) := by decide +kernel
theorem dX7_isTaken_36 : decode cX7_isTaken 36 = .ok (.iconst 0, 1) := by decide +kernel
theorem dX7_isTaken_37 : decode cX7_isTaken 37 = .ok (.istore_n 2, 1) := by decide +kernel
theorem dX7_isTaken_38 : decode cX7_isTaken 38 = .ok (.iinc 3 1, 3) := by decide +kernel
theorem dX7_isTaken_41 : decode cX7_isTaken 41 = .ok (.goto (-37), 3) := by decide +kernel
theorem dX7_isTaken_44 : decode cX7_isTaken 44 = .ok (.iload_n 2, 1) := by decide +kernel
theorem dX7_isTaken_45 : decode cX7_isTaken 45 = .ok (.ireturn, 1) := by decide +kernel
theorem dX7_readCloud_0 : decode cX7_readCloud 0 = .ok (.aload_n 0, 1) := by decide +kernel
theorem dX7_readCloud_1 : decode cX7_readCloud 1 = .ok (.getfield 28, 3) := by decide +kernel
theorem dX7_readCloud_4 : decode cX7_readCloud 4 = .ok (.bipush 50, 2) := by decide +kernel
theorem dX7_readCloud_6 : decode cX7_readCloud 6 = .ok (.iaload, 1) := by decide +kernel
theorem dX7_readCloud_7 : decode cX7_readCloud 7 = .ok (.istore_n 2, 1) := by decide +kernel
theorem dX7_readCloud_8 : decode cX7_readCloud 8 = .ok (.iload_n 2, 1) := by decide +kernel
theorem dX7_readCloud_9 : decode cX7_readCloud 9 = .ok (.iconst 5, 1) := by decide +kernel
theorem dX7_readCloud_10 : decode cX7_readCloud 10 = .ok (.if_icmp .ne 9, 3) := by decide +kernel
theorem dX7_readCloud_13 : decode cX7_readCloud 13 = .ok (.aload_n 0, 1) := by decide +kernel
theorem dX7_readCloud_14 : decode cX7_readCloud 14 = .ok (.iconst 3, 1) := by decide +kernel
theorem dX7_readCloud_15 : decode cX7_readCloud 15 = .ok (.invokevirtual 114, 3) := by decide +kernel
theorem dX7_readCloud_18 : decode cX7_readCloud 18 = .ok (.ireturn, 1) := by decide +kernel
theorem dX7_readCloud_19 : decode cX7_readCloud 19 = .ok (.aload_n 0, 1) := by decide +kernel
theorem dX7_readCloud_20 : decode cX7_readCloud 20 = .ok (.invokevirtual 117, 3) := by decide +kernel
theorem dX7_readCloud_23 : decode cX7_readCloud 23 = .ok (.aload_n 0, 1) := by decide +kernel
theorem dX7_readCloud_24 : decode cX7_readCloud 24 = .ok (.iconst 0, 1) := by decide +kernel
theorem dX7_readCloud_25 : decode cX7_readCloud 25 = .ok (.bipush 31, 2) := by decide +kernel
theorem dX7_readCloud_27 : decode cX7_readCloud 27 = .ok (.invokevirtual 123, 3) := by decide +kernel
theorem dX7_readCloud_30 : decode cX7_readCloud 30 = .ok (.ifCond .eq 22, 3) := by decide +kernel
theorem dX7_readCloud_33 : decode cX7_readCloud 33 = .ok (.aload_n 0, 1) := by decide +kernel
theorem dX7_readCloud_34 : decode cX7_readCloud 34 = .ok (.aload_n 0, 1) := by decide +kernel
theorem dX7_readCloud_35 : decode cX7_readCloud 35 = .ok (.getfield 97, 3) := by decide +kernel
theorem dX7_readCloud_38 : decode cX7_readCloud 38 = .ok (.invokevirtual 131, 3) := by decide +kernel
theorem dX7_readCloud_41 : decode cX7_readCloud 41 = .ok (.ifCond .eq 13, 3) := by decide +kernel
theorem dX7_readCloud_44 : decode cX7_readCloud 44 = .ok (.aload_n 0, 1) := by decide +kernel
theorem dX7_readCloud_45 : decode cX7_readCloud 45 = .ok (.iconst 2, 1) := by decide +kernel
theorem dX7_readCloud_46 : decode cX7_readCloud 46 = .ok (.invokevirtual 114, 3) := by decide +kernel
theorem dX7_readCloud_49 : decode cX7_readCloud 49 = .ok (.ifCond .ne 5, 3) := by decide +kernel
theorem dX7_readCloud_52 : decode cX7_readCloud 52 = .ok (.iconst 0, 1) := by decide +kernel
theorem dX7_readCloud_53 : decode cX7_readCloud 53 = .ok (.ireturn, 1) := by decide +kernel
theorem dX7_readCloud_54 : decode cX7_readCloud 54 = .ok (.aload_n 0, 1) := by decide +kernel
theorem dX7_readCloud_55 : decode cX7_readCloud 55 = .ok (.getfield 28, 3) := by decide +kernel
theorem dX7_readCloud_58 : decode cX7_readCloud 58 = .ok (.bipush 51, 2) := by decide +kernel
theorem dX7_readCloud_60 : decode cX7_readCloud 60 = .ok (.iload_n 2, 1) := by decide +kernel
theorem dX7_readCloud_61 : decode cX7_readCloud 61 = .ok (.iadd, 1) := by decide +kernel
theorem dX7_readCloud_62 : decode cX7_readCloud 62 = .ok (.iload_n 1, 1) := by decide +kernel
theorem dX7_readCloud_63 : decode cX7_readCloud 63 = .ok (.iastore, 1) := by decide +kernel
theorem dX7_readCloud_64 : decode cX7_readCloud 64 = .ok (.aload_n 0, 1) := by decide +kernel
theorem dX7_readCloud_65 : decode cX7_readCloud 65 = .ok (.getfield 28, 3) := by decide +kernel
theorem dX7_readCloud_68 : decode cX7_readCloud 68 = .ok (.bipush 56, 2) := by decide +kernel
theorem dX7_readCloud_70 : decode cX7_readCloud 70 = .ok (.iload_n 2, 1) := by decide +kernel
theorem dX7_readCloud_71 : decode cX7_readCloud 71 = .ok (.iadd, 1) := by decide +kernel
theorem dX7_readCloud_72 : decode cX7_readCloud 72 = .ok (.aload_n 0, 1) := by decide +kernel
theorem dX7_readCloud_73 : decode cX7_readCloud 73 = .ok (.invokevirtual 127, 3) := by decide +kernel
theorem dX7_readCloud_76 : decode cX7_readCloud 76 = .ok (.iastore, 1) := by decide +kernel
theorem dX7_readCloud_77 : decode cX7_readCloud 77 = .ok (.aload_n 0, 1) := by decide +kernel
theorem dX7_readCloud_78 : decode cX7_readCloud 78 = .ok (.bipush 44, 2) := by decide +kernel
theorem dX7_readCloud_80 : decode cX7_readCloud 80 = .ok (.invokevirtual 120, 3) := by decide +kernel
theorem dX7_readCloud_83 : decode cX7_readCloud 83 = .ok (.ifCond .eq 13, 3) := by decide +kernel
theorem dX7_readCloud_86 : decode cX7_readCloud 86 = .ok (.aload_n 0, 1) := by decide +kernel
theorem dX7_readCloud_87 : decode cX7_readCloud 87 = .ok (.iconst 0, 1) := by decide +kernel
theorem dX7_readCloud_88 : decode cX7_readCloud 88 = .ok (.bipush 20, 2) := by decide +kernel
theorem dX7_readCloud_90 : decode cX7_readCloud 90 = .ok (.invokevirtual 123, 3) := by decide +kernel
theorem dX7_readCloud_93 : decode cX7_readCloud 93 = .ok (.ifCond .ne 5, 3) := by decide +kernel
theorem dX7_readCloud_96 : decode cX7_readCloud 96 = .ok (.iconst 0, 1) := by decide +kernel
theorem dX7_readCloud_97 : decode cX7_readCloud 97 = .ok (.ireturn, 1) := by decide +kernel
theorem dX7_readCloud_98 : decode cX7_readCloud 98 = .ok (.aload_n 0, 1) := by decide +kernel
theorem dX7_readCloud_99 : decode cX7_readCloud 99 = .ok (.getfield 28, 3) := by decide +kernel
theorem dX7_readCloud_102 : decode cX7_readCloud 102 = .ok (.bipush 66, 2) := by decide +kernel
theorem dX7_readCloud_104 : decode cX7_readCloud 104 = .ok (.iload_n 2, 1) := by decide +kernel
theorem dX7_readCloud_105 : decode cX7_readCloud 105 = .ok (.iadd, 1) := by decide +kernel
theorem dX7_readCloud_106 : decode cX7_readCloud 106 = .ok (.aload_n 0, 1) := by decide +kernel
theorem dX7_readCloud_107 : decode cX7_readCloud 107 = .ok (.invokevirtual 127, 3) := by decide +kernel
theorem dX7_readCloud_110 : decode cX7_readCloud 110 = .ok (.iastore, 1) := by decide +kernel
theorem dX7_readCloud_111 : decode cX7_readCloud 111 = .ok (.aload_n 0, 1) := by decide +kernel
theorem dX7_readCloud_112 : decode cX7_readCloud 112 = .ok (.getfield 28, 3) := by decide +kernel
theorem dX7_readCloud_115 : decode cX7_readCloud 115 = .ok (.bipush 76, 2) := by decide +kernel
theorem dX7_readCloud_117 : decode cX7_readCloud 117 = .ok (.iload_n 2, 1) := by decide +kernel
theorem dX7_readCloud_118 : decode cX7_readCloud 118 = .ok (.iadd, 1) := by decide +kernel
theorem dX7_readCloud_119 : decode cX7_readCloud 119 = .ok (.iconst 1, 1) := by decide +kernel
theorem dX7_readCloud_120 : decode cX7_readCloud 120 = .ok (.iastore, 1) := by decide +kernel
theorem dX7_readCloud_121 : decode cX7_readCloud 121 = .ok (.aload_n 0, 1) := by decide +kernel
theorem dX7_readCloud_122 : decode cX7_readCloud 122 = .ok (.getfield 28, 3) := by decide +kernel
theorem dX7_readCloud_125 : decode cX7_readCloud 125 = .ok (.bipush 50, 2) := by decide +kernel
theorem dX7_readCloud_127 : decode cX7_readCloud 127 = .ok (.dup2, 1) := by decide +kernel
theorem dX7_readCloud_128 : decode cX7_readCloud 128 = .ok (.iaload, 1) := by decide +kernel
theorem dX7_readCloud_129 : decode cX7_readCloud 129 = .ok (.iconst 1, 1) := by decide +kernel
theorem dX7_readCloud_130 : decode cX7_readCloud 130 = .ok (.iadd, 1) := by decide +kernel
theorem dX7_readCloud_131 : decode cX7_readCloud 131 = .ok (.iastore, 1) := by decide +kernel
theorem dX7_readCloud_132 : decode cX7_readCloud 132 = .ok (.aload_n 0, 1) := by decide +kernel
theorem dX7_readCloud_133 : decode cX7_readCloud 133 = .ok (.bipush 59, 2) := by decide +kernel
theorem dX7_readCloud_135 : decode cX7_readCloud 135 = .ok (.invokevirtual 120, 3) := by decide +kernel
theorem dX7_readCloud_138 : decode cX7_readCloud 138 = .ok (.ireturn, 1) := by decide +kernel
theorem dX7_readHerd_0 : decode cX7_readHerd 0 = .ok (.aload_n 0, 1) := by decide +kernel
theorem dX7_readHerd_1 : decode cX7_readHerd 1 = .ok (.iconst 0, 1) := by decide +kernel
theorem dX7_readHerd_2 : decode cX7_readHerd 2 = .ok (.putfield 88, 3) := by decide +kernel
theorem dX7_readHerd_5 : decode cX7_readHerd 5 = .ok (.iconst 0, 1) := by decide +kernel
theorem dX7_readHerd_6 : decode cX7_readHerd 6 = .ok (.istore_n 1, 1) := by decide +kernel
theorem dX7_readHerd_7 : decode cX7_readHerd 7 = .ok (.iload_n 1, 1) := by decide +kernel
theorem dX7_readHerd_8 : decode cX7_readHerd 8 = .ok (.bipush 82, 2) := by decide +kernel
theorem dX7_readHerd_10 : decode cX7_readHerd 10 = .ok (.if_icmp .ge 16, 3) := by decide +kernel
theorem dX7_readHerd_13 : decode cX7_readHerd 13 = .ok (.aload_n 0, 1) := by decide +kernel
theorem dX7_readHerd_14 : decode cX7_readHerd 14 = .ok (.getfield 28, 3) := by decide +kernel
theorem dX7_readHerd_17 : decode cX7_readHerd 17 = .ok (.iload_n 1, 1) := by decide +kernel
theorem dX7_readHerd_18 : decode cX7_readHerd 18 = .ok (.iconst 0, 1) := by decide +kernel
theorem dX7_readHerd_19 : decode cX7_readHerd 19 = .ok (.iastore, 1) := by decide +kernel
theorem dX7_readHerd_20 : decode cX7_readHerd 20 = .ok (.iinc 1 1, 3) := by decide +kernel
theorem dX7_readHerd_23 : decode cX7_readHerd 23 = .ok (.goto (-16), 3) := by decide +kernel
theorem dX7_readHerd_26 : decode cX7_readHerd 26 = .ok (.aload_n 0, 1) := by decide +kernel
theorem dX7_readHerd_27 : decode cX7_readHerd 27 = .ok (.invokevirtual 117, 3) := by decide +kernel
theorem dX7_readHerd_30 : decode cX7_readHerd 30 = .ok (.aload_n 0, 1) := by decide +kernel
theorem dX7_readHerd_31 : decode cX7_readHerd 31 = .ok (.invokevirtual 134, 3) := by decide +kernel
theorem dX7_readHerd_34 : decode cX7_readHerd 34 = .ok (.ifCond .eq 24, 3) := by decide +kernel
theorem dX7_readHerd_37 : decode cX7_readHerd 37 = .ok (.aload_n 0, 1) := by decide +kernel
theorem dX7_readHerd_38 : decode cX7_readHerd 38 = .ok (.bipush 108, 2) := by decide +kernel
theorem dX7_readHerd_40 : decode cX7_readHerd 40 = .ok (.iconst 0, 1) := by decide +kernel
theorem dX7_readHerd_41 : decode cX7_readHerd 41 = .ok (.invokevirtual 138, 3) := by decide +kernel
theorem dX7_readHerd_44 : decode cX7_readHerd 44 = .ok (.ifCond .eq 14, 3) := by decide +kernel
theorem dX7_readHerd_47 : decode cX7_readHerd 47 = .ok (.aload_n 0, 1) := by decide +kernel
theorem dX7_readHerd_48 : decode cX7_readHerd 48 = .ok (.bipush 117, 2) := by decide +kernel
theorem dX7_readHerd_50 : decode cX7_readHerd 50 = .ok (.bipush 6, 2) := by decide +kernel
theorem dX7_readHerd_52 : decode cX7_readHerd 52 = .ok (.invokevirtual 138, 3) := by decide +kernel
theorem dX7_readHerd_55 : decode cX7_readHerd 55 = .ok (.ifCond .ne 5, 3) := by decide +kernel
theorem dX7_readHerd_58 : decode cX7_readHerd 58 = .ok (.iconst 0, 1) := by decide +kernel
theorem dX7_readHerd_59 : decode cX7_readHerd 59 = .ok (.ireturn, 1) := by decide +kernel
theorem dX7_readHerd_60 : decode cX7_readHerd 60 = .ok (.iconst 1, 1) := by decide +kernel
theorem dX7_readHerd_61 : decode cX7_readHerd 61 = .ok (.istore_n 1, 1) := by decide +kernel
theorem dX7_readHerd_62 : decode cX7_readHerd 62 = .ok (.iload_n 1, 1) := by decide +kernel
theorem dX7_readHerd_63 : decode cX7_readHerd 63 = .ok (.ifCond .eq 162, 3) := by decide +kernel
theorem dX7_readHerd_66 : decode cX7_readHerd 66 = .ok (.aload_n 0, 1) := by decide +kernel
theorem dX7_readHerd_67 : decode cX7_readHerd 67 = .ok (.getfield 94, 3) := by decide +kernel
theorem dX7_readHerd_70 : decode cX7_readHerd 70 = .ok (.iconst 3, 1) := by decide +kernel
theorem dX7_readHerd_71 : decode cX7_readHerd 71 = .ok (.if_icmp .eq 154, 3) := by decide +kernel
theorem dX7_readHerd_74 : decode cX7_readHerd 74 = .ok (.aload_n 0, 1) := by decide +kernel
theorem dX7_readHerd_75 : decode cX7_readHerd 75 = .ok (.bipush 102, 2) := by decide +kernel
theorem dX7_readHerd_77 : decode cX7_readHerd 77 = .ok (.invokevirtual 111, 3) := by decide +kernel
theorem dX7_readHerd_80 : decode cX7_readHerd 80 = .ok (.ifCond .eq 7, 3) := by decide +kernel
theorem dX7_readHerd_83 : decode cX7_readHerd 83 = .ok (.iconst 1, 1) := by decide +kernel
theorem dX7_readHerd_84 : decode cX7_readHerd 84 = .ok (.goto 30, 3) := by decide +kernel
theorem dX7_readHerd_87 : decode cX7_readHerd 87 = .ok (.aload_n 0, 1) := by decide +kernel
theorem dX7_readHerd_88 : decode cX7_readHerd 88 = .ok (.bipush 104, 2) := by decide +kernel
theorem dX7_readHerd_90 : decode cX7_readHerd 90 = .ok (.invokevirtual 111, 3) := by decide +kernel
theorem dX7_readHerd_93 : decode cX7_readHerd 93 = .ok (.ifCond .eq 7, 3) := by decide +kernel
theorem dX7_readHerd_96 : decode cX7_readHerd 96 = .ok (.iconst 2, 1) := by decide +kernel
theorem dX7_readHerd_97 : decode cX7_readHerd 97 = .ok (.goto 17, 3) := by decide +kernel
theorem dX7_readHerd_100 : decode cX7_readHerd 100 = .ok (.aload_n 0, 1) := by decide +kernel
theorem dX7_readHerd_101 : decode cX7_readHerd 101 = .ok (.bipush 109, 2) := by decide +kernel
theorem dX7_readHerd_103 : decode cX7_readHerd 103 = .ok (.invokevirtual 111, 3) := by decide +kernel
theorem dX7_readHerd_106 : decode cX7_readHerd 106 = .ok (.ifCond .eq 7, 3) := by decide +kernel
theorem dX7_readHerd_109 : decode cX7_readHerd 109 = .ok (.iconst 3, 1) := by decide +kernel
theorem dX7_readHerd_110 : decode cX7_readHerd 110 = .ok (.goto 4, 3) := by decide +kernel
theorem dX7_readHerd_113 : decode cX7_readHerd 113 = .ok (.iconst 0, 1) := by decide +kernel
theorem dX7_readHerd_114 : decode cX7_readHerd 114 = .ok (.istore_n 2, 1) := by decide +kernel
theorem dX7_readHerd_115 : decode cX7_readHerd 115 = .ok (.aload_n 0, 1) := by decide +kernel
theorem dX7_readHerd_116 : decode cX7_readHerd 116 = .ok (.bipush 97, 2) := by decide +kernel
theorem dX7_readHerd_118 : decode cX7_readHerd 118 = .ok (.invokevirtual 111, 3) := by decide +kernel
theorem dX7_readHerd_121 : decode cX7_readHerd 121 = .ok (.ifCond .eq 7, 3) := by decide +kernel
theorem dX7_readHerd_124 : decode cX7_readHerd 124 = .ok (.iconst 1, 1) := by decide +kernel
theorem dX7_readHerd_125 : decode cX7_readHerd 125 = .ok (.goto 56, 3) := by decide +kernel
theorem dX7_readHerd_128 : decode cX7_readHerd 128 = .ok (.aload_n 0, 1) := by decide +kernel
theorem dX7_readHerd_129 : decode cX7_readHerd 129 = .ok (.bipush 112, 2) := by decide +kernel
theorem dX7_readHerd_131 : decode cX7_readHerd 131 = .ok (.invokevirtual 111, 3) := by decide +kernel
theorem dX7_readHerd_134 : decode cX7_readHerd 134 = .ok (.ifCond .eq 7, 3) := by decide +kernel
theorem dX7_readHerd_137 : decode cX7_readHerd 137 = .ok (.iconst 2, 1) := by decide +kernel
theorem dX7_readHerd_138 : decode cX7_readHerd 138 = .ok (.goto 43, 3) := by decide +kernel
theorem dX7_readHerd_141 : decode cX7_readHerd 141 = .ok (.aload_n 0, 1) := by decide +kernel
theorem dX7_readHerd_142 : decode cX7_readHerd 142 = .ok (.bipush 98, 2) := by decide +kernel
theorem dX7_readHerd_144 : decode cX7_readHerd 144 = .ok (.invokevirtual 111, 3) := by decide +kernel
theorem dX7_readHerd_147 : decode cX7_readHerd 147 = .ok (.ifCond .eq 7, 3) := by decide +kernel
theorem dX7_readHerd_150 : decode cX7_readHerd 150 = .ok (.iconst 3, 1) := by decide +kernel
theorem dX7_readHerd_151 : decode cX7_readHerd 151 = .ok (.goto 30, 3) := by decide +kernel
theorem dX7_readHerd_154 : decode cX7_readHerd 154 = .ok (.aload_n 0, 1) := by decide +kernel
theorem dX7_readHerd_155 : decode cX7_readHerd 155 = .ok (.bipush 103, 2) := by decide +kernel
theorem dX7_readHerd_157 : decode cX7_readHerd 157 = .ok (.invokevirtual 111, 3) := by decide +kernel
theorem dX7_readHerd_160 : decode cX7_readHerd 160 = .ok (.ifCond .eq 7, 3) := by decide +kernel
theorem dX7_readHerd_163 : decode cX7_readHerd 163 = .ok (.iconst 4, 1) := by decide +kernel
theorem dX7_readHerd_164 : decode cX7_readHerd 164 = .ok (.goto 17, 3) := by decide +kernel
theorem dX7_readHerd_167 : decode cX7_readHerd 167 = .ok (.aload_n 0, 1) := by decide +kernel
theorem dX7_readHerd_168 : decode cX7_readHerd 168 = .ok (.bipush 121, 2) := by decide +kernel
theorem dX7_readHerd_170 : decode cX7_readHerd 170 = .ok (.invokevirtual 111, 3) := by decide +kernel
theorem dX7_readHerd_173 : decode cX7_readHerd 173 = .ok (.ifCond .eq 7, 3) := by decide +kernel
theorem dX7_readHerd_176 : decode cX7_readHerd 176 = .ok (.iconst 5, 1) := by decide +kernel
theorem dX7_readHerd_177 : decode cX7_readHerd 177 = .ok (.goto 4, 3) := by decide +kernel
theorem dX7_readHerd_180 : decode cX7_readHerd 180 = .ok (.iconst 0, 1) := by decide +kernel
theorem dX7_readHerd_181 : decode cX7_readHerd 181 = .ok (.istore_n 3, 1) := by decide +kernel
theorem dX7_readHerd_182 : decode cX7_readHerd 182 = .ok (.iload_n 2, 1) := by decide +kernel
theorem dX7_readHerd_183 : decode cX7_readHerd 183 = .ok (.ifCond .le 21, 3) := by decide +kernel
theorem dX7_readHerd_186 : decode cX7_readHerd 186 = .ok (.aload_n 0, 1) := by decide +kernel
theorem dX7_readHerd_187 : decode cX7_readHerd 187 = .ok (.getfield 28, 3) := by decide +kernel
theorem dX7_readHerd_190 : decode cX7_readHerd 190 = .ok (.bipush 50, 2) := by decide +kernel
theorem dX7_readHerd_192 : decode cX7_readHerd 192 = .ok (.iaload, 1) := by decide +kernel
theorem dX7_readHerd_193 : decode cX7_readHerd 193 = .ok (.ifCond .ne 11, 3) := by decide +kernel
theorem dX7_readHerd_196 : decode cX7_readHerd 196 = .ok (.aload_n 0, 1) := by decide +kernel
theorem dX7_readHerd_197 : decode cX7_readHerd 197 = .ok (.iload_n 2, 1) := by decide +kernel
theorem dX7_readHerd_198 : decode cX7_readHerd 198 = .ok (.invokevirtual 141, 3) := by decide +kernel
theorem dX7_readHerd_201 : decode cX7_readHerd 201 = .ok (.goto 20, 3) := by decide +kernel
theorem dX7_readHerd_204 : decode cX7_readHerd 204 = .ok (.iload_n 3, 1) := by decide +kernel
theorem dX7_readHerd_205 : decode cX7_readHerd 205 = .ok (.ifCond .le 11, 3) := by decide +kernel
theorem dX7_readHerd_208 : decode cX7_readHerd 208 = .ok (.aload_n 0, 1) := by decide +kernel
theorem dX7_readHerd_209 : decode cX7_readHerd 209 = .ok (.iload_n 3, 1) := by decide +kernel
theorem dX7_readHerd_210 : decode cX7_readHerd 210 = .ok (.invokevirtual 144, 3) := by decide +kernel
theorem dX7_readHerd_213 : decode cX7_readHerd 213 = .ok (.goto 8, 3) := by decide +kernel
theorem dX7_readHerd_216 : decode cX7_readHerd 216 = .ok (.aload_n 0, 1) := by decide +kernel
theorem dX7_readHerd_217 : decode cX7_readHerd 217 = .ok (.iconst 1, 1) := by decide +kernel
theorem dX7_readHerd_218 : decode cX7_readHerd 218 = .ok (.invokevirtual 114, 3) := by decide +kernel
theorem dX7_readHerd_221 : decode cX7_readHerd 221 = .ok (.istore_n 1, 1) := by decide +kernel
theorem dX7_readHerd_222 : decode cX7_readHerd 222 = .ok (.goto (-160), 3) := by decide +kernel
theorem dX7_readHerd_225 : decode cX7_readHerd 225 = .ok (.iload_n 1, 1) := by decide +kernel
theorem dX7_readHerd_226 : decode cX7_readHerd 226 = .ok (.ireturn, 1) := by decide +kernel
theorem dX7_herd_0 : decode cX7_herd 0 = .ok (.aload_n 0, 1) := by decide +kernel
theorem dX7_herd_1 : decode cX7_herd 1 = .ok (.invokevirtual 147, 3) := by decide +kernel
theorem dX7_herd_4 : decode cX7_herd 4 = .ok (.istore_n 1, 1) := by decide +kernel
theorem dX7_herd_5 : decode cX7_herd 5 = .ok (.aload_n 0, 1) := by decide +kernel
theorem dX7_herd_6 : decode cX7_herd 6 = .ok (.iconst 0, 1) := by decide +kernel
theorem dX7_herd_7 : decode cX7_herd 7 = .ok (.putfield 84, 3) := by decide +kernel
theorem dX7_herd_10 : decode cX7_herd 10 = .ok (.iload_n 1, 1) := by decide +kernel
theorem dX7_herd_11 : decode cX7_herd 11 = .ok (.ifCond .ne 19, 3) := by decide +kernel
theorem dX7_herd_14 : decode cX7_herd 14 = .ok (.aload_n 0, 1) := by decide +kernel
theorem dX7_herd_15 : decode cX7_herd 15 = .ok (.aload_n 0, 1) := by decide +kernel
theorem dX7_herd_16 : decode cX7_herd 16 = .ok (.getfield 108, 3) := by decide +kernel
theorem dX7_herd_19 : decode cX7_herd 19 = .ok (.putfield 150, 3) := by decide +kernel
theorem dX7_herd_22 : decode cX7_herd 22 = .ok (.ldc 153, 2) := by decide +kernel
theorem dX7_herd_24 : decode cX7_herd 24 = .ok (.aload_n 0, 1) := by decide +kernel
theorem dX7_herd_25 : decode cX7_herd 25 = .ok (.getfield 91, 3) := by decide +kernel
theorem dX7_herd_28 : decode cX7_herd 28 = .ok (.isub, 1) := by decide +kernel
theorem dX7_herd_29 : decode cX7_herd 29 = .ok (.ireturn, 1) := by decide +kernel
theorem dX7_herd_30 : decode cX7_herd 30 = .ok (.iconst 0, 1) := by decide +kernel
theorem dX7_herd_31 : decode cX7_herd 31 = .ok (.istore_n 2, 1) := by decide +kernel
theorem dX7_herd_32 : decode cX7_herd 32 = .ok (.iload_n 2, 1) := by decide +kernel
theorem dX7_herd_33 : decode cX7_herd 33 = .ok (.bipush 82, 2) := by decide +kernel
theorem dX7_herd_35 : decode cX7_herd 35 = .ok (.if_icmp .ge 21, 3) := by decide +kernel
theorem dX7_herd_38 : decode cX7_herd 38 = .ok (.aload_n 0, 1) := by decide +kernel
theorem dX7_herd_39 : decode cX7_herd 39 = .ok (.getfield 19, 3) := by decide +kernel
theorem dX7_herd_42 : decode cX7_herd 42 = .ok (.iload_n 2, 1) := by decide +kernel
theorem dX7_herd_43 : decode cX7_herd 43 = .ok (.aload_n 0, 1) := by decide +kernel
theorem dX7_herd_44 : decode cX7_herd 44 = .ok (.getfield 28, 3) := by decide +kernel
theorem dX7_herd_47 : decode cX7_herd 47 = .ok (.iload_n 2, 1) := by decide +kernel
theorem dX7_herd_48 : decode cX7_herd 48 = .ok (.iaload, 1) := by decide +kernel
theorem dX7_herd_49 : decode cX7_herd 49 = .ok (.iastore, 1) := by decide +kernel
theorem dX7_herd_50 : decode cX7_herd 50 = .ok (.iinc 2 1, 3) := by decide +kernel
theorem dX7_herd_53 : decode cX7_herd 53 = .ok (.goto (-21), 3) := by decide +kernel
theorem dX7_herd_56 : decode cX7_herd 56 = .ok (.aload_n 0, 1) := by decide +kernel
theorem dX7_herd_57 : decode cX7_herd 57 = .ok (.iconst 1, 1) := by decide +kernel
theorem dX7_herd_58 : decode cX7_herd 58 = .ok (.putfield 154, 3) := by decide +kernel
theorem dX7_herd_61 : decode cX7_herd 61 = .ok (.aload_n 0, 1) := by decide +kernel
theorem dX7_herd_62 : decode cX7_herd 62 = .ok (.iconst 0, 1) := by decide +kernel
theorem dX7_herd_63 : decode cX7_herd 63 = .ok (.putfield 158, 3) := by decide +kernel
theorem dX7_herd_66 : decode cX7_herd 66 = .ok (.aload_n 0, 1) := by decide +kernel
theorem dX7_herd_67 : decode cX7_herd 67 = .ok (.getfield 19, 3) := by decide +kernel
theorem dX7_herd_70 : decode cX7_herd 70 = .ok (.bipush 50, 2) := by decide +kernel
theorem dX7_herd_72 : decode cX7_herd 72 = .ok (.iaload, 1) := by decide +kernel
theorem dX7_herd_73 : decode cX7_herd 73 = .ok (.ireturn, 1) := by decide +kernel
theorem dX7_fault_0 : decode cX7_fault 0 = .ok (.aload_n 0, 1) := by decide +kernel
theorem dX7_fault_1 : decode cX7_fault 1 = .ok (.getfield 150, 3) := by decide +kernel
theorem dX7_fault_4 : decode cX7_fault 4 = .ok (.ireturn, 1) := by decide +kernel
theorem dX7_beside_0 : decode cX7_beside 0 = .ok (.iload_n 0, 1) := by decide +kernel
theorem dX7_beside_1 : decode cX7_beside 1 = .ok (.bipush 8, 2) := by decide +kernel
theorem dX7_beside_3 : decode cX7_beside 3 = .ok (.irem, 1) := by decide +kernel
theorem dX7_beside_4 : decode cX7_beside 4 = .ok (.istore_n 2, 1) := by decide +kernel
theorem dX7_beside_5 : decode cX7_beside 5 = .ok (.iload_n 0, 1) := by decide +kernel
theorem dX7_beside_6 : decode cX7_beside 6 = .ok (.bipush 8, 2) := by decide +kernel
theorem dX7_beside_8 : decode cX7_beside 8 = .ok (.idiv, 1) := by decide +kernel
theorem dX7_beside_9 : decode cX7_beside 9 = .ok (.istore_n 3, 1) := by decide +kernel
theorem dX7_beside_10 : decode cX7_beside 10 = .ok (.iload_n 1, 1) := by decide +kernel
theorem dX7_beside_11 : decode cX7_beside 11 = .ok (.iconst 1, 1) := by decide +kernel
theorem dX7_beside_12 : decode cX7_beside 12 = .ok (.if_icmp .ne 17, 3) := by decide +kernel
theorem dX7_beside_15 : decode cX7_beside 15 = .ok (.iload_n 2, 1) := by decide +kernel
theorem dX7_beside_16 : decode cX7_beside 16 = .ok (.bipush 7, 2) := by decide +kernel
theorem dX7_beside_18 : decode cX7_beside 18 = .ok (.if_icmp .ge 9, 3) := by decide +kernel
theorem dX7_beside_21 : decode cX7_beside 21 = .ok (.iload_n 0, 1) := by decide +kernel
theorem dX7_beside_22 : decode cX7_beside 22 = .ok (.iconst 1, 1) := by decide +kernel
theorem dX7_beside_23 : decode cX7_beside 23 = .ok (.iadd, 1) := by decide +kernel
theorem dX7_beside_24 : decode cX7_beside 24 = .ok (.goto 4, 3) := by decide +kernel
theorem dX7_beside_27 : decode cX7_beside 27 = .ok (.iload_n 0, 1) := by decide +kernel
theorem dX7_beside_28 : decode cX7_beside 28 = .ok (.ireturn, 1) := by decide +kernel
theorem dX7_beside_29 : decode cX7_beside 29 = .ok (.iload_n 1, 1) := by decide +kernel
theorem dX7_beside_30 : decode cX7_beside 30 = .ok (.iconst 2, 1) := by decide +kernel
theorem dX7_beside_31 : decode cX7_beside 31 = .ok (.if_icmp .ne 15, 3) := by decide +kernel
theorem dX7_beside_34 : decode cX7_beside 34 = .ok (.iload_n 2, 1) := by decide +kernel
theorem dX7_beside_35 : decode cX7_beside 35 = .ok (.ifCond .le 9, 3) := by decide +kernel
theorem dX7_beside_38 : decode cX7_beside 38 = .ok (.iload_n 0, 1) := by decide +kernel
theorem dX7_beside_39 : decode cX7_beside 39 = .ok (.iconst 1, 1) := by decide +kernel
theorem dX7_beside_40 : decode cX7_beside 40 = .ok (.isub, 1) := by decide +kernel
theorem dX7_beside_41 : decode cX7_beside 41 = .ok (.goto 4, 3) := by decide +kernel
theorem dX7_beside_44 : decode cX7_beside 44 = .ok (.iload_n 0, 1) := by decide +kernel
theorem dX7_beside_45 : decode cX7_beside 45 = .ok (.ireturn, 1) := by decide +kernel
theorem dX7_beside_46 : decode cX7_beside 46 = .ok (.iload_n 1, 1) := by decide +kernel
theorem dX7_beside_47 : decode cX7_beside 47 = .ok (.iconst 3, 1) := by decide +kernel
theorem dX7_beside_48 : decode cX7_beside 48 = .ok (.if_icmp .ne 17, 3) := by decide +kernel
theorem dX7_beside_51 : decode cX7_beside 51 = .ok (.iload_n 3, 1) := by decide +kernel
theorem dX7_beside_52 : decode cX7_beside 52 = .ok (.iconst 3, 1) := by decide +kernel
theorem dX7_beside_53 : decode cX7_beside 53 = .ok (.if_icmp .ge 10, 3) := by decide +kernel
theorem dX7_beside_56 : decode cX7_beside 56 = .ok (.iload_n 0, 1) := by decide +kernel
theorem dX7_beside_57 : decode cX7_beside 57 = .ok (.bipush 8, 2) := by decide +kernel
theorem dX7_beside_59 : decode cX7_beside 59 = .ok (.iadd, 1) := by decide +kernel
theorem dX7_beside_60 : decode cX7_beside 60 = .ok (.goto 4, 3) := by decide +kernel
theorem dX7_beside_63 : decode cX7_beside 63 = .ok (.iload_n 0, 1) := by decide +kernel
theorem dX7_beside_64 : decode cX7_beside 64 = .ok (.ireturn, 1) := by decide +kernel
theorem dX7_beside_65 : decode cX7_beside 65 = .ok (.iload_n 1, 1) := by decide +kernel
theorem dX7_beside_66 : decode cX7_beside 66 = .ok (.iconst 4, 1) := by decide +kernel
theorem dX7_beside_67 : decode cX7_beside 67 = .ok (.if_icmp .ne 14, 3) := by decide +kernel
theorem dX7_beside_70 : decode cX7_beside 70 = .ok (.iload_n 3, 1) := by decide +kernel
theorem dX7_beside_71 : decode cX7_beside 71 = .ok (.ifCond .le 10, 3) := by decide +kernel
theorem dX7_beside_74 : decode cX7_beside 74 = .ok (.iload_n 0, 1) := by decide +kernel
theorem dX7_beside_75 : decode cX7_beside 75 = .ok (.bipush 8, 2) := by decide +kernel
theorem dX7_beside_77 : decode cX7_beside 77 = .ok (.isub, 1) := by decide +kernel
theorem dX7_beside_78 : decode cX7_beside 78 = .ok (.goto 4, 3) := by decide +kernel
theorem dX7_beside_81 : decode cX7_beside 81 = .ok (.iload_n 0, 1) := by decide +kernel
theorem dX7_beside_82 : decode cX7_beside 82 = .ok (.ireturn, 1) := by decide +kernel
theorem dX7_other_0 : decode cX7_other 0 = .ok (.iload_n 0, 1) := by decide +kernel
theorem dX7_other_1 : decode cX7_other 1 = .ok (.ifCond .ne 7, 3) := by decide +kernel
theorem dX7_other_4 : decode cX7_other 4 = .ok (.iconst 0, 1) := by decide +kernel
theorem dX7_other_5 : decode cX7_other 5 = .ok (.goto 31, 3) := by decide +kernel
theorem dX7_other_8 : decode cX7_other 8 = .ok (.iload_n 0, 1) := by decide +kernel
theorem dX7_other_9 : decode cX7_other 9 = .ok (.iconst 1, 1) := by decide +kernel
theorem dX7_other_10 : decode cX7_other 10 = .ok (.if_icmp .ne 7, 3) := by decide +kernel
theorem dX7_other_13 : decode cX7_other 13 = .ok (.iconst 2, 1) := by decide +kernel
theorem dX7_other_14 : decode cX7_other 14 = .ok (.goto 22, 3) := by decide +kernel
theorem dX7_other_17 : decode cX7_other 17 = .ok (.iload_n 0, 1) := by decide +kernel
theorem dX7_other_18 : decode cX7_other 18 = .ok (.iconst 2, 1) := by decide +kernel
theorem dX7_other_19 : decode cX7_other 19 = .ok (.if_icmp .ne 7, 3) := by decide +kernel
theorem dX7_other_22 : decode cX7_other 22 = .ok (.iconst 1, 1) := by decide +kernel
theorem dX7_other_23 : decode cX7_other 23 = .ok (.goto 13, 3) := by decide +kernel
theorem dX7_other_26 : decode cX7_other 26 = .ok (.iload_n 0, 1) := by decide +kernel
theorem dX7_other_27 : decode cX7_other 27 = .ok (.iconst 3, 1) := by decide +kernel
theorem dX7_other_28 : decode cX7_other 28 = .ok (.if_icmp .ne 7, 3) := by decide +kernel
theorem dX7_other_31 : decode cX7_other 31 = .ok (.iconst 4, 1) := by decide +kernel
theorem dX7_other_32 : decode cX7_other 32 = .ok (.goto 4, 3) := by decide +kernel
theorem dX7_other_35 : decode cX7_other 35 = .ok (.iconst 3, 1) := by decide +kernel
theorem dX7_other_36 : decode cX7_other 36 = .ok (.ireturn, 1) := by decide +kernel
theorem dX7_drifts_0 : decode cX7_drifts 0 = .ok (.aload_n 0, 1) := by decide +kernel
theorem dX7_drifts_1 : decode cX7_drifts 1 = .ok (.getfield 19, 3) := by decide +kernel
theorem dX7_drifts_4 : decode cX7_drifts 4 = .ok (.iconst 0, 1) := by decide +kernel
theorem dX7_drifts_5 : decode cX7_drifts 5 = .ok (.bipush 6, 2) := by decide +kernel
theorem dX7_drifts_7 : decode cX7_drifts 7 = .ok (.iload_n 3, 1) := by decide +kernel
theorem dX7_drifts_8 : decode cX7_drifts 8 = .ok (.imul, 1) := by decide +kernel
theorem dX7_drifts_9 : decode cX7_drifts 9 = .ok (.iadd, 1) := by decide +kernel
theorem dX7_drifts_10 : decode cX7_drifts 10 = .ok (.iload 4, 2) := by decide +kernel
theorem dX7_drifts_12 : decode cX7_drifts 12 = .ok (.bipush 6, 2) := by decide +kernel
theorem dX7_drifts_14 : decode cX7_drifts 14 = .ok (.irem, 1) := by decide +kernel
theorem dX7_drifts_15 : decode cX7_drifts 15 = .ok (.iadd, 1) := by decide +kernel
theorem dX7_drifts_16 : decode cX7_drifts 16 = .ok (.iaload, 1) := by decide +kernel
theorem dX7_drifts_17 : decode cX7_drifts 17 = .ok (.istore 5, 2) := by decide +kernel
theorem dX7_drifts_19 : decode cX7_drifts 19 = .ok (.iload_n 1, 1) := by decide +kernel
theorem dX7_drifts_20 : decode cX7_drifts 20 = .ok (.iconst 4, 1) := by decide +kernel
theorem dX7_drifts_21 : decode cX7_drifts 21 = .ok (.if_icmp .ne 7, 3) := by decide +kernel
theorem dX7_drifts_24 : decode cX7_drifts 24 = .ok (.iload_n 2, 1) := by decide +kernel
theorem dX7_drifts_25 : decode cX7_drifts 25 = .ok (.goto 22, 3) := by decide +kernel
theorem dX7_drifts_28 : decode cX7_drifts 28 = .ok (.iload_n 2, 1) := by decide +kernel
theorem dX7_drifts_29 : decode cX7_drifts 29 = .ok (.iload_n 1, 1) := by decide +kernel
theorem dX7_drifts_30 : decode cX7_drifts 30 = .ok (.iconst 5, 1) := by decide +kernel
theorem dX7_drifts_31 : decode cX7_drifts 31 = .ok (.if_icmp .ne 11, 3) := by decide +kernel
theorem dX7_drifts_34 : decode cX7_drifts 34 = .ok (.iload 5, 2) := by decide +kernel
theorem dX7_drifts_36 : decode cX7_drifts 36 = .ok (.invokestatic 161, 3) := by decide +kernel
theorem dX7_drifts_39 : decode cX7_drifts 39 = .ok (.goto 5, 3) := by decide +kernel
theorem dX7_drifts_42 : decode cX7_drifts 42 = .ok (.iload 5, 2) := by decide +kernel
theorem dX7_drifts_44 : decode cX7_drifts 44 = .ok (.invokestatic 164, 3) := by decide +kernel
theorem dX7_drifts_47 : decode cX7_drifts 47 = .ok (.ireturn, 1) := by decide +kernel
theorem dX7_drift_0 : decode cX7_drift 0 = .ok (.aload_n 0, 1) := by decide +kernel
theorem dX7_drift_1 : decode cX7_drift 1 = .ok (.getfield 19, 3) := by decide +kernel
theorem dX7_drift_4 : decode cX7_drift 4 = .ok (.bipush 56, 2) := by decide +kernel
theorem dX7_drift_6 : decode cX7_drift 6 = .ok (.iload_n 1, 1) := by decide +kernel
theorem dX7_drift_7 : decode cX7_drift 7 = .ok (.iadd, 1) := by decide +kernel
theorem dX7_drift_8 : decode cX7_drift 8 = .ok (.aload_n 0, 1) := by decide +kernel
theorem dX7_drift_9 : decode cX7_drift 9 = .ok (.aload_n 0, 1) := by decide +kernel
theorem dX7_drift_10 : decode cX7_drift 10 = .ok (.getfield 19, 3) := by decide +kernel
theorem dX7_drift_13 : decode cX7_drift 13 = .ok (.bipush 51, 2) := by decide +kernel
theorem dX7_drift_15 : decode cX7_drift 15 = .ok (.iload_n 1, 1) := by decide +kernel
theorem dX7_drift_16 : decode cX7_drift 16 = .ok (.iadd, 1) := by decide +kernel
theorem dX7_drift_17 : decode cX7_drift 17 = .ok (.iaload, 1) := by decide +kernel
theorem dX7_drift_18 : decode cX7_drift 18 = .ok (.aload_n 0, 1) := by decide +kernel
theorem dX7_drift_19 : decode cX7_drift 19 = .ok (.getfield 19, 3) := by decide +kernel
theorem dX7_drift_22 : decode cX7_drift 22 = .ok (.bipush 56, 2) := by decide +kernel
theorem dX7_drift_24 : decode cX7_drift 24 = .ok (.iload_n 1, 1) := by decide +kernel
theorem dX7_drift_25 : decode cX7_drift 25 = .ok (.iadd, 1) := by decide +kernel
theorem dX7_drift_26 : decode cX7_drift 26 = .ok (.iaload, 1) := by decide +kernel
theorem dX7_drift_27 : decode cX7_drift 27 = .ok (.aload_n 0, 1) := by decide +kernel
theorem dX7_drift_28 : decode cX7_drift 28 = .ok (.getfield 19, 3) := by decide +kernel
theorem dX7_drift_31 : decode cX7_drift 31 = .ok (.bipush 61, 2) := by decide +kernel
theorem dX7_drift_33 : decode cX7_drift 33 = .ok (.iload_n 1, 1) := by decide +kernel
theorem dX7_drift_34 : decode cX7_drift 34 = .ok (.iadd, 1) := by decide +kernel
theorem dX7_drift_35 : decode cX7_drift 35 = .ok (.iaload, 1) := by decide +kernel
theorem dX7_drift_36 : decode cX7_drift 36 = .ok (.aload_n 0, 1) := by decide +kernel
theorem dX7_drift_37 : decode cX7_drift 37 = .ok (.getfield 19, 3) := by decide +kernel
theorem dX7_drift_40 : decode cX7_drift 40 = .ok (.bipush 46, 2) := by decide +kernel
theorem dX7_drift_42 : decode cX7_drift 42 = .ok (.iaload, 1) := by decide +kernel
theorem dX7_drift_43 : decode cX7_drift 43 = .ok (.invokevirtual 167, 3) := by decide +kernel
theorem dX7_drift_46 : decode cX7_drift 46 = .ok (.iastore, 1) := by decide +kernel
theorem dX7_drift_47 : decode cX7_drift 47 = .ok (.return_, 1) := by decide +kernel
theorem dX7_rainOf_0 : decode cX7_rainOf 0 = .ok (.aload_n 0, 1) := by decide +kernel
theorem dX7_rainOf_1 : decode cX7_rainOf 1 = .ok (.getfield 19, 3) := by decide +kernel
theorem dX7_rainOf_4 : decode cX7_rainOf 4 = .ok (.bipush 51, 2) := by decide +kernel
theorem dX7_rainOf_6 : decode cX7_rainOf 6 = .ok (.iload_n 1, 1) := by decide +kernel
theorem dX7_rainOf_7 : decode cX7_rainOf 7 = .ok (.iadd, 1) := by decide +kernel
theorem dX7_rainOf_8 : decode cX7_rainOf 8 = .ok (.iaload, 1) := by decide +kernel
theorem dX7_rainOf_9 : decode cX7_rainOf 9 = .ok (.istore_n 2, 1) := by decide +kernel
theorem dX7_rainOf_10 : decode cX7_rainOf 10 = .ok (.aload_n 0, 1) := by decide +kernel
theorem dX7_rainOf_11 : decode cX7_rainOf 11 = .ok (.getfield 19, 3) := by decide +kernel
theorem dX7_rainOf_14 : decode cX7_rainOf 14 = .ok (.bipush 12, 2) := by decide +kernel
theorem dX7_rainOf_16 : decode cX7_rainOf 16 = .ok (.aload_n 0, 1) := by decide +kernel
theorem dX7_rainOf_17 : decode cX7_rainOf 17 = .ok (.getfield 19, 3) := by decide +kernel
theorem dX7_rainOf_20 : decode cX7_rainOf 20 = .ok (.bipush 56, 2) := by decide +kernel
theorem dX7_rainOf_22 : decode cX7_rainOf 22 = .ok (.iload_n 1, 1) := by decide +kernel
theorem dX7_rainOf_23 : decode cX7_rainOf 23 = .ok (.iadd, 1) := by decide +kernel
theorem dX7_rainOf_24 : decode cX7_rainOf 24 = .ok (.iaload, 1) := by decide +kernel
theorem dX7_rainOf_25 : decode cX7_rainOf 25 = .ok (.iadd, 1) := by decide +kernel
theorem dX7_rainOf_26 : decode cX7_rainOf 26 = .ok (.iaload, 1) := by decide +kernel
theorem dX7_rainOf_27 : decode cX7_rainOf 27 = .ok (.istore_n 3, 1) := by decide +kernel
theorem dX7_rainOf_28 : decode cX7_rainOf 28 = .ok (.iload_n 2, 1) := by decide +kernel
theorem dX7_rainOf_29 : decode cX7_rainOf 29 = .ok (.iconst 1, 1) := by decide +kernel
theorem dX7_rainOf_30 : decode cX7_rainOf 30 = .ok (.if_icmp .ne 24, 3) := by decide +kernel
theorem dX7_rainOf_33 : decode cX7_rainOf 33 = .ok (.iload_n 3, 1) := by decide +kernel
theorem dX7_rainOf_34 : decode cX7_rainOf 34 = .ok (.iconst 1, 1) := by decide +kernel
theorem dX7_rainOf_35 : decode cX7_rainOf 35 = .ok (.if_icmp .ne 15, 3) := by decide +kernel
theorem dX7_rainOf_38 : decode cX7_rainOf 38 = .ok (.aload_n 0, 1) := by decide +kernel
theorem dX7_rainOf_39 : decode cX7_rainOf 39 = .ok (.getfield 19, 3) := by decide +kernel
theorem dX7_rainOf_42 : decode cX7_rainOf 42 = .ok (.bipush 76, 2) := by decide +kernel
theorem dX7_rainOf_44 : decode cX7_rainOf 44 = .ok (.iload_n 1, 1) := by decide +kernel
theorem dX7_rainOf_45 : decode cX7_rainOf 45 = .ok (.iadd, 1) := by decide +kernel
theorem dX7_rainOf_46 : decode cX7_rainOf 46 = .ok (.iaload, 1) := by decide +kernel
theorem dX7_rainOf_47 : decode cX7_rainOf 47 = .ok (.goto 42, 3) := by decide +kernel
theorem dX7_rainOf_50 : decode cX7_rainOf 50 = .ok (.iconst 0, 1) := by decide +kernel
theorem dX7_rainOf_51 : decode cX7_rainOf 51 = .ok (.goto 38, 3) := by decide +kernel
theorem dX7_rainOf_54 : decode cX7_rainOf 54 = .ok (.iload_n 2, 1) := by decide +kernel
theorem dX7_rainOf_55 : decode cX7_rainOf 55 = .ok (.iconst 2, 1) := by decide +kernel
theorem dX7_rainOf_56 : decode cX7_rainOf 56 = .ok (.if_icmp .ne 7, 3) := by decide +kernel
theorem dX7_rainOf_59 : decode cX7_rainOf 59 = .ok (.iconst 0, 1) := by decide +kernel
theorem dX7_rainOf_60 : decode cX7_rainOf 60 = .ok (.goto 29, 3) := by decide +kernel
theorem dX7_rainOf_63 : decode cX7_rainOf 63 = .ok (.iload_n 2, 1) := by decide +kernel
theorem dX7_rainOf_64 : decode cX7_rainOf 64 = .ok (.iconst 3, 1) := by decide +kernel
theorem dX7_rainOf_65 : decode cX7_rainOf 65 = .ok (.if_icmp .ne 7, 3) := by decide +kernel
theorem dX7_rainOf_68 : decode cX7_rainOf 68 = .ok (.iconst 2, 1) := by decide +kernel
theorem dX7_rainOf_69 : decode cX7_rainOf 69 = .ok (.goto 20, 3) := by decide +kernel
theorem dX7_rainOf_72 : decode cX7_rainOf 72 = .ok (.aload_n 0, 1) := by decide +kernel
theorem dX7_rainOf_73 : decode cX7_rainOf 73 = .ok (.getfield 19, 3) := by decide +kernel
theorem dX7_rainOf_76 : decode cX7_rainOf 76 = .ok (.bipush 61, 2) := by decide +kernel
theorem dX7_rainOf_78 : decode cX7_rainOf 78 = .ok (.iload_n 1, 1) := by decide +kernel
theorem dX7_rainOf_79 : decode cX7_rainOf 79 = .ok (.iadd, 1) := by decide +kernel
theorem dX7_rainOf_80 : decode cX7_rainOf 80 = .ok (.iaload, 1) := by decide +kernel
theorem dX7_rainOf_81 : decode cX7_rainOf 81 = .ok (.ifCond .ne 7, 3) := by decide +kernel
theorem dX7_rainOf_84 : decode cX7_rainOf 84 = .ok (.iconst 1, 1) := by decide +kernel
theorem dX7_rainOf_85 : decode cX7_rainOf 85 = .ok (.goto 4, 3) := by decide +kernel
theorem dX7_rainOf_88 : decode cX7_rainOf 88 = .ok (.iconst 0, 1) := by decide +kernel
theorem dX7_rainOf_89 : decode cX7_rainOf 89 = .ok (.istore 4, 2) := by decide +kernel
theorem dX7_rainOf_91 : decode cX7_rainOf 91 = .ok (.aload_n 0, 1) := by decide +kernel
theorem dX7_rainOf_92 : decode cX7_rainOf 92 = .ok (.getfield 19, 3) := by decide +kernel
theorem dX7_rainOf_95 : decode cX7_rainOf 95 = .ok (.bipush 66, 2) := by decide +kernel
theorem dX7_rainOf_97 : decode cX7_rainOf 97 = .ok (.iload_n 1, 1) := by decide +kernel
theorem dX7_rainOf_98 : decode cX7_rainOf 98 = .ok (.iadd, 1) := by decide +kernel
theorem dX7_rainOf_99 : decode cX7_rainOf 99 = .ok (.iaload, 1) := by decide +kernel
theorem dX7_rainOf_100 : decode cX7_rainOf 100 = .ok (.iload 4, 2) := by decide +kernel
theorem dX7_rainOf_102 : decode cX7_rainOf 102 = .ok (.if_icmp .ge 15, 3) := by decide +kernel
theorem dX7_rainOf_105 : decode cX7_rainOf 105 = .ok (.aload_n 0, 1) := by decide +kernel
theorem dX7_rainOf_106 : decode cX7_rainOf 106 = .ok (.getfield 19, 3) := by decide +kernel
theorem dX7_rainOf_109 : decode cX7_rainOf 109 = .ok (.bipush 66, 2) := by decide +kernel
theorem dX7_rainOf_111 : decode cX7_rainOf 111 = .ok (.iload_n 1, 1) := by decide +kernel
theorem dX7_rainOf_112 : decode cX7_rainOf 112 = .ok (.iadd, 1) := by decide +kernel
theorem dX7_rainOf_113 : decode cX7_rainOf 113 = .ok (.iaload, 1) := by decide +kernel
theorem dX7_rainOf_114 : decode cX7_rainOf 114 = .ok (.goto 5, 3) := by decide +kernel
theorem dX7_rainOf_117 : decode cX7_rainOf 117 = .ok (.iload 4, 2) := by decide +kernel
theorem dX7_rainOf_119 : decode cX7_rainOf 119 = .ok (.ireturn, 1) := by decide +kernel
theorem dX7_rain_0 : decode cX7_rain 0 = .ok (.aload_n 0, 1) := by decide +kernel
theorem dX7_rain_1 : decode cX7_rain 1 = .ok (.iload_n 1, 1) := by decide +kernel
theorem dX7_rain_2 : decode cX7_rain 2 = .ok (.invokevirtual 171, 3) := by decide +kernel
theorem dX7_rain_5 : decode cX7_rain 5 = .ok (.istore_n 2, 1) := by decide +kernel
theorem dX7_rain_6 : decode cX7_rain 6 = .ok (.aload_n 0, 1) := by decide +kernel
theorem dX7_rain_7 : decode cX7_rain 7 = .ok (.getfield 19, 3) := by decide +kernel
theorem dX7_rain_10 : decode cX7_rain 10 = .ok (.bipush 12, 2) := by decide +kernel
theorem dX7_rain_12 : decode cX7_rain 12 = .ok (.aload_n 0, 1) := by decide +kernel
theorem dX7_rain_13 : decode cX7_rain 13 = .ok (.getfield 19, 3) := by decide +kernel
theorem dX7_rain_16 : decode cX7_rain 16 = .ok (.bipush 56, 2) := by decide +kernel
theorem dX7_rain_18 : decode cX7_rain 18 = .ok (.iload_n 1, 1) := by decide +kernel
theorem dX7_rain_19 : decode cX7_rain 19 = .ok (.iadd, 1) := by decide +kernel
theorem dX7_rain_20 : decode cX7_rain 20 = .ok (.iaload, 1) := by decide +kernel
theorem dX7_rain_21 : decode cX7_rain 21 = .ok (.iadd, 1) := by decide +kernel
theorem dX7_rain_22 : decode cX7_rain 22 = .ok (.iaload, 1) := by decide +kernel
theorem dX7_rain_23 : decode cX7_rain 23 = .ok (.istore_n 3, 1) := by decide +kernel
theorem dX7_rain_24 : decode cX7_rain 24 = .ok (.aload_n 0, 1) := by decide +kernel
theorem dX7_rain_25 : decode cX7_rain 25 = .ok (.getfield 19, 3) := by decide +kernel
theorem dX7_rain_28 : decode cX7_rain 28 = .ok (.bipush 66, 2) := by decide +kernel
theorem dX7_rain_30 : decode cX7_rain 30 = .ok (.iload_n 1, 1) := by decide +kernel
theorem dX7_rain_31 : decode cX7_rain 31 = .ok (.iadd, 1) := by decide +kernel
theorem dX7_rain_32 : decode cX7_rain 32 = .ok (.dup2, 1) := by decide +kernel
theorem dX7_rain_33 : decode cX7_rain 33 = .ok (.iaload, 1) := by decide +kernel
theorem dX7_rain_34 : decode cX7_rain 34 = .ok (.iload_n 2, 1) := by decide +kernel
theorem dX7_rain_35 : decode cX7_rain 35 = .ok (.isub, 1) := by decide +kernel
theorem dX7_rain_36 : decode cX7_rain 36 = .ok (.iastore, 1) := by decide +kernel
theorem dX7_rain_37 : decode cX7_rain 37 = .ok (.aload_n 0, 1) := by decide +kernel
theorem dX7_rain_38 : decode cX7_rain 38 = .ok (.getfield 19, 3) := by decide +kernel
theorem dX7_rain_41 : decode cX7_rain 41 = .ok (.bipush 47, 2) := by decide +kernel
theorem dX7_rain_43 : decode cX7_rain 43 = .ok (.dup2, 1) := by decide +kernel
theorem dX7_rain_44 : decode cX7_rain 44 = .ok (.iaload, 1) := by decide +kernel
theorem dX7_rain_45 : decode cX7_rain 45 = .ok (.iload_n 3, 1) := by decide +kernel
theorem dX7_rain_46 : decode cX7_rain 46 = .ok (.iconst 1, 1) := by decide +kernel
theorem dX7_rain_47 : decode cX7_rain 47 = .ok (.if_icmp .ne 15, 3) := by decide +kernel
theorem dX7_rain_50 : decode cX7_rain 50 = .ok (.iload_n 2, 1) := by decide +kernel
theorem dX7_rain_51 : decode cX7_rain 51 = .ok (.aload_n 0, 1) := by decide +kernel
theorem dX7_rain_52 : decode cX7_rain 52 = .ok (.getfield 19, 3) := by decide +kernel
theorem dX7_rain_55 : decode cX7_rain 55 = .ok (.bipush 44, 2) := by decide +kernel
theorem dX7_rain_57 : decode cX7_rain 57 = .ok (.iaload, 1) := by decide +kernel
theorem dX7_rain_58 : decode cX7_rain 58 = .ok (.imul, 1) := by decide +kernel
theorem dX7_rain_59 : decode cX7_rain 59 = .ok (.goto 22, 3) := by decide +kernel
theorem dX7_rain_62 : decode cX7_rain 62 = .ok (.iload_n 3, 1) := by decide +kernel
theorem dX7_rain_63 : decode cX7_rain 63 = .ok (.iconst 2, 1) := by decide +kernel
theorem dX7_rain_64 : decode cX7_rain 64 = .ok (.if_icmp .ne 16, 3) := by decide +kernel
theorem dX7_rain_67 : decode cX7_rain 67 = .ok (.iload_n 2, 1) := by decide +kernel
theorem dX7_rain_68 : decode cX7_rain 68 = .ok (.ineg, 1) := by decide +kernel
theorem dX7_rain_69 : decode cX7_rain 69 = .ok (.aload_n 0, 1) := by decide +kernel
theorem dX7_rain_70 : decode cX7_rain 70 = .ok (.getfield 19, 3) := by decide +kernel
theorem dX7_rain_73 : decode cX7_rain 73 = .ok (.bipush 45, 2) := by decide +kernel
theorem dX7_rain_75 : decode cX7_rain 75 = .ok (.iaload, 1) := by decide +kernel
theorem dX7_rain_76 : decode cX7_rain 76 = .ok (.imul, 1) := by decide +kernel
theorem dX7_rain_77 : decode cX7_rain 77 = .ok (.goto 4, 3) := by decide +kernel
theorem dX7_rain_80 : decode cX7_rain 80 = .ok (.iconst 0, 1) := by decide +kernel
theorem dX7_rain_81 : decode cX7_rain 81 = .ok (.iadd, 1) := by decide +kernel
theorem dX7_rain_82 : decode cX7_rain 82 = .ok (.iastore, 1) := by decide +kernel
theorem dX7_rain_83 : decode cX7_rain 83 = .ok (.aload_n 0, 1) := by decide +kernel
theorem dX7_rain_84 : decode cX7_rain 84 = .ok (.dup, 1) := by decide +kernel
theorem dX7_rain_85 : decode cX7_rain 85 = .ok (.getfield 174, 3) := by decide +kernel
theorem dX7_rain_88 : decode cX7_rain 88 = .ok (.iload_n 3, 1) := by decide +kernel
theorem dX7_rain_89 : decode cX7_rain 89 = .ok (.iconst 2, 1) := by decide +kernel
theorem dX7_rain_90 : decode cX7_rain 90 = .ok (.if_icmp .ne 7, 3) := by decide +kernel
theorem dX7_rain_93 : decode cX7_rain 93 = .ok (.iload_n 2, 1) := by decide +kernel
theorem dX7_rain_94 : decode cX7_rain 94 = .ok (.goto 4, 3) := by decide +kernel
theorem dX7_rain_97 : decode cX7_rain 97 = .ok (.iconst 0, 1) := by decide +kernel
theorem dX7_rain_98 : decode cX7_rain 98 = .ok (.iadd, 1) := by decide +kernel
theorem dX7_rain_99 : decode cX7_rain 99 = .ok (.putfield 174, 3) := by decide +kernel
theorem dX7_rain_102 : decode cX7_rain 102 = .ok (.iload_n 2, 1) := by decide +kernel
theorem dX7_rain_103 : decode cX7_rain 103 = .ok (.ireturn, 1) := by decide +kernel
theorem dX7_milk_0 : decode cX7_milk 0 = .ok (.aload_n 0, 1) := by decide +kernel
theorem dX7_milk_1 : decode cX7_milk 1 = .ok (.getfield 19, 3) := by decide +kernel
theorem dX7_milk_4 : decode cX7_milk 4 = .ok (.bipush 61, 2) := by decide +kernel
theorem dX7_milk_6 : decode cX7_milk 6 = .ok (.iload_n 1, 1) := by decide +kernel
theorem dX7_milk_7 : decode cX7_milk 7 = .ok (.iadd, 1) := by decide +kernel
theorem dX7_milk_8 : decode cX7_milk 8 = .ok (.iaload, 1) := by decide +kernel
theorem dX7_milk_9 : decode cX7_milk 9 = .ok (.ifCond .ne 60, 3) := by decide +kernel
theorem dX7_milk_12 : decode cX7_milk 12 = .ok (.aload_n 0, 1) := by decide +kernel
theorem dX7_milk_13 : decode cX7_milk 13 = .ok (.getfield 19, 3) := by decide +kernel
theorem dX7_milk_16 : decode cX7_milk 16 = .ok (.bipush 12, 2) := by decide +kernel
theorem dX7_milk_18 : decode cX7_milk 18 = .ok (.aload_n 0, 1) := by decide +kernel
theorem dX7_milk_19 : decode cX7_milk 19 = .ok (.getfield 19, 3) := by decide +kernel
theorem dX7_milk_22 : decode cX7_milk 22 = .ok (.bipush 56, 2) := by decide +kernel
theorem dX7_milk_24 : decode cX7_milk 24 = .ok (.iload_n 1, 1) := by decide +kernel
theorem dX7_milk_25 : decode cX7_milk 25 = .ok (.iadd, 1) := by decide +kernel
theorem dX7_milk_26 : decode cX7_milk 26 = .ok (.iaload, 1) := by decide +kernel
theorem dX7_milk_27 : decode cX7_milk 27 = .ok (.iadd, 1) := by decide +kernel
theorem dX7_milk_28 : decode cX7_milk 28 = .ok (.iaload, 1) := by decide +kernel
theorem dX7_milk_29 : decode cX7_milk 29 = .ok (.iconst 3, 1) := by decide +kernel
theorem dX7_milk_30 : decode cX7_milk 30 = .ok (.if_icmp .ne 39, 3) := by decide +kernel
theorem dX7_milk_33 : decode cX7_milk 33 = .ok (.aload_n 0, 1) := by decide +kernel
theorem dX7_milk_34 : decode cX7_milk 34 = .ok (.getfield 19, 3) := by decide +kernel
theorem dX7_milk_37 : decode cX7_milk 37 = .ok (.bipush 66, 2) := by decide +kernel
theorem dX7_milk_39 : decode cX7_milk 39 = .ok (.iload_n 1, 1) := by decide +kernel
theorem dX7_milk_40 : decode cX7_milk 40 = .ok (.iadd, 1) := by decide +kernel
theorem dX7_milk_41 : decode cX7_milk 41 = .ok (.iaload, 1) := by decide +kernel
theorem dX7_milk_42 : decode cX7_milk 42 = .ok (.ifCond .le 27, 3) := by decide +kernel
theorem dX7_milk_45 : decode cX7_milk 45 = .ok (.aload_n 0, 1) := by decide +kernel
theorem dX7_milk_46 : decode cX7_milk 46 = .ok (.getfield 19, 3) := by decide +kernel
theorem dX7_milk_49 : decode cX7_milk 49 = .ok (.bipush 66, 2) := by decide +kernel
theorem dX7_milk_51 : decode cX7_milk 51 = .ok (.iload_n 1, 1) := by decide +kernel
theorem dX7_milk_52 : decode cX7_milk 52 = .ok (.iadd, 1) := by decide +kernel
theorem dX7_milk_53 : decode cX7_milk 53 = .ok (.dup2, 1) := by decide +kernel
theorem dX7_milk_54 : decode cX7_milk 54 = .ok (.iaload, 1) := by decide +kernel
theorem dX7_milk_55 : decode cX7_milk 55 = .ok (.iconst 1, 1) := by decide +kernel
theorem dX7_milk_56 : decode cX7_milk 56 = .ok (.isub, 1) := by decide +kernel
theorem dX7_milk_57 : decode cX7_milk 57 = .ok (.iastore, 1) := by decide +kernel
theorem dX7_milk_58 : decode cX7_milk 58 = .ok (.aload_n 0, 1) := by decide +kernel
theorem dX7_milk_59 : decode cX7_milk 59 = .ok (.getfield 19, 3) := by decide +kernel
theorem dX7_milk_62 : decode cX7_milk 62 = .ok (.bipush 48, 2) := by decide +kernel
theorem dX7_milk_64 : decode cX7_milk 64 = .ok (.dup2, 1) := by decide +kernel
theorem dX7_milk_65 : decode cX7_milk 65 = .ok (.iaload, 1) := by decide +kernel
theorem dX7_milk_66 : decode cX7_milk 66 = .ok (.iconst 1, 1) := by decide +kernel
theorem dX7_milk_67 : decode cX7_milk 67 = .ok (.iadd, 1) := by decide +kernel
theorem dX7_milk_68 : decode cX7_milk 68 = .ok (.iastore, 1) := by decide +kernel
theorem dX7_milk_69 : decode cX7_milk 69 = .ok (.return_, 1) := by decide +kernel
theorem dX7_isThere_0 : decode cX7_isThere 0 = .ok (.aload_n 0, 1) := by decide +kernel
theorem dX7_isThere_1 : decode cX7_isThere 1 = .ok (.getfield 19, 3) := by decide +kernel
theorem dX7_isThere_4 : decode cX7_isThere 4 = .ok (.bipush 71, 2) := by decide +kernel
theorem dX7_isThere_6 : decode cX7_isThere 6 = .ok (.iload_n 1, 1) := by decide +kernel
theorem dX7_isThere_7 : decode cX7_isThere 7 = .ok (.iadd, 1) := by decide +kernel
theorem dX7_isThere_8 : decode cX7_isThere 8 = .ok (.iaload, 1) := by decide +kernel
theorem dX7_isThere_9 : decode cX7_isThere 9 = .ok (.ifCond .ne 7, 3) := by decide +kernel
theorem dX7_isThere_12 : decode cX7_isThere 12 = .ok (.iconst 1, 1) := by decide +kernel
theorem dX7_isThere_13 : decode cX7_isThere 13 = .ok (.goto 4, 3) := by decide +kernel
theorem dX7_isThere_16 : decode cX7_isThere 16 = .ok (.iconst 0, 1) := by decide +kernel
theorem dX7_isThere_17 : decode cX7_isThere 17 = .ok (.ireturn, 1) := by decide +kernel
theorem dX7_together_0 : decode cX7_together 0 = .ok (.iconst 0, 1) := by decide +kernel
theorem dX7_together_1 : decode cX7_together 1 = .ok (.istore_n 1, 1) := by decide +kernel
theorem dX7_together_2 : decode cX7_together 2 = .ok (.iconst 1, 1) := by decide +kernel
theorem dX7_together_3 : decode cX7_together 3 = .ok (.istore_n 2, 1) := by decide +kernel
theorem dX7_together_4 : decode cX7_together 4 = .ok (.iload_n 2, 1) := by decide +kernel
theorem dX7_together_5 : decode cX7_together 5 = .ok (.aload_n 0, 1) := by decide +kernel
theorem dX7_together_6 : decode cX7_together 6 = .ok (.getfield 19, 3) := by decide +kernel
theorem dX7_together_9 : decode cX7_together 9 = .ok (.bipush 50, 2) := by decide +kernel
theorem dX7_together_11 : decode cX7_together 11 = .ok (.iaload, 1) := by decide +kernel
theorem dX7_together_12 : decode cX7_together 12 = .ok (.if_icmp .ge 150, 3) := by decide +kernel
theorem dX7_together_15 : decode cX7_together 15 = .ok (.iconst 0, 1) := by decide +kernel
theorem dX7_together_16 : decode cX7_together 16 = .ok (.istore_n 3, 1) := by decide +kernel
theorem dX7_together_17 : decode cX7_together 17 = .ok (.iload_n 3, 1) := by decide +kernel
theorem dX7_together_18 : decode cX7_together 18 = .ok (.iload_n 2, 1) := by decide +kernel
theorem dX7_together_19 : decode cX7_together 19 = .ok (.if_icmp .ge 137, 3) := by decide +kernel
theorem dX7_together_22 : decode cX7_together 22 = .ok (.aload_n 0, 1) := by decide +kernel
theorem dX7_together_23 : decode cX7_together 23 = .ok (.iload_n 2, 1) := by decide +kernel
theorem dX7_together_24 : decode cX7_together 24 = .ok (.invokevirtual 177, 3) := by decide +kernel
theorem dX7_together_27 : decode cX7_together 27 = .ok (.ifCond .eq 129, 3) := by decide +kernel
theorem dX7_together_30 : decode cX7_together 30 = .ok (.aload_n 0, 1) := by decide +kernel
theorem dX7_together_31 : decode cX7_together 31 = .ok (.iload_n 3, 1) := by decide +kernel
theorem dX7_together_32 : decode cX7_together 32 = .ok (.invokevirtual 177, 3) := by decide +kernel
theorem dX7_together_35 : decode cX7_together 35 = .ok (.ifCond .eq 115, 3) := by decide +kernel
theorem dX7_together_38 : decode cX7_together 38 = .ok (.aload_n 0, 1) := by decide +kernel
theorem dX7_together_39 : decode cX7_together 39 = .ok (.getfield 19, 3) := by decide +kernel
theorem dX7_together_42 : decode cX7_together 42 = .ok (.bipush 56, 2) := by decide +kernel
theorem dX7_together_44 : decode cX7_together 44 = .ok (.iload_n 2, 1) := by decide +kernel
theorem dX7_together_45 : decode cX7_together 45 = .ok (.iadd, 1) := by decide +kernel
theorem dX7_together_46 : decode cX7_together 46 = .ok (.iaload, 1) := by decide +kernel
theorem dX7_together_47 : decode cX7_together 47 = .ok (.aload_n 0, 1) := by decide +kernel
theorem dX7_together_48 : decode cX7_together 48 = .ok (.getfield 19, 3) := by decide +kernel
theorem dX7_together_51 : decode cX7_together 51 = .ok (.bipush 56, 2) := by decide +kernel
theorem dX7_together_53 : decode cX7_together 53 = .ok (.iload_n 3, 1) := by decide +kernel
theorem dX7_together_54 : decode cX7_together 54 = .ok (.iadd, 1) := by decide +kernel
theorem dX7_together_55 : decode cX7_together 55 = .ok (.iaload, 1) := by decide +kernel
theorem dX7_together_56 : decode cX7_together 56 = .ok (.if_icmp .ne 94, 3) := by decide +kernel
theorem dX7_together_59 : decode cX7_together 59 = .ok (.aload_n 0, 1) := by decide +kernel
theorem dX7_together_60 : decode cX7_together 60 = .ok (.getfield 19, 3) := by decide +kernel
theorem dX7_together_63 : decode cX7_together 63 = .ok (.bipush 61, 2) := by decide +kernel
theorem dX7_together_65 : decode cX7_together 65 = .ok (.iload_n 2, 1) := by decide +kernel
theorem dX7_together_66 : decode cX7_together 66 = .ok (.iadd, 1) := by decide +kernel
theorem dX7_together_67 : decode cX7_together 67 = .ok (.iaload, 1) := by decide +kernel
theorem dX7_together_68 : decode cX7_together 68 = .ok (.aload_n 0, 1) := by decide +kernel
theorem dX7_together_69 : decode cX7_together 69 = .ok (.getfield 19, 3) := by decide +kernel
theorem dX7_together_72 : decode cX7_together 72 = .ok (.bipush 61, 2) := by decide +kernel
theorem dX7_together_74 : decode cX7_together 74 = .ok (.iload_n 3, 1) := by decide +kernel
theorem dX7_together_75 : decode cX7_together 75 = .ok (.iadd, 1) := by decide +kernel
theorem dX7_together_76 : decode cX7_together 76 = .ok (.iaload, 1) := by decide +kernel
theorem dX7_together_77 : decode cX7_together 77 = .ok (.if_icmp .ne 73, 3) := by decide +kernel
theorem dX7_together_80 : decode cX7_together 80 = .ok (.aload_n 0, 1) := by decide +kernel
theorem dX7_together_81 : decode cX7_together 81 = .ok (.getfield 19, 3) := by decide +kernel
theorem dX7_together_84 : decode cX7_together 84 = .ok (.bipush 66, 2) := by decide +kernel
theorem dX7_together_86 : decode cX7_together 86 = .ok (.iload_n 2, 1) := by decide +kernel
theorem dX7_together_87 : decode cX7_together 87 = .ok (.iadd, 1) := by decide +kernel
theorem dX7_together_88 : decode cX7_together 88 = .ok (.iaload, 1) := by decide +kernel
theorem dX7_together_89 : decode cX7_together 89 = .ok (.aload_n 0, 1) := by decide +kernel
theorem dX7_together_90 : decode cX7_together 90 = .ok (.getfield 19, 3) := by decide +kernel
theorem dX7_together_93 : decode cX7_together 93 = .ok (.bipush 66, 2) := by decide +kernel
theorem dX7_together_95 : decode cX7_together 95 = .ok (.iload_n 3, 1) := by decide +kernel
theorem dX7_together_96 : decode cX7_together 96 = .ok (.iadd, 1) := by decide +kernel
theorem dX7_together_97 : decode cX7_together 97 = .ok (.iaload, 1) := by decide +kernel
theorem dX7_together_98 : decode cX7_together 98 = .ok (.iadd, 1) := by decide +kernel
theorem dX7_together_99 : decode cX7_together 99 = .ok (.istore 4, 2) := by decide +kernel
theorem dX7_together_101 : decode cX7_together 101 = .ok (.aload_n 0, 1) := by decide +kernel
theorem dX7_together_102 : decode cX7_together 102 = .ok (.getfield 19, 3) := by decide +kernel
theorem dX7_together_105 : decode cX7_together 105 = .ok (.bipush 66, 2) := by decide +kernel
theorem dX7_together_107 : decode cX7_together 107 = .ok (.iload_n 3, 1) := by decide +kernel
theorem dX7_together_108 : decode cX7_together 108 = .ok (.iadd, 1) := by decide +kernel
theorem dX7_together_109 : decode cX7_together 109 = .ok (.iload 4, 2) := by decide +kernel
theorem dX7_together_111 : decode cX7_together 111 = .ok (.bipush 40, 2) := by decide +kernel
theorem dX7_together_113 : decode cX7_together 113 = .ok (.if_icmp .le 8, 3) := by decide +kernel
theorem dX7_together_116 : decode cX7_together 116 = .ok (.bipush 40, 2) := by decide +kernel
theorem dX7_together_118 : decode cX7_together 118 = .ok (.goto 5, 3) := by decide +kernel
theorem dX7_together_121 : decode cX7_together 121 = .ok (.iload 4, 2) := by decide +kernel
theorem dX7_together_123 : decode cX7_together 123 = .ok (.iastore, 1) := by decide +kernel
theorem dX7_together_124 : decode cX7_together 124 = .ok (.aload_n 0, 1) := by decide +kernel
theorem dX7_together_125 : decode cX7_together 125 = .ok (.getfield 19, 3) := by decide +kernel
theorem dX7_together_128 : decode cX7_together 128 = .ok (.bipush 66, 2) := by decide +kernel
theorem dX7_together_130 : decode cX7_together 130 = .ok (.iload_n 2, 1) := by decide +kernel
theorem dX7_together_131 : decode cX7_together 131 = .ok (.iadd, 1) := by decide +kernel
theorem dX7_together_132 : decode cX7_together 132 = .ok (.iconst 0, 1) := by decide +kernel
theorem dX7_together_133 : decode cX7_together 133 = .ok (.iastore, 1) := by decide +kernel
theorem dX7_together_134 : decode cX7_together 134 = .ok (.aload_n 0, 1) := by decide +kernel
theorem dX7_together_135 : decode cX7_together 135 = .ok (.getfield 19, 3) := by decide +kernel
theorem dX7_together_138 : decode cX7_together 138 = .ok (.bipush 71, 2) := by decide +kernel
theorem dX7_together_140 : decode cX7_together 140 = .ok (.iload_n 2, 1) := by decide +kernel
theorem dX7_together_141 : decode cX7_together 141 = .ok (.iadd, 1) := by decide +kernel
theorem dX7_together_142 : decode cX7_together 142 = .ok (.iconst 1, 1) := by decide +kernel
theorem dX7_together_143 : decode cX7_together 143 = .ok (.iastore, 1) := by decide +kernel
theorem dX7_together_144 : decode cX7_together 144 = .ok (.iload_n 1, 1) := by decide +kernel
theorem dX7_together_145 : decode cX7_together 145 = .ok (.iconst 1, 1) := by decide +kernel
theorem dX7_together_146 : decode cX7_together 146 = .ok (.iload_n 2, 1) := by decide +kernel
theorem dX7_together_147 : decode cX7_together 147 = .ok (.ishl, 1) := by decide +kernel
theorem dX7_together_148 : decode cX7_together 148 = .ok (.ior, 1) := by decide +kernel
theorem dX7_together_149 : decode cX7_together 149 = .ok (.istore_n 1, 1) := by decide +kernel
theorem dX7_together_150 : decode cX7_together 150 = .ok (.iinc 3 1, 3) := by decide +kernel
theorem dX7_together_153 : decode cX7_together 153 = .ok (.goto (-136), 3) := by decide +kernel
theorem dX7_together_156 : decode cX7_together 156 = .ok (.iinc 2 1, 3) := by decide +kernel
theorem dX7_together_159 : decode cX7_together 159 = .ok (.goto (-155), 3) := by decide +kernel
theorem dX7_together_162 : decode cX7_together 162 = .ok (.iload_n 1, 1) := by decide +kernel
theorem dX7_together_163 : decode cX7_together 163 = .ok (.ireturn, 1) := by decide +kernel
theorem dX7_oneHour_0 : decode cX7_oneHour 0 = .ok (.aload_n 0, 1) := by decide +kernel
theorem dX7_oneHour_1 : decode cX7_oneHour 1 = .ok (.iconst 0, 1) := by decide +kernel
theorem dX7_oneHour_2 : decode cX7_oneHour 2 = .ok (.putfield 174, 3) := by decide +kernel
theorem dX7_oneHour_5 : decode cX7_oneHour 5 = .ok (.iconst 0, 1) := by decide +kernel
theorem dX7_oneHour_6 : decode cX7_oneHour 6 = .ok (.istore_n 1, 1) := by decide +kernel
theorem dX7_oneHour_7 : decode cX7_oneHour 7 = .ok (.iload_n 1, 1) := by decide +kernel
theorem dX7_oneHour_8 : decode cX7_oneHour 8 = .ok (.aload_n 0, 1) := by decide +kernel
theorem dX7_oneHour_9 : decode cX7_oneHour 9 = .ok (.getfield 19, 3) := by decide +kernel
theorem dX7_oneHour_12 : decode cX7_oneHour 12 = .ok (.bipush 50, 2) := by decide +kernel
theorem dX7_oneHour_14 : decode cX7_oneHour 14 = .ok (.iaload, 1) := by decide +kernel
theorem dX7_oneHour_15 : decode cX7_oneHour 15 = .ok (.if_icmp .ge 22, 3) := by decide +kernel
theorem dX7_oneHour_18 : decode cX7_oneHour 18 = .ok (.aload_n 0, 1) := by decide +kernel
theorem dX7_oneHour_19 : decode cX7_oneHour 19 = .ok (.iload_n 1, 1) := by decide +kernel
theorem dX7_oneHour_20 : decode cX7_oneHour 20 = .ok (.invokevirtual 177, 3) := by decide +kernel
theorem dX7_oneHour_23 : decode cX7_oneHour 23 = .ok (.ifCond .eq 8, 3) := by decide +kernel
theorem dX7_oneHour_26 : decode cX7_oneHour 26 = .ok (.aload_n 0, 1) := by decide +kernel
theorem dX7_oneHour_27 : decode cX7_oneHour 27 = .ok (.iload_n 1, 1) := by decide +kernel
theorem dX7_oneHour_28 : decode cX7_oneHour 28 = .ok (.invokevirtual 180, 3) := by decide +kernel
theorem dX7_oneHour_31 : decode cX7_oneHour 31 = .ok (.iinc 1 1, 3) := by decide +kernel
theorem dX7_oneHour_34 : decode cX7_oneHour 34 = .ok (.goto (-27), 3) := by decide +kernel
theorem dX7_oneHour_37 : decode cX7_oneHour 37 = .ok (.aload_n 0, 1) := by decide +kernel
theorem dX7_oneHour_38 : decode cX7_oneHour 38 = .ok (.invokevirtual 184, 3) := by decide +kernel
theorem dX7_oneHour_41 : decode cX7_oneHour 41 = .ok (.istore_n 1, 1) := by decide +kernel
theorem dX7_oneHour_42 : decode cX7_oneHour 42 = .ok (.iconst 0, 1) := by decide +kernel
theorem dX7_oneHour_43 : decode cX7_oneHour 43 = .ok (.istore_n 2, 1) := by decide +kernel
theorem dX7_oneHour_44 : decode cX7_oneHour 44 = .ok (.iload_n 2, 1) := by decide +kernel
theorem dX7_oneHour_45 : decode cX7_oneHour 45 = .ok (.aload_n 0, 1) := by decide +kernel
theorem dX7_oneHour_46 : decode cX7_oneHour 46 = .ok (.getfield 19, 3) := by decide +kernel
theorem dX7_oneHour_49 : decode cX7_oneHour 49 = .ok (.bipush 50, 2) := by decide +kernel
theorem dX7_oneHour_51 : decode cX7_oneHour 51 = .ok (.iaload, 1) := by decide +kernel
theorem dX7_oneHour_52 : decode cX7_oneHour 52 = .ok (.if_icmp .ge 23, 3) := by decide +kernel
theorem dX7_oneHour_55 : decode cX7_oneHour 55 = .ok (.aload_n 0, 1) := by decide +kernel
theorem dX7_oneHour_56 : decode cX7_oneHour 56 = .ok (.iload_n 2, 1) := by decide +kernel
theorem dX7_oneHour_57 : decode cX7_oneHour 57 = .ok (.invokevirtual 177, 3) := by decide +kernel
theorem dX7_oneHour_60 : decode cX7_oneHour 60 = .ok (.ifCond .eq 9, 3) := by decide +kernel
theorem dX7_oneHour_63 : decode cX7_oneHour 63 = .ok (.aload_n 0, 1) := by decide +kernel
theorem dX7_oneHour_64 : decode cX7_oneHour 64 = .ok (.iload_n 2, 1) := by decide +kernel
theorem dX7_oneHour_65 : decode cX7_oneHour 65 = .ok (.invokevirtual 187, 3) := by decide +kernel
theorem dX7_oneHour_68 : decode cX7_oneHour 68 = .ok (.pop, 1) := by decide +kernel
theorem dX7_oneHour_69 : decode cX7_oneHour 69 = .ok (.iinc 2 1, 3) := by decide +kernel
theorem dX7_oneHour_72 : decode cX7_oneHour 72 = .ok (.goto (-28), 3) := by decide +kernel
theorem dX7_oneHour_75 : decode cX7_oneHour 75 = .ok (.iconst 0, 1) := by decide +kernel
theorem dX7_oneHour_76 : decode cX7_oneHour 76 = .ok (.istore_n 2, 1) := by decide +kernel
theorem dX7_oneHour_77 : decode cX7_oneHour 77 = .ok (.iload_n 2, 1) := by decide +kernel
theorem dX7_oneHour_78 : decode cX7_oneHour 78 = .ok (.aload_n 0, 1) := by decide +kernel
theorem dX7_oneHour_79 : decode cX7_oneHour 79 = .ok (.getfield 19, 3) := by decide +kernel
theorem dX7_oneHour_82 : decode cX7_oneHour 82 = .ok (.bipush 50, 2) := by decide +kernel
theorem dX7_oneHour_84 : decode cX7_oneHour 84 = .ok (.iaload, 1) := by decide +kernel
theorem dX7_oneHour_85 : decode cX7_oneHour 85 = .ok (.if_icmp .ge 22, 3) := by decide +kernel
theorem dX7_oneHour_88 : decode cX7_oneHour 88 = .ok (.aload_n 0, 1) := by decide +kernel
theorem dX7_oneHour_89 : decode cX7_oneHour 89 = .ok (.iload_n 2, 1) := by decide +kernel
theorem dX7_oneHour_90 : decode cX7_oneHour 90 = .ok (.invokevirtual 177, 3) := by decide +kernel
theorem dX7_oneHour_93 : decode cX7_oneHour 93 = .ok (.ifCond .eq 8, 3) := by decide +kernel
theorem dX7_oneHour_96 : decode cX7_oneHour 96 = .ok (.aload_n 0, 1) := by decide +kernel
theorem dX7_oneHour_97 : decode cX7_oneHour 97 = .ok (.iload_n 2, 1) := by decide +kernel
theorem dX7_oneHour_98 : decode cX7_oneHour 98 = .ok (.invokevirtual 190, 3) := by decide +kernel
theorem dX7_oneHour_101 : decode cX7_oneHour 101 = .ok (.iinc 2 1, 3) := by decide +kernel
theorem dX7_oneHour_104 : decode cX7_oneHour 104 = .ok (.goto (-27), 3) := by decide +kernel
theorem dX7_oneHour_107 : decode cX7_oneHour 107 = .ok (.aload_n 0, 1) := by decide +kernel
theorem dX7_oneHour_108 : decode cX7_oneHour 108 = .ok (.getfield 19, 3) := by decide +kernel
theorem dX7_oneHour_111 : decode cX7_oneHour 111 = .ok (.bipush 46, 2) := by decide +kernel
theorem dX7_oneHour_113 : decode cX7_oneHour 113 = .ok (.dup2, 1) := by decide +kernel
theorem dX7_oneHour_114 : decode cX7_oneHour 114 = .ok (.iaload, 1) := by decide +kernel
theorem dX7_oneHour_115 : decode cX7_oneHour 115 = .ok (.iconst 1, 1) := by decide +kernel
theorem dX7_oneHour_116 : decode cX7_oneHour 116 = .ok (.iadd, 1) := by decide +kernel
theorem dX7_oneHour_117 : decode cX7_oneHour 117 = .ok (.iastore, 1) := by decide +kernel
theorem dX7_oneHour_118 : decode cX7_oneHour 118 = .ok (.iload_n 1, 1) := by decide +kernel
theorem dX7_oneHour_119 : decode cX7_oneHour 119 = .ok (.ireturn, 1) := by decide +kernel
theorem dX7_oneAlone_0 : decode cX7_oneAlone 0 = .ok (.aload_n 0, 1) := by decide +kernel
theorem dX7_oneAlone_1 : decode cX7_oneAlone 1 = .ok (.iload_n 1, 1) := by decide +kernel
theorem dX7_oneAlone_2 : decode cX7_oneAlone 2 = .ok (.invokevirtual 180, 3) := by decide +kernel
theorem dX7_oneAlone_5 : decode cX7_oneAlone 5 = .ok (.aload_n 0, 1) := by decide +kernel
theorem dX7_oneAlone_6 : decode cX7_oneAlone 6 = .ok (.iload_n 1, 1) := by decide +kernel
theorem dX7_oneAlone_7 : decode cX7_oneAlone 7 = .ok (.invokevirtual 187, 3) := by decide +kernel
theorem dX7_oneAlone_10 : decode cX7_oneAlone 10 = .ok (.istore_n 2, 1) := by decide +kernel
theorem dX7_oneAlone_11 : decode cX7_oneAlone 11 = .ok (.aload_n 0, 1) := by decide +kernel
theorem dX7_oneAlone_12 : decode cX7_oneAlone 12 = .ok (.iload_n 1, 1) := by decide +kernel
theorem dX7_oneAlone_13 : decode cX7_oneAlone 13 = .ok (.invokevirtual 190, 3) := by decide +kernel
theorem dX7_oneAlone_16 : decode cX7_oneAlone 16 = .ok (.aload_n 0, 1) := by decide +kernel
theorem dX7_oneAlone_17 : decode cX7_oneAlone 17 = .ok (.getfield 19, 3) := by decide +kernel
theorem dX7_oneAlone_20 : decode cX7_oneAlone 20 = .ok (.bipush 46, 2) := by decide +kernel
theorem dX7_oneAlone_22 : decode cX7_oneAlone 22 = .ok (.dup2, 1) := by decide +kernel
theorem dX7_oneAlone_23 : decode cX7_oneAlone 23 = .ok (.iaload, 1) := by decide +kernel
theorem dX7_oneAlone_24 : decode cX7_oneAlone 24 = .ok (.iconst 1, 1) := by decide +kernel
theorem dX7_oneAlone_25 : decode cX7_oneAlone 25 = .ok (.iadd, 1) := by decide +kernel
theorem dX7_oneAlone_26 : decode cX7_oneAlone 26 = .ok (.iastore, 1) := by decide +kernel
theorem dX7_oneAlone_27 : decode cX7_oneAlone 27 = .ok (.iload_n 2, 1) := by decide +kernel
theorem dX7_oneAlone_28 : decode cX7_oneAlone 28 = .ok (.ireturn, 1) := by decide +kernel
theorem dX7_note_0 : decode cX7_note 0 = .ok (.aload_n 0, 1) := by decide +kernel
theorem dX7_note_1 : decode cX7_note 1 = .ok (.getfield 158, 3) := by decide +kernel
theorem dX7_note_4 : decode cX7_note 4 = .ok (.bipush 24, 2) := by decide +kernel
theorem dX7_note_6 : decode cX7_note 6 = .ok (.if_icmp .ne 43, 3) := by decide +kernel
theorem dX7_note_9 : decode cX7_note 9 = .ok (.iconst 0, 1) := by decide +kernel
theorem dX7_note_10 : decode cX7_note 10 = .ok (.istore_n 1, 1) := by decide +kernel
theorem dX7_note_11 : decode cX7_note 11 = .ok (.iload_n 1, 1) := by decide +kernel
theorem dX7_note_12 : decode cX7_note 12 = .ok (.sipush 1886, 3) := by decide +kernel
theorem dX7_note_15 : decode cX7_note 15 = .ok (.if_icmp .ge 24, 3) := by decide +kernel
theorem dX7_note_18 : decode cX7_note 18 = .ok (.aload_n 0, 1) := by decide +kernel
theorem dX7_note_19 : decode cX7_note 19 = .ok (.getfield 31, 3) := by decide +kernel
theorem dX7_note_22 : decode cX7_note 22 = .ok (.iload_n 1, 1) := by decide +kernel
theorem dX7_note_23 : decode cX7_note 23 = .ok (.aload_n 0, 1) := by decide +kernel
theorem dX7_note_24 : decode cX7_note 24 = .ok (.getfield 31, 3) := by decide +kernel
theorem dX7_note_27 : decode cX7_note 27 = .ok (.iload_n 1, 1) := by decide +kernel
theorem dX7_note_28 : decode cX7_note 28 = .ok (.bipush 82, 2) := by decide +kernel
theorem dX7_note_30 : decode cX7_note 30 = .ok (.iadd, 1) := by decide +kernel
theorem dX7_note_31 : decode cX7_note 31 = .ok (.iaload, 1) := by decide +kernel
theorem dX7_note_32 : decode cX7_note 32 = .ok (.iastore, 1) := by decide +kernel
theorem dX7_note_33 : decode cX7_note 33 = .ok (.iinc 1 1, 3) := by decide +kernel
theorem dX7_note_36 : decode cX7_note 36 = .ok (.goto (-25), 3) := by decide +kernel
theorem dX7_note_39 : decode cX7_note 39 = .ok (.aload_n 0, 1) := by decide +kernel
theorem dX7_note_40 : decode cX7_note 40 = .ok (.dup, 1) := by decide +kernel
theorem dX7_note_41 : decode cX7_note 41 = .ok (.getfield 158, 3) := by decide +kernel
theorem dX7_note_44 : decode cX7_note 44 = .ok (.iconst 1, 1) := by decide +kernel
theorem dX7_note_45 : decode cX7_note 45 = .ok (.isub, 1) := by decide +kernel
theorem dX7_note_46 : decode cX7_note 46 = .ok (.putfield 158, 3) := by decide +kernel
theorem dX7_note_49 : decode cX7_note 49 = .ok (.iconst 0, 1) := by decide +kernel
theorem dX7_note_50 : decode cX7_note 50 = .ok (.istore_n 1, 1) := by decide +kernel
theorem dX7_note_51 : decode cX7_note 51 = .ok (.iload_n 1, 1) := by decide +kernel
theorem dX7_note_52 : decode cX7_note 52 = .ok (.bipush 82, 2) := by decide +kernel
theorem dX7_note_54 : decode cX7_note 54 = .ok (.if_icmp .ge 29, 3) := by decide +kernel
theorem dX7_note_57 : decode cX7_note 57 = .ok (.aload_n 0, 1) := by decide +kernel
theorem dX7_note_58 : decode cX7_note 58 = .ok (.getfield 31, 3) := by decide +kernel
theorem dX7_note_61 : decode cX7_note 61 = .ok (.bipush 82, 2) := by decide +kernel
theorem dX7_note_63 : decode cX7_note 63 = .ok (.aload_n 0, 1) := by decide +kernel
theorem dX7_note_64 : decode cX7_note 64 = .ok (.getfield 158, 3) := by decide +kernel
theorem dX7_note_67 : decode cX7_note 67 = .ok (.imul, 1) := by decide +kernel
theorem dX7_note_68 : decode cX7_note 68 = .ok (.iload_n 1, 1) := by decide +kernel
theorem dX7_note_69 : decode cX7_note 69 = .ok (.iadd, 1) := by decide +kernel
theorem dX7_note_70 : decode cX7_note 70 = .ok (.aload_n 0, 1) := by decide +kernel
theorem dX7_note_71 : decode cX7_note 71 = .ok (.getfield 19, 3) := by decide +kernel
theorem dX7_note_74 : decode cX7_note 74 = .ok (.iload_n 1, 1) := by decide +kernel
theorem dX7_note_75 : decode cX7_note 75 = .ok (.iaload, 1) := by decide +kernel
theorem dX7_note_76 : decode cX7_note 76 = .ok (.iastore, 1) := by decide +kernel
theorem dX7_note_77 : decode cX7_note 77 = .ok (.iinc 1 1, 3) := by decide +kernel
theorem dX7_note_80 : decode cX7_note 80 = .ok (.goto (-29), 3) := by decide +kernel
theorem dX7_note_83 : decode cX7_note 83 = .ok (.aload_n 0, 1) := by decide +kernel
theorem dX7_note_84 : decode cX7_note 84 = .ok (.dup, 1) := by decide +kernel
theorem dX7_note_85 : decode cX7_note 85 = .ok (.getfield 158, 3) := by decide +kernel
theorem dX7_note_88 : decode cX7_note 88 = .ok (.iconst 1, 1) := by decide +kernel
theorem dX7_note_89 : decode cX7_note 89 = .ok (.iadd, 1) := by decide +kernel
theorem dX7_note_90 : decode cX7_note 90 = .ok (.putfield 158, 3) := by decide +kernel
theorem dX7_note_93 : decode cX7_note 93 = .ok (.return_, 1) := by decide +kernel
theorem dX7_undo_0 : decode cX7_undo 0 = .ok (.aload_n 0, 1) := by decide +kernel
theorem dX7_undo_1 : decode cX7_undo 1 = .ok (.getfield 158, 3) := by decide +kernel
theorem dX7_undo_4 : decode cX7_undo 4 = .ok (.ifCond .ne 6, 3) := by decide +kernel
theorem dX7_undo_7 : decode cX7_undo 7 = .ok (.ldc 193, 2) := by decide +kernel
theorem dX7_undo_9 : decode cX7_undo 9 = .ok (.ireturn, 1) := by decide +kernel
theorem dX7_undo_10 : decode cX7_undo 10 = .ok (.aload_n 0, 1) := by decide +kernel
theorem dX7_undo_11 : decode cX7_undo 11 = .ok (.dup, 1) := by decide +kernel
theorem dX7_undo_12 : decode cX7_undo 12 = .ok (.getfield 158, 3) := by decide +kernel
theorem dX7_undo_15 : decode cX7_undo 15 = .ok (.iconst 1, 1) := by decide +kernel
theorem dX7_undo_16 : decode cX7_undo 16 = .ok (.isub, 1) := by decide +kernel
theorem dX7_undo_17 : decode cX7_undo 17 = .ok (.putfield 158, 3) := by decide +kernel
theorem dX7_undo_20 : decode cX7_undo 20 = .ok (.iconst 0, 1) := by decide +kernel
theorem dX7_undo_21 : decode cX7_undo 21 = .ok (.istore_n 1, 1) := by decide +kernel
theorem dX7_undo_22 : decode cX7_undo 22 = .ok (.iload_n 1, 1) := by decide +kernel
theorem dX7_undo_23 : decode cX7_undo 23 = .ok (.bipush 82, 2) := by decide +kernel
theorem dX7_undo_25 : decode cX7_undo 25 = .ok (.if_icmp .ge 29, 3) := by decide +kernel
theorem dX7_undo_28 : decode cX7_undo 28 = .ok (.aload_n 0, 1) := by decide +kernel
theorem dX7_undo_29 : decode cX7_undo 29 = .ok (.getfield 19, 3) := by decide +kernel
theorem dX7_undo_32 : decode cX7_undo 32 = .ok (.iload_n 1, 1) := by decide +kernel
theorem dX7_undo_33 : decode cX7_undo 33 = .ok (.aload_n 0, 1) := by decide +kernel
theorem dX7_undo_34 : decode cX7_undo 34 = .ok (.getfield 31, 3) := by decide +kernel
theorem dX7_undo_37 : decode cX7_undo 37 = .ok (.bipush 82, 2) := by decide +kernel
theorem dX7_undo_39 : decode cX7_undo 39 = .ok (.aload_n 0, 1) := by decide +kernel
theorem dX7_undo_40 : decode cX7_undo 40 = .ok (.getfield 158, 3) := by decide +kernel
theorem dX7_undo_43 : decode cX7_undo 43 = .ok (.imul, 1) := by decide +kernel
theorem dX7_undo_44 : decode cX7_undo 44 = .ok (.iload_n 1, 1) := by decide +kernel
theorem dX7_undo_45 : decode cX7_undo 45 = .ok (.iadd, 1) := by decide +kernel
theorem dX7_undo_46 : decode cX7_undo 46 = .ok (.iaload, 1) := by decide +kernel
theorem dX7_undo_47 : decode cX7_undo 47 = .ok (.iastore, 1) := by decide +kernel
theorem dX7_undo_48 : decode cX7_undo 48 = .ok (.iinc 1 1, 3) := by decide +kernel
theorem dX7_undo_51 : decode cX7_undo 51 = .ok (.goto (-29), 3) := by decide +kernel
theorem dX7_undo_54 : decode cX7_undo 54 = .ok (.aload_n 0, 1) := by decide +kernel
theorem dX7_undo_55 : decode cX7_undo 55 = .ok (.getfield 158, 3) := by decide +kernel
theorem dX7_undo_58 : decode cX7_undo 58 = .ok (.ireturn, 1) := by decide +kernel
theorem dX7_hours_0 : decode cX7_hours 0 = .ok (.aload_n 0, 1) := by decide +kernel
theorem dX7_hours_1 : decode cX7_hours 1 = .ok (.getfield 154, 3) := by decide +kernel
theorem dX7_hours_4 : decode cX7_hours 4 = .ok (.ifCond .ne 6, 3) := by decide +kernel
theorem dX7_hours_7 : decode cX7_hours 7 = .ok (.ldc 193, 2) := by decide +kernel
theorem dX7_hours_9 : decode cX7_hours 9 = .ok (.ireturn, 1) := by decide +kernel
theorem dX7_hours_10 : decode cX7_hours 10 = .ok (.iload_n 1, 1) := by decide +kernel
theorem dX7_hours_11 : decode cX7_hours 11 = .ok (.i2l, 1) := by decide +kernel
theorem dX7_hours_12 : decode cX7_hours 12 = .ok (.lconst 1, 1) := by decide +kernel
theorem dX7_hours_13 : decode cX7_hours 13 = .ok (.ldc2_w 194, 3) := by decide +kernel
theorem dX7_hours_16 : decode cX7_hours 16 = .ok (.invokestatic 60, 3) := by decide +kernel
theorem dX7_hours_19 : decode cX7_hours 19 = .ok (.ifCond .ne 6, 3) := by decide +kernel
theorem dX7_hours_22 : decode cX7_hours 22 = .ok (.ldc 70, 2) := by decide +kernel
theorem dX7_hours_24 : decode cX7_hours 24 = .ok (.ireturn, 1) := by decide +kernel
theorem dX7_hours_25 : decode cX7_hours 25 = .ok (.aload_n 0, 1) := by decide +kernel
theorem dX7_hours_26 : decode cX7_hours 26 = .ok (.getfield 19, 3) := by decide +kernel
theorem dX7_hours_29 : decode cX7_hours 29 = .ok (.bipush 46, 2) := by decide +kernel
theorem dX7_hours_31 : decode cX7_hours 31 = .ok (.iaload, 1) := by decide +kernel
theorem dX7_hours_32 : decode cX7_hours 32 = .ok (.iload_n 1, 1) := by decide +kernel
theorem dX7_hours_33 : decode cX7_hours 33 = .ok (.iadd, 1) := by decide +kernel
theorem dX7_hours_34 : decode cX7_hours 34 = .ok (.sipush 999, 3) := by decide +kernel
theorem dX7_hours_37 : decode cX7_hours 37 = .ok (.if_icmp .le 6, 3) := by decide +kernel
theorem dX7_hours_40 : decode cX7_hours 40 = .ok (.ldc 87, 2) := by decide +kernel
theorem dX7_hours_42 : decode cX7_hours 42 = .ok (.ireturn, 1) := by decide +kernel
theorem dX7_hours_43 : decode cX7_hours 43 = .ok (.iconst 0, 1) := by decide +kernel
theorem dX7_hours_44 : decode cX7_hours 44 = .ok (.istore_n 2, 1) := by decide +kernel
theorem dX7_hours_45 : decode cX7_hours 45 = .ok (.iload_n 2, 1) := by decide +kernel
theorem dX7_hours_46 : decode cX7_hours 46 = .ok (.iload_n 1, 1) := by decide +kernel
theorem dX7_hours_47 : decode cX7_hours 47 = .ok (.if_icmp .ge 18, 3) := by decide +kernel
theorem dX7_hours_50 : decode cX7_hours 50 = .ok (.aload_n 0, 1) := by decide +kernel
theorem dX7_hours_51 : decode cX7_hours 51 = .ok (.invokevirtual 196, 3) := by decide +kernel
theorem dX7_hours_54 : decode cX7_hours 54 = .ok (.aload_n 0, 1) := by decide +kernel
theorem dX7_hours_55 : decode cX7_hours 55 = .ok (.invokevirtual 199, 3) := by decide +kernel
theorem dX7_hours_58 : decode cX7_hours 58 = .ok (.pop, 1) := by decide +kernel
theorem dX7_hours_59 : decode cX7_hours 59 = .ok (.iinc 2 1, 3) := by decide +kernel
theorem dX7_hours_62 : decode cX7_hours 62 = .ok (.goto (-17), 3) := by decide +kernel
theorem dX7_hours_65 : decode cX7_hours 65 = .ok (.aload_n 0, 1) := by decide +kernel
theorem dX7_hours_66 : decode cX7_hours 66 = .ok (.getfield 19, 3) := by decide +kernel
theorem dX7_hours_69 : decode cX7_hours 69 = .ok (.bipush 47, 2) := by decide +kernel
theorem dX7_hours_71 : decode cX7_hours 71 = .ok (.iaload, 1) := by decide +kernel
theorem dX7_hours_72 : decode cX7_hours 72 = .ok (.ireturn, 1) := by decide +kernel
theorem dX7_isCloud_0 : decode cX7_isCloud 0 = .ok (.iload_n 1, 1) := by decide +kernel
theorem dX7_isCloud_1 : decode cX7_isCloud 1 = .ok (.i2l, 1) := by decide +kernel
theorem dX7_isCloud_2 : decode cX7_isCloud 2 = .ok (.lconst 0, 1) := by decide +kernel
theorem dX7_isCloud_3 : decode cX7_isCloud 3 = .ok (.aload_n 0, 1) := by decide +kernel
theorem dX7_isCloud_4 : decode cX7_isCloud 4 = .ok (.getfield 19, 3) := by decide +kernel
theorem dX7_isCloud_7 : decode cX7_isCloud 7 = .ok (.bipush 50, 2) := by decide +kernel
theorem dX7_isCloud_9 : decode cX7_isCloud 9 = .ok (.iaload, 1) := by decide +kernel
theorem dX7_isCloud_10 : decode cX7_isCloud 10 = .ok (.iconst 1, 1) := by decide +kernel
theorem dX7_isCloud_11 : decode cX7_isCloud 11 = .ok (.isub, 1) := by decide +kernel
theorem dX7_isCloud_12 : decode cX7_isCloud 12 = .ok (.i2l, 1) := by decide +kernel
theorem dX7_isCloud_13 : decode cX7_isCloud 13 = .ok (.invokestatic 60, 3) := by decide +kernel
theorem dX7_isCloud_16 : decode cX7_isCloud 16 = .ok (.ireturn, 1) := by decide +kernel
theorem dX7_setHeight_0 : decode cX7_setHeight 0 = .ok (.iload_n 2, 1) := by decide +kernel
theorem dX7_setHeight_1 : decode cX7_setHeight 1 = .ok (.aload_n 0, 1) := by decide +kernel
theorem dX7_setHeight_2 : decode cX7_setHeight 2 = .ok (.getfield 19, 3) := by decide +kernel
theorem dX7_setHeight_5 : decode cX7_setHeight 5 = .ok (.bipush 61, 2) := by decide +kernel
theorem dX7_setHeight_7 : decode cX7_setHeight 7 = .ok (.iload_n 1, 1) := by decide +kernel
theorem dX7_setHeight_8 : decode cX7_setHeight 8 = .ok (.iadd, 1) := by decide +kernel
theorem dX7_setHeight_9 : decode cX7_setHeight 9 = .ok (.iaload, 1) := by decide +kernel
theorem dX7_setHeight_10 : decode cX7_setHeight 10 = .ok (.if_icmp .le 33, 3) := by decide +kernel
theorem dX7_setHeight_13 : decode cX7_setHeight 13 = .ok (.aload_n 0, 1) := by decide +kernel
theorem dX7_setHeight_14 : decode cX7_setHeight 14 = .ok (.getfield 19, 3) := by decide +kernel
theorem dX7_setHeight_17 : decode cX7_setHeight 17 = .ok (.bipush 66, 2) := by decide +kernel
theorem dX7_setHeight_19 : decode cX7_setHeight 19 = .ok (.iload_n 1, 1) := by decide +kernel
theorem dX7_setHeight_20 : decode cX7_setHeight 20 = .ok (.iadd, 1) := by decide +kernel
theorem dX7_setHeight_21 : decode cX7_setHeight 21 = .ok (.iaload, 1) := by decide +kernel
theorem dX7_setHeight_22 : decode cX7_setHeight 22 = .ok (.iconst 2, 1) := by decide +kernel
theorem dX7_setHeight_23 : decode cX7_setHeight 23 = .ok (.isub, 1) := by decide +kernel
theorem dX7_setHeight_24 : decode cX7_setHeight 24 = .ok (.istore_n 3, 1) := by decide +kernel
theorem dX7_setHeight_25 : decode cX7_setHeight 25 = .ok (.aload_n 0, 1) := by decide +kernel
theorem dX7_setHeight_26 : decode cX7_setHeight 26 = .ok (.getfield 19, 3) := by decide +kernel
theorem dX7_setHeight_29 : decode cX7_setHeight 29 = .ok (.bipush 66, 2) := by decide +kernel
theorem dX7_setHeight_31 : decode cX7_setHeight 31 = .ok (.iload_n 1, 1) := by decide +kernel
theorem dX7_setHeight_32 : decode cX7_setHeight 32 = .ok (.iadd, 1) := by decide +kernel
theorem dX7_setHeight_33 : decode cX7_setHeight 33 = .ok (.iload_n 3, 1) := by decide +kernel
theorem dX7_setHeight_34 : decode cX7_setHeight 34 = .ok (.ifCond .ge 7, 3) := by decide +kernel
theorem dX7_setHeight_37 : decode cX7_setHeight 37 = .ok (.iconst 0, 1) := by decide +kernel
theorem dX7_setHeight_38 : decode cX7_setHeight 38 = .ok (.goto 4, 3) := by decide +kernel
theorem dX7_setHeight_41 : decode cX7_setHeight 41 = .ok (.iload_n 3, 1) := by decide +kernel
theorem dX7_setHeight_42 : decode cX7_setHeight 42 = .ok (.iastore, 1) := by decide +kernel
theorem dX7_setHeight_43 : decode cX7_setHeight 43 = .ok (.aload_n 0, 1) := by decide +kernel
theorem dX7_setHeight_44 : decode cX7_setHeight 44 = .ok (.getfield 19, 3) := by decide +kernel
theorem dX7_setHeight_47 : decode cX7_setHeight 47 = .ok (.bipush 61, 2) := by decide +kernel
theorem dX7_setHeight_49 : decode cX7_setHeight 49 = .ok (.iload_n 1, 1) := by decide +kernel
theorem dX7_setHeight_50 : decode cX7_setHeight 50 = .ok (.iadd, 1) := by decide +kernel
theorem dX7_setHeight_51 : decode cX7_setHeight 51 = .ok (.iload_n 2, 1) := by decide +kernel
theorem dX7_setHeight_52 : decode cX7_setHeight 52 = .ok (.iastore, 1) := by decide +kernel
theorem dX7_setHeight_53 : decode cX7_setHeight 53 = .ok (.return_, 1) := by decide +kernel
theorem dX7_lift_0 : decode cX7_lift 0 = .ok (.aload_n 0, 1) := by decide +kernel
theorem dX7_lift_1 : decode cX7_lift 1 = .ok (.iload_n 1, 1) := by decide +kernel
theorem dX7_lift_2 : decode cX7_lift 2 = .ok (.invokevirtual 202, 3) := by decide +kernel
theorem dX7_lift_5 : decode cX7_lift 5 = .ok (.ifCond .eq 13, 3) := by decide +kernel
theorem dX7_lift_8 : decode cX7_lift 8 = .ok (.iload_n 2, 1) := by decide +kernel
theorem dX7_lift_9 : decode cX7_lift 9 = .ok (.i2l, 1) := by decide +kernel
theorem dX7_lift_10 : decode cX7_lift 10 = .ok (.lconst 0, 1) := by decide +kernel
theorem dX7_lift_11 : decode cX7_lift 11 = .ok (.lconst 1, 1) := by decide +kernel
theorem dX7_lift_12 : decode cX7_lift 12 = .ok (.invokestatic 60, 3) := by decide +kernel
theorem dX7_lift_15 : decode cX7_lift 15 = .ok (.ifCond .ne 6, 3) := by decide +kernel
theorem dX7_lift_18 : decode cX7_lift 18 = .ok (.ldc 70, 2) := by decide +kernel
theorem dX7_lift_20 : decode cX7_lift 20 = .ok (.ireturn, 1) := by decide +kernel
theorem dX7_lift_21 : decode cX7_lift 21 = .ok (.aload_n 0, 1) := by decide +kernel
theorem dX7_lift_22 : decode cX7_lift 22 = .ok (.getfield 19, 3) := by decide +kernel
theorem dX7_lift_25 : decode cX7_lift 25 = .ok (.bipush 61, 2) := by decide +kernel
theorem dX7_lift_27 : decode cX7_lift 27 = .ok (.iload_n 1, 1) := by decide +kernel
theorem dX7_lift_28 : decode cX7_lift 28 = .ok (.iadd, 1) := by decide +kernel
theorem dX7_lift_29 : decode cX7_lift 29 = .ok (.iaload, 1) := by decide +kernel
theorem dX7_lift_30 : decode cX7_lift 30 = .ok (.iload_n 2, 1) := by decide +kernel
theorem dX7_lift_31 : decode cX7_lift 31 = .ok (.if_icmp .eq 24, 3) := by decide +kernel
theorem dX7_lift_34 : decode cX7_lift 34 = .ok (.aload_n 0, 1) := by decide +kernel
theorem dX7_lift_35 : decode cX7_lift 35 = .ok (.iload_n 1, 1) := by decide +kernel
theorem dX7_lift_36 : decode cX7_lift 36 = .ok (.invokevirtual 177, 3) := by decide +kernel
theorem dX7_lift_39 : decode cX7_lift 39 = .ok (.ifCond .eq 16, 3) := by decide +kernel
theorem dX7_lift_42 : decode cX7_lift 42 = .ok (.aload_n 0, 1) := by decide +kernel
theorem dX7_lift_43 : decode cX7_lift 43 = .ok (.getfield 19, 3) := by decide +kernel
theorem dX7_lift_46 : decode cX7_lift 46 = .ok (.bipush 51, 2) := by decide +kernel
theorem dX7_lift_48 : decode cX7_lift 48 = .ok (.iload_n 1, 1) := by decide +kernel
theorem dX7_lift_49 : decode cX7_lift 49 = .ok (.iadd, 1) := by decide +kernel
theorem dX7_lift_50 : decode cX7_lift 50 = .ok (.iaload, 1) := by decide +kernel
theorem dX7_lift_51 : decode cX7_lift 51 = .ok (.iconst 4, 1) := by decide +kernel
theorem dX7_lift_52 : decode cX7_lift 52 = .ok (.if_icmp .lt 6, 3) := by decide +kernel
theorem dX7_lift_55 : decode cX7_lift 55 = .ok (.ldc 193, 2) := by decide +kernel
theorem dX7_lift_57 : decode cX7_lift 57 = .ok (.ireturn, 1) := by decide +kernel
theorem dX7_lift_58 : decode cX7_lift 58 = .ok (.aload_n 0, 1) := by decide +kernel
theorem dX7_lift_59 : decode cX7_lift 59 = .ok (.invokevirtual 196, 3) := by decide +kernel
theorem dX7_lift_62 : decode cX7_lift 62 = .ok (.aload_n 0, 1) := by decide +kernel
theorem dX7_lift_63 : decode cX7_lift 63 = .ok (.iload_n 1, 1) := by decide +kernel
theorem dX7_lift_64 : decode cX7_lift 64 = .ok (.iload_n 2, 1) := by decide +kernel
theorem dX7_lift_65 : decode cX7_lift 65 = .ok (.invokevirtual 205, 3) := by decide +kernel
theorem dX7_lift_68 : decode cX7_lift 68 = .ok (.aload_n 0, 1) := by decide +kernel
theorem dX7_lift_69 : decode cX7_lift 69 = .ok (.getfield 19, 3) := by decide +kernel
theorem dX7_lift_72 : decode cX7_lift 72 = .ok (.bipush 66, 2) := by decide +kernel
theorem dX7_lift_74 : decode cX7_lift 74 = .ok (.iload_n 1, 1) := by decide +kernel
theorem dX7_lift_75 : decode cX7_lift 75 = .ok (.iadd, 1) := by decide +kernel
theorem dX7_lift_76 : decode cX7_lift 76 = .ok (.iaload, 1) := by decide +kernel
theorem dX7_lift_77 : decode cX7_lift 77 = .ok (.ireturn, 1) := by decide +kernel
theorem dX7_rains_0 : decode cX7_rains 0 = .ok (.aload_n 0, 1) := by decide +kernel
theorem dX7_rains_1 : decode cX7_rains 1 = .ok (.iload_n 1, 1) := by decide +kernel
theorem dX7_rains_2 : decode cX7_rains 2 = .ok (.invokevirtual 202, 3) := by decide +kernel
theorem dX7_rains_5 : decode cX7_rains 5 = .ok (.ifCond .eq 13, 3) := by decide +kernel
theorem dX7_rains_8 : decode cX7_rains 8 = .ok (.iload_n 2, 1) := by decide +kernel
theorem dX7_rains_9 : decode cX7_rains 9 = .ok (.i2l, 1) := by decide +kernel
theorem dX7_rains_10 : decode cX7_rains 10 = .ok (.lconst 0, 1) := by decide +kernel
theorem dX7_rains_11 : decode cX7_rains 11 = .ok (.lconst 1, 1) := by decide +kernel
theorem dX7_rains_12 : decode cX7_rains 12 = .ok (.invokestatic 60, 3) := by decide +kernel
theorem dX7_rains_15 : decode cX7_rains 15 = .ok (.ifCond .ne 6, 3) := by decide +kernel
theorem dX7_rains_18 : decode cX7_rains 18 = .ok (.ldc 70, 2) := by decide +kernel
theorem dX7_rains_20 : decode cX7_rains 20 = .ok (.ireturn, 1) := by decide +kernel
theorem dX7_rains_21 : decode cX7_rains 21 = .ok (.aload_n 0, 1) := by decide +kernel
theorem dX7_rains_22 : decode cX7_rains 22 = .ok (.iload_n 1, 1) := by decide +kernel
theorem dX7_rains_23 : decode cX7_rains 23 = .ok (.invokevirtual 177, 3) := by decide +kernel
theorem dX7_rains_26 : decode cX7_rains 26 = .ok (.ifCond .eq 16, 3) := by decide +kernel
theorem dX7_rains_29 : decode cX7_rains 29 = .ok (.aload_n 0, 1) := by decide +kernel
theorem dX7_rains_30 : decode cX7_rains 30 = .ok (.getfield 19, 3) := by decide +kernel
theorem dX7_rains_33 : decode cX7_rains 33 = .ok (.bipush 51, 2) := by decide +kernel
theorem dX7_rains_35 : decode cX7_rains 35 = .ok (.iload_n 1, 1) := by decide +kernel
theorem dX7_rains_36 : decode cX7_rains 36 = .ok (.iadd, 1) := by decide +kernel
theorem dX7_rains_37 : decode cX7_rains 37 = .ok (.iaload, 1) := by decide +kernel
theorem dX7_rains_38 : decode cX7_rains 38 = .ok (.iconst 2, 1) := by decide +kernel
theorem dX7_rains_39 : decode cX7_rains 39 = .ok (.if_icmp .le 6, 3) := by decide +kernel
theorem dX7_rains_42 : decode cX7_rains 42 = .ok (.ldc 193, 2) := by decide +kernel
theorem dX7_rains_44 : decode cX7_rains 44 = .ok (.ireturn, 1) := by decide +kernel
theorem dX7_rains_45 : decode cX7_rains 45 = .ok (.aload_n 0, 1) := by decide +kernel
theorem dX7_rains_46 : decode cX7_rains 46 = .ok (.invokevirtual 196, 3) := by decide +kernel
theorem dX7_rains_49 : decode cX7_rains 49 = .ok (.aload_n 0, 1) := by decide +kernel
theorem dX7_rains_50 : decode cX7_rains 50 = .ok (.getfield 19, 3) := by decide +kernel
theorem dX7_rains_53 : decode cX7_rains 53 = .ok (.bipush 76, 2) := by decide +kernel
theorem dX7_rains_55 : decode cX7_rains 55 = .ok (.iload_n 1, 1) := by decide +kernel
theorem dX7_rains_56 : decode cX7_rains 56 = .ok (.iadd, 1) := by decide +kernel
theorem dX7_rains_57 : decode cX7_rains 57 = .ok (.iaload, 1) := by decide +kernel
theorem dX7_rains_58 : decode cX7_rains 58 = .ok (.istore_n 3, 1) := by decide +kernel
theorem dX7_rains_59 : decode cX7_rains 59 = .ok (.aload_n 0, 1) := by decide +kernel
theorem dX7_rains_60 : decode cX7_rains 60 = .ok (.getfield 19, 3) := by decide +kernel
theorem dX7_rains_63 : decode cX7_rains 63 = .ok (.bipush 76, 2) := by decide +kernel
theorem dX7_rains_65 : decode cX7_rains 65 = .ok (.iload_n 1, 1) := by decide +kernel
theorem dX7_rains_66 : decode cX7_rains 66 = .ok (.iadd, 1) := by decide +kernel
theorem dX7_rains_67 : decode cX7_rains 67 = .ok (.iload_n 2, 1) := by decide +kernel
theorem dX7_rains_68 : decode cX7_rains 68 = .ok (.iastore, 1) := by decide +kernel
theorem dX7_rains_69 : decode cX7_rains 69 = .ok (.iload_n 3, 1) := by decide +kernel
theorem dX7_rains_70 : decode cX7_rains 70 = .ok (.ireturn, 1) := by decide +kernel
theorem dX7_toldOf_0 : decode cX7_toldOf 0 = .ok (.iload_n 2, 1) := by decide +kernel
theorem dX7_toldOf_1 : decode cX7_toldOf 1 = .ok (.ifCond .ne 15, 3) := by decide +kernel
theorem dX7_toldOf_4 : decode cX7_toldOf 4 = .ok (.aload_n 0, 1) := by decide +kernel
theorem dX7_toldOf_5 : decode cX7_toldOf 5 = .ok (.getfield 19, 3) := by decide +kernel
theorem dX7_toldOf_8 : decode cX7_toldOf 8 = .ok (.bipush 56, 2) := by decide +kernel
theorem dX7_toldOf_10 : decode cX7_toldOf 10 = .ok (.iload_n 1, 1) := by decide +kernel
theorem dX7_toldOf_11 : decode cX7_toldOf 11 = .ok (.iadd, 1) := by decide +kernel
theorem dX7_toldOf_12 : decode cX7_toldOf 12 = .ok (.iaload, 1) := by decide +kernel
theorem dX7_toldOf_13 : decode cX7_toldOf 13 = .ok (.goto 63, 3) := by decide +kernel
theorem dX7_toldOf_16 : decode cX7_toldOf 16 = .ok (.iload_n 2, 1) := by decide +kernel
theorem dX7_toldOf_17 : decode cX7_toldOf 17 = .ok (.iconst 1, 1) := by decide +kernel
theorem dX7_toldOf_18 : decode cX7_toldOf 18 = .ok (.if_icmp .ne 15, 3) := by decide +kernel
theorem dX7_toldOf_21 : decode cX7_toldOf 21 = .ok (.aload_n 0, 1) := by decide +kernel
theorem dX7_toldOf_22 : decode cX7_toldOf 22 = .ok (.getfield 19, 3) := by decide +kernel
theorem dX7_toldOf_25 : decode cX7_toldOf 25 = .ok (.bipush 61, 2) := by decide +kernel
theorem dX7_toldOf_27 : decode cX7_toldOf 27 = .ok (.iload_n 1, 1) := by decide +kernel
theorem dX7_toldOf_28 : decode cX7_toldOf 28 = .ok (.iadd, 1) := by decide +kernel
theorem dX7_toldOf_29 : decode cX7_toldOf 29 = .ok (.iaload, 1) := by decide +kernel
theorem dX7_toldOf_30 : decode cX7_toldOf 30 = .ok (.goto 46, 3) := by decide +kernel
theorem dX7_toldOf_33 : decode cX7_toldOf 33 = .ok (.iload_n 2, 1) := by decide +kernel
theorem dX7_toldOf_34 : decode cX7_toldOf 34 = .ok (.iconst 2, 1) := by decide +kernel
theorem dX7_toldOf_35 : decode cX7_toldOf 35 = .ok (.if_icmp .ne 15, 3) := by decide +kernel
theorem dX7_toldOf_38 : decode cX7_toldOf 38 = .ok (.aload_n 0, 1) := by decide +kernel
theorem dX7_toldOf_39 : decode cX7_toldOf 39 = .ok (.getfield 19, 3) := by decide +kernel
theorem dX7_toldOf_42 : decode cX7_toldOf 42 = .ok (.bipush 66, 2) := by decide +kernel
theorem dX7_toldOf_44 : decode cX7_toldOf 44 = .ok (.iload_n 1, 1) := by decide +kernel
theorem dX7_toldOf_45 : decode cX7_toldOf 45 = .ok (.iadd, 1) := by decide +kernel
theorem dX7_toldOf_46 : decode cX7_toldOf 46 = .ok (.iaload, 1) := by decide +kernel
theorem dX7_toldOf_47 : decode cX7_toldOf 47 = .ok (.goto 29, 3) := by decide +kernel
theorem dX7_toldOf_50 : decode cX7_toldOf 50 = .ok (.iload_n 2, 1) := by decide +kernel
theorem dX7_toldOf_51 : decode cX7_toldOf 51 = .ok (.iconst 3, 1) := by decide +kernel
theorem dX7_toldOf_52 : decode cX7_toldOf 52 = .ok (.if_icmp .ne 15, 3) := by decide +kernel
theorem dX7_toldOf_55 : decode cX7_toldOf 55 = .ok (.aload_n 0, 1) := by decide +kernel
theorem dX7_toldOf_56 : decode cX7_toldOf 56 = .ok (.getfield 19, 3) := by decide +kernel
theorem dX7_toldOf_59 : decode cX7_toldOf 59 = .ok (.bipush 71, 2) := by decide +kernel
theorem dX7_toldOf_61 : decode cX7_toldOf 61 = .ok (.iload_n 1, 1) := by decide +kernel
theorem dX7_toldOf_62 : decode cX7_toldOf 62 = .ok (.iadd, 1) := by decide +kernel
theorem dX7_toldOf_63 : decode cX7_toldOf 63 = .ok (.iaload, 1) := by decide +kernel
theorem dX7_toldOf_64 : decode cX7_toldOf 64 = .ok (.goto 12, 3) := by decide +kernel
theorem dX7_toldOf_67 : decode cX7_toldOf 67 = .ok (.aload_n 0, 1) := by decide +kernel
theorem dX7_toldOf_68 : decode cX7_toldOf 68 = .ok (.getfield 19, 3) := by decide +kernel
theorem dX7_toldOf_71 : decode cX7_toldOf 71 = .ok (.bipush 76, 2) := by decide +kernel
theorem dX7_toldOf_73 : decode cX7_toldOf 73 = .ok (.iload_n 1, 1) := by decide +kernel
theorem dX7_toldOf_74 : decode cX7_toldOf 74 = .ok (.iadd, 1) := by decide +kernel
theorem dX7_toldOf_75 : decode cX7_toldOf 75 = .ok (.iaload, 1) := by decide +kernel
theorem dX7_toldOf_76 : decode cX7_toldOf 76 = .ok (.ireturn, 1) := by decide +kernel
theorem dX7_cloud_0 : decode cX7_cloud 0 = .ok (.aload_n 0, 1) := by decide +kernel
theorem dX7_cloud_1 : decode cX7_cloud 1 = .ok (.iload_n 1, 1) := by decide +kernel
theorem dX7_cloud_2 : decode cX7_cloud 2 = .ok (.invokevirtual 202, 3) := by decide +kernel
theorem dX7_cloud_5 : decode cX7_cloud 5 = .ok (.ifCond .eq 24, 3) := by decide +kernel
theorem dX7_cloud_8 : decode cX7_cloud 8 = .ok (.iload_n 2, 1) := by decide +kernel
theorem dX7_cloud_9 : decode cX7_cloud 9 = .ok (.i2l, 1) := by decide +kernel
theorem dX7_cloud_10 : decode cX7_cloud 10 = .ok (.lconst 0, 1) := by decide +kernel
theorem dX7_cloud_11 : decode cX7_cloud 11 = .ok (.ldc2_w 209, 3) := by decide +kernel
theorem dX7_cloud_14 : decode cX7_cloud 14 = .ok (.invokestatic 60, 3) := by decide +kernel
theorem dX7_cloud_17 : decode cX7_cloud 17 = .ok (.ifCond .eq 12, 3) := by decide +kernel
theorem dX7_cloud_20 : decode cX7_cloud 20 = .ok (.aload_n 0, 1) := by decide +kernel
theorem dX7_cloud_21 : decode cX7_cloud 21 = .ok (.iload_n 1, 1) := by decide +kernel
theorem dX7_cloud_22 : decode cX7_cloud 22 = .ok (.iload_n 2, 1) := by decide +kernel
theorem dX7_cloud_23 : decode cX7_cloud 23 = .ok (.invokevirtual 211, 3) := by decide +kernel
theorem dX7_cloud_26 : decode cX7_cloud 26 = .ok (.goto 5, 3) := by decide +kernel
theorem dX7_cloud_29 : decode cX7_cloud 29 = .ok (.ldc 70, 2) := by decide +kernel
theorem dX7_cloud_31 : decode cX7_cloud 31 = .ok (.ireturn, 1) := by decide +kernel
theorem dX7_isCell_0 : decode cX7_isCell 0 = .ok (.iload_n 0, 1) := by decide +kernel
theorem dX7_isCell_1 : decode cX7_isCell 1 = .ok (.i2l, 1) := by decide +kernel
theorem dX7_isCell_2 : decode cX7_isCell 2 = .ok (.lconst 0, 1) := by decide +kernel
theorem dX7_isCell_3 : decode cX7_isCell 3 = .ok (.ldc2_w 214, 3) := by decide +kernel
theorem dX7_isCell_6 : decode cX7_isCell 6 = .ok (.invokestatic 60, 3) := by decide +kernel
theorem dX7_isCell_9 : decode cX7_isCell 9 = .ok (.ireturn, 1) := by decide +kernel
theorem dX7_over_0 : decode cX7_over 0 = .ok (.iconst 0, 1) := by decide +kernel
theorem dX7_over_1 : decode cX7_over 1 = .ok (.istore_n 2, 1) := by decide +kernel
theorem dX7_over_2 : decode cX7_over 2 = .ok (.iconst 0, 1) := by decide +kernel
theorem dX7_over_3 : decode cX7_over 3 = .ok (.istore_n 3, 1) := by decide +kernel
theorem dX7_over_4 : decode cX7_over 4 = .ok (.iload_n 3, 1) := by decide +kernel
theorem dX7_over_5 : decode cX7_over 5 = .ok (.aload_n 0, 1) := by decide +kernel
theorem dX7_over_6 : decode cX7_over 6 = .ok (.getfield 19, 3) := by decide +kernel
theorem dX7_over_9 : decode cX7_over 9 = .ok (.bipush 50, 2) := by decide +kernel
theorem dX7_over_11 : decode cX7_over 11 = .ok (.iaload, 1) := by decide +kernel
theorem dX7_over_12 : decode cX7_over 12 = .ok (.if_icmp .ge 40, 3) := by decide +kernel
theorem dX7_over_15 : decode cX7_over 15 = .ok (.iload_n 2, 1) := by decide +kernel
theorem dX7_over_16 : decode cX7_over 16 = .ok (.aload_n 0, 1) := by decide +kernel
theorem dX7_over_17 : decode cX7_over 17 = .ok (.iload_n 3, 1) := by decide +kernel
theorem dX7_over_18 : decode cX7_over 18 = .ok (.invokevirtual 177, 3) := by decide +kernel
theorem dX7_over_21 : decode cX7_over 21 = .ok (.ifCond .eq 22, 3) := by decide +kernel
theorem dX7_over_24 : decode cX7_over 24 = .ok (.aload_n 0, 1) := by decide +kernel
theorem dX7_over_25 : decode cX7_over 25 = .ok (.getfield 19, 3) := by decide +kernel
theorem dX7_over_28 : decode cX7_over 28 = .ok (.bipush 56, 2) := by decide +kernel
theorem dX7_over_30 : decode cX7_over 30 = .ok (.iload_n 3, 1) := by decide +kernel
theorem dX7_over_31 : decode cX7_over 31 = .ok (.iadd, 1) := by decide +kernel
theorem dX7_over_32 : decode cX7_over 32 = .ok (.iaload, 1) := by decide +kernel
theorem dX7_over_33 : decode cX7_over 33 = .ok (.iload_n 1, 1) := by decide +kernel
theorem dX7_over_34 : decode cX7_over 34 = .ok (.if_icmp .ne 9, 3) := by decide +kernel
theorem dX7_over_37 : decode cX7_over 37 = .ok (.iconst 1, 1) := by decide +kernel
theorem dX7_over_38 : decode cX7_over 38 = .ok (.iload_n 3, 1) := by decide +kernel
theorem dX7_over_39 : decode cX7_over 39 = .ok (.ishl, 1) := by decide +kernel
theorem dX7_over_40 : decode cX7_over 40 = .ok (.goto 4, 3) := by decide +kernel
theorem dX7_over_43 : decode cX7_over 43 = .ok (.iconst 0, 1) := by decide +kernel
theorem dX7_over_44 : decode cX7_over 44 = .ok (.ior, 1) := by decide +kernel
theorem dX7_over_45 : decode cX7_over 45 = .ok (.istore_n 2, 1) := by decide +kernel
theorem dX7_over_46 : decode cX7_over 46 = .ok (.iinc 3 1, 3) := by decide +kernel
theorem dX7_over_49 : decode cX7_over 49 = .ok (.goto (-45), 3) := by decide +kernel
theorem dX7_over_52 : decode cX7_over 52 = .ok (.iload_n 2, 1) := by decide +kernel
theorem dX7_over_53 : decode cX7_over 53 = .ok (.ireturn, 1) := by decide +kernel
theorem dX7_cell_0 : decode cX7_cell 0 = .ok (.aload_n 0, 1) := by decide +kernel
theorem dX7_cell_1 : decode cX7_cell 1 = .ok (.getfield 154, 3) := by decide +kernel
theorem dX7_cell_4 : decode cX7_cell 4 = .ok (.ifCond .ne 6, 3) := by decide +kernel
theorem dX7_cell_7 : decode cX7_cell 7 = .ok (.ldc 193, 2) := by decide +kernel
theorem dX7_cell_9 : decode cX7_cell 9 = .ok (.ireturn, 1) := by decide +kernel
theorem dX7_cell_10 : decode cX7_cell 10 = .ok (.iload_n 1, 1) := by decide +kernel
theorem dX7_cell_11 : decode cX7_cell 11 = .ok (.invokestatic 216, 3) := by decide +kernel
theorem dX7_cell_14 : decode cX7_cell 14 = .ok (.ifCond .eq 13, 3) := by decide +kernel
theorem dX7_cell_17 : decode cX7_cell 17 = .ok (.iload_n 2, 1) := by decide +kernel
theorem dX7_cell_18 : decode cX7_cell 18 = .ok (.i2l, 1) := by decide +kernel
theorem dX7_cell_19 : decode cX7_cell 19 = .ok (.lconst 0, 1) := by decide +kernel
theorem dX7_cell_20 : decode cX7_cell 20 = .ok (.lconst 1, 1) := by decide +kernel
theorem dX7_cell_21 : decode cX7_cell 21 = .ok (.invokestatic 60, 3) := by decide +kernel
theorem dX7_cell_24 : decode cX7_cell 24 = .ok (.ifCond .ne 6, 3) := by decide +kernel
theorem dX7_cell_27 : decode cX7_cell 27 = .ok (.ldc 70, 2) := by decide +kernel
theorem dX7_cell_29 : decode cX7_cell 29 = .ok (.ireturn, 1) := by decide +kernel
theorem dX7_cell_30 : decode cX7_cell 30 = .ok (.iload_n 2, 1) := by decide +kernel
theorem dX7_cell_31 : decode cX7_cell 31 = .ok (.ifCond .ne 15, 3) := by decide +kernel
theorem dX7_cell_34 : decode cX7_cell 34 = .ok (.aload_n 0, 1) := by decide +kernel
theorem dX7_cell_35 : decode cX7_cell 35 = .ok (.getfield 19, 3) := by decide +kernel
theorem dX7_cell_38 : decode cX7_cell 38 = .ok (.bipush 12, 2) := by decide +kernel
theorem dX7_cell_40 : decode cX7_cell 40 = .ok (.iload_n 1, 1) := by decide +kernel
theorem dX7_cell_41 : decode cX7_cell 41 = .ok (.iadd, 1) := by decide +kernel
theorem dX7_cell_42 : decode cX7_cell 42 = .ok (.iaload, 1) := by decide +kernel
theorem dX7_cell_43 : decode cX7_cell 43 = .ok (.goto 8, 3) := by decide +kernel
theorem dX7_cell_46 : decode cX7_cell 46 = .ok (.aload_n 0, 1) := by decide +kernel
theorem dX7_cell_47 : decode cX7_cell 47 = .ok (.iload_n 1, 1) := by decide +kernel
theorem dX7_cell_48 : decode cX7_cell 48 = .ok (.invokevirtual 219, 3) := by decide +kernel
theorem dX7_cell_51 : decode cX7_cell 51 = .ok (.ireturn, 1) := by decide +kernel
theorem dX7_wind_0 : decode cX7_wind 0 = .ok (.aload_n 0, 1) := by decide +kernel
theorem dX7_wind_1 : decode cX7_wind 1 = .ok (.getfield 154, 3) := by decide +kernel
theorem dX7_wind_4 : decode cX7_wind 4 = .ok (.ifCond .ne 6, 3) := by decide +kernel
theorem dX7_wind_7 : decode cX7_wind 7 = .ok (.ldc 193, 2) := by decide +kernel
theorem dX7_wind_9 : decode cX7_wind 9 = .ok (.ireturn, 1) := by decide +kernel
theorem dX7_wind_10 : decode cX7_wind 10 = .ok (.iload_n 1, 1) := by decide +kernel
theorem dX7_wind_11 : decode cX7_wind 11 = .ok (.i2l, 1) := by decide +kernel
theorem dX7_wind_12 : decode cX7_wind 12 = .ok (.lconst 0, 1) := by decide +kernel
theorem dX7_wind_13 : decode cX7_wind 13 = .ok (.lconst 1, 1) := by decide +kernel
theorem dX7_wind_14 : decode cX7_wind 14 = .ok (.invokestatic 60, 3) := by decide +kernel
theorem dX7_wind_17 : decode cX7_wind 17 = .ok (.ifCond .eq 31, 3) := by decide +kernel
theorem dX7_wind_20 : decode cX7_wind 20 = .ok (.iload_n 2, 1) := by decide +kernel
theorem dX7_wind_21 : decode cX7_wind 21 = .ok (.i2l, 1) := by decide +kernel
theorem dX7_wind_22 : decode cX7_wind 22 = .ok (.lconst 0, 1) := by decide +kernel
theorem dX7_wind_23 : decode cX7_wind 23 = .ok (.ldc2_w 222, 3) := by decide +kernel
theorem dX7_wind_26 : decode cX7_wind 26 = .ok (.invokestatic 60, 3) := by decide +kernel
theorem dX7_wind_29 : decode cX7_wind 29 = .ok (.ifCond .eq 19, 3) := by decide +kernel
theorem dX7_wind_32 : decode cX7_wind 32 = .ok (.aload_n 0, 1) := by decide +kernel
theorem dX7_wind_33 : decode cX7_wind 33 = .ok (.getfield 19, 3) := by decide +kernel
theorem dX7_wind_36 : decode cX7_wind 36 = .ok (.iconst 0, 1) := by decide +kernel
theorem dX7_wind_37 : decode cX7_wind 37 = .ok (.bipush 6, 2) := by decide +kernel
theorem dX7_wind_39 : decode cX7_wind 39 = .ok (.iload_n 1, 1) := by decide +kernel
theorem dX7_wind_40 : decode cX7_wind 40 = .ok (.imul, 1) := by decide +kernel
theorem dX7_wind_41 : decode cX7_wind 41 = .ok (.iadd, 1) := by decide +kernel
theorem dX7_wind_42 : decode cX7_wind 42 = .ok (.iload_n 2, 1) := by decide +kernel
theorem dX7_wind_43 : decode cX7_wind 43 = .ok (.iadd, 1) := by decide +kernel
theorem dX7_wind_44 : decode cX7_wind 44 = .ok (.iaload, 1) := by decide +kernel
theorem dX7_wind_45 : decode cX7_wind 45 = .ok (.goto 5, 3) := by decide +kernel
theorem dX7_wind_48 : decode cX7_wind 48 = .ok (.ldc 70, 2) := by decide +kernel
theorem dX7_wind_50 : decode cX7_wind 50 = .ok (.ireturn, 1) := by decide +kernel
theorem dX7_putAside_0 : decode cX7_putAside 0 = .ok (.iconst 0, 1) := by decide +kernel
theorem dX7_putAside_1 : decode cX7_putAside 1 = .ok (.istore_n 1, 1) := by decide +kernel
theorem dX7_putAside_2 : decode cX7_putAside 2 = .ok (.iload_n 1, 1) := by decide +kernel
theorem dX7_putAside_3 : decode cX7_putAside 3 = .ok (.bipush 82, 2) := by decide +kernel
theorem dX7_putAside_5 : decode cX7_putAside 5 = .ok (.if_icmp .ge 21, 3) := by decide +kernel
theorem dX7_putAside_8 : decode cX7_putAside 8 = .ok (.aload_n 0, 1) := by decide +kernel
theorem dX7_putAside_9 : decode cX7_putAside 9 = .ok (.getfield 34, 3) := by decide +kernel
theorem dX7_putAside_12 : decode cX7_putAside 12 = .ok (.iload_n 1, 1) := by decide +kernel
theorem dX7_putAside_13 : decode cX7_putAside 13 = .ok (.aload_n 0, 1) := by decide +kernel
theorem dX7_putAside_14 : decode cX7_putAside 14 = .ok (.getfield 19, 3) := by decide +kernel
theorem dX7_putAside_17 : decode cX7_putAside 17 = .ok (.iload_n 1, 1) := by decide +kernel
theorem dX7_putAside_18 : decode cX7_putAside 18 = .ok (.iaload, 1) := by decide +kernel
theorem dX7_putAside_19 : decode cX7_putAside 19 = .ok (.iastore, 1) := by decide +kernel
theorem dX7_putAside_20 : decode cX7_putAside 20 = .ok (.iinc 1 1, 3) := by decide +kernel
theorem dX7_putAside_23 : decode cX7_putAside 23 = .ok (.goto (-21), 3) := by decide +kernel
theorem dX7_putAside_26 : decode cX7_putAside 26 = .ok (.return_, 1) := by decide +kernel
theorem dX7_takeBack_0 : decode cX7_takeBack 0 = .ok (.iconst 0, 1) := by decide +kernel
theorem dX7_takeBack_1 : decode cX7_takeBack 1 = .ok (.istore_n 1, 1) := by decide +kernel
theorem dX7_takeBack_2 : decode cX7_takeBack 2 = .ok (.iload_n 1, 1) := by decide +kernel
theorem dX7_takeBack_3 : decode cX7_takeBack 3 = .ok (.bipush 82, 2) := by decide +kernel
theorem dX7_takeBack_5 : decode cX7_takeBack 5 = .ok (.if_icmp .ge 21, 3) := by decide +kernel
theorem dX7_takeBack_8 : decode cX7_takeBack 8 = .ok (.aload_n 0, 1) := by decide +kernel
theorem dX7_takeBack_9 : decode cX7_takeBack 9 = .ok (.getfield 19, 3) := by decide +kernel
theorem dX7_takeBack_12 : decode cX7_takeBack 12 = .ok (.iload_n 1, 1) := by decide +kernel
theorem dX7_takeBack_13 : decode cX7_takeBack 13 = .ok (.aload_n 0, 1) := by decide +kernel
theorem dX7_takeBack_14 : decode cX7_takeBack 14 = .ok (.getfield 34, 3) := by decide +kernel
theorem dX7_takeBack_17 : decode cX7_takeBack 17 = .ok (.iload_n 1, 1) := by decide +kernel
theorem dX7_takeBack_18 : decode cX7_takeBack 18 = .ok (.iaload, 1) := by decide +kernel
theorem dX7_takeBack_19 : decode cX7_takeBack 19 = .ok (.iastore, 1) := by decide +kernel
theorem dX7_takeBack_20 : decode cX7_takeBack 20 = .ok (.iinc 1 1, 3) := by decide +kernel
theorem dX7_takeBack_23 : decode cX7_takeBack 23 = .ok (.goto (-21), 3) := by decide +kernel
theorem dX7_takeBack_26 : decode cX7_takeBack 26 = .ok (.return_, 1) := by decide +kernel
theorem dX7_goOn_0 : decode cX7_goOn 0 = .ok (.iconst 0, 1) := by decide +kernel
theorem dX7_goOn_1 : decode cX7_goOn 1 = .ok (.istore_n 2, 1) := by decide +kernel
theorem dX7_goOn_2 : decode cX7_goOn 2 = .ok (.iload_n 2, 1) := by decide +kernel
theorem dX7_goOn_3 : decode cX7_goOn 3 = .ok (.iload_n 1, 1) := by decide +kernel
theorem dX7_goOn_4 : decode cX7_goOn 4 = .ok (.if_icmp .ge 14, 3) := by decide +kernel
theorem dX7_goOn_7 : decode cX7_goOn 7 = .ok (.aload_n 0, 1) := by decide +kernel
theorem dX7_goOn_8 : decode cX7_goOn 8 = .ok (.invokevirtual 199, 3) := by decide +kernel
theorem dX7_goOn_11 : decode cX7_goOn 11 = .ok (.pop, 1) := by decide +kernel
theorem dX7_goOn_12 : decode cX7_goOn 12 = .ok (.iinc 2 1, 3) := by decide +kernel
theorem dX7_goOn_15 : decode cX7_goOn 15 = .ok (.goto (-13), 3) := by decide +kernel
theorem dX7_goOn_18 : decode cX7_goOn 18 = .ok (.return_, 1) := by decide +kernel
theorem dX7_ahead_0 : decode cX7_ahead 0 = .ok (.aload_n 0, 1) := by decide +kernel
theorem dX7_ahead_1 : decode cX7_ahead 1 = .ok (.iload_n 1, 1) := by decide +kernel
theorem dX7_ahead_2 : decode cX7_ahead 2 = .ok (.invokevirtual 202, 3) := by decide +kernel
theorem dX7_ahead_5 : decode cX7_ahead 5 = .ok (.ifCond .eq 27, 3) := by decide +kernel
theorem dX7_ahead_8 : decode cX7_ahead 8 = .ok (.iload_n 2, 1) := by decide +kernel
theorem dX7_ahead_9 : decode cX7_ahead 9 = .ok (.i2l, 1) := by decide +kernel
theorem dX7_ahead_10 : decode cX7_ahead 10 = .ok (.lconst 0, 1) := by decide +kernel
theorem dX7_ahead_11 : decode cX7_ahead 11 = .ok (.ldc2_w 224, 3) := by decide +kernel
theorem dX7_ahead_14 : decode cX7_ahead 14 = .ok (.invokestatic 60, 3) := by decide +kernel
theorem dX7_ahead_17 : decode cX7_ahead 17 = .ok (.ifCond .eq 15, 3) := by decide +kernel
theorem dX7_ahead_20 : decode cX7_ahead 20 = .ok (.iload_n 3, 1) := by decide +kernel
theorem dX7_ahead_21 : decode cX7_ahead 21 = .ok (.i2l, 1) := by decide +kernel
theorem dX7_ahead_22 : decode cX7_ahead 22 = .ok (.lconst 0, 1) := by decide +kernel
theorem dX7_ahead_23 : decode cX7_ahead 23 = .ok (.ldc2_w 226, 3) := by decide +kernel
theorem dX7_ahead_26 : decode cX7_ahead 26 = .ok (.invokestatic 60, 3) := by decide +kernel
theorem dX7_ahead_29 : decode cX7_ahead 29 = .ok (.ifCond .ne 6, 3) := by decide +kernel
theorem dX7_ahead_32 : decode cX7_ahead 32 = .ok (.ldc 70, 2) := by decide +kernel
theorem dX7_ahead_34 : decode cX7_ahead 34 = .ok (.ireturn, 1) := by decide +kernel
theorem dX7_ahead_35 : decode cX7_ahead 35 = .ok (.aload_n 0, 1) := by decide +kernel
theorem dX7_ahead_36 : decode cX7_ahead 36 = .ok (.invokevirtual 228, 3) := by decide +kernel
theorem dX7_ahead_39 : decode cX7_ahead 39 = .ok (.aload_n 0, 1) := by decide +kernel
theorem dX7_ahead_40 : decode cX7_ahead 40 = .ok (.iload_n 2, 1) := by decide +kernel
theorem dX7_ahead_41 : decode cX7_ahead 41 = .ok (.invokevirtual 231, 3) := by decide +kernel
theorem dX7_ahead_44 : decode cX7_ahead 44 = .ok (.aload_n 0, 1) := by decide +kernel
theorem dX7_ahead_45 : decode cX7_ahead 45 = .ok (.iload_n 1, 1) := by decide +kernel
theorem dX7_ahead_46 : decode cX7_ahead 46 = .ok (.iload_n 3, 1) := by decide +kernel
theorem dX7_ahead_47 : decode cX7_ahead 47 = .ok (.invokevirtual 211, 3) := by decide +kernel
theorem dX7_ahead_50 : decode cX7_ahead 50 = .ok (.istore 4, 2) := by decide +kernel
theorem dX7_ahead_52 : decode cX7_ahead 52 = .ok (.aload_n 0, 1) := by decide +kernel
theorem dX7_ahead_53 : decode cX7_ahead 53 = .ok (.invokevirtual 234, 3) := by decide +kernel
theorem dX7_ahead_56 : decode cX7_ahead 56 = .ok (.iload 4, 2) := by decide +kernel
theorem dX7_ahead_58 : decode cX7_ahead 58 = .ok (.ireturn, 1) := by decide +kernel
theorem dX7_earned_0 : decode cX7_earned 0 = .ok (.aload_n 0, 1) := by decide +kernel
theorem dX7_earned_1 : decode cX7_earned 1 = .ok (.getfield 154, 3) := by decide +kernel
theorem dX7_earned_4 : decode cX7_earned 4 = .ok (.ifCond .ne 6, 3) := by decide +kernel
theorem dX7_earned_7 : decode cX7_earned 7 = .ok (.ldc 193, 2) := by decide +kernel
theorem dX7_earned_9 : decode cX7_earned 9 = .ok (.ireturn, 1) := by decide +kernel
theorem dX7_earned_10 : decode cX7_earned 10 = .ok (.iload_n 1, 1) := by decide +kernel
theorem dX7_earned_11 : decode cX7_earned 11 = .ok (.i2l, 1) := by decide +kernel
theorem dX7_earned_12 : decode cX7_earned 12 = .ok (.lconst 0, 1) := by decide +kernel
theorem dX7_earned_13 : decode cX7_earned 13 = .ok (.ldc2_w 224, 3) := by decide +kernel
theorem dX7_earned_16 : decode cX7_earned 16 = .ok (.invokestatic 60, 3) := by decide +kernel
theorem dX7_earned_19 : decode cX7_earned 19 = .ok (.ifCond .ne 6, 3) := by decide +kernel
theorem dX7_earned_22 : decode cX7_earned 22 = .ok (.ldc 70, 2) := by decide +kernel
theorem dX7_earned_24 : decode cX7_earned 24 = .ok (.ireturn, 1) := by decide +kernel
theorem dX7_earned_25 : decode cX7_earned 25 = .ok (.aload_n 0, 1) := by decide +kernel
theorem dX7_earned_26 : decode cX7_earned 26 = .ok (.invokevirtual 228, 3) := by decide +kernel
theorem dX7_earned_29 : decode cX7_earned 29 = .ok (.aload_n 0, 1) := by decide +kernel
theorem dX7_earned_30 : decode cX7_earned 30 = .ok (.iload_n 1, 1) := by decide +kernel
theorem dX7_earned_31 : decode cX7_earned 31 = .ok (.invokevirtual 231, 3) := by decide +kernel
theorem dX7_earned_34 : decode cX7_earned 34 = .ok (.aload_n 0, 1) := by decide +kernel
theorem dX7_earned_35 : decode cX7_earned 35 = .ok (.getfield 19, 3) := by decide +kernel
theorem dX7_earned_38 : decode cX7_earned 38 = .ok (.bipush 47, 2) := by decide +kernel
theorem dX7_earned_40 : decode cX7_earned 40 = .ok (.iaload, 1) := by decide +kernel
theorem dX7_earned_41 : decode cX7_earned 41 = .ok (.istore_n 2, 1) := by decide +kernel
theorem dX7_earned_42 : decode cX7_earned 42 = .ok (.aload_n 0, 1) := by decide +kernel
end
section
theorem dX7_earned_43 : decode cX7_earned 43 = .ok (.invokevirtual 234, 3) := by decide +kernel
theorem dX7_earned_46 : decode cX7_earned 46 = .ok (.iload_n 2, 1) := by decide +kernel
theorem dX7_earned_47 : decode cX7_earned 47 = .ok (.ireturn, 1) := by decide +kernel
theorem dX7_knot_0 : decode cX7_knot 0 = .ok (.aload_n 0, 1) := by decide +kernel
theorem dX7_knot_1 : decode cX7_knot 1 = .ok (.getfield 154, 3) := by decide +kernel
theorem dX7_knot_4 : decode cX7_knot 4 = .ok (.ifCond .ne 6, 3) := by decide +kernel
theorem dX7_knot_7 : decode cX7_knot 7 = .ok (.ldc 193, 2) := by decide +kernel
theorem dX7_knot_9 : decode cX7_knot 9 = .ok (.ireturn, 1) := by decide +kernel
theorem dX7_knot_10 : decode cX7_knot 10 = .ok (.iload_n 1, 1) := by decide +kernel
theorem dX7_knot_11 : decode cX7_knot 11 = .ok (.i2l, 1) := by decide +kernel
theorem dX7_knot_12 : decode cX7_knot 12 = .ok (.lconst 1, 1) := by decide +kernel
theorem dX7_knot_13 : decode cX7_knot 13 = .ok (.ldc2_w 224, 3) := by decide +kernel
theorem dX7_knot_16 : decode cX7_knot 16 = .ok (.invokestatic 60, 3) := by decide +kernel
theorem dX7_knot_19 : decode cX7_knot 19 = .ok (.ifCond .eq 13, 3) := by decide +kernel
theorem dX7_knot_22 : decode cX7_knot 22 = .ok (.iload_n 2, 1) := by decide +kernel
theorem dX7_knot_23 : decode cX7_knot 23 = .ok (.i2l, 1) := by decide +kernel
theorem dX7_knot_24 : decode cX7_knot 24 = .ok (.lconst 0, 1) := by decide +kernel
theorem dX7_knot_25 : decode cX7_knot 25 = .ok (.lconst 1, 1) := by decide +kernel
theorem dX7_knot_26 : decode cX7_knot 26 = .ok (.invokestatic 60, 3) := by decide +kernel
theorem dX7_knot_29 : decode cX7_knot 29 = .ok (.ifCond .ne 6, 3) := by decide +kernel
theorem dX7_knot_32 : decode cX7_knot 32 = .ok (.ldc 70, 2) := by decide +kernel
theorem dX7_knot_34 : decode cX7_knot 34 = .ok (.ireturn, 1) := by decide +kernel
theorem dX7_knot_35 : decode cX7_knot 35 = .ok (.aload_n 0, 1) := by decide +kernel
theorem dX7_knot_36 : decode cX7_knot 36 = .ok (.invokevirtual 228, 3) := by decide +kernel
theorem dX7_knot_39 : decode cX7_knot 39 = .ok (.ldc 237, 2) := by decide +kernel
theorem dX7_knot_41 : decode cX7_knot 41 = .ok (.istore_n 3, 1) := by decide +kernel
theorem dX7_knot_42 : decode cX7_knot 42 = .ok (.ldc 237, 2) := by decide +kernel
theorem dX7_knot_44 : decode cX7_knot 44 = .ok (.istore 4, 2) := by decide +kernel
theorem dX7_knot_46 : decode cX7_knot 46 = .ok (.iconst 0, 1) := by decide +kernel
theorem dX7_knot_47 : decode cX7_knot 47 = .ok (.istore 5, 2) := by decide +kernel
theorem dX7_knot_49 : decode cX7_knot 49 = .ok (.iload 5, 2) := by decide +kernel
theorem dX7_knot_51 : decode cX7_knot 51 = .ok (.iload_n 1, 1) := by decide +kernel
theorem dX7_knot_52 : decode cX7_knot 52 = .ok (.if_icmp .ge 46, 3) := by decide +kernel
theorem dX7_knot_55 : decode cX7_knot 55 = .ok (.iload_n 3, 1) := by decide +kernel
theorem dX7_knot_56 : decode cX7_knot 56 = .ok (.ifCond .ge 42, 3) := by decide +kernel
theorem dX7_knot_59 : decode cX7_knot 59 = .ok (.aload_n 0, 1) := by decide +kernel
theorem dX7_knot_60 : decode cX7_knot 60 = .ok (.invokevirtual 199, 3) := by decide +kernel
theorem dX7_knot_63 : decode cX7_knot 63 = .ok (.istore 6, 2) := by decide +kernel
theorem dX7_knot_65 : decode cX7_knot 65 = .ok (.iload 6, 2) := by decide +kernel
theorem dX7_knot_67 : decode cX7_knot 67 = .ok (.ifCond .le 8, 3) := by decide +kernel
theorem dX7_knot_70 : decode cX7_knot 70 = .ok (.iload 5, 2) := by decide +kernel
theorem dX7_knot_72 : decode cX7_knot 72 = .ok (.goto 5, 3) := by decide +kernel
theorem dX7_knot_75 : decode cX7_knot 75 = .ok (.ldc 237, 2) := by decide +kernel
theorem dX7_knot_77 : decode cX7_knot 77 = .ok (.istore_n 3, 1) := by decide +kernel
theorem dX7_knot_78 : decode cX7_knot 78 = .ok (.iload 6, 2) := by decide +kernel
theorem dX7_knot_80 : decode cX7_knot 80 = .ok (.ifCond .le 8, 3) := by decide +kernel
theorem dX7_knot_83 : decode cX7_knot 83 = .ok (.iload 6, 2) := by decide +kernel
theorem dX7_knot_85 : decode cX7_knot 85 = .ok (.goto 5, 3) := by decide +kernel
theorem dX7_knot_88 : decode cX7_knot 88 = .ok (.ldc 237, 2) := by decide +kernel
theorem dX7_knot_90 : decode cX7_knot 90 = .ok (.istore 4, 2) := by decide +kernel
theorem dX7_knot_92 : decode cX7_knot 92 = .ok (.iinc 5 1, 3) := by decide +kernel
theorem dX7_knot_95 : decode cX7_knot 95 = .ok (.goto (-46), 3) := by decide +kernel
theorem dX7_knot_98 : decode cX7_knot 98 = .ok (.aload_n 0, 1) := by decide +kernel
theorem dX7_knot_99 : decode cX7_knot 99 = .ok (.invokevirtual 234, 3) := by decide +kernel
theorem dX7_knot_102 : decode cX7_knot 102 = .ok (.iload_n 2, 1) := by decide +kernel
theorem dX7_knot_103 : decode cX7_knot 103 = .ok (.ifCond .ne 7, 3) := by decide +kernel
theorem dX7_knot_106 : decode cX7_knot 106 = .ok (.iload_n 3, 1) := by decide +kernel
theorem dX7_knot_107 : decode cX7_knot 107 = .ok (.goto 5, 3) := by decide +kernel
theorem dX7_knot_110 : decode cX7_knot 110 = .ok (.iload 4, 2) := by decide +kernel
theorem dX7_knot_112 : decode cX7_knot 112 = .ok (.ireturn, 1) := by decide +kernel
theorem dX7_wetHay_0 : decode cX7_wetHay 0 = .ok (.aload_n 0, 1) := by decide +kernel
theorem dX7_wetHay_1 : decode cX7_wetHay 1 = .ok (.getfield 154, 3) := by decide +kernel
theorem dX7_wetHay_4 : decode cX7_wetHay 4 = .ok (.ifCond .ne 6, 3) := by decide +kernel
theorem dX7_wetHay_7 : decode cX7_wetHay 7 = .ok (.ldc 193, 2) := by decide +kernel
theorem dX7_wetHay_9 : decode cX7_wetHay 9 = .ok (.ireturn, 1) := by decide +kernel
theorem dX7_wetHay_10 : decode cX7_wetHay 10 = .ok (.iload_n 1, 1) := by decide +kernel
theorem dX7_wetHay_11 : decode cX7_wetHay 11 = .ok (.i2l, 1) := by decide +kernel
theorem dX7_wetHay_12 : decode cX7_wetHay 12 = .ok (.lconst 1, 1) := by decide +kernel
theorem dX7_wetHay_13 : decode cX7_wetHay 13 = .ok (.ldc2_w 224, 3) := by decide +kernel
theorem dX7_wetHay_16 : decode cX7_wetHay 16 = .ok (.invokestatic 60, 3) := by decide +kernel
theorem dX7_wetHay_19 : decode cX7_wetHay 19 = .ok (.ifCond .eq 13, 3) := by decide +kernel
theorem dX7_wetHay_22 : decode cX7_wetHay 22 = .ok (.iload_n 2, 1) := by decide +kernel
theorem dX7_wetHay_23 : decode cX7_wetHay 23 = .ok (.i2l, 1) := by decide +kernel
theorem dX7_wetHay_24 : decode cX7_wetHay 24 = .ok (.lconst 0, 1) := by decide +kernel
theorem dX7_wetHay_25 : decode cX7_wetHay 25 = .ok (.lconst 1, 1) := by decide +kernel
theorem dX7_wetHay_26 : decode cX7_wetHay 26 = .ok (.invokestatic 60, 3) := by decide +kernel
theorem dX7_wetHay_29 : decode cX7_wetHay 29 = .ok (.ifCond .ne 6, 3) := by decide +kernel
theorem dX7_wetHay_32 : decode cX7_wetHay 32 = .ok (.ldc 70, 2) := by decide +kernel
theorem dX7_wetHay_34 : decode cX7_wetHay 34 = .ok (.ireturn, 1) := by decide +kernel
theorem dX7_wetHay_35 : decode cX7_wetHay 35 = .ok (.aload_n 0, 1) := by decide +kernel
theorem dX7_wetHay_36 : decode cX7_wetHay 36 = .ok (.invokevirtual 228, 3) := by decide +kernel
theorem dX7_wetHay_39 : decode cX7_wetHay 39 = .ok (.ldc 237, 2) := by decide +kernel
theorem dX7_wetHay_41 : decode cX7_wetHay 41 = .ok (.istore_n 3, 1) := by decide +kernel
theorem dX7_wetHay_42 : decode cX7_wetHay 42 = .ok (.iconst 0, 1) := by decide +kernel
theorem dX7_wetHay_43 : decode cX7_wetHay 43 = .ok (.istore 4, 2) := by decide +kernel
theorem dX7_wetHay_45 : decode cX7_wetHay 45 = .ok (.iconst 0, 1) := by decide +kernel
theorem dX7_wetHay_46 : decode cX7_wetHay 46 = .ok (.istore 5, 2) := by decide +kernel
theorem dX7_wetHay_48 : decode cX7_wetHay 48 = .ok (.iload 5, 2) := by decide +kernel
theorem dX7_wetHay_50 : decode cX7_wetHay 50 = .ok (.iload_n 1, 1) := by decide +kernel
theorem dX7_wetHay_51 : decode cX7_wetHay 51 = .ok (.if_icmp .ge 49, 3) := by decide +kernel
theorem dX7_wetHay_54 : decode cX7_wetHay 54 = .ok (.aload_n 0, 1) := by decide +kernel
theorem dX7_wetHay_55 : decode cX7_wetHay 55 = .ok (.invokevirtual 199, 3) := by decide +kernel
theorem dX7_wetHay_58 : decode cX7_wetHay 58 = .ok (.pop, 1) := by decide +kernel
theorem dX7_wetHay_59 : decode cX7_wetHay 59 = .ok (.aload_n 0, 1) := by decide +kernel
theorem dX7_wetHay_60 : decode cX7_wetHay 60 = .ok (.getfield 174, 3) := by decide +kernel
theorem dX7_wetHay_63 : decode cX7_wetHay 63 = .ok (.ifCond .le 12, 3) := by decide +kernel
theorem dX7_wetHay_66 : decode cX7_wetHay 66 = .ok (.iload_n 3, 1) := by decide +kernel
theorem dX7_wetHay_67 : decode cX7_wetHay 67 = .ok (.ifCond .ge 8, 3) := by decide +kernel
theorem dX7_wetHay_70 : decode cX7_wetHay 70 = .ok (.iload 5, 2) := by decide +kernel
theorem dX7_wetHay_72 : decode cX7_wetHay 72 = .ok (.goto 4, 3) := by decide +kernel
theorem dX7_wetHay_75 : decode cX7_wetHay 75 = .ok (.iload_n 3, 1) := by decide +kernel
theorem dX7_wetHay_76 : decode cX7_wetHay 76 = .ok (.istore_n 3, 1) := by decide +kernel
theorem dX7_wetHay_77 : decode cX7_wetHay 77 = .ok (.iload 4, 2) := by decide +kernel
theorem dX7_wetHay_79 : decode cX7_wetHay 79 = .ok (.aload_n 0, 1) := by decide +kernel
theorem dX7_wetHay_80 : decode cX7_wetHay 80 = .ok (.getfield 174, 3) := by decide +kernel
theorem dX7_wetHay_83 : decode cX7_wetHay 83 = .ok (.aload_n 0, 1) := by decide +kernel
theorem dX7_wetHay_84 : decode cX7_wetHay 84 = .ok (.getfield 19, 3) := by decide +kernel
theorem dX7_wetHay_87 : decode cX7_wetHay 87 = .ok (.bipush 45, 2) := by decide +kernel
theorem dX7_wetHay_89 : decode cX7_wetHay 89 = .ok (.iaload, 1) := by decide +kernel
theorem dX7_wetHay_90 : decode cX7_wetHay 90 = .ok (.imul, 1) := by decide +kernel
theorem dX7_wetHay_91 : decode cX7_wetHay 91 = .ok (.iadd, 1) := by decide +kernel
theorem dX7_wetHay_92 : decode cX7_wetHay 92 = .ok (.istore 4, 2) := by decide +kernel
theorem dX7_wetHay_94 : decode cX7_wetHay 94 = .ok (.iinc 5 1, 3) := by decide +kernel
theorem dX7_wetHay_97 : decode cX7_wetHay 97 = .ok (.goto (-49), 3) := by decide +kernel
theorem dX7_wetHay_100 : decode cX7_wetHay 100 = .ok (.aload_n 0, 1) := by decide +kernel
theorem dX7_wetHay_101 : decode cX7_wetHay 101 = .ok (.invokevirtual 234, 3) := by decide +kernel
theorem dX7_wetHay_104 : decode cX7_wetHay 104 = .ok (.iload_n 2, 1) := by decide +kernel
theorem dX7_wetHay_105 : decode cX7_wetHay 105 = .ok (.ifCond .ne 7, 3) := by decide +kernel
theorem dX7_wetHay_108 : decode cX7_wetHay 108 = .ok (.iload_n 3, 1) := by decide +kernel
theorem dX7_wetHay_109 : decode cX7_wetHay 109 = .ok (.goto 5, 3) := by decide +kernel
theorem dX7_wetHay_112 : decode cX7_wetHay 112 = .ok (.iload 4, 2) := by decide +kernel
theorem dX7_wetHay_114 : decode cX7_wetHay 114 = .ok (.ireturn, 1) := by decide +kernel
theorem dX7_soon_0 : decode cX7_soon 0 = .ok (.aload_n 0, 1) := by decide +kernel
theorem dX7_soon_1 : decode cX7_soon 1 = .ok (.iload_n 1, 1) := by decide +kernel
theorem dX7_soon_2 : decode cX7_soon 2 = .ok (.invokevirtual 202, 3) := by decide +kernel
theorem dX7_soon_5 : decode cX7_soon 5 = .ok (.ifCond .eq 10, 3) := by decide +kernel
theorem dX7_soon_8 : decode cX7_soon 8 = .ok (.iload_n 2, 1) := by decide +kernel
theorem dX7_soon_9 : decode cX7_soon 9 = .ok (.invokestatic 216, 3) := by decide +kernel
theorem dX7_soon_12 : decode cX7_soon 12 = .ok (.ifCond .ne 6, 3) := by decide +kernel
theorem dX7_soon_15 : decode cX7_soon 15 = .ok (.ldc 70, 2) := by decide +kernel
theorem dX7_soon_17 : decode cX7_soon 17 = .ok (.ireturn, 1) := by decide +kernel
theorem dX7_soon_18 : decode cX7_soon 18 = .ok (.aload_n 0, 1) := by decide +kernel
theorem dX7_soon_19 : decode cX7_soon 19 = .ok (.iload_n 1, 1) := by decide +kernel
theorem dX7_soon_20 : decode cX7_soon 20 = .ok (.invokevirtual 177, 3) := by decide +kernel
theorem dX7_soon_23 : decode cX7_soon 23 = .ok (.ifCond .ne 6, 3) := by decide +kernel
theorem dX7_soon_26 : decode cX7_soon 26 = .ok (.ldc 193, 2) := by decide +kernel
theorem dX7_soon_28 : decode cX7_soon 28 = .ok (.ireturn, 1) := by decide +kernel
theorem dX7_soon_29 : decode cX7_soon 29 = .ok (.aload_n 0, 1) := by decide +kernel
theorem dX7_soon_30 : decode cX7_soon 30 = .ok (.getfield 19, 3) := by decide +kernel
theorem dX7_soon_33 : decode cX7_soon 33 = .ok (.bipush 51, 2) := by decide +kernel
theorem dX7_soon_35 : decode cX7_soon 35 = .ok (.iload_n 1, 1) := by decide +kernel
theorem dX7_soon_36 : decode cX7_soon 36 = .ok (.iadd, 1) := by decide +kernel
theorem dX7_soon_37 : decode cX7_soon 37 = .ok (.iaload, 1) := by decide +kernel
theorem dX7_soon_38 : decode cX7_soon 38 = .ok (.istore_n 3, 1) := by decide +kernel
theorem dX7_soon_39 : decode cX7_soon 39 = .ok (.iconst 0, 1) := by decide +kernel
theorem dX7_soon_40 : decode cX7_soon 40 = .ok (.istore 4, 2) := by decide +kernel
theorem dX7_soon_42 : decode cX7_soon 42 = .ok (.iload 4, 2) := by decide +kernel
theorem dX7_soon_44 : decode cX7_soon 44 = .ok (.bipush 32, 2) := by decide +kernel
theorem dX7_soon_46 : decode cX7_soon 46 = .ok (.if_icmp .ge 35, 3) := by decide +kernel
theorem dX7_soon_49 : decode cX7_soon 49 = .ok (.aload_n 0, 1) := by decide +kernel
theorem dX7_soon_50 : decode cX7_soon 50 = .ok (.getfield 37, 3) := by decide +kernel
theorem dX7_soon_53 : decode cX7_soon 53 = .ok (.iload 4, 2) := by decide +kernel
theorem dX7_soon_55 : decode cX7_soon 55 = .ok (.iload 4, 2) := by decide +kernel
theorem dX7_soon_57 : decode cX7_soon 57 = .ok (.aload_n 0, 1) := by decide +kernel
theorem dX7_soon_58 : decode cX7_soon 58 = .ok (.getfield 19, 3) := by decide +kernel
theorem dX7_soon_61 : decode cX7_soon 61 = .ok (.bipush 56, 2) := by decide +kernel
theorem dX7_soon_63 : decode cX7_soon 63 = .ok (.iload_n 1, 1) := by decide +kernel
theorem dX7_soon_64 : decode cX7_soon 64 = .ok (.iadd, 1) := by decide +kernel
theorem dX7_soon_65 : decode cX7_soon 65 = .ok (.iaload, 1) := by decide +kernel
theorem dX7_soon_66 : decode cX7_soon 66 = .ok (.if_icmp .ne 7, 3) := by decide +kernel
theorem dX7_soon_69 : decode cX7_soon 69 = .ok (.iconst 1, 1) := by decide +kernel
theorem dX7_soon_70 : decode cX7_soon 70 = .ok (.goto 4, 3) := by decide +kernel
theorem dX7_soon_73 : decode cX7_soon 73 = .ok (.iconst 0, 1) := by decide +kernel
theorem dX7_soon_74 : decode cX7_soon 74 = .ok (.bastore, 1) := by decide +kernel
theorem dX7_soon_75 : decode cX7_soon 75 = .ok (.iinc 4 1, 3) := by decide +kernel
theorem dX7_soon_78 : decode cX7_soon 78 = .ok (.goto (-36), 3) := by decide +kernel
theorem dX7_soon_81 : decode cX7_soon 81 = .ok (.iconst 0, 1) := by decide +kernel
theorem dX7_soon_82 : decode cX7_soon 82 = .ok (.istore 4, 2) := by decide +kernel
theorem dX7_soon_84 : decode cX7_soon 84 = .ok (.iload 4, 2) := by decide +kernel
theorem dX7_soon_86 : decode cX7_soon 86 = .ok (.bipush 24, 2) := by decide +kernel
theorem dX7_soon_88 : decode cX7_soon 88 = .ok (.if_icmp .ge 155, 3) := by decide +kernel
theorem dX7_soon_91 : decode cX7_soon 91 = .ok (.aload_n 0, 1) := by decide +kernel
theorem dX7_soon_92 : decode cX7_soon 92 = .ok (.getfield 37, 3) := by decide +kernel
theorem dX7_soon_95 : decode cX7_soon 95 = .ok (.iload_n 2, 1) := by decide +kernel
theorem dX7_soon_96 : decode cX7_soon 96 = .ok (.baload, 1) := by decide +kernel
theorem dX7_soon_97 : decode cX7_soon 97 = .ok (.ifCond .ne 146, 3) := by decide +kernel
theorem dX7_soon_100 : decode cX7_soon 100 = .ok (.iconst 0, 1) := by decide +kernel
theorem dX7_soon_101 : decode cX7_soon 101 = .ok (.istore 5, 2) := by decide +kernel
theorem dX7_soon_103 : decode cX7_soon 103 = .ok (.iload 5, 2) := by decide +kernel
theorem dX7_soon_105 : decode cX7_soon 105 = .ok (.bipush 32, 2) := by decide +kernel
theorem dX7_soon_107 : decode cX7_soon 107 = .ok (.if_icmp .ge 17, 3) := by decide +kernel
theorem dX7_soon_110 : decode cX7_soon 110 = .ok (.aload_n 0, 1) := by decide +kernel
theorem dX7_soon_111 : decode cX7_soon 111 = .ok (.getfield 41, 3) := by decide +kernel
theorem dX7_soon_114 : decode cX7_soon 114 = .ok (.iload 5, 2) := by decide +kernel
theorem dX7_soon_116 : decode cX7_soon 116 = .ok (.iconst 0, 1) := by decide +kernel
theorem dX7_soon_117 : decode cX7_soon 117 = .ok (.bastore, 1) := by decide +kernel
theorem dX7_soon_118 : decode cX7_soon 118 = .ok (.iinc 5 1, 3) := by decide +kernel
theorem dX7_soon_121 : decode cX7_soon 121 = .ok (.goto (-18), 3) := by decide +kernel
theorem dX7_soon_124 : decode cX7_soon 124 = .ok (.iconst 0, 1) := by decide +kernel
theorem dX7_soon_125 : decode cX7_soon 125 = .ok (.istore 5, 2) := by decide +kernel
theorem dX7_soon_127 : decode cX7_soon 127 = .ok (.iload 5, 2) := by decide +kernel
theorem dX7_soon_129 : decode cX7_soon 129 = .ok (.bipush 32, 2) := by decide +kernel
theorem dX7_soon_131 : decode cX7_soon 131 = .ok (.if_icmp .ge 76, 3) := by decide +kernel
theorem dX7_soon_134 : decode cX7_soon 134 = .ok (.aload_n 0, 1) := by decide +kernel
theorem dX7_soon_135 : decode cX7_soon 135 = .ok (.getfield 37, 3) := by decide +kernel
theorem dX7_soon_138 : decode cX7_soon 138 = .ok (.iload 5, 2) := by decide +kernel
theorem dX7_soon_140 : decode cX7_soon 140 = .ok (.baload, 1) := by decide +kernel
theorem dX7_soon_141 : decode cX7_soon 141 = .ok (.ifCond .eq 60, 3) := by decide +kernel
theorem dX7_soon_144 : decode cX7_soon 144 = .ok (.aload_n 0, 1) := by decide +kernel
theorem dX7_soon_145 : decode cX7_soon 145 = .ok (.getfield 41, 3) := by decide +kernel
theorem dX7_soon_148 : decode cX7_soon 148 = .ok (.aload_n 0, 1) := by decide +kernel
theorem dX7_soon_149 : decode cX7_soon 149 = .ok (.iload_n 3, 1) := by decide +kernel
theorem dX7_soon_150 : decode cX7_soon 150 = .ok (.iload 5, 2) := by decide +kernel
theorem dX7_soon_152 : decode cX7_soon 152 = .ok (.iconst 0, 1) := by decide +kernel
theorem dX7_soon_153 : decode cX7_soon 153 = .ok (.aload_n 0, 1) := by decide +kernel
theorem dX7_soon_154 : decode cX7_soon 154 = .ok (.getfield 19, 3) := by decide +kernel
theorem dX7_soon_157 : decode cX7_soon 157 = .ok (.bipush 46, 2) := by decide +kernel
theorem dX7_soon_159 : decode cX7_soon 159 = .ok (.iaload, 1) := by decide +kernel
theorem dX7_soon_160 : decode cX7_soon 160 = .ok (.iload 4, 2) := by decide +kernel
theorem dX7_soon_162 : decode cX7_soon 162 = .ok (.iadd, 1) := by decide +kernel
theorem dX7_soon_163 : decode cX7_soon 163 = .ok (.invokevirtual 167, 3) := by decide +kernel
theorem dX7_soon_166 : decode cX7_soon 166 = .ok (.iconst 1, 1) := by decide +kernel
theorem dX7_soon_167 : decode cX7_soon 167 = .ok (.bastore, 1) := by decide +kernel
theorem dX7_soon_168 : decode cX7_soon 168 = .ok (.aload_n 0, 1) := by decide +kernel
theorem dX7_soon_169 : decode cX7_soon 169 = .ok (.getfield 41, 3) := by decide +kernel
theorem dX7_soon_172 : decode cX7_soon 172 = .ok (.aload_n 0, 1) := by decide +kernel
theorem dX7_soon_173 : decode cX7_soon 173 = .ok (.iload_n 3, 1) := by decide +kernel
theorem dX7_soon_174 : decode cX7_soon 174 = .ok (.iload 5, 2) := by decide +kernel
theorem dX7_soon_176 : decode cX7_soon 176 = .ok (.iload_n 3, 1) := by decide +kernel
theorem dX7_soon_177 : decode cX7_soon 177 = .ok (.iconst 4, 1) := by decide +kernel
theorem dX7_soon_178 : decode cX7_soon 178 = .ok (.if_icmp .lt 7, 3) := by decide +kernel
theorem dX7_soon_181 : decode cX7_soon 181 = .ok (.iconst 0, 1) := by decide +kernel
theorem dX7_soon_182 : decode cX7_soon 182 = .ok (.goto 4, 3) := by decide +kernel
theorem dX7_soon_185 : decode cX7_soon 185 = .ok (.iconst 1, 1) := by decide +kernel
theorem dX7_soon_186 : decode cX7_soon 186 = .ok (.aload_n 0, 1) := by decide +kernel
theorem dX7_soon_187 : decode cX7_soon 187 = .ok (.getfield 19, 3) := by decide +kernel
theorem dX7_soon_190 : decode cX7_soon 190 = .ok (.bipush 46, 2) := by decide +kernel
theorem dX7_soon_192 : decode cX7_soon 192 = .ok (.iaload, 1) := by decide +kernel
theorem dX7_soon_193 : decode cX7_soon 193 = .ok (.iload 4, 2) := by decide +kernel
theorem dX7_soon_195 : decode cX7_soon 195 = .ok (.iadd, 1) := by decide +kernel
theorem dX7_soon_196 : decode cX7_soon 196 = .ok (.invokevirtual 167, 3) := by decide +kernel
theorem dX7_soon_199 : decode cX7_soon 199 = .ok (.iconst 1, 1) := by decide +kernel
theorem dX7_soon_200 : decode cX7_soon 200 = .ok (.bastore, 1) := by decide +kernel
theorem dX7_soon_201 : decode cX7_soon 201 = .ok (.iinc 5 1, 3) := by decide +kernel
theorem dX7_soon_204 : decode cX7_soon 204 = .ok (.goto (-77), 3) := by decide +kernel
theorem dX7_soon_207 : decode cX7_soon 207 = .ok (.iconst 0, 1) := by decide +kernel
theorem dX7_soon_208 : decode cX7_soon 208 = .ok (.istore 5, 2) := by decide +kernel
theorem dX7_soon_210 : decode cX7_soon 210 = .ok (.iload 5, 2) := by decide +kernel
theorem dX7_soon_212 : decode cX7_soon 212 = .ok (.bipush 32, 2) := by decide +kernel
theorem dX7_soon_214 : decode cX7_soon 214 = .ok (.if_icmp .ge 23, 3) := by decide +kernel
theorem dX7_soon_217 : decode cX7_soon 217 = .ok (.aload_n 0, 1) := by decide +kernel
theorem dX7_soon_218 : decode cX7_soon 218 = .ok (.getfield 37, 3) := by decide +kernel
theorem dX7_soon_221 : decode cX7_soon 221 = .ok (.iload 5, 2) := by decide +kernel
theorem dX7_soon_223 : decode cX7_soon 223 = .ok (.aload_n 0, 1) := by decide +kernel
theorem dX7_soon_224 : decode cX7_soon 224 = .ok (.getfield 41, 3) := by decide +kernel
theorem dX7_soon_227 : decode cX7_soon 227 = .ok (.iload 5, 2) := by decide +kernel
theorem dX7_soon_229 : decode cX7_soon 229 = .ok (.baload, 1) := by decide +kernel
theorem dX7_soon_230 : decode cX7_soon 230 = .ok (.bastore, 1) := by decide +kernel
theorem dX7_soon_231 : decode cX7_soon 231 = .ok (.iinc 5 1, 3) := by decide +kernel
theorem dX7_soon_234 : decode cX7_soon 234 = .ok (.goto (-24), 3) := by decide +kernel
theorem dX7_soon_237 : decode cX7_soon 237 = .ok (.iinc 4 1, 3) := by decide +kernel
theorem dX7_soon_240 : decode cX7_soon 240 = .ok (.goto (-156), 3) := by decide +kernel
theorem dX7_soon_243 : decode cX7_soon 243 = .ok (.aload_n 0, 1) := by decide +kernel
theorem dX7_soon_244 : decode cX7_soon 244 = .ok (.getfield 37, 3) := by decide +kernel
theorem dX7_soon_247 : decode cX7_soon 247 = .ok (.iload_n 2, 1) := by decide +kernel
theorem dX7_soon_248 : decode cX7_soon 248 = .ok (.baload, 1) := by decide +kernel
theorem dX7_soon_249 : decode cX7_soon 249 = .ok (.ifCond .eq 8, 3) := by decide +kernel
theorem dX7_soon_252 : decode cX7_soon 252 = .ok (.iload 4, 2) := by decide +kernel
theorem dX7_soon_254 : decode cX7_soon 254 = .ok (.goto 5, 3) := by decide +kernel
theorem dX7_soon_257 : decode cX7_soon 257 = .ok (.ldc 237, 2) := by decide +kernel
theorem dX7_soon_259 : decode cX7_soon 259 = .ok (.ireturn, 1) := by decide +kernel
theorem dX7_heights_0 : decode cX7_heights 0 = .ok (.aload_n 0, 1) := by decide +kernel
theorem dX7_heights_1 : decode cX7_heights 1 = .ok (.iload_n 1, 1) := by decide +kernel
theorem dX7_heights_2 : decode cX7_heights 2 = .ok (.invokevirtual 202, 3) := by decide +kernel
theorem dX7_heights_5 : decode cX7_heights 5 = .ok (.ifCond .eq 25, 3) := by decide +kernel
theorem dX7_heights_8 : decode cX7_heights 8 = .ok (.iload_n 2, 1) := by decide +kernel
theorem dX7_heights_9 : decode cX7_heights 9 = .ok (.i2l, 1) := by decide +kernel
theorem dX7_heights_10 : decode cX7_heights 10 = .ok (.lconst 1, 1) := by decide +kernel
theorem dX7_heights_11 : decode cX7_heights 11 = .ok (.ldc2_w 238, 3) := by decide +kernel
theorem dX7_heights_14 : decode cX7_heights 14 = .ok (.invokestatic 60, 3) := by decide +kernel
theorem dX7_heights_17 : decode cX7_heights 17 = .ok (.ifCond .eq 13, 3) := by decide +kernel
theorem dX7_heights_20 : decode cX7_heights 20 = .ok (.iload_n 3, 1) := by decide +kernel
theorem dX7_heights_21 : decode cX7_heights 21 = .ok (.i2l, 1) := by decide +kernel
theorem dX7_heights_22 : decode cX7_heights 22 = .ok (.lconst 0, 1) := by decide +kernel
theorem dX7_heights_23 : decode cX7_heights 23 = .ok (.lconst 1, 1) := by decide +kernel
theorem dX7_heights_24 : decode cX7_heights 24 = .ok (.invokestatic 60, 3) := by decide +kernel
theorem dX7_heights_27 : decode cX7_heights 27 = .ok (.ifCond .ne 6, 3) := by decide +kernel
theorem dX7_heights_30 : decode cX7_heights 30 = .ok (.ldc 70, 2) := by decide +kernel
theorem dX7_heights_32 : decode cX7_heights 32 = .ok (.ireturn, 1) := by decide +kernel
theorem dX7_heights_33 : decode cX7_heights 33 = .ok (.aload_n 0, 1) := by decide +kernel
theorem dX7_heights_34 : decode cX7_heights 34 = .ok (.iload_n 1, 1) := by decide +kernel
theorem dX7_heights_35 : decode cX7_heights 35 = .ok (.invokevirtual 177, 3) := by decide +kernel
theorem dX7_heights_38 : decode cX7_heights 38 = .ok (.ifCond .ne 6, 3) := by decide +kernel
theorem dX7_heights_41 : decode cX7_heights 41 = .ok (.ldc 193, 2) := by decide +kernel
theorem dX7_heights_43 : decode cX7_heights 43 = .ok (.ireturn, 1) := by decide +kernel
theorem dX7_heights_44 : decode cX7_heights 44 = .ok (.ldc 237, 2) := by decide +kernel
theorem dX7_heights_46 : decode cX7_heights 46 = .ok (.istore 4, 2) := by decide +kernel
theorem dX7_heights_48 : decode cX7_heights 48 = .ok (.iconst 0, 1) := by decide +kernel
theorem dX7_heights_49 : decode cX7_heights 49 = .ok (.istore 5, 2) := by decide +kernel
theorem dX7_heights_51 : decode cX7_heights 51 = .ok (.aload_n 0, 1) := by decide +kernel
theorem dX7_heights_52 : decode cX7_heights 52 = .ok (.getfield 19, 3) := by decide +kernel
theorem dX7_heights_55 : decode cX7_heights 55 = .ok (.bipush 51, 2) := by decide +kernel
theorem dX7_heights_57 : decode cX7_heights 57 = .ok (.iload_n 1, 1) := by decide +kernel
theorem dX7_heights_58 : decode cX7_heights 58 = .ok (.iadd, 1) := by decide +kernel
theorem dX7_heights_59 : decode cX7_heights 59 = .ok (.iaload, 1) := by decide +kernel
theorem dX7_heights_60 : decode cX7_heights 60 = .ok (.iconst 4, 1) := by decide +kernel
theorem dX7_heights_61 : decode cX7_heights 61 = .ok (.if_icmp .lt 7, 3) := by decide +kernel
theorem dX7_heights_64 : decode cX7_heights 64 = .ok (.iconst 1, 1) := by decide +kernel
theorem dX7_heights_65 : decode cX7_heights 65 = .ok (.goto 6, 3) := by decide +kernel
theorem dX7_heights_68 : decode cX7_heights 68 = .ok (.iconst 1, 1) := by decide +kernel
theorem dX7_heights_69 : decode cX7_heights 69 = .ok (.iload_n 2, 1) := by decide +kernel
theorem dX7_heights_70 : decode cX7_heights 70 = .ok (.ishl, 1) := by decide +kernel
theorem dX7_heights_71 : decode cX7_heights 71 = .ok (.istore 6, 2) := by decide +kernel
theorem dX7_heights_73 : decode cX7_heights 73 = .ok (.iconst 0, 1) := by decide +kernel
theorem dX7_heights_74 : decode cX7_heights 74 = .ok (.istore 7, 2) := by decide +kernel
theorem dX7_heights_76 : decode cX7_heights 76 = .ok (.iload 7, 2) := by decide +kernel
theorem dX7_heights_78 : decode cX7_heights 78 = .ok (.iload 6, 2) := by decide +kernel
theorem dX7_heights_80 : decode cX7_heights 80 = .ok (.if_icmp .ge 104, 3) := by decide +kernel
theorem dX7_heights_83 : decode cX7_heights 83 = .ok (.aload_n 0, 1) := by decide +kernel
theorem dX7_heights_84 : decode cX7_heights 84 = .ok (.invokevirtual 228, 3) := by decide +kernel
theorem dX7_heights_87 : decode cX7_heights 87 = .ok (.iconst 0, 1) := by decide +kernel
theorem dX7_heights_88 : decode cX7_heights 88 = .ok (.istore 8, 2) := by decide +kernel
theorem dX7_heights_90 : decode cX7_heights 90 = .ok (.iload 8, 2) := by decide +kernel
theorem dX7_heights_92 : decode cX7_heights 92 = .ok (.iload_n 2, 1) := by decide +kernel
theorem dX7_heights_93 : decode cX7_heights 93 = .ok (.if_icmp .ge 27, 3) := by decide +kernel
theorem dX7_heights_96 : decode cX7_heights 96 = .ok (.aload_n 0, 1) := by decide +kernel
theorem dX7_heights_97 : decode cX7_heights 97 = .ok (.iload_n 1, 1) := by decide +kernel
theorem dX7_heights_98 : decode cX7_heights 98 = .ok (.iload 7, 2) := by decide +kernel
theorem dX7_heights_100 : decode cX7_heights 100 = .ok (.iload 8, 2) := by decide +kernel
theorem dX7_heights_102 : decode cX7_heights 102 = .ok (.ishr, 1) := by decide +kernel
theorem dX7_heights_103 : decode cX7_heights 103 = .ok (.iconst 1, 1) := by decide +kernel
theorem dX7_heights_104 : decode cX7_heights 104 = .ok (.iand, 1) := by decide +kernel
theorem dX7_heights_105 : decode cX7_heights 105 = .ok (.invokevirtual 205, 3) := by decide +kernel
theorem dX7_heights_108 : decode cX7_heights 108 = .ok (.aload_n 0, 1) := by decide +kernel
theorem dX7_heights_109 : decode cX7_heights 109 = .ok (.iload_n 1, 1) := by decide +kernel
theorem dX7_heights_110 : decode cX7_heights 110 = .ok (.invokevirtual 240, 3) := by decide +kernel
theorem dX7_heights_113 : decode cX7_heights 113 = .ok (.pop, 1) := by decide +kernel
theorem dX7_heights_114 : decode cX7_heights 114 = .ok (.iinc 8 1, 3) := by decide +kernel
theorem dX7_heights_117 : decode cX7_heights 117 = .ok (.goto (-27), 3) := by decide +kernel
theorem dX7_heights_120 : decode cX7_heights 120 = .ok (.aload_n 0, 1) := by decide +kernel
theorem dX7_heights_121 : decode cX7_heights 121 = .ok (.getfield 19, 3) := by decide +kernel
theorem dX7_heights_124 : decode cX7_heights 124 = .ok (.bipush 47, 2) := by decide +kernel
theorem dX7_heights_126 : decode cX7_heights 126 = .ok (.iaload, 1) := by decide +kernel
theorem dX7_heights_127 : decode cX7_heights 127 = .ok (.aload_n 0, 1) := by decide +kernel
theorem dX7_heights_128 : decode cX7_heights 128 = .ok (.getfield 34, 3) := by decide +kernel
theorem dX7_heights_131 : decode cX7_heights 131 = .ok (.bipush 47, 2) := by decide +kernel
theorem dX7_heights_133 : decode cX7_heights 133 = .ok (.iaload, 1) := by decide +kernel
theorem dX7_heights_134 : decode cX7_heights 134 = .ok (.isub, 1) := by decide +kernel
theorem dX7_heights_135 : decode cX7_heights 135 = .ok (.istore 8, 2) := by decide +kernel
theorem dX7_heights_137 : decode cX7_heights 137 = .ok (.aload_n 0, 1) := by decide +kernel
theorem dX7_heights_138 : decode cX7_heights 138 = .ok (.invokevirtual 234, 3) := by decide +kernel
theorem dX7_heights_141 : decode cX7_heights 141 = .ok (.iload 4, 2) := by decide +kernel
theorem dX7_heights_143 : decode cX7_heights 143 = .ok (.ifCond .lt 10, 3) := by decide +kernel
theorem dX7_heights_146 : decode cX7_heights 146 = .ok (.iload 8, 2) := by decide +kernel
theorem dX7_heights_148 : decode cX7_heights 148 = .ok (.iload 5, 2) := by decide +kernel
theorem dX7_heights_150 : decode cX7_heights 150 = .ok (.if_icmp .le 8, 3) := by decide +kernel
theorem dX7_heights_153 : decode cX7_heights 153 = .ok (.iload 7, 2) := by decide +kernel
theorem dX7_heights_155 : decode cX7_heights 155 = .ok (.goto 5, 3) := by decide +kernel
theorem dX7_heights_158 : decode cX7_heights 158 = .ok (.iload 4, 2) := by decide +kernel
theorem dX7_heights_160 : decode cX7_heights 160 = .ok (.istore 4, 2) := by decide +kernel
theorem dX7_heights_162 : decode cX7_heights 162 = .ok (.iload 4, 2) := by decide +kernel
theorem dX7_heights_164 : decode cX7_heights 164 = .ok (.iload 7, 2) := by decide +kernel
theorem dX7_heights_166 : decode cX7_heights 166 = .ok (.if_icmp .ne 8, 3) := by decide +kernel
theorem dX7_heights_169 : decode cX7_heights 169 = .ok (.iload 8, 2) := by decide +kernel
theorem dX7_heights_171 : decode cX7_heights 171 = .ok (.goto 5, 3) := by decide +kernel
theorem dX7_heights_174 : decode cX7_heights 174 = .ok (.iload 5, 2) := by decide +kernel
theorem dX7_heights_176 : decode cX7_heights 176 = .ok (.istore 5, 2) := by decide +kernel
theorem dX7_heights_178 : decode cX7_heights 178 = .ok (.iinc 7 1, 3) := by decide +kernel
theorem dX7_heights_181 : decode cX7_heights 181 = .ok (.goto (-105), 3) := by decide +kernel
theorem dX7_heights_184 : decode cX7_heights 184 = .ok (.iload_n 3, 1) := by decide +kernel
theorem dX7_heights_185 : decode cX7_heights 185 = .ok (.ifCond .ne 8, 3) := by decide +kernel
theorem dX7_heights_188 : decode cX7_heights 188 = .ok (.iload 4, 2) := by decide +kernel
theorem dX7_heights_190 : decode cX7_heights 190 = .ok (.goto 5, 3) := by decide +kernel
theorem dX7_heights_193 : decode cX7_heights 193 = .ok (.iload 5, 2) := by decide +kernel
theorem dX7_heights_195 : decode cX7_heights 195 = .ok (.ireturn, 1) := by decide +kernel
theorem dX7_shade_0 : decode cX7_shade 0 = .ok (.aload_n 0, 1) := by decide +kernel
theorem dX7_shade_1 : decode cX7_shade 1 = .ok (.getfield 154, 3) := by decide +kernel
theorem dX7_shade_4 : decode cX7_shade 4 = .ok (.ifCond .ne 6, 3) := by decide +kernel
theorem dX7_shade_7 : decode cX7_shade 7 = .ok (.ldc 193, 2) := by decide +kernel
theorem dX7_shade_9 : decode cX7_shade 9 = .ok (.ireturn, 1) := by decide +kernel
theorem dX7_shade_10 : decode cX7_shade 10 = .ok (.iload_n 1, 1) := by decide +kernel
theorem dX7_shade_11 : decode cX7_shade 11 = .ok (.invokestatic 216, 3) := by decide +kernel
theorem dX7_shade_14 : decode cX7_shade 14 = .ok (.ifCond .eq 15, 3) := by decide +kernel
theorem dX7_shade_17 : decode cX7_shade 17 = .ok (.iload_n 2, 1) := by decide +kernel
theorem dX7_shade_18 : decode cX7_shade 18 = .ok (.i2l, 1) := by decide +kernel
theorem dX7_shade_19 : decode cX7_shade 19 = .ok (.lconst 1, 1) := by decide +kernel
theorem dX7_shade_20 : decode cX7_shade 20 = .ok (.ldc2_w 194, 3) := by decide +kernel
theorem dX7_shade_23 : decode cX7_shade 23 = .ok (.invokestatic 60, 3) := by decide +kernel
theorem dX7_shade_26 : decode cX7_shade 26 = .ok (.ifCond .ne 6, 3) := by decide +kernel
theorem dX7_shade_29 : decode cX7_shade 29 = .ok (.ldc 70, 2) := by decide +kernel
theorem dX7_shade_31 : decode cX7_shade 31 = .ok (.ireturn, 1) := by decide +kernel
theorem dX7_shade_32 : decode cX7_shade 32 = .ok (.aload_n 0, 1) := by decide +kernel
theorem dX7_shade_33 : decode cX7_shade 33 = .ok (.invokevirtual 228, 3) := by decide +kernel
theorem dX7_shade_36 : decode cX7_shade 36 = .ok (.iconst 0, 1) := by decide +kernel
theorem dX7_shade_37 : decode cX7_shade 37 = .ok (.istore_n 3, 1) := by decide +kernel
theorem dX7_shade_38 : decode cX7_shade 38 = .ok (.iconst 0, 1) := by decide +kernel
theorem dX7_shade_39 : decode cX7_shade 39 = .ok (.istore 4, 2) := by decide +kernel
theorem dX7_shade_41 : decode cX7_shade 41 = .ok (.iload 4, 2) := by decide +kernel
theorem dX7_shade_43 : decode cX7_shade 43 = .ok (.iload_n 2, 1) := by decide +kernel
theorem dX7_shade_44 : decode cX7_shade 44 = .ok (.if_icmp .ge 33, 3) := by decide +kernel
theorem dX7_shade_47 : decode cX7_shade 47 = .ok (.aload_n 0, 1) := by decide +kernel
theorem dX7_shade_48 : decode cX7_shade 48 = .ok (.invokevirtual 199, 3) := by decide +kernel
theorem dX7_shade_51 : decode cX7_shade 51 = .ok (.pop, 1) := by decide +kernel
theorem dX7_shade_52 : decode cX7_shade 52 = .ok (.iload_n 3, 1) := by decide +kernel
theorem dX7_shade_53 : decode cX7_shade 53 = .ok (.aload_n 0, 1) := by decide +kernel
theorem dX7_shade_54 : decode cX7_shade 54 = .ok (.iload_n 1, 1) := by decide +kernel
theorem dX7_shade_55 : decode cX7_shade 55 = .ok (.invokevirtual 219, 3) := by decide +kernel
theorem dX7_shade_58 : decode cX7_shade 58 = .ok (.ifCond .eq 10, 3) := by decide +kernel
theorem dX7_shade_61 : decode cX7_shade 61 = .ok (.iconst 1, 1) := by decide +kernel
theorem dX7_shade_62 : decode cX7_shade 62 = .ok (.iload 4, 2) := by decide +kernel
theorem dX7_shade_64 : decode cX7_shade 64 = .ok (.ishl, 1) := by decide +kernel
theorem dX7_shade_65 : decode cX7_shade 65 = .ok (.goto 4, 3) := by decide +kernel
theorem dX7_shade_68 : decode cX7_shade 68 = .ok (.iconst 0, 1) := by decide +kernel
theorem dX7_shade_69 : decode cX7_shade 69 = .ok (.ior, 1) := by decide +kernel
theorem dX7_shade_70 : decode cX7_shade 70 = .ok (.istore_n 3, 1) := by decide +kernel
theorem dX7_shade_71 : decode cX7_shade 71 = .ok (.iinc 4 1, 3) := by decide +kernel
theorem dX7_shade_74 : decode cX7_shade 74 = .ok (.goto (-33), 3) := by decide +kernel
theorem dX7_shade_77 : decode cX7_shade 77 = .ok (.aload_n 0, 1) := by decide +kernel
theorem dX7_shade_78 : decode cX7_shade 78 = .ok (.invokevirtual 234, 3) := by decide +kernel
theorem dX7_shade_81 : decode cX7_shade 81 = .ok (.iload_n 3, 1) := by decide +kernel
theorem dX7_shade_82 : decode cX7_shade 82 = .ok (.ireturn, 1) := by decide +kernel
theorem dX7_lacks_0 : decode cX7_lacks 0 = .ok (.aload_n 0, 1) := by decide +kernel
theorem dX7_lacks_1 : decode cX7_lacks 1 = .ok (.getfield 13, 3) := by decide +kernel
theorem dX7_lacks_4 : decode cX7_lacks 4 = .ok (.iload_n 1, 1) := by decide +kernel
theorem dX7_lacks_5 : decode cX7_lacks 5 = .ok (.iaload, 1) := by decide +kernel
theorem dX7_lacks_6 : decode cX7_lacks 6 = .ok (.ifCond .ge 9, 3) := by decide +kernel
theorem dX7_lacks_9 : decode cX7_lacks 9 = .ok (.aload_n 0, 1) := by decide +kernel
theorem dX7_lacks_10 : decode cX7_lacks 10 = .ok (.iconst 1, 1) := by decide +kernel
theorem dX7_lacks_11 : decode cX7_lacks 11 = .ok (.invokevirtual 71, 3) := by decide +kernel
theorem dX7_lacks_14 : decode cX7_lacks 14 = .ok (.ireturn, 1) := by decide +kernel
theorem dX7_lacks_15 : decode cX7_lacks 15 = .ok (.iload_n 2, 1) := by decide +kernel
theorem dX7_lacks_16 : decode cX7_lacks 16 = .ok (.i2l, 1) := by decide +kernel
theorem dX7_lacks_17 : decode cX7_lacks 17 = .ok (.lconst 0, 1) := by decide +kernel
theorem dX7_lacks_18 : decode cX7_lacks 18 = .ok (.aload_n 0, 1) := by decide +kernel
theorem dX7_lacks_19 : decode cX7_lacks 19 = .ok (.getfield 13, 3) := by decide +kernel
theorem dX7_lacks_22 : decode cX7_lacks 22 = .ok (.iload_n 1, 1) := by decide +kernel
theorem dX7_lacks_23 : decode cX7_lacks 23 = .ok (.iaload, 1) := by decide +kernel
theorem dX7_lacks_24 : decode cX7_lacks 24 = .ok (.iload_n 3, 1) := by decide +kernel
theorem dX7_lacks_25 : decode cX7_lacks 25 = .ok (.isub, 1) := by decide +kernel
theorem dX7_lacks_26 : decode cX7_lacks 26 = .ok (.i2l, 1) := by decide +kernel
theorem dX7_lacks_27 : decode cX7_lacks 27 = .ok (.invokestatic 60, 3) := by decide +kernel
theorem dX7_lacks_30 : decode cX7_lacks 30 = .ok (.ifCond .eq 7, 3) := by decide +kernel
theorem dX7_lacks_33 : decode cX7_lacks 33 = .ok (.iconst 0, 1) := by decide +kernel
theorem dX7_lacks_34 : decode cX7_lacks 34 = .ok (.goto 8, 3) := by decide +kernel
theorem dX7_lacks_37 : decode cX7_lacks 37 = .ok (.aload_n 0, 1) := by decide +kernel
theorem dX7_lacks_38 : decode cX7_lacks 38 = .ok (.iconst 2, 1) := by decide +kernel
theorem dX7_lacks_39 : decode cX7_lacks 39 = .ok (.invokevirtual 71, 3) := by decide +kernel
theorem dX7_lacks_42 : decode cX7_lacks 42 = .ok (.ireturn, 1) := by decide +kernel
theorem dX7_isDew_0 : decode cX7_isDew 0 = .ok (.aload_n 0, 1) := by decide +kernel
theorem dX7_isDew_1 : decode cX7_isDew 1 = .ok (.invokevirtual 228, 3) := by decide +kernel
theorem dX7_isDew_4 : decode cX7_isDew 4 = .ok (.iconst 1, 1) := by decide +kernel
theorem dX7_isDew_5 : decode cX7_isDew 5 = .ok (.istore 4, 2) := by decide +kernel
theorem dX7_isDew_7 : decode cX7_isDew 7 = .ok (.iconst 0, 1) := by decide +kernel
theorem dX7_isDew_8 : decode cX7_isDew 8 = .ok (.istore 5, 2) := by decide +kernel
theorem dX7_isDew_10 : decode cX7_isDew 10 = .ok (.iload 5, 2) := by decide +kernel
theorem dX7_isDew_12 : decode cX7_isDew 12 = .ok (.iload_n 3, 1) := by decide +kernel
theorem dX7_isDew_13 : decode cX7_isDew 13 = .ok (.if_icmp .ge 62, 3) := by decide +kernel
theorem dX7_isDew_16 : decode cX7_isDew 16 = .ok (.aload_n 0, 1) := by decide +kernel
theorem dX7_isDew_17 : decode cX7_isDew 17 = .ok (.iload_n 1, 1) := by decide +kernel
theorem dX7_isDew_18 : decode cX7_isDew 18 = .ok (.invokevirtual 240, 3) := by decide +kernel
theorem dX7_isDew_21 : decode cX7_isDew 21 = .ok (.istore 6, 2) := by decide +kernel
theorem dX7_isDew_23 : decode cX7_isDew 23 = .ok (.iload 6, 2) := by decide +kernel
theorem dX7_isDew_25 : decode cX7_isDew 25 = .ok (.ifCond .le 15, 3) := by decide +kernel
theorem dX7_isDew_28 : decode cX7_isDew 28 = .ok (.aload_n 0, 1) := by decide +kernel
theorem dX7_isDew_29 : decode cX7_isDew 29 = .ok (.getfield 19, 3) := by decide +kernel
theorem dX7_isDew_32 : decode cX7_isDew 32 = .ok (.bipush 56, 2) := by decide +kernel
theorem dX7_isDew_34 : decode cX7_isDew 34 = .ok (.iload_n 1, 1) := by decide +kernel
theorem dX7_isDew_35 : decode cX7_isDew 35 = .ok (.iadd, 1) := by decide +kernel
theorem dX7_isDew_36 : decode cX7_isDew 36 = .ok (.iaload, 1) := by decide +kernel
theorem dX7_isDew_37 : decode cX7_isDew 37 = .ok (.goto 4, 3) := by decide +kernel
theorem dX7_isDew_40 : decode cX7_isDew 40 = .ok (.iconst (-1), 1) := by decide +kernel
theorem dX7_isDew_41 : decode cX7_isDew 41 = .ok (.istore 7, 2) := by decide +kernel
theorem dX7_isDew_43 : decode cX7_isDew 43 = .ok (.iload 4, 2) := by decide +kernel
theorem dX7_isDew_45 : decode cX7_isDew 45 = .ok (.ifCond .eq 21, 3) := by decide +kernel
theorem dX7_isDew_48 : decode cX7_isDew 48 = .ok (.aload_n 0, 1) := by decide +kernel
theorem dX7_isDew_49 : decode cX7_isDew 49 = .ok (.getfield 16, 3) := by decide +kernel
theorem dX7_isDew_52 : decode cX7_isDew 52 = .ok (.iload_n 2, 1) := by decide +kernel
theorem dX7_isDew_53 : decode cX7_isDew 53 = .ok (.iload 5, 2) := by decide +kernel
theorem dX7_isDew_55 : decode cX7_isDew 55 = .ok (.iadd, 1) := by decide +kernel
theorem dX7_isDew_56 : decode cX7_isDew 56 = .ok (.iaload, 1) := by decide +kernel
theorem dX7_isDew_57 : decode cX7_isDew 57 = .ok (.iload 7, 2) := by decide +kernel
theorem dX7_isDew_59 : decode cX7_isDew 59 = .ok (.if_icmp .ne 7, 3) := by decide +kernel
theorem dX7_isDew_62 : decode cX7_isDew 62 = .ok (.iconst 1, 1) := by decide +kernel
theorem dX7_isDew_63 : decode cX7_isDew 63 = .ok (.goto 4, 3) := by decide +kernel
theorem dX7_isDew_66 : decode cX7_isDew 66 = .ok (.iconst 0, 1) := by decide +kernel
theorem dX7_isDew_67 : decode cX7_isDew 67 = .ok (.istore 4, 2) := by decide +kernel
theorem dX7_isDew_69 : decode cX7_isDew 69 = .ok (.iinc 5 1, 3) := by decide +kernel
theorem dX7_isDew_72 : decode cX7_isDew 72 = .ok (.goto (-62), 3) := by decide +kernel
theorem dX7_isDew_75 : decode cX7_isDew 75 = .ok (.aload_n 0, 1) := by decide +kernel
theorem dX7_isDew_76 : decode cX7_isDew 76 = .ok (.invokevirtual 234, 3) := by decide +kernel
theorem dX7_isDew_79 : decode cX7_isDew 79 = .ok (.iload 4, 2) := by decide +kernel
theorem dX7_isDew_81 : decode cX7_isDew 81 = .ok (.ireturn, 1) := by decide +kernel
theorem dX7_dew_0 : decode cX7_dew 0 = .ok (.aload_n 0, 1) := by decide +kernel
theorem dX7_dew_1 : decode cX7_dew 1 = .ok (.getfield 154, 3) := by decide +kernel
theorem dX7_dew_4 : decode cX7_dew 4 = .ok (.ifCond .ne 6, 3) := by decide +kernel
theorem dX7_dew_7 : decode cX7_dew 7 = .ok (.ldc 193, 2) := by decide +kernel
theorem dX7_dew_9 : decode cX7_dew 9 = .ok (.ireturn, 1) := by decide +kernel
theorem dX7_dew_10 : decode cX7_dew 10 = .ok (.iload_n 1, 1) := by decide +kernel
theorem dX7_dew_11 : decode cX7_dew 11 = .ok (.invokestatic 64, 3) := by decide +kernel
theorem dX7_dew_14 : decode cX7_dew 14 = .ok (.ifCond .eq 15, 3) := by decide +kernel
theorem dX7_dew_17 : decode cX7_dew 17 = .ok (.iload_n 3, 1) := by decide +kernel
theorem dX7_dew_18 : decode cX7_dew 18 = .ok (.i2l, 1) := by decide +kernel
theorem dX7_dew_19 : decode cX7_dew 19 = .ok (.lconst 1, 1) := by decide +kernel
theorem dX7_dew_20 : decode cX7_dew 20 = .ok (.ldc2_w 243, 3) := by decide +kernel
theorem dX7_dew_23 : decode cX7_dew 23 = .ok (.invokestatic 60, 3) := by decide +kernel
theorem dX7_dew_26 : decode cX7_dew 26 = .ok (.ifCond .ne 6, 3) := by decide +kernel
theorem dX7_dew_29 : decode cX7_dew 29 = .ok (.ldc 70, 2) := by decide +kernel
theorem dX7_dew_31 : decode cX7_dew 31 = .ok (.ireturn, 1) := by decide +kernel
theorem dX7_dew_32 : decode cX7_dew 32 = .ok (.aload_n 0, 1) := by decide +kernel
theorem dX7_dew_33 : decode cX7_dew 33 = .ok (.iload_n 1, 1) := by decide +kernel
theorem dX7_dew_34 : decode cX7_dew 34 = .ok (.iload_n 2, 1) := by decide +kernel
theorem dX7_dew_35 : decode cX7_dew 35 = .ok (.iload_n 3, 1) := by decide +kernel
theorem dX7_dew_36 : decode cX7_dew 36 = .ok (.invokevirtual 245, 3) := by decide +kernel
theorem dX7_dew_39 : decode cX7_dew 39 = .ok (.istore 4, 2) := by decide +kernel
theorem dX7_dew_41 : decode cX7_dew 41 = .ok (.iload 4, 2) := by decide +kernel
theorem dX7_dew_43 : decode cX7_dew 43 = .ok (.ifCond .ge 6, 3) := by decide +kernel
theorem dX7_dew_46 : decode cX7_dew 46 = .ok (.iload 4, 2) := by decide +kernel
theorem dX7_dew_48 : decode cX7_dew 48 = .ok (.ireturn, 1) := by decide +kernel
theorem dX7_dew_49 : decode cX7_dew 49 = .ok (.iconst 0, 1) := by decide +kernel
theorem dX7_dew_50 : decode cX7_dew 50 = .ok (.istore 5, 2) := by decide +kernel
theorem dX7_dew_52 : decode cX7_dew 52 = .ok (.iconst 0, 1) := by decide +kernel
theorem dX7_dew_53 : decode cX7_dew 53 = .ok (.istore 6, 2) := by decide +kernel
theorem dX7_dew_55 : decode cX7_dew 55 = .ok (.iload 6, 2) := by decide +kernel
theorem dX7_dew_57 : decode cX7_dew 57 = .ok (.aload_n 0, 1) := by decide +kernel
theorem dX7_dew_58 : decode cX7_dew 58 = .ok (.getfield 19, 3) := by decide +kernel
theorem dX7_dew_61 : decode cX7_dew 61 = .ok (.bipush 50, 2) := by decide +kernel
theorem dX7_dew_63 : decode cX7_dew 63 = .ok (.iaload, 1) := by decide +kernel
theorem dX7_dew_64 : decode cX7_dew 64 = .ok (.if_icmp .ge 47, 3) := by decide +kernel
theorem dX7_dew_67 : decode cX7_dew 67 = .ok (.iload 5, 2) := by decide +kernel
theorem dX7_dew_69 : decode cX7_dew 69 = .ok (.aload_n 0, 1) := by decide +kernel
theorem dX7_dew_70 : decode cX7_dew 70 = .ok (.iload 6, 2) := by decide +kernel
theorem dX7_dew_72 : decode cX7_dew 72 = .ok (.invokevirtual 177, 3) := by decide +kernel
theorem dX7_dew_75 : decode cX7_dew 75 = .ok (.ifCond .eq 26, 3) := by decide +kernel
theorem dX7_dew_78 : decode cX7_dew 78 = .ok (.aload_n 0, 1) := by decide +kernel
theorem dX7_dew_79 : decode cX7_dew 79 = .ok (.iload 6, 2) := by decide +kernel
theorem dX7_dew_81 : decode cX7_dew 81 = .ok (.bipush 40, 2) := by decide +kernel
theorem dX7_dew_83 : decode cX7_dew 83 = .ok (.iload_n 1, 1) := by decide +kernel
theorem dX7_dew_84 : decode cX7_dew 84 = .ok (.imul, 1) := by decide +kernel
theorem dX7_dew_85 : decode cX7_dew 85 = .ok (.iload_n 2, 1) := by decide +kernel
theorem dX7_dew_86 : decode cX7_dew 86 = .ok (.iadd, 1) := by decide +kernel
theorem dX7_dew_87 : decode cX7_dew 87 = .ok (.iload_n 3, 1) := by decide +kernel
theorem dX7_dew_88 : decode cX7_dew 88 = .ok (.invokevirtual 249, 3) := by decide +kernel
theorem dX7_dew_91 : decode cX7_dew 91 = .ok (.ifCond .eq 10, 3) := by decide +kernel
theorem dX7_dew_94 : decode cX7_dew 94 = .ok (.iconst 1, 1) := by decide +kernel
theorem dX7_dew_95 : decode cX7_dew 95 = .ok (.iload 6, 2) := by decide +kernel
theorem dX7_dew_97 : decode cX7_dew 97 = .ok (.ishl, 1) := by decide +kernel
theorem dX7_dew_98 : decode cX7_dew 98 = .ok (.goto 4, 3) := by decide +kernel
theorem dX7_dew_101 : decode cX7_dew 101 = .ok (.iconst 0, 1) := by decide +kernel
theorem dX7_dew_102 : decode cX7_dew 102 = .ok (.ior, 1) := by decide +kernel
theorem dX7_dew_103 : decode cX7_dew 103 = .ok (.istore 5, 2) := by decide +kernel
theorem dX7_dew_105 : decode cX7_dew 105 = .ok (.iinc 6 1, 3) := by decide +kernel
theorem dX7_dew_108 : decode cX7_dew 108 = .ok (.goto (-53), 3) := by decide +kernel
theorem dX7_dew_111 : decode cX7_dew 111 = .ok (.aload_n 0, 1) := by decide +kernel
theorem dX7_dew_112 : decode cX7_dew 112 = .ok (.iload 5, 2) := by decide +kernel
theorem dX7_dew_114 : decode cX7_dew 114 = .ok (.invokevirtual 75, 3) := by decide +kernel
theorem dX7_dew_117 : decode cX7_dew 117 = .ok (.ireturn, 1) := by decide +kernel
theorem dX7_lost_0 : decode cX7_lost 0 = .ok (.aload_n 0, 1) := by decide +kernel
theorem dX7_lost_1 : decode cX7_lost 1 = .ok (.iload_n 1, 1) := by decide +kernel
theorem dX7_lost_2 : decode cX7_lost 2 = .ok (.invokevirtual 202, 3) := by decide +kernel
theorem dX7_lost_5 : decode cX7_lost 5 = .ok (.ifCond .eq 44, 3) := by decide +kernel
theorem dX7_lost_8 : decode cX7_lost 8 = .ok (.iload_n 2, 1) := by decide +kernel
theorem dX7_lost_9 : decode cX7_lost 9 = .ok (.i2l, 1) := by decide +kernel
theorem dX7_lost_10 : decode cX7_lost 10 = .ok (.lconst 0, 1) := by decide +kernel
theorem dX7_lost_11 : decode cX7_lost 11 = .ok (.lconst 1, 1) := by decide +kernel
theorem dX7_lost_12 : decode cX7_lost 12 = .ok (.invokestatic 60, 3) := by decide +kernel
theorem dX7_lost_15 : decode cX7_lost 15 = .ok (.ifCond .eq 34, 3) := by decide +kernel
theorem dX7_lost_18 : decode cX7_lost 18 = .ok (.iload_n 3, 1) := by decide +kernel
theorem dX7_lost_19 : decode cX7_lost 19 = .ok (.invokestatic 64, 3) := by decide +kernel
theorem dX7_lost_22 : decode cX7_lost 22 = .ok (.ifCond .eq 27, 3) := by decide +kernel
theorem dX7_lost_25 : decode cX7_lost 25 = .ok (.iload 5, 2) := by decide +kernel
theorem dX7_lost_27 : decode cX7_lost 27 = .ok (.i2l, 1) := by decide +kernel
theorem dX7_lost_28 : decode cX7_lost 28 = .ok (.lconst 1, 1) := by decide +kernel
theorem dX7_lost_29 : decode cX7_lost 29 = .ok (.ldc2_w 243, 3) := by decide +kernel
theorem dX7_lost_32 : decode cX7_lost 32 = .ok (.invokestatic 60, 3) := by decide +kernel
theorem dX7_lost_35 : decode cX7_lost 35 = .ok (.ifCond .eq 14, 3) := by decide +kernel
theorem dX7_lost_38 : decode cX7_lost 38 = .ok (.iload 6, 2) := by decide +kernel
theorem dX7_lost_40 : decode cX7_lost 40 = .ok (.i2l, 1) := by decide +kernel
theorem dX7_lost_41 : decode cX7_lost 41 = .ok (.lconst 0, 1) := by decide +kernel
theorem dX7_lost_42 : decode cX7_lost 42 = .ok (.lconst 1, 1) := by decide +kernel
theorem dX7_lost_43 : decode cX7_lost 43 = .ok (.invokestatic 60, 3) := by decide +kernel
theorem dX7_lost_46 : decode cX7_lost 46 = .ok (.ifCond .ne 6, 3) := by decide +kernel
theorem dX7_lost_49 : decode cX7_lost 49 = .ok (.ldc 70, 2) := by decide +kernel
theorem dX7_lost_51 : decode cX7_lost 51 = .ok (.ireturn, 1) := by decide +kernel
theorem dX7_lost_52 : decode cX7_lost 52 = .ok (.aload_n 0, 1) := by decide +kernel
theorem dX7_lost_53 : decode cX7_lost 53 = .ok (.iload_n 3, 1) := by decide +kernel
theorem dX7_lost_54 : decode cX7_lost 54 = .ok (.iload 4, 2) := by decide +kernel
theorem dX7_lost_56 : decode cX7_lost 56 = .ok (.iload 5, 2) := by decide +kernel
theorem dX7_lost_58 : decode cX7_lost 58 = .ok (.invokevirtual 245, 3) := by decide +kernel
theorem dX7_lost_61 : decode cX7_lost 61 = .ok (.istore 7, 2) := by decide +kernel
theorem dX7_lost_63 : decode cX7_lost 63 = .ok (.iload 7, 2) := by decide +kernel
theorem dX7_lost_65 : decode cX7_lost 65 = .ok (.ifCond .ge 6, 3) := by decide +kernel
theorem dX7_lost_68 : decode cX7_lost 68 = .ok (.iload 7, 2) := by decide +kernel
theorem dX7_lost_70 : decode cX7_lost 70 = .ok (.ireturn, 1) := by decide +kernel
theorem dX7_lost_71 : decode cX7_lost 71 = .ok (.iconst 0, 1) := by decide +kernel
theorem dX7_lost_72 : decode cX7_lost 72 = .ok (.istore 8, 2) := by decide +kernel
theorem dX7_lost_74 : decode cX7_lost 74 = .ok (.ldc 237, 2) := by decide +kernel
theorem dX7_lost_76 : decode cX7_lost 76 = .ok (.istore 9, 2) := by decide +kernel
theorem dX7_lost_78 : decode cX7_lost 78 = .ok (.bipush 31, 2) := by decide +kernel
theorem dX7_lost_80 : decode cX7_lost 80 = .ok (.istore 10, 2) := by decide +kernel
theorem dX7_lost_82 : decode cX7_lost 82 = .ok (.iload 10, 2) := by decide +kernel
theorem dX7_lost_84 : decode cX7_lost 84 = .ok (.ifCond .lt 121, 3) := by decide +kernel
theorem dX7_lost_87 : decode cX7_lost 87 = .ok (.iload 10, 2) := by decide +kernel
theorem dX7_lost_89 : decode cX7_lost 89 = .ok (.istore 11, 2) := by decide +kernel
theorem dX7_lost_91 : decode cX7_lost 91 = .ok (.iconst 1, 1) := by decide +kernel
theorem dX7_lost_92 : decode cX7_lost 92 = .ok (.istore 12, 2) := by decide +kernel
theorem dX7_lost_94 : decode cX7_lost 94 = .ok (.iconst 0, 1) := by decide +kernel
theorem dX7_lost_95 : decode cX7_lost 95 = .ok (.istore 13, 2) := by decide +kernel
theorem dX7_lost_97 : decode cX7_lost 97 = .ok (.iload 13, 2) := by decide +kernel
theorem dX7_lost_99 : decode cX7_lost 99 = .ok (.iload 5, 2) := by decide +kernel
theorem dX7_lost_101 : decode cX7_lost 101 = .ok (.if_icmp .ge 69, 3) := by decide +kernel
theorem dX7_lost_104 : decode cX7_lost 104 = .ok (.aload_n 0, 1) := by decide +kernel
theorem dX7_lost_105 : decode cX7_lost 105 = .ok (.aload_n 0, 1) := by decide +kernel
theorem dX7_lost_106 : decode cX7_lost 106 = .ok (.getfield 19, 3) := by decide +kernel
theorem dX7_lost_109 : decode cX7_lost 109 = .ok (.bipush 51, 2) := by decide +kernel
theorem dX7_lost_111 : decode cX7_lost 111 = .ok (.iload_n 1, 1) := by decide +kernel
theorem dX7_lost_112 : decode cX7_lost 112 = .ok (.iadd, 1) := by decide +kernel
theorem dX7_lost_113 : decode cX7_lost 113 = .ok (.iaload, 1) := by decide +kernel
theorem dX7_lost_114 : decode cX7_lost 114 = .ok (.iload 11, 2) := by decide +kernel
theorem dX7_lost_116 : decode cX7_lost 116 = .ok (.iload_n 2, 1) := by decide +kernel
theorem dX7_lost_117 : decode cX7_lost 117 = .ok (.aload_n 0, 1) := by decide +kernel
theorem dX7_lost_118 : decode cX7_lost 118 = .ok (.getfield 19, 3) := by decide +kernel
theorem dX7_lost_121 : decode cX7_lost 121 = .ok (.bipush 46, 2) := by decide +kernel
theorem dX7_lost_123 : decode cX7_lost 123 = .ok (.iaload, 1) := by decide +kernel
theorem dX7_lost_124 : decode cX7_lost 124 = .ok (.iload 13, 2) := by decide +kernel
theorem dX7_lost_126 : decode cX7_lost 126 = .ok (.iadd, 1) := by decide +kernel
theorem dX7_lost_127 : decode cX7_lost 127 = .ok (.invokevirtual 167, 3) := by decide +kernel
theorem dX7_lost_130 : decode cX7_lost 130 = .ok (.istore 11, 2) := by decide +kernel
theorem dX7_lost_132 : decode cX7_lost 132 = .ok (.iload 12, 2) := by decide +kernel
theorem dX7_lost_134 : decode cX7_lost 134 = .ok (.ifCond .eq 27, 3) := by decide +kernel
theorem dX7_lost_137 : decode cX7_lost 137 = .ok (.aload_n 0, 1) := by decide +kernel
theorem dX7_lost_138 : decode cX7_lost 138 = .ok (.getfield 16, 3) := by decide +kernel
theorem dX7_lost_141 : decode cX7_lost 141 = .ok (.bipush 40, 2) := by decide +kernel
theorem dX7_lost_143 : decode cX7_lost 143 = .ok (.iload_n 3, 1) := by decide +kernel
theorem dX7_lost_144 : decode cX7_lost 144 = .ok (.imul, 1) := by decide +kernel
theorem dX7_lost_145 : decode cX7_lost 145 = .ok (.iload 4, 2) := by decide +kernel
theorem dX7_lost_147 : decode cX7_lost 147 = .ok (.iadd, 1) := by decide +kernel
theorem dX7_lost_148 : decode cX7_lost 148 = .ok (.iload 13, 2) := by decide +kernel
theorem dX7_lost_150 : decode cX7_lost 150 = .ok (.iadd, 1) := by decide +kernel
theorem dX7_lost_151 : decode cX7_lost 151 = .ok (.iaload, 1) := by decide +kernel
theorem dX7_lost_152 : decode cX7_lost 152 = .ok (.iload 11, 2) := by decide +kernel
theorem dX7_lost_154 : decode cX7_lost 154 = .ok (.if_icmp .ne 7, 3) := by decide +kernel
theorem dX7_lost_157 : decode cX7_lost 157 = .ok (.iconst 1, 1) := by decide +kernel
theorem dX7_lost_158 : decode cX7_lost 158 = .ok (.goto 4, 3) := by decide +kernel
theorem dX7_lost_161 : decode cX7_lost 161 = .ok (.iconst 0, 1) := by decide +kernel
theorem dX7_lost_162 : decode cX7_lost 162 = .ok (.istore 12, 2) := by decide +kernel
theorem dX7_lost_164 : decode cX7_lost 164 = .ok (.iinc 13 1, 3) := by decide +kernel
theorem dX7_lost_167 : decode cX7_lost 167 = .ok (.goto (-70), 3) := by decide +kernel
theorem dX7_lost_170 : decode cX7_lost 170 = .ok (.iload 8, 2) := by decide +kernel
theorem dX7_lost_172 : decode cX7_lost 172 = .ok (.iload 12, 2) := by decide +kernel
theorem dX7_lost_174 : decode cX7_lost 174 = .ok (.ifCond .eq 7, 3) := by decide +kernel
theorem dX7_lost_177 : decode cX7_lost 177 = .ok (.iconst 1, 1) := by decide +kernel
theorem dX7_lost_178 : decode cX7_lost 178 = .ok (.goto 4, 3) := by decide +kernel
theorem dX7_lost_181 : decode cX7_lost 181 = .ok (.iconst 0, 1) := by decide +kernel
theorem dX7_lost_182 : decode cX7_lost 182 = .ok (.iadd, 1) := by decide +kernel
theorem dX7_lost_183 : decode cX7_lost 183 = .ok (.istore 8, 2) := by decide +kernel
theorem dX7_lost_185 : decode cX7_lost 185 = .ok (.iload 12, 2) := by decide +kernel
theorem dX7_lost_187 : decode cX7_lost 187 = .ok (.ifCond .eq 8, 3) := by decide +kernel
theorem dX7_lost_190 : decode cX7_lost 190 = .ok (.iload 10, 2) := by decide +kernel
theorem dX7_lost_192 : decode cX7_lost 192 = .ok (.goto 5, 3) := by decide +kernel
theorem dX7_lost_195 : decode cX7_lost 195 = .ok (.iload 9, 2) := by decide +kernel
theorem dX7_lost_197 : decode cX7_lost 197 = .ok (.istore 9, 2) := by decide +kernel
theorem dX7_lost_199 : decode cX7_lost 199 = .ok (.iinc 10 (-1), 3) := by decide +kernel
theorem dX7_lost_202 : decode cX7_lost 202 = .ok (.goto (-120), 3) := by decide +kernel
theorem dX7_lost_205 : decode cX7_lost 205 = .ok (.aload_n 0, 1) := by decide +kernel
theorem dX7_lost_206 : decode cX7_lost 206 = .ok (.iload 6, 2) := by decide +kernel
theorem dX7_lost_208 : decode cX7_lost 208 = .ok (.ifCond .ne 8, 3) := by decide +kernel
theorem dX7_lost_211 : decode cX7_lost 211 = .ok (.iload 8, 2) := by decide +kernel
theorem dX7_lost_213 : decode cX7_lost 213 = .ok (.goto 5, 3) := by decide +kernel
theorem dX7_lost_216 : decode cX7_lost 216 = .ok (.iload 9, 2) := by decide +kernel
theorem dX7_lost_218 : decode cX7_lost 218 = .ok (.invokevirtual 75, 3) := by decide +kernel
theorem dX7_lost_221 : decode cX7_lost 221 = .ok (.ireturn, 1) := by decide +kernel
theorem dX7_kite_0 : decode cX7_kite 0 = .ok (.aload_n 0, 1) := by decide +kernel
theorem dX7_kite_1 : decode cX7_kite 1 = .ok (.getfield 154, 3) := by decide +kernel
theorem dX7_kite_4 : decode cX7_kite 4 = .ok (.ifCond .ne 6, 3) := by decide +kernel
theorem dX7_kite_7 : decode cX7_kite 7 = .ok (.ldc 193, 2) := by decide +kernel
theorem dX7_kite_9 : decode cX7_kite 9 = .ok (.ireturn, 1) := by decide +kernel
theorem dX7_kite_10 : decode cX7_kite 10 = .ok (.iload_n 1, 1) := by decide +kernel
theorem dX7_kite_11 : decode cX7_kite 11 = .ok (.invokestatic 64, 3) := by decide +kernel
theorem dX7_kite_14 : decode cX7_kite 14 = .ok (.ifCond .eq 26, 3) := by decide +kernel
theorem dX7_kite_17 : decode cX7_kite 17 = .ok (.iload_n 3, 1) := by decide +kernel
theorem dX7_kite_18 : decode cX7_kite 18 = .ok (.i2l, 1) := by decide +kernel
theorem dX7_kite_19 : decode cX7_kite 19 = .ok (.lconst 1, 1) := by decide +kernel
theorem dX7_kite_20 : decode cX7_kite 20 = .ok (.ldc2_w 243, 3) := by decide +kernel
theorem dX7_kite_23 : decode cX7_kite 23 = .ok (.invokestatic 60, 3) := by decide +kernel
theorem dX7_kite_26 : decode cX7_kite 26 = .ok (.ifCond .eq 14, 3) := by decide +kernel
theorem dX7_kite_29 : decode cX7_kite 29 = .ok (.iload 4, 2) := by decide +kernel
theorem dX7_kite_31 : decode cX7_kite 31 = .ok (.i2l, 1) := by decide +kernel
theorem dX7_kite_32 : decode cX7_kite 32 = .ok (.lconst 0, 1) := by decide +kernel
theorem dX7_kite_33 : decode cX7_kite 33 = .ok (.lconst 1, 1) := by decide +kernel
theorem dX7_kite_34 : decode cX7_kite 34 = .ok (.invokestatic 60, 3) := by decide +kernel
theorem dX7_kite_37 : decode cX7_kite 37 = .ok (.ifCond .ne 6, 3) := by decide +kernel
theorem dX7_kite_40 : decode cX7_kite 40 = .ok (.ldc 70, 2) := by decide +kernel
theorem dX7_kite_42 : decode cX7_kite 42 = .ok (.ireturn, 1) := by decide +kernel
theorem dX7_kite_43 : decode cX7_kite 43 = .ok (.aload_n 0, 1) := by decide +kernel
theorem dX7_kite_44 : decode cX7_kite 44 = .ok (.iload_n 1, 1) := by decide +kernel
theorem dX7_kite_45 : decode cX7_kite 45 = .ok (.iload_n 2, 1) := by decide +kernel
theorem dX7_kite_46 : decode cX7_kite 46 = .ok (.iload_n 3, 1) := by decide +kernel
theorem dX7_kite_47 : decode cX7_kite 47 = .ok (.invokevirtual 245, 3) := by decide +kernel
theorem dX7_kite_50 : decode cX7_kite 50 = .ok (.istore 5, 2) := by decide +kernel
theorem dX7_kite_52 : decode cX7_kite 52 = .ok (.iload 5, 2) := by decide +kernel
theorem dX7_kite_54 : decode cX7_kite 54 = .ok (.ifCond .ge 6, 3) := by decide +kernel
theorem dX7_kite_57 : decode cX7_kite 57 = .ok (.iload 5, 2) := by decide +kernel
theorem dX7_kite_59 : decode cX7_kite 59 = .ok (.ireturn, 1) := by decide +kernel
theorem dX7_kite_60 : decode cX7_kite 60 = .ok (.iconst 0, 1) := by decide +kernel
theorem dX7_kite_61 : decode cX7_kite 61 = .ok (.istore 6, 2) := by decide +kernel
theorem dX7_kite_63 : decode cX7_kite 63 = .ok (.ldc 237, 2) := by decide +kernel
theorem dX7_kite_65 : decode cX7_kite 65 = .ok (.istore 7, 2) := by decide +kernel
theorem dX7_kite_67 : decode cX7_kite 67 = .ok (.bipush 11, 2) := by decide +kernel
theorem dX7_kite_69 : decode cX7_kite 69 = .ok (.istore 8, 2) := by decide +kernel
theorem dX7_kite_71 : decode cX7_kite 71 = .ok (.iload 8, 2) := by decide +kernel
theorem dX7_kite_73 : decode cX7_kite 73 = .ok (.ifCond .lt 109, 3) := by decide +kernel
theorem dX7_kite_76 : decode cX7_kite 76 = .ok (.iconst 1, 1) := by decide +kernel
theorem dX7_kite_77 : decode cX7_kite 77 = .ok (.istore 9, 2) := by decide +kernel
theorem dX7_kite_79 : decode cX7_kite 79 = .ok (.iconst 0, 1) := by decide +kernel
theorem dX7_kite_80 : decode cX7_kite 80 = .ok (.istore 10, 2) := by decide +kernel
theorem dX7_kite_82 : decode cX7_kite 82 = .ok (.iload 10, 2) := by decide +kernel
theorem dX7_kite_84 : decode cX7_kite 84 = .ok (.iload_n 3, 1) := by decide +kernel
theorem dX7_kite_85 : decode cX7_kite 85 = .ok (.if_icmp .ge 62, 3) := by decide +kernel
theorem dX7_kite_88 : decode cX7_kite 88 = .ok (.iload 9, 2) := by decide +kernel
theorem dX7_kite_90 : decode cX7_kite 90 = .ok (.ifCond .eq 48, 3) := by decide +kernel
theorem dX7_kite_93 : decode cX7_kite 93 = .ok (.aload_n 0, 1) := by decide +kernel
theorem dX7_kite_94 : decode cX7_kite 94 = .ok (.getfield 16, 3) := by decide +kernel
theorem dX7_kite_97 : decode cX7_kite 97 = .ok (.bipush 40, 2) := by decide +kernel
theorem dX7_kite_99 : decode cX7_kite 99 = .ok (.iload_n 1, 1) := by decide +kernel
theorem dX7_kite_100 : decode cX7_kite 100 = .ok (.imul, 1) := by decide +kernel
theorem dX7_kite_101 : decode cX7_kite 101 = .ok (.iload_n 2, 1) := by decide +kernel
theorem dX7_kite_102 : decode cX7_kite 102 = .ok (.iadd, 1) := by decide +kernel
theorem dX7_kite_103 : decode cX7_kite 103 = .ok (.iload 10, 2) := by decide +kernel
theorem dX7_kite_105 : decode cX7_kite 105 = .ok (.iadd, 1) := by decide +kernel
theorem dX7_kite_106 : decode cX7_kite 106 = .ok (.iaload, 1) := by decide +kernel
theorem dX7_kite_107 : decode cX7_kite 107 = .ok (.aload_n 0, 1) := by decide +kernel
theorem dX7_kite_108 : decode cX7_kite 108 = .ok (.getfield 19, 3) := by decide +kernel
theorem dX7_kite_111 : decode cX7_kite 111 = .ok (.iconst 0, 1) := by decide +kernel
theorem dX7_kite_112 : decode cX7_kite 112 = .ok (.bipush 6, 2) := by decide +kernel
theorem dX7_kite_114 : decode cX7_kite 114 = .ok (.iload 8, 2) := by decide +kernel
theorem dX7_kite_116 : decode cX7_kite 116 = .ok (.bipush 6, 2) := by decide +kernel
theorem dX7_kite_118 : decode cX7_kite 118 = .ok (.idiv, 1) := by decide +kernel
theorem dX7_kite_119 : decode cX7_kite 119 = .ok (.imul, 1) := by decide +kernel
theorem dX7_kite_120 : decode cX7_kite 120 = .ok (.iadd, 1) := by decide +kernel
theorem dX7_kite_121 : decode cX7_kite 121 = .ok (.iload 8, 2) := by decide +kernel
theorem dX7_kite_123 : decode cX7_kite 123 = .ok (.iload 10, 2) := by decide +kernel
theorem dX7_kite_125 : decode cX7_kite 125 = .ok (.iadd, 1) := by decide +kernel
theorem dX7_kite_126 : decode cX7_kite 126 = .ok (.bipush 6, 2) := by decide +kernel
theorem dX7_kite_128 : decode cX7_kite 128 = .ok (.irem, 1) := by decide +kernel
theorem dX7_kite_129 : decode cX7_kite 129 = .ok (.iadd, 1) := by decide +kernel
theorem dX7_kite_130 : decode cX7_kite 130 = .ok (.iaload, 1) := by decide +kernel
theorem dX7_kite_131 : decode cX7_kite 131 = .ok (.if_icmp .ne 7, 3) := by decide +kernel
theorem dX7_kite_134 : decode cX7_kite 134 = .ok (.iconst 1, 1) := by decide +kernel
theorem dX7_kite_135 : decode cX7_kite 135 = .ok (.goto 4, 3) := by decide +kernel
theorem dX7_kite_138 : decode cX7_kite 138 = .ok (.iconst 0, 1) := by decide +kernel
theorem dX7_kite_139 : decode cX7_kite 139 = .ok (.istore 9, 2) := by decide +kernel
theorem dX7_kite_141 : decode cX7_kite 141 = .ok (.iinc 10 1, 3) := by decide +kernel
theorem dX7_kite_144 : decode cX7_kite 144 = .ok (.goto (-62), 3) := by decide +kernel
theorem dX7_kite_147 : decode cX7_kite 147 = .ok (.iload 6, 2) := by decide +kernel
theorem dX7_kite_149 : decode cX7_kite 149 = .ok (.iload 9, 2) := by decide +kernel
theorem dX7_kite_151 : decode cX7_kite 151 = .ok (.ifCond .eq 7, 3) := by decide +kernel
theorem dX7_kite_154 : decode cX7_kite 154 = .ok (.iconst 1, 1) := by decide +kernel
theorem dX7_kite_155 : decode cX7_kite 155 = .ok (.goto 4, 3) := by decide +kernel
theorem dX7_kite_158 : decode cX7_kite 158 = .ok (.iconst 0, 1) := by decide +kernel
theorem dX7_kite_159 : decode cX7_kite 159 = .ok (.iadd, 1) := by decide +kernel
theorem dX7_kite_160 : decode cX7_kite 160 = .ok (.istore 6, 2) := by decide +kernel
theorem dX7_kite_162 : decode cX7_kite 162 = .ok (.iload 9, 2) := by decide +kernel
theorem dX7_kite_164 : decode cX7_kite 164 = .ok (.ifCond .eq 8, 3) := by decide +kernel
theorem dX7_kite_167 : decode cX7_kite 167 = .ok (.iload 8, 2) := by decide +kernel
theorem dX7_kite_169 : decode cX7_kite 169 = .ok (.goto 5, 3) := by decide +kernel
theorem dX7_kite_172 : decode cX7_kite 172 = .ok (.iload 7, 2) := by decide +kernel
theorem dX7_kite_174 : decode cX7_kite 174 = .ok (.istore 7, 2) := by decide +kernel
theorem dX7_kite_176 : decode cX7_kite 176 = .ok (.iinc 8 (-1), 3) := by decide +kernel
theorem dX7_kite_179 : decode cX7_kite 179 = .ok (.goto (-108), 3) := by decide +kernel
theorem dX7_kite_182 : decode cX7_kite 182 = .ok (.aload_n 0, 1) := by decide +kernel
theorem dX7_kite_183 : decode cX7_kite 183 = .ok (.iload 4, 2) := by decide +kernel
theorem dX7_kite_185 : decode cX7_kite 185 = .ok (.ifCond .ne 8, 3) := by decide +kernel
theorem dX7_kite_188 : decode cX7_kite 188 = .ok (.iload 6, 2) := by decide +kernel
theorem dX7_kite_190 : decode cX7_kite 190 = .ok (.goto 5, 3) := by decide +kernel
theorem dX7_kite_193 : decode cX7_kite 193 = .ok (.iload 7, 2) := by decide +kernel
theorem dX7_kite_195 : decode cX7_kite 195 = .ok (.invokevirtual 75, 3) := by decide +kernel
theorem dX7_kite_198 : decode cX7_kite 198 = .ok (.ireturn, 1) := by decide +kernel
theorem dX7_common_0 : decode cX7_common 0 = .ok (.lload_n 0, 1) := by decide +kernel
theorem dX7_common_1 : decode cX7_common 1 = .ok (.lstore 4, 2) := by decide +kernel
theorem dX7_common_3 : decode cX7_common 3 = .ok (.lload_n 2, 1) := by decide +kernel
theorem dX7_common_4 : decode cX7_common 4 = .ok (.lstore 6, 2) := by decide +kernel
theorem dX7_common_6 : decode cX7_common 6 = .ok (.lload 6, 2) := by decide +kernel
theorem dX7_common_8 : decode cX7_common 8 = .ok (.lconst 0, 1) := by decide +kernel
theorem dX7_common_9 : decode cX7_common 9 = .ok (.lcmp, 1) := by decide +kernel
theorem dX7_common_10 : decode cX7_common 10 = .ok (.ifCond .eq 21, 3) := by decide +kernel
theorem dX7_common_13 : decode cX7_common 13 = .ok (.lload 4, 2) := by decide +kernel
theorem dX7_common_15 : decode cX7_common 15 = .ok (.lload 6, 2) := by decide +kernel
theorem dX7_common_17 : decode cX7_common 17 = .ok (.lrem, 1) := by decide +kernel
theorem dX7_common_18 : decode cX7_common 18 = .ok (.lstore 8, 2) := by decide +kernel
theorem dX7_common_20 : decode cX7_common 20 = .ok (.lload 6, 2) := by decide +kernel
theorem dX7_common_22 : decode cX7_common 22 = .ok (.lstore 4, 2) := by decide +kernel
theorem dX7_common_24 : decode cX7_common 24 = .ok (.lload 8, 2) := by decide +kernel
theorem dX7_common_26 : decode cX7_common 26 = .ok (.lstore 6, 2) := by decide +kernel
theorem dX7_common_28 : decode cX7_common 28 = .ok (.goto (-22), 3) := by decide +kernel
theorem dX7_common_31 : decode cX7_common 31 = .ok (.lload 4, 2) := by decide +kernel
theorem dX7_common_33 : decode cX7_common 33 = .ok (.lreturn, 1) := by decide +kernel
theorem dX7_tuesday_0 : decode cX7_tuesday 0 = .ok (.aload_n 0, 1) := by decide +kernel
theorem dX7_tuesday_1 : decode cX7_tuesday 1 = .ok (.iload_n 1, 1) := by decide +kernel
theorem dX7_tuesday_2 : decode cX7_tuesday 2 = .ok (.invokevirtual 202, 3) := by decide +kernel
theorem dX7_tuesday_5 : decode cX7_tuesday 5 = .ok (.ifCond .eq 33, 3) := by decide +kernel
theorem dX7_tuesday_8 : decode cX7_tuesday 8 = .ok (.iload_n 2, 1) := by decide +kernel
theorem dX7_tuesday_9 : decode cX7_tuesday 9 = .ok (.i2l, 1) := by decide +kernel
theorem dX7_tuesday_10 : decode cX7_tuesday 10 = .ok (.lconst 0, 1) := by decide +kernel
theorem dX7_tuesday_11 : decode cX7_tuesday 11 = .ok (.ldc2_w 224, 3) := by decide +kernel
theorem dX7_tuesday_14 : decode cX7_tuesday 14 = .ok (.invokestatic 60, 3) := by decide +kernel
theorem dX7_tuesday_17 : decode cX7_tuesday 17 = .ok (.ifCond .eq 21, 3) := by decide +kernel
theorem dX7_tuesday_20 : decode cX7_tuesday 20 = .ok (.iload_n 3, 1) := by decide +kernel
theorem dX7_tuesday_21 : decode cX7_tuesday 21 = .ok (.invokestatic 216, 3) := by decide +kernel
theorem dX7_tuesday_24 : decode cX7_tuesday 24 = .ok (.ifCond .eq 14, 3) := by decide +kernel
theorem dX7_tuesday_27 : decode cX7_tuesday 27 = .ok (.iload 4, 2) := by decide +kernel
theorem dX7_tuesday_29 : decode cX7_tuesday 29 = .ok (.i2l, 1) := by decide +kernel
theorem dX7_tuesday_30 : decode cX7_tuesday 30 = .ok (.lconst 0, 1) := by decide +kernel
theorem dX7_tuesday_31 : decode cX7_tuesday 31 = .ok (.lconst 1, 1) := by decide +kernel
theorem dX7_tuesday_32 : decode cX7_tuesday 32 = .ok (.invokestatic 60, 3) := by decide +kernel
theorem dX7_tuesday_35 : decode cX7_tuesday 35 = .ok (.ifCond .ne 6, 3) := by decide +kernel
theorem dX7_tuesday_38 : decode cX7_tuesday 38 = .ok (.ldc 70, 2) := by decide +kernel
theorem dX7_tuesday_40 : decode cX7_tuesday 40 = .ok (.ireturn, 1) := by decide +kernel
theorem dX7_tuesday_41 : decode cX7_tuesday 41 = .ok (.aload_n 0, 1) := by decide +kernel
theorem dX7_tuesday_42 : decode cX7_tuesday 42 = .ok (.iload_n 1, 1) := by decide +kernel
theorem dX7_tuesday_43 : decode cX7_tuesday 43 = .ok (.invokevirtual 177, 3) := by decide +kernel
theorem dX7_tuesday_46 : decode cX7_tuesday 46 = .ok (.ifCond .ne 6, 3) := by decide +kernel
theorem dX7_tuesday_49 : decode cX7_tuesday 49 = .ok (.ldc 193, 2) := by decide +kernel
theorem dX7_tuesday_51 : decode cX7_tuesday 51 = .ok (.ireturn, 1) := by decide +kernel
theorem dX7_tuesday_52 : decode cX7_tuesday 52 = .ok (.iconst 0, 1) := by decide +kernel
theorem dX7_tuesday_53 : decode cX7_tuesday 53 = .ok (.istore 5, 2) := by decide +kernel
theorem dX7_tuesday_55 : decode cX7_tuesday 55 = .ok (.iconst 0, 1) := by decide +kernel
theorem dX7_tuesday_56 : decode cX7_tuesday 56 = .ok (.istore 6, 2) := by decide +kernel
theorem dX7_tuesday_58 : decode cX7_tuesday 58 = .ok (.iload 6, 2) := by decide +kernel
theorem dX7_tuesday_60 : decode cX7_tuesday 60 = .ok (.bipush 6, 2) := by decide +kernel
theorem dX7_tuesday_62 : decode cX7_tuesday 62 = .ok (.if_icmp .ge 90, 3) := by decide +kernel
theorem dX7_tuesday_65 : decode cX7_tuesday 65 = .ok (.aload_n 0, 1) := by decide +kernel
theorem dX7_tuesday_66 : decode cX7_tuesday 66 = .ok (.getfield 19, 3) := by decide +kernel
theorem dX7_tuesday_69 : decode cX7_tuesday 69 = .ok (.bipush 56, 2) := by decide +kernel
theorem dX7_tuesday_71 : decode cX7_tuesday 71 = .ok (.iload_n 1, 1) := by decide +kernel
theorem dX7_tuesday_72 : decode cX7_tuesday 72 = .ok (.iadd, 1) := by decide +kernel
theorem dX7_tuesday_73 : decode cX7_tuesday 73 = .ok (.iaload, 1) := by decide +kernel
theorem dX7_tuesday_74 : decode cX7_tuesday 74 = .ok (.istore 7, 2) := by decide +kernel
theorem dX7_tuesday_76 : decode cX7_tuesday 76 = .ok (.iconst 0, 1) := by decide +kernel
theorem dX7_tuesday_77 : decode cX7_tuesday 77 = .ok (.istore 8, 2) := by decide +kernel
theorem dX7_tuesday_79 : decode cX7_tuesday 79 = .ok (.iload 8, 2) := by decide +kernel
theorem dX7_tuesday_81 : decode cX7_tuesday 81 = .ok (.iload_n 2, 1) := by decide +kernel
theorem dX7_tuesday_82 : decode cX7_tuesday 82 = .ok (.if_icmp .ge 48, 3) := by decide +kernel
theorem dX7_tuesday_85 : decode cX7_tuesday 85 = .ok (.aload_n 0, 1) := by decide +kernel
theorem dX7_tuesday_86 : decode cX7_tuesday 86 = .ok (.aload_n 0, 1) := by decide +kernel
theorem dX7_tuesday_87 : decode cX7_tuesday 87 = .ok (.getfield 19, 3) := by decide +kernel
theorem dX7_tuesday_90 : decode cX7_tuesday 90 = .ok (.bipush 51, 2) := by decide +kernel
theorem dX7_tuesday_92 : decode cX7_tuesday 92 = .ok (.iload_n 1, 1) := by decide +kernel
theorem dX7_tuesday_93 : decode cX7_tuesday 93 = .ok (.iadd, 1) := by decide +kernel
theorem dX7_tuesday_94 : decode cX7_tuesday 94 = .ok (.iaload, 1) := by decide +kernel
theorem dX7_tuesday_95 : decode cX7_tuesday 95 = .ok (.iload 7, 2) := by decide +kernel
theorem dX7_tuesday_97 : decode cX7_tuesday 97 = .ok (.aload_n 0, 1) := by decide +kernel
theorem dX7_tuesday_98 : decode cX7_tuesday 98 = .ok (.getfield 19, 3) := by decide +kernel
theorem dX7_tuesday_101 : decode cX7_tuesday 101 = .ok (.bipush 61, 2) := by decide +kernel
theorem dX7_tuesday_103 : decode cX7_tuesday 103 = .ok (.iload_n 1, 1) := by decide +kernel
theorem dX7_tuesday_104 : decode cX7_tuesday 104 = .ok (.iadd, 1) := by decide +kernel
theorem dX7_tuesday_105 : decode cX7_tuesday 105 = .ok (.iaload, 1) := by decide +kernel
theorem dX7_tuesday_106 : decode cX7_tuesday 106 = .ok (.aload_n 0, 1) := by decide +kernel
theorem dX7_tuesday_107 : decode cX7_tuesday 107 = .ok (.getfield 19, 3) := by decide +kernel
theorem dX7_tuesday_110 : decode cX7_tuesday 110 = .ok (.bipush 46, 2) := by decide +kernel
theorem dX7_tuesday_112 : decode cX7_tuesday 112 = .ok (.iaload, 1) := by decide +kernel
theorem dX7_tuesday_113 : decode cX7_tuesday 113 = .ok (.iload 6, 2) := by decide +kernel
theorem dX7_tuesday_115 : decode cX7_tuesday 115 = .ok (.iadd, 1) := by decide +kernel
theorem dX7_tuesday_116 : decode cX7_tuesday 116 = .ok (.iload 8, 2) := by decide +kernel
theorem dX7_tuesday_118 : decode cX7_tuesday 118 = .ok (.iadd, 1) := by decide +kernel
theorem dX7_tuesday_119 : decode cX7_tuesday 119 = .ok (.invokevirtual 167, 3) := by decide +kernel
theorem dX7_tuesday_122 : decode cX7_tuesday 122 = .ok (.istore 7, 2) := by decide +kernel
theorem dX7_tuesday_124 : decode cX7_tuesday 124 = .ok (.iinc 8 1, 3) := by decide +kernel
theorem dX7_tuesday_127 : decode cX7_tuesday 127 = .ok (.goto (-48), 3) := by decide +kernel
theorem dX7_tuesday_130 : decode cX7_tuesday 130 = .ok (.iload 5, 2) := by decide +kernel
theorem dX7_tuesday_132 : decode cX7_tuesday 132 = .ok (.iload 7, 2) := by decide +kernel
theorem dX7_tuesday_134 : decode cX7_tuesday 134 = .ok (.iload_n 3, 1) := by decide +kernel
theorem dX7_tuesday_135 : decode cX7_tuesday 135 = .ok (.if_icmp .ne 7, 3) := by decide +kernel
theorem dX7_tuesday_138 : decode cX7_tuesday 138 = .ok (.iconst 1, 1) := by decide +kernel
theorem dX7_tuesday_139 : decode cX7_tuesday 139 = .ok (.goto 4, 3) := by decide +kernel
theorem dX7_tuesday_142 : decode cX7_tuesday 142 = .ok (.iconst 0, 1) := by decide +kernel
theorem dX7_tuesday_143 : decode cX7_tuesday 143 = .ok (.iadd, 1) := by decide +kernel
theorem dX7_tuesday_144 : decode cX7_tuesday 144 = .ok (.istore 5, 2) := by decide +kernel
theorem dX7_tuesday_146 : decode cX7_tuesday 146 = .ok (.iinc 6 1, 3) := by decide +kernel
theorem dX7_tuesday_149 : decode cX7_tuesday 149 = .ok (.goto (-91), 3) := by decide +kernel
theorem dX7_tuesday_152 : decode cX7_tuesday 152 = .ok (.iload 5, 2) := by decide +kernel
theorem dX7_tuesday_154 : decode cX7_tuesday 154 = .ok (.i2l, 1) := by decide +kernel
theorem dX7_tuesday_155 : decode cX7_tuesday 155 = .ok (.ldc2_w 253, 3) := by decide +kernel
theorem dX7_tuesday_158 : decode cX7_tuesday 158 = .ok (.invokestatic 255, 3) := by decide +kernel
theorem dX7_tuesday_161 : decode cX7_tuesday 161 = .ok (.l2i, 1) := by decide +kernel
theorem dX7_tuesday_162 : decode cX7_tuesday 162 = .ok (.istore 6, 2) := by decide +kernel
theorem dX7_tuesday_164 : decode cX7_tuesday 164 = .ok (.iload 4, 2) := by decide +kernel
theorem dX7_tuesday_166 : decode cX7_tuesday 166 = .ok (.ifCond .ne 11, 3) := by decide +kernel
theorem dX7_tuesday_169 : decode cX7_tuesday 169 = .ok (.iload 5, 2) := by decide +kernel
theorem dX7_tuesday_171 : decode cX7_tuesday 171 = .ok (.iload 6, 2) := by decide +kernel
theorem dX7_tuesday_173 : decode cX7_tuesday 173 = .ok (.idiv, 1) := by decide +kernel
theorem dX7_tuesday_174 : decode cX7_tuesday 174 = .ok (.goto 8, 3) := by decide +kernel
theorem dX7_tuesday_177 : decode cX7_tuesday 177 = .ok (.bipush 6, 2) := by decide +kernel
theorem dX7_tuesday_179 : decode cX7_tuesday 179 = .ok (.iload 6, 2) := by decide +kernel
theorem dX7_tuesday_181 : decode cX7_tuesday 181 = .ok (.idiv, 1) := by decide +kernel
theorem dX7_tuesday_182 : decode cX7_tuesday 182 = .ok (.ireturn, 1) := by decide +kernel
theorem dX7_findGuards_0 : decode cX7_findGuards 0 = .ok (.aload_n 0, 1) := by decide +kernel
theorem dX7_findGuards_1 : decode cX7_findGuards 1 = .ok (.iload_n 1, 1) := by decide +kernel
theorem dX7_findGuards_2 : decode cX7_findGuards 2 = .ok (.iload_n 2, 1) := by decide +kernel
theorem dX7_findGuards_3 : decode cX7_findGuards 3 = .ok (.iconst 5, 1) := by decide +kernel
theorem dX7_findGuards_4 : decode cX7_findGuards 4 = .ok (.invokevirtual 245, 3) := by decide +kernel
theorem dX7_findGuards_7 : decode cX7_findGuards 7 = .ok (.istore_n 3, 1) := by decide +kernel
theorem dX7_findGuards_8 : decode cX7_findGuards 8 = .ok (.iload_n 3, 1) := by decide +kernel
theorem dX7_findGuards_9 : decode cX7_findGuards 9 = .ok (.ifCond .ge 5, 3) := by decide +kernel
theorem dX7_findGuards_12 : decode cX7_findGuards 12 = .ok (.iload_n 3, 1) := by decide +kernel
theorem dX7_findGuards_13 : decode cX7_findGuards 13 = .ok (.ireturn, 1) := by decide +kernel
theorem dX7_findGuards_14 : decode cX7_findGuards 14 = .ok (.bipush 40, 2) := by decide +kernel
theorem dX7_findGuards_16 : decode cX7_findGuards 16 = .ok (.iload_n 1, 1) := by decide +kernel
theorem dX7_findGuards_17 : decode cX7_findGuards 17 = .ok (.imul, 1) := by decide +kernel
theorem dX7_findGuards_18 : decode cX7_findGuards 18 = .ok (.iload_n 2, 1) := by decide +kernel
theorem dX7_findGuards_19 : decode cX7_findGuards 19 = .ok (.iadd, 1) := by decide +kernel
theorem dX7_findGuards_20 : decode cX7_findGuards 20 = .ok (.istore 4, 2) := by decide +kernel
theorem dX7_findGuards_22 : decode cX7_findGuards 22 = .ok (.iconst 0, 1) := by decide +kernel
theorem dX7_findGuards_23 : decode cX7_findGuards 23 = .ok (.istore 5, 2) := by decide +kernel
theorem dX7_findGuards_25 : decode cX7_findGuards 25 = .ok (.iload 5, 2) := by decide +kernel
theorem dX7_findGuards_27 : decode cX7_findGuards 27 = .ok (.iconst 5, 1) := by decide +kernel
theorem dX7_findGuards_28 : decode cX7_findGuards 28 = .ok (.if_icmp .ge 33, 3) := by decide +kernel
theorem dX7_findGuards_31 : decode cX7_findGuards 31 = .ok (.aload_n 0, 1) := by decide +kernel
theorem dX7_findGuards_32 : decode cX7_findGuards 32 = .ok (.getfield 16, 3) := by decide +kernel
theorem dX7_findGuards_35 : decode cX7_findGuards 35 = .ok (.iload 4, 2) := by decide +kernel
theorem dX7_findGuards_37 : decode cX7_findGuards 37 = .ok (.iload 5, 2) := by decide +kernel
theorem dX7_findGuards_39 : decode cX7_findGuards 39 = .ok (.iadd, 1) := by decide +kernel
theorem dX7_findGuards_40 : decode cX7_findGuards 40 = .ok (.iaload, 1) := by decide +kernel
theorem dX7_findGuards_41 : decode cX7_findGuards 41 = .ok (.i2l, 1) := by decide +kernel
theorem dX7_findGuards_42 : decode cX7_findGuards 42 = .ok (.lconst 1, 1) := by decide +kernel
theorem dX7_findGuards_43 : decode cX7_findGuards 43 = .ok (.ldc2_w 259, 3) := by decide +kernel
theorem dX7_findGuards_46 : decode cX7_findGuards 46 = .ok (.invokestatic 60, 3) := by decide +kernel
theorem dX7_findGuards_49 : decode cX7_findGuards 49 = .ok (.ifCond .ne 6, 3) := by decide +kernel
theorem dX7_findGuards_52 : decode cX7_findGuards 52 = .ok (.ldc 70, 2) := by decide +kernel
theorem dX7_findGuards_54 : decode cX7_findGuards 54 = .ok (.ireturn, 1) := by decide +kernel
theorem dX7_findGuards_55 : decode cX7_findGuards 55 = .ok (.iinc 5 1, 3) := by decide +kernel
theorem dX7_findGuards_58 : decode cX7_findGuards 58 = .ok (.goto (-33), 3) := by decide +kernel
theorem dX7_findGuards_61 : decode cX7_findGuards 61 = .ok (.aload_n 0, 1) := by decide +kernel
theorem dX7_findGuards_62 : decode cX7_findGuards 62 = .ok (.iconst 0, 1) := by decide +kernel
theorem dX7_findGuards_63 : decode cX7_findGuards 63 = .ok (.putfield 261, 3) := by decide +kernel
theorem dX7_findGuards_66 : decode cX7_findGuards 66 = .ok (.aload_n 0, 1) := by decide +kernel
theorem dX7_findGuards_67 : decode cX7_findGuards 67 = .ok (.ldc2_w 264, 3) := by decide +kernel
theorem dX7_findGuards_70 : decode cX7_findGuards 70 = .ok (.putfield 266, 3) := by decide +kernel
theorem dX7_findGuards_73 : decode cX7_findGuards 73 = .ok (.aload_n 0, 1) := by decide +kernel
theorem dX7_findGuards_74 : decode cX7_findGuards 74 = .ok (.lconst 1, 1) := by decide +kernel
theorem dX7_findGuards_75 : decode cX7_findGuards 75 = .ok (.putfield 270, 3) := by decide +kernel
theorem dX7_findGuards_78 : decode cX7_findGuards 78 = .ok (.iconst 1, 1) := by decide +kernel
theorem dX7_findGuards_79 : decode cX7_findGuards 79 = .ok (.istore 5, 2) := by decide +kernel
theorem dX7_findGuards_81 : decode cX7_findGuards 81 = .ok (.iload 5, 2) := by decide +kernel
theorem dX7_findGuards_83 : decode cX7_findGuards 83 = .ok (.bipush 32, 2) := by decide +kernel
theorem dX7_findGuards_85 : decode cX7_findGuards 85 = .ok (.if_icmp .ge 128, 3) := by decide +kernel
theorem dX7_findGuards_88 : decode cX7_findGuards 88 = .ok (.lconst 1, 1) := by decide +kernel
theorem dX7_findGuards_89 : decode cX7_findGuards 89 = .ok (.lstore 6, 2) := by decide +kernel
theorem dX7_findGuards_91 : decode cX7_findGuards 91 = .ok (.lconst 0, 1) := by decide +kernel
theorem dX7_findGuards_92 : decode cX7_findGuards 92 = .ok (.lstore 8, 2) := by decide +kernel
theorem dX7_findGuards_94 : decode cX7_findGuards 94 = .ok (.iconst 0, 1) := by decide +kernel
theorem dX7_findGuards_95 : decode cX7_findGuards 95 = .ok (.istore 10, 2) := by decide +kernel
theorem dX7_findGuards_97 : decode cX7_findGuards 97 = .ok (.iconst 0, 1) := by decide +kernel
theorem dX7_findGuards_98 : decode cX7_findGuards 98 = .ok (.istore 11, 2) := by decide +kernel
theorem dX7_findGuards_100 : decode cX7_findGuards 100 = .ok (.iload 11, 2) := by decide +kernel
theorem dX7_findGuards_102 : decode cX7_findGuards 102 = .ok (.iconst 5, 1) := by decide +kernel
theorem dX7_findGuards_103 : decode cX7_findGuards 103 = .ok (.if_icmp .ge 58, 3) := by decide +kernel
theorem dX7_findGuards_106 : decode cX7_findGuards 106 = .ok (.iload 5, 2) := by decide +kernel
theorem dX7_findGuards_108 : decode cX7_findGuards 108 = .ok (.iload 11, 2) := by decide +kernel
theorem dX7_findGuards_110 : decode cX7_findGuards 110 = .ok (.ishr, 1) := by decide +kernel
theorem dX7_findGuards_111 : decode cX7_findGuards 111 = .ok (.iconst 1, 1) := by decide +kernel
theorem dX7_findGuards_112 : decode cX7_findGuards 112 = .ok (.iand, 1) := by decide +kernel
theorem dX7_findGuards_113 : decode cX7_findGuards 113 = .ok (.iconst 1, 1) := by decide +kernel
theorem dX7_findGuards_114 : decode cX7_findGuards 114 = .ok (.if_icmp .ne 41, 3) := by decide +kernel
theorem dX7_findGuards_117 : decode cX7_findGuards 117 = .ok (.lload 8, 2) := by decide +kernel
theorem dX7_findGuards_119 : decode cX7_findGuards 119 = .ok (.aload_n 0, 1) := by decide +kernel
theorem dX7_findGuards_120 : decode cX7_findGuards 120 = .ok (.getfield 16, 3) := by decide +kernel
theorem dX7_findGuards_123 : decode cX7_findGuards 123 = .ok (.iload 4, 2) := by decide +kernel
theorem dX7_findGuards_125 : decode cX7_findGuards 125 = .ok (.iload 11, 2) := by decide +kernel
theorem dX7_findGuards_127 : decode cX7_findGuards 127 = .ok (.iadd, 1) := by decide +kernel
theorem dX7_findGuards_128 : decode cX7_findGuards 128 = .ok (.iaload, 1) := by decide +kernel
theorem dX7_findGuards_129 : decode cX7_findGuards 129 = .ok (.i2l, 1) := by decide +kernel
theorem dX7_findGuards_130 : decode cX7_findGuards 130 = .ok (.lmul, 1) := by decide +kernel
theorem dX7_findGuards_131 : decode cX7_findGuards 131 = .ok (.lload 6, 2) := by decide +kernel
theorem dX7_findGuards_133 : decode cX7_findGuards 133 = .ok (.ladd, 1) := by decide +kernel
theorem dX7_findGuards_134 : decode cX7_findGuards 134 = .ok (.lstore 8, 2) := by decide +kernel
theorem dX7_findGuards_136 : decode cX7_findGuards 136 = .ok (.lload 6, 2) := by decide +kernel
theorem dX7_findGuards_138 : decode cX7_findGuards 138 = .ok (.aload_n 0, 1) := by decide +kernel
theorem dX7_findGuards_139 : decode cX7_findGuards 139 = .ok (.getfield 16, 3) := by decide +kernel
theorem dX7_findGuards_142 : decode cX7_findGuards 142 = .ok (.iload 4, 2) := by decide +kernel
theorem dX7_findGuards_144 : decode cX7_findGuards 144 = .ok (.iload 11, 2) := by decide +kernel
theorem dX7_findGuards_146 : decode cX7_findGuards 146 = .ok (.iadd, 1) := by decide +kernel
theorem dX7_findGuards_147 : decode cX7_findGuards 147 = .ok (.iaload, 1) := by decide +kernel
theorem dX7_findGuards_148 : decode cX7_findGuards 148 = .ok (.i2l, 1) := by decide +kernel
theorem dX7_findGuards_149 : decode cX7_findGuards 149 = .ok (.lmul, 1) := by decide +kernel
theorem dX7_findGuards_150 : decode cX7_findGuards 150 = .ok (.lstore 6, 2) := by decide +kernel
theorem dX7_findGuards_152 : decode cX7_findGuards 152 = .ok (.iinc 10 1, 3) := by decide +kernel
theorem dX7_findGuards_155 : decode cX7_findGuards 155 = .ok (.iinc 11 1, 3) := by decide +kernel
theorem dX7_findGuards_158 : decode cX7_findGuards 158 = .ok (.goto (-58), 3) := by decide +kernel
theorem dX7_findGuards_161 : decode cX7_findGuards 161 = .ok (.iload 10, 2) := by decide +kernel
theorem dX7_findGuards_163 : decode cX7_findGuards 163 = .ok (.iconst 1, 1) := by decide +kernel
theorem dX7_findGuards_164 : decode cX7_findGuards 164 = .ok (.isub, 1) := by decide +kernel
theorem dX7_findGuards_165 : decode cX7_findGuards 165 = .ok (.i2l, 1) := by decide +kernel
theorem dX7_findGuards_166 : decode cX7_findGuards 166 = .ok (.lload 6, 2) := by decide +kernel
theorem dX7_findGuards_168 : decode cX7_findGuards 168 = .ok (.lmul, 1) := by decide +kernel
theorem dX7_findGuards_169 : decode cX7_findGuards 169 = .ok (.lstore 11, 2) := by decide +kernel
theorem dX7_findGuards_171 : decode cX7_findGuards 171 = .ok (.lload 11, 2) := by decide +kernel
theorem dX7_findGuards_173 : decode cX7_findGuards 173 = .ok (.aload_n 0, 1) := by decide +kernel
theorem dX7_findGuards_174 : decode cX7_findGuards 174 = .ok (.getfield 270, 3) := by decide +kernel
theorem dX7_findGuards_177 : decode cX7_findGuards 177 = .ok (.lmul, 1) := by decide +kernel
theorem dX7_findGuards_178 : decode cX7_findGuards 178 = .ok (.aload_n 0, 1) := by decide +kernel
theorem dX7_findGuards_179 : decode cX7_findGuards 179 = .ok (.getfield 266, 3) := by decide +kernel
theorem dX7_findGuards_182 : decode cX7_findGuards 182 = .ok (.lload 8, 2) := by decide +kernel
theorem dX7_findGuards_184 : decode cX7_findGuards 184 = .ok (.lmul, 1) := by decide +kernel
theorem dX7_findGuards_185 : decode cX7_findGuards 185 = .ok (.lcmp, 1) := by decide +kernel
theorem dX7_findGuards_186 : decode cX7_findGuards 186 = .ok (.ifCond .le 21, 3) := by decide +kernel
theorem dX7_findGuards_189 : decode cX7_findGuards 189 = .ok (.aload_n 0, 1) := by decide +kernel
theorem dX7_findGuards_190 : decode cX7_findGuards 190 = .ok (.iload 5, 2) := by decide +kernel
theorem dX7_findGuards_192 : decode cX7_findGuards 192 = .ok (.putfield 261, 3) := by decide +kernel
theorem dX7_findGuards_195 : decode cX7_findGuards 195 = .ok (.aload_n 0, 1) := by decide +kernel
theorem dX7_findGuards_196 : decode cX7_findGuards 196 = .ok (.lload 11, 2) := by decide +kernel
theorem dX7_findGuards_198 : decode cX7_findGuards 198 = .ok (.putfield 266, 3) := by decide +kernel
theorem dX7_findGuards_201 : decode cX7_findGuards 201 = .ok (.aload_n 0, 1) := by decide +kernel
theorem dX7_findGuards_202 : decode cX7_findGuards 202 = .ok (.lload 8, 2) := by decide +kernel
theorem dX7_findGuards_204 : decode cX7_findGuards 204 = .ok (.putfield 270, 3) := by decide +kernel
theorem dX7_findGuards_207 : decode cX7_findGuards 207 = .ok (.iinc 5 1, 3) := by decide +kernel
theorem dX7_findGuards_210 : decode cX7_findGuards 210 = .ok (.goto (-129), 3) := by decide +kernel
theorem dX7_findGuards_213 : decode cX7_findGuards 213 = .ok (.aload_n 0, 1) := by decide +kernel
theorem dX7_findGuards_214 : decode cX7_findGuards 214 = .ok (.getfield 266, 3) := by decide +kernel
theorem dX7_findGuards_217 : decode cX7_findGuards 217 = .ok (.aload_n 0, 1) := by decide +kernel
theorem dX7_findGuards_218 : decode cX7_findGuards 218 = .ok (.getfield 270, 3) := by decide +kernel
theorem dX7_findGuards_221 : decode cX7_findGuards 221 = .ok (.invokestatic 255, 3) := by decide +kernel
theorem dX7_findGuards_224 : decode cX7_findGuards 224 = .ok (.lstore 5, 2) := by decide +kernel
theorem dX7_findGuards_226 : decode cX7_findGuards 226 = .ok (.aload_n 0, 1) := by decide +kernel
theorem dX7_findGuards_227 : decode cX7_findGuards 227 = .ok (.dup, 1) := by decide +kernel
theorem dX7_findGuards_228 : decode cX7_findGuards 228 = .ok (.getfield 266, 3) := by decide +kernel
theorem dX7_findGuards_231 : decode cX7_findGuards 231 = .ok (.lload 5, 2) := by decide +kernel
theorem dX7_findGuards_233 : decode cX7_findGuards 233 = .ok (.ldiv, 1) := by decide +kernel
theorem dX7_findGuards_234 : decode cX7_findGuards 234 = .ok (.putfield 266, 3) := by decide +kernel
theorem dX7_findGuards_237 : decode cX7_findGuards 237 = .ok (.aload_n 0, 1) := by decide +kernel
theorem dX7_findGuards_238 : decode cX7_findGuards 238 = .ok (.dup, 1) := by decide +kernel
theorem dX7_findGuards_239 : decode cX7_findGuards 239 = .ok (.getfield 270, 3) := by decide +kernel
theorem dX7_findGuards_242 : decode cX7_findGuards 242 = .ok (.lload 5, 2) := by decide +kernel
theorem dX7_findGuards_244 : decode cX7_findGuards 244 = .ok (.ldiv, 1) := by decide +kernel
theorem dX7_findGuards_245 : decode cX7_findGuards 245 = .ok (.putfield 270, 3) := by decide +kernel
theorem dX7_findGuards_248 : decode cX7_findGuards 248 = .ok (.iconst 0, 1) := by decide +kernel
theorem dX7_findGuards_249 : decode cX7_findGuards 249 = .ok (.ireturn, 1) := by decide +kernel
theorem dX7_guards_0 : decode cX7_guards 0 = .ok (.iload_n 1, 1) := by decide +kernel
theorem dX7_guards_1 : decode cX7_guards 1 = .ok (.invokestatic 64, 3) := by decide +kernel
theorem dX7_guards_4 : decode cX7_guards 4 = .ok (.ifCond .ne 6, 3) := by decide +kernel
theorem dX7_guards_7 : decode cX7_guards 7 = .ok (.ldc 70, 2) := by decide +kernel
theorem dX7_guards_9 : decode cX7_guards 9 = .ok (.ireturn, 1) := by decide +kernel
theorem dX7_guards_10 : decode cX7_guards 10 = .ok (.aload_n 0, 1) := by decide +kernel
theorem dX7_guards_11 : decode cX7_guards 11 = .ok (.iload_n 1, 1) := by decide +kernel
theorem dX7_guards_12 : decode cX7_guards 12 = .ok (.iload_n 2, 1) := by decide +kernel
theorem dX7_guards_13 : decode cX7_guards 13 = .ok (.invokevirtual 273, 3) := by decide +kernel
theorem dX7_guards_16 : decode cX7_guards 16 = .ok (.istore_n 3, 1) := by decide +kernel
theorem dX7_guards_17 : decode cX7_guards 17 = .ok (.iload_n 3, 1) := by decide +kernel
theorem dX7_guards_18 : decode cX7_guards 18 = .ok (.ifCond .ge 7, 3) := by decide +kernel
theorem dX7_guards_21 : decode cX7_guards 21 = .ok (.iload_n 3, 1) := by decide +kernel
theorem dX7_guards_22 : decode cX7_guards 22 = .ok (.goto 11, 3) := by decide +kernel
theorem dX7_guards_25 : decode cX7_guards 25 = .ok (.aload_n 0, 1) := by decide +kernel
theorem dX7_guards_26 : decode cX7_guards 26 = .ok (.aload_n 0, 1) := by decide +kernel
theorem dX7_guards_27 : decode cX7_guards 27 = .ok (.getfield 261, 3) := by decide +kernel
theorem dX7_guards_30 : decode cX7_guards 30 = .ok (.invokevirtual 75, 3) := by decide +kernel
theorem dX7_guards_33 : decode cX7_guards 33 = .ok (.ireturn, 1) := by decide +kernel
theorem dX7_guardsValue_0 : decode cX7_guardsValue 0 = .ok (.iload_n 1, 1) := by decide +kernel
theorem dX7_guardsValue_1 : decode cX7_guardsValue 1 = .ok (.invokestatic 64, 3) := by decide +kernel
theorem dX7_guardsValue_4 : decode cX7_guardsValue 4 = .ok (.ifCond .eq 13, 3) := by decide +kernel
theorem dX7_guardsValue_7 : decode cX7_guardsValue 7 = .ok (.iload_n 3, 1) := by decide +kernel
theorem dX7_guardsValue_8 : decode cX7_guardsValue 8 = .ok (.i2l, 1) := by decide +kernel
theorem dX7_guardsValue_9 : decode cX7_guardsValue 9 = .ok (.lconst 0, 1) := by decide +kernel
theorem dX7_guardsValue_10 : decode cX7_guardsValue 10 = .ok (.lconst 1, 1) := by decide +kernel
theorem dX7_guardsValue_11 : decode cX7_guardsValue 11 = .ok (.invokestatic 60, 3) := by decide +kernel
theorem dX7_guardsValue_14 : decode cX7_guardsValue 14 = .ok (.ifCond .ne 7, 3) := by decide +kernel
theorem dX7_guardsValue_17 : decode cX7_guardsValue 17 = .ok (.ldc2_w 276, 3) := by decide +kernel
theorem dX7_guardsValue_20 : decode cX7_guardsValue 20 = .ok (.lreturn, 1) := by decide +kernel
theorem dX7_guardsValue_21 : decode cX7_guardsValue 21 = .ok (.aload_n 0, 1) := by decide +kernel
theorem dX7_guardsValue_22 : decode cX7_guardsValue 22 = .ok (.iload_n 1, 1) := by decide +kernel
theorem dX7_guardsValue_23 : decode cX7_guardsValue 23 = .ok (.iload_n 2, 1) := by decide +kernel
theorem dX7_guardsValue_24 : decode cX7_guardsValue 24 = .ok (.invokevirtual 273, 3) := by decide +kernel
theorem dX7_guardsValue_27 : decode cX7_guardsValue 27 = .ok (.istore 4, 2) := by decide +kernel
theorem dX7_guardsValue_29 : decode cX7_guardsValue 29 = .ok (.iload 4, 2) := by decide +kernel
theorem dX7_guardsValue_31 : decode cX7_guardsValue 31 = .ok (.ifCond .ge 7, 3) := by decide +kernel
theorem dX7_guardsValue_34 : decode cX7_guardsValue 34 = .ok (.iload 4, 2) := by decide +kernel
theorem dX7_guardsValue_36 : decode cX7_guardsValue 36 = .ok (.i2l, 1) := by decide +kernel
theorem dX7_guardsValue_37 : decode cX7_guardsValue 37 = .ok (.lreturn, 1) := by decide +kernel
theorem dX7_guardsValue_38 : decode cX7_guardsValue 38 = .ok (.aload_n 0, 1) := by decide +kernel
theorem dX7_guardsValue_39 : decode cX7_guardsValue 39 = .ok (.iconst 0, 1) := by decide +kernel
theorem dX7_guardsValue_40 : decode cX7_guardsValue 40 = .ok (.putfield 53, 3) := by decide +kernel
theorem dX7_guardsValue_43 : decode cX7_guardsValue 43 = .ok (.iload_n 3, 1) := by decide +kernel
theorem dX7_guardsValue_44 : decode cX7_guardsValue 44 = .ok (.ifCond .ne 10, 3) := by decide +kernel
theorem dX7_guardsValue_47 : decode cX7_guardsValue 47 = .ok (.aload_n 0, 1) := by decide +kernel
theorem dX7_guardsValue_48 : decode cX7_guardsValue 48 = .ok (.getfield 266, 3) := by decide +kernel
theorem dX7_guardsValue_51 : decode cX7_guardsValue 51 = .ok (.goto 7, 3) := by decide +kernel
theorem dX7_guardsValue_54 : decode cX7_guardsValue 54 = .ok (.aload_n 0, 1) := by decide +kernel
theorem dX7_guardsValue_55 : decode cX7_guardsValue 55 = .ok (.getfield 270, 3) := by decide +kernel
theorem dX7_guardsValue_58 : decode cX7_guardsValue 58 = .ok (.lreturn, 1) := by decide +kernel
theorem dX7_dues_0 : decode cX7_dues 0 = .ok (.aload_n 0, 1) := by decide +kernel
theorem dX7_dues_1 : decode cX7_dues 1 = .ok (.getfield 154, 3) := by decide +kernel
theorem dX7_dues_4 : decode cX7_dues 4 = .ok (.ifCond .ne 6, 3) := by decide +kernel
theorem dX7_dues_7 : decode cX7_dues 7 = .ok (.ldc 193, 2) := by decide +kernel
theorem dX7_dues_9 : decode cX7_dues 9 = .ok (.ireturn, 1) := by decide +kernel
theorem dX7_dues_10 : decode cX7_dues 10 = .ok (.iload_n 1, 1) := by decide +kernel
theorem dX7_dues_11 : decode cX7_dues 11 = .ok (.i2l, 1) := by decide +kernel
theorem dX7_dues_12 : decode cX7_dues 12 = .ok (.lconst 0, 1) := by decide +kernel
theorem dX7_dues_13 : decode cX7_dues 13 = .ok (.ldc2_w 224, 3) := by decide +kernel
theorem dX7_dues_16 : decode cX7_dues 16 = .ok (.invokestatic 60, 3) := by decide +kernel
theorem dX7_dues_19 : decode cX7_dues 19 = .ok (.ifCond .ne 6, 3) := by decide +kernel
theorem dX7_dues_22 : decode cX7_dues 22 = .ok (.ldc 70, 2) := by decide +kernel
theorem dX7_dues_24 : decode cX7_dues 24 = .ok (.ireturn, 1) := by decide +kernel
theorem dX7_dues_25 : decode cX7_dues 25 = .ok (.aload_n 0, 1) := by decide +kernel
theorem dX7_dues_26 : decode cX7_dues 26 = .ok (.invokevirtual 228, 3) := by decide +kernel
theorem dX7_dues_29 : decode cX7_dues 29 = .ok (.aload_n 0, 1) := by decide +kernel
theorem dX7_dues_30 : decode cX7_dues 30 = .ok (.iload_n 1, 1) := by decide +kernel
theorem dX7_dues_31 : decode cX7_dues 31 = .ok (.invokevirtual 231, 3) := by decide +kernel
theorem dX7_dues_34 : decode cX7_dues 34 = .ok (.aload_n 0, 1) := by decide +kernel
theorem dX7_dues_35 : decode cX7_dues 35 = .ok (.getfield 19, 3) := by decide +kernel
theorem dX7_dues_38 : decode cX7_dues 38 = .ok (.bipush 48, 2) := by decide +kernel
theorem dX7_dues_40 : decode cX7_dues 40 = .ok (.iaload, 1) := by decide +kernel
theorem dX7_dues_41 : decode cX7_dues 41 = .ok (.aload_n 0, 1) := by decide +kernel
theorem dX7_dues_42 : decode cX7_dues 42 = .ok (.getfield 34, 3) := by decide +kernel
theorem dX7_dues_45 : decode cX7_dues 45 = .ok (.bipush 48, 2) := by decide +kernel
theorem dX7_dues_47 : decode cX7_dues 47 = .ok (.iaload, 1) := by decide +kernel
theorem dX7_dues_48 : decode cX7_dues 48 = .ok (.isub, 1) := by decide +kernel
theorem dX7_dues_49 : decode cX7_dues 49 = .ok (.istore_n 2, 1) := by decide +kernel
theorem dX7_dues_50 : decode cX7_dues 50 = .ok (.aload_n 0, 1) := by decide +kernel
theorem dX7_dues_51 : decode cX7_dues 51 = .ok (.invokevirtual 234, 3) := by decide +kernel
theorem dX7_dues_54 : decode cX7_dues 54 = .ok (.iload_n 2, 1) := by decide +kernel
theorem dX7_dues_55 : decode cX7_dues 55 = .ok (.ireturn, 1) := by decide +kernel
theorem dX7_image_0 : decode cX7_image 0 = .ok (.iload_n 1, 1) := by decide +kernel
theorem dX7_image_1 : decode cX7_image 1 = .ok (.i2l, 1) := by decide +kernel
theorem dX7_image_2 : decode cX7_image 2 = .ok (.lconst 0, 1) := by decide +kernel
theorem dX7_image_3 : decode cX7_image 3 = .ok (.lconst 1, 1) := by decide +kernel
theorem dX7_image_4 : decode cX7_image 4 = .ok (.invokestatic 60, 3) := by decide +kernel
theorem dX7_image_7 : decode cX7_image 7 = .ok (.ifCond .ne 6, 3) := by decide +kernel
theorem dX7_image_10 : decode cX7_image 10 = .ok (.ldc 70, 2) := by decide +kernel
theorem dX7_image_12 : decode cX7_image 12 = .ok (.ireturn, 1) := by decide +kernel
theorem dX7_image_13 : decode cX7_image 13 = .ok (.aload_n 0, 1) := by decide +kernel
theorem dX7_image_14 : decode cX7_image 14 = .ok (.getfield 154, 3) := by decide +kernel
theorem dX7_image_17 : decode cX7_image 17 = .ok (.ifCond .ne 6, 3) := by decide +kernel
theorem dX7_image_20 : decode cX7_image 20 = .ok (.ldc 193, 2) := by decide +kernel
theorem dX7_image_22 : decode cX7_image 22 = .ok (.ireturn, 1) := by decide +kernel
theorem dX7_image_23 : decode cX7_image 23 = .ok (.iconst 0, 1) := by decide +kernel
theorem dX7_image_24 : decode cX7_image 24 = .ok (.istore_n 2, 1) := by decide +kernel
theorem dX7_image_25 : decode cX7_image 25 = .ok (.iload_n 2, 1) := by decide +kernel
theorem dX7_image_26 : decode cX7_image 26 = .ok (.bipush 82, 2) := by decide +kernel
theorem dX7_image_28 : decode cX7_image 28 = .ok (.if_icmp .ge 26, 3) := by decide +kernel
theorem dX7_image_31 : decode cX7_image 31 = .ok (.aload_n 0, 1) := by decide +kernel
theorem dX7_image_32 : decode cX7_image 32 = .ok (.getfield 47, 3) := by decide +kernel
theorem dX7_image_35 : decode cX7_image 35 = .ok (.bipush 82, 2) := by decide +kernel
theorem dX7_image_37 : decode cX7_image 37 = .ok (.iload_n 1, 1) := by decide +kernel
theorem dX7_image_38 : decode cX7_image 38 = .ok (.imul, 1) := by decide +kernel
theorem dX7_image_39 : decode cX7_image 39 = .ok (.iload_n 2, 1) := by decide +kernel
theorem dX7_image_40 : decode cX7_image 40 = .ok (.iadd, 1) := by decide +kernel
theorem dX7_image_41 : decode cX7_image 41 = .ok (.aload_n 0, 1) := by decide +kernel
theorem dX7_image_42 : decode cX7_image 42 = .ok (.getfield 19, 3) := by decide +kernel
theorem dX7_image_45 : decode cX7_image 45 = .ok (.iload_n 2, 1) := by decide +kernel
theorem dX7_image_46 : decode cX7_image 46 = .ok (.iaload, 1) := by decide +kernel
theorem dX7_image_47 : decode cX7_image 47 = .ok (.iastore, 1) := by decide +kernel
theorem dX7_image_48 : decode cX7_image 48 = .ok (.iinc 2 1, 3) := by decide +kernel
theorem dX7_image_51 : decode cX7_image 51 = .ok (.goto (-26), 3) := by decide +kernel
theorem dX7_image_54 : decode cX7_image 54 = .ok (.aload_n 0, 1) := by decide +kernel
theorem dX7_image_55 : decode cX7_image 55 = .ok (.getfield 44, 3) := by decide +kernel
theorem dX7_image_58 : decode cX7_image 58 = .ok (.iload_n 1, 1) := by decide +kernel
theorem dX7_image_59 : decode cX7_image 59 = .ok (.iconst 1, 1) := by decide +kernel
theorem dX7_image_60 : decode cX7_image 60 = .ok (.bastore, 1) := by decide +kernel
theorem dX7_image_61 : decode cX7_image 61 = .ok (.iconst 1, 1) := by decide +kernel
theorem dX7_image_62 : decode cX7_image 62 = .ok (.ireturn, 1) := by decide +kernel
theorem dX7_restore_0 : decode cX7_restore 0 = .ok (.iload_n 1, 1) := by decide +kernel
theorem dX7_restore_1 : decode cX7_restore 1 = .ok (.i2l, 1) := by decide +kernel
theorem dX7_restore_2 : decode cX7_restore 2 = .ok (.lconst 0, 1) := by decide +kernel
theorem dX7_restore_3 : decode cX7_restore 3 = .ok (.lconst 1, 1) := by decide +kernel
theorem dX7_restore_4 : decode cX7_restore 4 = .ok (.invokestatic 60, 3) := by decide +kernel
theorem dX7_restore_7 : decode cX7_restore 7 = .ok (.ifCond .ne 6, 3) := by decide +kernel
theorem dX7_restore_10 : decode cX7_restore 10 = .ok (.ldc 70, 2) := by decide +kernel
theorem dX7_restore_12 : decode cX7_restore 12 = .ok (.ireturn, 1) := by decide +kernel
theorem dX7_restore_13 : decode cX7_restore 13 = .ok (.aload_n 0, 1) := by decide +kernel
theorem dX7_restore_14 : decode cX7_restore 14 = .ok (.getfield 44, 3) := by decide +kernel
theorem dX7_restore_17 : decode cX7_restore 17 = .ok (.iload_n 1, 1) := by decide +kernel
theorem dX7_restore_18 : decode cX7_restore 18 = .ok (.baload, 1) := by decide +kernel
theorem dX7_restore_19 : decode cX7_restore 19 = .ok (.ifCond .ne 6, 3) := by decide +kernel
theorem dX7_restore_22 : decode cX7_restore 22 = .ok (.ldc 193, 2) := by decide +kernel
theorem dX7_restore_24 : decode cX7_restore 24 = .ok (.ireturn, 1) := by decide +kernel
theorem dX7_restore_25 : decode cX7_restore 25 = .ok (.iconst 0, 1) := by decide +kernel
theorem dX7_restore_26 : decode cX7_restore 26 = .ok (.istore_n 2, 1) := by decide +kernel
theorem dX7_restore_27 : decode cX7_restore 27 = .ok (.iload_n 2, 1) := by decide +kernel
theorem dX7_restore_28 : decode cX7_restore 28 = .ok (.bipush 82, 2) := by decide +kernel
theorem dX7_restore_30 : decode cX7_restore 30 = .ok (.if_icmp .ge 26, 3) := by decide +kernel
theorem dX7_restore_33 : decode cX7_restore 33 = .ok (.aload_n 0, 1) := by decide +kernel
theorem dX7_restore_34 : decode cX7_restore 34 = .ok (.getfield 19, 3) := by decide +kernel
theorem dX7_restore_37 : decode cX7_restore 37 = .ok (.iload_n 2, 1) := by decide +kernel
theorem dX7_restore_38 : decode cX7_restore 38 = .ok (.aload_n 0, 1) := by decide +kernel
theorem dX7_restore_39 : decode cX7_restore 39 = .ok (.getfield 47, 3) := by decide +kernel
theorem dX7_restore_42 : decode cX7_restore 42 = .ok (.bipush 82, 2) := by decide +kernel
theorem dX7_restore_44 : decode cX7_restore 44 = .ok (.iload_n 1, 1) := by decide +kernel
theorem dX7_restore_45 : decode cX7_restore 45 = .ok (.imul, 1) := by decide +kernel
theorem dX7_restore_46 : decode cX7_restore 46 = .ok (.iload_n 2, 1) := by decide +kernel
theorem dX7_restore_47 : decode cX7_restore 47 = .ok (.iadd, 1) := by decide +kernel
theorem dX7_restore_48 : decode cX7_restore 48 = .ok (.iaload, 1) := by decide +kernel
theorem dX7_restore_49 : decode cX7_restore 49 = .ok (.iastore, 1) := by decide +kernel
theorem dX7_restore_50 : decode cX7_restore 50 = .ok (.iinc 2 1, 3) := by decide +kernel
theorem dX7_restore_53 : decode cX7_restore 53 = .ok (.goto (-26), 3) := by decide +kernel
theorem dX7_restore_56 : decode cX7_restore 56 = .ok (.aload_n 0, 1) := by decide +kernel
theorem dX7_restore_57 : decode cX7_restore 57 = .ok (.iconst 0, 1) := by decide +kernel
theorem dX7_restore_58 : decode cX7_restore 58 = .ok (.putfield 158, 3) := by decide +kernel
theorem dX7_restore_61 : decode cX7_restore 61 = .ok (.iconst 1, 1) := by decide +kernel
theorem dX7_restore_62 : decode cX7_restore 62 = .ok (.ireturn, 1) := by decide +kernel
theorem dX7_kind_0 : decode cX7_kind 0 = .ok (.aload_n 0, 1) := by decide +kernel
theorem dX7_kind_1 : decode cX7_kind 1 = .ok (.iload_n 1, 1) := by decide +kernel
theorem dX7_kind_2 : decode cX7_kind 2 = .ok (.invokevirtual 202, 3) := by decide +kernel
theorem dX7_kind_5 : decode cX7_kind 5 = .ok (.ifCond .eq 15, 3) := by decide +kernel
theorem dX7_kind_8 : decode cX7_kind 8 = .ok (.aload_n 0, 1) := by decide +kernel
theorem dX7_kind_9 : decode cX7_kind 9 = .ok (.getfield 19, 3) := by decide +kernel
theorem dX7_kind_12 : decode cX7_kind 12 = .ok (.bipush 51, 2) := by decide +kernel
theorem dX7_kind_14 : decode cX7_kind 14 = .ok (.iload_n 1, 1) := by decide +kernel
theorem dX7_kind_15 : decode cX7_kind 15 = .ok (.iadd, 1) := by decide +kernel
theorem dX7_kind_16 : decode cX7_kind 16 = .ok (.iaload, 1) := by decide +kernel
theorem dX7_kind_17 : decode cX7_kind 17 = .ok (.goto 5, 3) := by decide +kernel
theorem dX7_kind_20 : decode cX7_kind 20 = .ok (.ldc 70, 2) := by decide +kernel
theorem dX7_kind_22 : decode cX7_kind 22 = .ok (.ireturn, 1) := by decide +kernel
theorem dX7_isKind_0 : decode cX7_isKind 0 = .ok (.iload_n 1, 1) := by decide +kernel
theorem dX7_isKind_1 : decode cX7_isKind 1 = .ok (.ifCond .eq 28, 3) := by decide +kernel
theorem dX7_isKind_4 : decode cX7_isKind 4 = .ok (.iload_n 0, 1) := by decide +kernel
theorem dX7_isKind_5 : decode cX7_isKind 5 = .ok (.iload_n 1, 1) := by decide +kernel
theorem dX7_isKind_6 : decode cX7_isKind 6 = .ok (.if_icmp .eq 23, 3) := by decide +kernel
theorem dX7_isKind_9 : decode cX7_isKind 9 = .ok (.iload_n 1, 1) := by decide +kernel
theorem dX7_isKind_10 : decode cX7_isKind 10 = .ok (.iconst 1, 1) := by decide +kernel
theorem dX7_isKind_11 : decode cX7_isKind 11 = .ok (.if_icmp .ne 8, 3) := by decide +kernel
theorem dX7_isKind_14 : decode cX7_isKind 14 = .ok (.iload_n 0, 1) := by decide +kernel
theorem dX7_isKind_15 : decode cX7_isKind 15 = .ok (.iconst 4, 1) := by decide +kernel
theorem dX7_isKind_16 : decode cX7_isKind 16 = .ok (.if_icmp .lt 13, 3) := by decide +kernel
theorem dX7_isKind_19 : decode cX7_isKind 19 = .ok (.iload_n 1, 1) := by decide +kernel
theorem dX7_isKind_20 : decode cX7_isKind 20 = .ok (.iconst 4, 1) := by decide +kernel
theorem dX7_isKind_21 : decode cX7_isKind 21 = .ok (.if_icmp .ne 12, 3) := by decide +kernel
theorem dX7_isKind_24 : decode cX7_isKind 24 = .ok (.iload_n 0, 1) := by decide +kernel
theorem dX7_isKind_25 : decode cX7_isKind 25 = .ok (.iconst 5, 1) := by decide +kernel
theorem dX7_isKind_26 : decode cX7_isKind 26 = .ok (.if_icmp .ne 7, 3) := by decide +kernel
theorem dX7_isKind_29 : decode cX7_isKind 29 = .ok (.iconst 1, 1) := by decide +kernel
theorem dX7_isKind_30 : decode cX7_isKind 30 = .ok (.goto 4, 3) := by decide +kernel
theorem dX7_isKind_33 : decode cX7_isKind 33 = .ok (.iconst 0, 1) := by decide +kernel
theorem dX7_isKind_34 : decode cX7_isKind 34 = .ok (.ireturn, 1) := by decide +kernel
theorem dX7_as_0 : decode cX7_as 0 = .ok (.aload_n 0, 1) := by decide +kernel
theorem dX7_as_1 : decode cX7_as 1 = .ok (.iload_n 1, 1) := by decide +kernel
theorem dX7_as_2 : decode cX7_as 2 = .ok (.invokevirtual 202, 3) := by decide +kernel
theorem dX7_as_5 : decode cX7_as 5 = .ok (.ifCond .eq 15, 3) := by decide +kernel
theorem dX7_as_8 : decode cX7_as 8 = .ok (.iload_n 2, 1) := by decide +kernel
theorem dX7_as_9 : decode cX7_as 9 = .ok (.i2l, 1) := by decide +kernel
theorem dX7_as_10 : decode cX7_as 10 = .ok (.lconst 0, 1) := by decide +kernel
theorem dX7_as_11 : decode cX7_as 11 = .ok (.ldc2_w 222, 3) := by decide +kernel
theorem dX7_as_14 : decode cX7_as 14 = .ok (.invokestatic 60, 3) := by decide +kernel
theorem dX7_as_17 : decode cX7_as 17 = .ok (.ifCond .ne 6, 3) := by decide +kernel
theorem dX7_as_20 : decode cX7_as 20 = .ok (.ldc 70, 2) := by decide +kernel
theorem dX7_as_22 : decode cX7_as 22 = .ok (.ireturn, 1) := by decide +kernel
theorem dX7_as_23 : decode cX7_as 23 = .ok (.aload_n 0, 1) := by decide +kernel
theorem dX7_as_24 : decode cX7_as 24 = .ok (.getfield 19, 3) := by decide +kernel
theorem dX7_as_27 : decode cX7_as 27 = .ok (.bipush 51, 2) := by decide +kernel
theorem dX7_as_29 : decode cX7_as 29 = .ok (.iload_n 1, 1) := by decide +kernel
theorem dX7_as_30 : decode cX7_as 30 = .ok (.iadd, 1) := by decide +kernel
theorem dX7_as_31 : decode cX7_as 31 = .ok (.iaload, 1) := by decide +kernel
theorem dX7_as_32 : decode cX7_as 32 = .ok (.iload_n 2, 1) := by decide +kernel
theorem dX7_as_33 : decode cX7_as 33 = .ok (.invokestatic 278, 3) := by decide +kernel
theorem dX7_as_36 : decode cX7_as 36 = .ok (.ifCond .eq 11, 3) := by decide +kernel
theorem dX7_as_39 : decode cX7_as 39 = .ok (.aload_n 0, 1) := by decide +kernel
theorem dX7_as_40 : decode cX7_as 40 = .ok (.iload_n 1, 1) := by decide +kernel
theorem dX7_as_41 : decode cX7_as 41 = .ok (.invokevirtual 75, 3) := by decide +kernel
theorem dX7_as_44 : decode cX7_as 44 = .ok (.goto 8, 3) := by decide +kernel
theorem dX7_as_47 : decode cX7_as 47 = .ok (.aload_n 0, 1) := by decide +kernel
theorem dX7_as_48 : decode cX7_as 48 = .ok (.iconst 3, 1) := by decide +kernel
theorem dX7_as_49 : decode cX7_as 49 = .ok (.invokevirtual 71, 3) := by decide +kernel
theorem dX7_as_52 : decode cX7_as 52 = .ok (.ireturn, 1) := by decide +kernel
theorem dX7_begin_0 : decode cX7_begin 0 = .ok (.aload_n 0, 1) := by decide +kernel
theorem dX7_begin_1 : decode cX7_begin 1 = .ok (.getfield 281, 3) := by decide +kernel
theorem dX7_begin_4 : decode cX7_begin 4 = .ok (.bipush 16, 2) := by decide +kernel
theorem dX7_begin_6 : decode cX7_begin 6 = .ok (.if_icmp .ge 23, 3) := by decide +kernel
theorem dX7_begin_9 : decode cX7_begin 9 = .ok (.aload_n 0, 1) := by decide +kernel
theorem dX7_begin_10 : decode cX7_begin 10 = .ok (.getfield 50, 3) := by decide +kernel
theorem dX7_begin_13 : decode cX7_begin 13 = .ok (.aload_n 0, 1) := by decide +kernel
theorem dX7_begin_14 : decode cX7_begin 14 = .ok (.getfield 281, 3) := by decide +kernel
theorem dX7_begin_17 : decode cX7_begin 17 = .ok (.iload_n 1, 1) := by decide +kernel
theorem dX7_begin_18 : decode cX7_begin 18 = .ok (.iastore, 1) := by decide +kernel
theorem dX7_begin_19 : decode cX7_begin 19 = .ok (.aload_n 0, 1) := by decide +kernel
theorem dX7_begin_20 : decode cX7_begin 20 = .ok (.dup, 1) := by decide +kernel
theorem dX7_begin_21 : decode cX7_begin 21 = .ok (.getfield 281, 3) := by decide +kernel
theorem dX7_begin_24 : decode cX7_begin 24 = .ok (.iconst 1, 1) := by decide +kernel
theorem dX7_begin_25 : decode cX7_begin 25 = .ok (.iadd, 1) := by decide +kernel
theorem dX7_begin_26 : decode cX7_begin 26 = .ok (.putfield 281, 3) := by decide +kernel
theorem dX7_begin_29 : decode cX7_begin 29 = .ok (.return_, 1) := by decide +kernel
theorem dX7_lent_0 : decode cX7_lent 0 = .ok (.aload_n 0, 1) := by decide +kernel
theorem dX7_lent_1 : decode cX7_lent 1 = .ok (.iload_n 2, 1) := by decide +kernel
theorem dX7_lent_2 : decode cX7_lent 2 = .ok (.invokevirtual 284, 3) := by decide +kernel
theorem dX7_lent_5 : decode cX7_lent 5 = .ok (.iload_n 2, 1) := by decide +kernel
theorem dX7_lent_6 : decode cX7_lent 6 = .ok (.bipush 10, 2) := by decide +kernel
theorem dX7_lent_8 : decode cX7_lent 8 = .ok (.if_icmp .ne 15, 3) := by decide +kernel
theorem dX7_lent_11 : decode cX7_lent 11 = .ok (.aload_n 0, 1) := by decide +kernel
theorem dX7_lent_12 : decode cX7_lent 12 = .ok (.getfield 19, 3) := by decide +kernel
theorem dX7_lent_15 : decode cX7_lent 15 = .ok (.bipush 66, 2) := by decide +kernel
theorem dX7_lent_17 : decode cX7_lent 17 = .ok (.iload_n 1, 1) := by decide +kernel
theorem dX7_lent_18 : decode cX7_lent 18 = .ok (.iadd, 1) := by decide +kernel
theorem dX7_lent_19 : decode cX7_lent 19 = .ok (.iaload, 1) := by decide +kernel
theorem dX7_lent_20 : decode cX7_lent 20 = .ok (.goto 4, 3) := by decide +kernel
theorem dX7_lent_23 : decode cX7_lent 23 = .ok (.iload_n 1, 1) := by decide +kernel
theorem dX7_lent_24 : decode cX7_lent 24 = .ok (.ireturn, 1) := by decide +kernel
theorem dX7_whiteMark_0 : decode cX7_whiteMark 0 = .ok (.aload_n 0, 1) := by decide +kernel
theorem dX7_whiteMark_1 : decode cX7_whiteMark 1 = .ok (.bipush 21, 2) := by decide +kernel
theorem dX7_whiteMark_3 : decode cX7_whiteMark 3 = .ok (.invokevirtual 284, 3) := by decide +kernel
theorem dX7_whiteMark_6 : decode cX7_whiteMark 6 = .ok (.aload_n 0, 1) := by decide +kernel
theorem dX7_whiteMark_7 : decode cX7_whiteMark 7 = .ok (.iload_n 1, 1) := by decide +kernel
theorem dX7_whiteMark_8 : decode cX7_whiteMark 8 = .ok (.bipush 20, 2) := by decide +kernel
theorem dX7_whiteMark_10 : decode cX7_whiteMark 10 = .ok (.invokevirtual 287, 3) := by decide +kernel
theorem dX7_whiteMark_13 : decode cX7_whiteMark 13 = .ok (.aload_n 0, 1) := by decide +kernel
theorem dX7_whiteMark_14 : decode cX7_whiteMark 14 = .ok (.getfield 19, 3) := by decide +kernel
theorem dX7_whiteMark_17 : decode cX7_whiteMark 17 = .ok (.bipush 56, 2) := by decide +kernel
theorem dX7_whiteMark_19 : decode cX7_whiteMark 19 = .ok (.iload_n 1, 1) := by decide +kernel
theorem dX7_whiteMark_20 : decode cX7_whiteMark 20 = .ok (.iadd, 1) := by decide +kernel
theorem dX7_whiteMark_21 : decode cX7_whiteMark 21 = .ok (.iaload, 1) := by decide +kernel
theorem dX7_whiteMark_22 : decode cX7_whiteMark 22 = .ok (.iadd, 1) := by decide +kernel
theorem dX7_whiteMark_23 : decode cX7_whiteMark 23 = .ok (.ireturn, 1) := by decide +kernel
theorem dX7_fogSize_0 : decode cX7_fogSize 0 = .ok (.aload_n 0, 1) := by decide +kernel
theorem dX7_fogSize_1 : decode cX7_fogSize 1 = .ok (.bipush 13, 2) := by decide +kernel
theorem dX7_fogSize_3 : decode cX7_fogSize 3 = .ok (.invokevirtual 284, 3) := by decide +kernel
theorem dX7_fogSize_6 : decode cX7_fogSize 6 = .ok (.aload_n 0, 1) := by decide +kernel
theorem dX7_fogSize_7 : decode cX7_fogSize 7 = .ok (.iload_n 1, 1) := by decide +kernel
theorem dX7_fogSize_8 : decode cX7_fogSize 8 = .ok (.bipush 10, 2) := by decide +kernel
theorem dX7_fogSize_10 : decode cX7_fogSize 10 = .ok (.invokevirtual 287, 3) := by decide +kernel
theorem dX7_fogSize_13 : decode cX7_fogSize 13 = .ok (.bipush 100, 2) := by decide +kernel
theorem dX7_fogSize_15 : decode cX7_fogSize 15 = .ok (.isub, 1) := by decide +kernel
theorem dX7_fogSize_16 : decode cX7_fogSize 16 = .ok (.ireturn, 1) := by decide +kernel
theorem dX7_sizeOfFog_0 : decode cX7_sizeOfFog 0 = .ok (.aload_n 0, 1) := by decide +kernel
theorem dX7_sizeOfFog_1 : decode cX7_sizeOfFog 1 = .ok (.getfield 19, 3) := by decide +kernel
theorem dX7_sizeOfFog_4 : decode cX7_sizeOfFog 4 = .ok (.bipush 51, 2) := by decide +kernel
theorem dX7_sizeOfFog_6 : decode cX7_sizeOfFog 6 = .ok (.iload_n 1, 1) := by decide +kernel
theorem dX7_sizeOfFog_7 : decode cX7_sizeOfFog 7 = .ok (.iadd, 1) := by decide +kernel
theorem dX7_sizeOfFog_8 : decode cX7_sizeOfFog 8 = .ok (.iaload, 1) := by decide +kernel
theorem dX7_sizeOfFog_9 : decode cX7_sizeOfFog 9 = .ok (.iconst 5, 1) := by decide +kernel
theorem dX7_sizeOfFog_10 : decode cX7_sizeOfFog 10 = .ok (.if_icmp .ne 17, 3) := by decide +kernel
theorem dX7_sizeOfFog_13 : decode cX7_sizeOfFog 13 = .ok (.aload_n 0, 1) := by decide +kernel
theorem dX7_sizeOfFog_14 : decode cX7_sizeOfFog 14 = .ok (.bipush 14, 2) := by decide +kernel
theorem dX7_sizeOfFog_16 : decode cX7_sizeOfFog 16 = .ok (.invokevirtual 284, 3) := by decide +kernel
theorem dX7_sizeOfFog_19 : decode cX7_sizeOfFog 19 = .ok (.iconst 2, 1) := by decide +kernel
theorem dX7_sizeOfFog_20 : decode cX7_sizeOfFog 20 = .ok (.aload_n 0, 1) := by decide +kernel
theorem dX7_sizeOfFog_21 : decode cX7_sizeOfFog 21 = .ok (.iload_n 1, 1) := by decide +kernel
theorem dX7_sizeOfFog_22 : decode cX7_sizeOfFog 22 = .ok (.invokevirtual 290, 3) := by decide +kernel
theorem dX7_sizeOfFog_25 : decode cX7_sizeOfFog 25 = .ok (.imul, 1) := by decide +kernel
theorem dX7_sizeOfFog_26 : decode cX7_sizeOfFog 26 = .ok (.ireturn, 1) := by decide +kernel
theorem dX7_sizeOfFog_27 : decode cX7_sizeOfFog 27 = .ok (.aload_n 0, 1) := by decide +kernel
theorem dX7_sizeOfFog_28 : decode cX7_sizeOfFog 28 = .ok (.iload_n 1, 1) := by decide +kernel
theorem dX7_sizeOfFog_29 : decode cX7_sizeOfFog 29 = .ok (.invokevirtual 290, 3) := by decide +kernel
theorem dX7_sizeOfFog_32 : decode cX7_sizeOfFog 32 = .ok (.ireturn, 1) := by decide +kernel
theorem dX7_markOf_0 : decode cX7_markOf 0 = .ok (.aload_n 0, 1) := by decide +kernel
theorem dX7_markOf_1 : decode cX7_markOf 1 = .ok (.getfield 19, 3) := by decide +kernel
theorem dX7_markOf_4 : decode cX7_markOf 4 = .ok (.bipush 51, 2) := by decide +kernel
theorem dX7_markOf_6 : decode cX7_markOf 6 = .ok (.iload_n 1, 1) := by decide +kernel
theorem dX7_markOf_7 : decode cX7_markOf 7 = .ok (.iadd, 1) := by decide +kernel
theorem dX7_markOf_8 : decode cX7_markOf 8 = .ok (.iaload, 1) := by decide +kernel
theorem dX7_markOf_9 : decode cX7_markOf 9 = .ok (.istore_n 2, 1) := by decide +kernel
theorem dX7_markOf_10 : decode cX7_markOf 10 = .ok (.iload_n 2, 1) := by decide +kernel
theorem dX7_markOf_11 : decode cX7_markOf 11 = .ok (.iconst 2, 1) := by decide +kernel
theorem dX7_markOf_12 : decode cX7_markOf 12 = .ok (.if_icmp .ne 17, 3) := by decide +kernel
theorem dX7_markOf_15 : decode cX7_markOf 15 = .ok (.aload_n 0, 1) := by decide +kernel
theorem dX7_markOf_16 : decode cX7_markOf 16 = .ok (.bipush 24, 2) := by decide +kernel
theorem dX7_markOf_18 : decode cX7_markOf 18 = .ok (.invokevirtual 284, 3) := by decide +kernel
theorem dX7_markOf_21 : decode cX7_markOf 21 = .ok (.iconst 2, 1) := by decide +kernel
theorem dX7_markOf_22 : decode cX7_markOf 22 = .ok (.aload_n 0, 1) := by decide +kernel
theorem dX7_markOf_23 : decode cX7_markOf 23 = .ok (.iload_n 1, 1) := by decide +kernel
theorem dX7_markOf_24 : decode cX7_markOf 24 = .ok (.invokevirtual 293, 3) := by decide +kernel
theorem dX7_markOf_27 : decode cX7_markOf 27 = .ok (.imul, 1) := by decide +kernel
theorem dX7_markOf_28 : decode cX7_markOf 28 = .ok (.ireturn, 1) := by decide +kernel
theorem dX7_markOf_29 : decode cX7_markOf 29 = .ok (.iload_n 2, 1) := by decide +kernel
theorem dX7_markOf_30 : decode cX7_markOf 30 = .ok (.iconst 3, 1) := by decide +kernel
theorem dX7_markOf_31 : decode cX7_markOf 31 = .ok (.if_icmp .ne 19, 3) := by decide +kernel
theorem dX7_markOf_34 : decode cX7_markOf 34 = .ok (.aload_n 0, 1) := by decide +kernel
theorem dX7_markOf_35 : decode cX7_markOf 35 = .ok (.bipush 22, 2) := by decide +kernel
theorem dX7_markOf_37 : decode cX7_markOf 37 = .ok (.invokevirtual 284, 3) := by decide +kernel
theorem dX7_markOf_40 : decode cX7_markOf 40 = .ok (.aload_n 0, 1) := by decide +kernel
theorem dX7_markOf_41 : decode cX7_markOf 41 = .ok (.iload_n 1, 1) := by decide +kernel
theorem dX7_markOf_42 : decode cX7_markOf 42 = .ok (.invokevirtual 293, 3) := by decide +kernel
theorem dX7_markOf_45 : decode cX7_markOf 45 = .ok (.sipush 1000, 3) := by decide +kernel
theorem dX7_markOf_48 : decode cX7_markOf 48 = .ok (.isub, 1) := by decide +kernel
theorem dX7_markOf_49 : decode cX7_markOf 49 = .ok (.ireturn, 1) := by decide +kernel
theorem dX7_markOf_50 : decode cX7_markOf 50 = .ok (.iload_n 2, 1) := by decide +kernel
theorem dX7_markOf_51 : decode cX7_markOf 51 = .ok (.iconst 1, 1) := by decide +kernel
theorem dX7_markOf_52 : decode cX7_markOf 52 = .ok (.if_icmp .ne 9, 3) := by decide +kernel
theorem dX7_markOf_55 : decode cX7_markOf 55 = .ok (.aload_n 0, 1) := by decide +kernel
theorem dX7_markOf_56 : decode cX7_markOf 56 = .ok (.iload_n 1, 1) := by decide +kernel
theorem dX7_markOf_57 : decode cX7_markOf 57 = .ok (.invokevirtual 293, 3) := by decide +kernel
theorem dX7_markOf_60 : decode cX7_markOf 60 = .ok (.ireturn, 1) := by decide +kernel
theorem dX7_markOf_61 : decode cX7_markOf 61 = .ok (.aload_n 0, 1) := by decide +kernel
theorem dX7_markOf_62 : decode cX7_markOf 62 = .ok (.bipush 23, 2) := by decide +kernel
theorem dX7_markOf_64 : decode cX7_markOf 64 = .ok (.invokevirtual 284, 3) := by decide +kernel
theorem dX7_markOf_67 : decode cX7_markOf 67 = .ok (.aload_n 0, 1) := by decide +kernel
theorem dX7_markOf_68 : decode cX7_markOf 68 = .ok (.iload_n 1, 1) := by decide +kernel
theorem dX7_markOf_69 : decode cX7_markOf 69 = .ok (.bipush 20, 2) := by decide +kernel
theorem dX7_markOf_71 : decode cX7_markOf 71 = .ok (.invokevirtual 287, 3) := by decide +kernel
theorem dX7_markOf_74 : decode cX7_markOf 74 = .ok (.istore_n 3, 1) := by decide +kernel
theorem dX7_markOf_75 : decode cX7_markOf 75 = .ok (.iload_n 3, 1) := by decide +kernel
theorem dX7_markOf_76 : decode cX7_markOf 76 = .ok (.aload_n 0, 1) := by decide +kernel
theorem dX7_markOf_77 : decode cX7_markOf 77 = .ok (.iload_n 1, 1) := by decide +kernel
theorem dX7_markOf_78 : decode cX7_markOf 78 = .ok (.invokevirtual 296, 3) := by decide +kernel
theorem dX7_markOf_81 : decode cX7_markOf 81 = .ok (.isub, 1) := by decide +kernel
theorem dX7_markOf_82 : decode cX7_markOf 82 = .ok (.ireturn, 1) := by decide +kernel
theorem dX7_whiteSize_0 : decode cX7_whiteSize 0 = .ok (.aload_n 0, 1) := by decide +kernel
theorem dX7_whiteSize_1 : decode cX7_whiteSize 1 = .ok (.bipush 11, 2) := by decide +kernel
theorem dX7_whiteSize_3 : decode cX7_whiteSize 3 = .ok (.invokevirtual 284, 3) := by decide +kernel
theorem dX7_whiteSize_6 : decode cX7_whiteSize 6 = .ok (.aload_n 0, 1) := by decide +kernel
theorem dX7_whiteSize_7 : decode cX7_whiteSize 7 = .ok (.iload_n 1, 1) := by decide +kernel
theorem dX7_whiteSize_8 : decode cX7_whiteSize 8 = .ok (.bipush 10, 2) := by decide +kernel
theorem dX7_whiteSize_10 : decode cX7_whiteSize 10 = .ok (.invokevirtual 287, 3) := by decide +kernel
theorem dX7_whiteSize_13 : decode cX7_whiteSize 13 = .ok (.istore_n 2, 1) := by decide +kernel
theorem dX7_whiteSize_14 : decode cX7_whiteSize 14 = .ok (.iload_n 2, 1) := by decide +kernel
theorem dX7_whiteSize_15 : decode cX7_whiteSize 15 = .ok (.aload_n 0, 1) := by decide +kernel
theorem dX7_whiteSize_16 : decode cX7_whiteSize 16 = .ok (.iload_n 1, 1) := by decide +kernel
theorem dX7_whiteSize_17 : decode cX7_whiteSize 17 = .ok (.invokevirtual 299, 3) := by decide +kernel
theorem dX7_whiteSize_20 : decode cX7_whiteSize 20 = .ok (.iadd, 1) := by decide +kernel
theorem dX7_whiteSize_21 : decode cX7_whiteSize 21 = .ok (.ireturn, 1) := by decide +kernel
theorem dX7_sizeOf_0 : decode cX7_sizeOf 0 = .ok (.aload_n 0, 1) := by decide +kernel
theorem dX7_sizeOf_1 : decode cX7_sizeOf 1 = .ok (.getfield 19, 3) := by decide +kernel
theorem dX7_sizeOf_4 : decode cX7_sizeOf 4 = .ok (.bipush 51, 2) := by decide +kernel
theorem dX7_sizeOf_6 : decode cX7_sizeOf 6 = .ok (.iload_n 1, 1) := by decide +kernel
theorem dX7_sizeOf_7 : decode cX7_sizeOf 7 = .ok (.iadd, 1) := by decide +kernel
theorem dX7_sizeOf_8 : decode cX7_sizeOf 8 = .ok (.iaload, 1) := by decide +kernel
theorem dX7_sizeOf_9 : decode cX7_sizeOf 9 = .ok (.istore_n 2, 1) := by decide +kernel
theorem dX7_sizeOf_10 : decode cX7_sizeOf 10 = .ok (.iload_n 2, 1) := by decide +kernel
theorem dX7_sizeOf_11 : decode cX7_sizeOf 11 = .ok (.iconst 2, 1) := by decide +kernel
theorem dX7_sizeOf_12 : decode cX7_sizeOf 12 = .ok (.if_icmp .ne 16, 3) := by decide +kernel
theorem dX7_sizeOf_15 : decode cX7_sizeOf 15 = .ok (.aload_n 0, 1) := by decide +kernel
theorem dX7_sizeOf_16 : decode cX7_sizeOf 16 = .ok (.bipush 12, 2) := by decide +kernel
theorem dX7_sizeOf_18 : decode cX7_sizeOf 18 = .ok (.invokevirtual 284, 3) := by decide +kernel
theorem dX7_sizeOf_21 : decode cX7_sizeOf 21 = .ok (.aload_n 0, 1) := by decide +kernel
theorem dX7_sizeOf_22 : decode cX7_sizeOf 22 = .ok (.iload_n 1, 1) := by decide +kernel
theorem dX7_sizeOf_23 : decode cX7_sizeOf 23 = .ok (.invokevirtual 302, 3) := by decide +kernel
theorem dX7_sizeOf_26 : decode cX7_sizeOf 26 = .ok (.ineg, 1) := by decide +kernel
theorem dX7_sizeOf_27 : decode cX7_sizeOf 27 = .ok (.ireturn, 1) := by decide +kernel
theorem dX7_sizeOf_28 : decode cX7_sizeOf 28 = .ok (.iload_n 2, 1) := by decide +kernel
theorem dX7_sizeOf_29 : decode cX7_sizeOf 29 = .ok (.iconst 4, 1) := by decide +kernel
theorem dX7_sizeOf_30 : decode cX7_sizeOf 30 = .ok (.if_icmp .lt 11, 3) := by decide +kernel
theorem dX7_sizeOf_33 : decode cX7_sizeOf 33 = .ok (.aload_n 0, 1) := by decide +kernel
theorem dX7_sizeOf_34 : decode cX7_sizeOf 34 = .ok (.iload_n 1, 1) := by decide +kernel
theorem dX7_sizeOf_35 : decode cX7_sizeOf 35 = .ok (.invokevirtual 296, 3) := by decide +kernel
theorem dX7_sizeOf_38 : decode cX7_sizeOf 38 = .ok (.goto 8, 3) := by decide +kernel
theorem dX7_sizeOf_41 : decode cX7_sizeOf 41 = .ok (.aload_n 0, 1) := by decide +kernel
theorem dX7_sizeOf_42 : decode cX7_sizeOf 42 = .ok (.iload_n 1, 1) := by decide +kernel
theorem dX7_sizeOf_43 : decode cX7_sizeOf 43 = .ok (.invokevirtual 302, 3) := by decide +kernel
theorem dX7_sizeOf_46 : decode cX7_sizeOf 46 = .ok (.ireturn, 1) := by decide +kernel
theorem dX7_ask_0 : decode cX7_ask 0 = .ok (.aload_n 0, 1) := by decide +kernel
theorem dX7_ask_1 : decode cX7_ask 1 = .ok (.iload_n 1, 1) := by decide +kernel
theorem dX7_ask_2 : decode cX7_ask 2 = .ok (.invokevirtual 202, 3) := by decide +kernel
theorem dX7_ask_5 : decode cX7_ask 5 = .ok (.ifCond .eq 13, 3) := by decide +kernel
theorem dX7_ask_8 : decode cX7_ask 8 = .ok (.iload_n 2, 1) := by decide +kernel
theorem dX7_ask_9 : decode cX7_ask 9 = .ok (.i2l, 1) := by decide +kernel
theorem dX7_ask_10 : decode cX7_ask 10 = .ok (.lconst 0, 1) := by decide +kernel
theorem dX7_ask_11 : decode cX7_ask 11 = .ok (.lconst 1, 1) := by decide +kernel
theorem dX7_ask_12 : decode cX7_ask 12 = .ok (.invokestatic 60, 3) := by decide +kernel
theorem dX7_ask_15 : decode cX7_ask 15 = .ok (.ifCond .ne 6, 3) := by decide +kernel
theorem dX7_ask_18 : decode cX7_ask 18 = .ok (.ldc 70, 2) := by decide +kernel
theorem dX7_ask_20 : decode cX7_ask 20 = .ok (.ireturn, 1) := by decide +kernel
theorem dX7_ask_21 : decode cX7_ask 21 = .ok (.aload_n 0, 1) := by decide +kernel
theorem dX7_ask_22 : decode cX7_ask 22 = .ok (.iconst 0, 1) := by decide +kernel
theorem dX7_ask_23 : decode cX7_ask 23 = .ok (.putfield 281, 3) := by decide +kernel
theorem dX7_ask_26 : decode cX7_ask 26 = .ok (.iload_n 2, 1) := by decide +kernel
theorem dX7_ask_27 : decode cX7_ask 27 = .ok (.ifCond .ne 11, 3) := by decide +kernel
theorem dX7_ask_30 : decode cX7_ask 30 = .ok (.aload_n 0, 1) := by decide +kernel
theorem dX7_ask_31 : decode cX7_ask 31 = .ok (.iload_n 1, 1) := by decide +kernel
theorem dX7_ask_32 : decode cX7_ask 32 = .ok (.invokevirtual 305, 3) := by decide +kernel
theorem dX7_ask_35 : decode cX7_ask 35 = .ok (.goto 8, 3) := by decide +kernel
theorem dX7_ask_38 : decode cX7_ask 38 = .ok (.aload_n 0, 1) := by decide +kernel
theorem dX7_ask_39 : decode cX7_ask 39 = .ok (.iload_n 1, 1) := by decide +kernel
theorem dX7_ask_40 : decode cX7_ask 40 = .ok (.invokevirtual 299, 3) := by decide +kernel
theorem dX7_ask_43 : decode cX7_ask 43 = .ok (.ireturn, 1) := by decide +kernel
theorem dX7_trace_0 : decode cX7_trace 0 = .ok (.iload_n 1, 1) := by decide +kernel
theorem dX7_trace_1 : decode cX7_trace 1 = .ok (.i2l, 1) := by decide +kernel
theorem dX7_trace_2 : decode cX7_trace 2 = .ok (.lconst 0, 1) := by decide +kernel
theorem dX7_trace_3 : decode cX7_trace 3 = .ok (.aload_n 0, 1) := by decide +kernel
theorem dX7_trace_4 : decode cX7_trace 4 = .ok (.getfield 281, 3) := by decide +kernel
theorem dX7_trace_7 : decode cX7_trace 7 = .ok (.iconst 1, 1) := by decide +kernel
theorem dX7_trace_8 : decode cX7_trace 8 = .ok (.isub, 1) := by decide +kernel
theorem dX7_trace_9 : decode cX7_trace 9 = .ok (.i2l, 1) := by decide +kernel
theorem dX7_trace_10 : decode cX7_trace 10 = .ok (.invokestatic 60, 3) := by decide +kernel
theorem dX7_trace_13 : decode cX7_trace 13 = .ok (.ifCond .eq 12, 3) := by decide +kernel
theorem dX7_trace_16 : decode cX7_trace 16 = .ok (.aload_n 0, 1) := by decide +kernel
theorem dX7_trace_17 : decode cX7_trace 17 = .ok (.getfield 50, 3) := by decide +kernel
theorem dX7_trace_20 : decode cX7_trace 20 = .ok (.iload_n 1, 1) := by decide +kernel
theorem dX7_trace_21 : decode cX7_trace 21 = .ok (.iaload, 1) := by decide +kernel
theorem dX7_trace_22 : decode cX7_trace 22 = .ok (.goto 5, 3) := by decide +kernel
theorem dX7_trace_25 : decode cX7_trace 25 = .ok (.ldc 237, 2) := by decide +kernel
theorem dX7_trace_27 : decode cX7_trace 27 = .ok (.ireturn, 1) := by decide +kernel
theorem dX7_count_0 : decode cX7_count 0 = .ok (.iconst 0, 1) := by decide +kernel
theorem dX7_count_1 : decode cX7_count 1 = .ok (.istore_n 2, 1) := by decide +kernel
theorem dX7_count_2 : decode cX7_count 2 = .ok (.iconst 0, 1) := by decide +kernel
theorem dX7_count_3 : decode cX7_count 3 = .ok (.istore_n 3, 1) := by decide +kernel
theorem dX7_count_4 : decode cX7_count 4 = .ok (.iload_n 3, 1) := by decide +kernel
theorem dX7_count_5 : decode cX7_count 5 = .ok (.bipush 8, 2) := by decide +kernel
theorem dX7_count_7 : decode cX7_count 7 = .ok (.if_icmp .ge 26, 3) := by decide +kernel
theorem dX7_count_10 : decode cX7_count 10 = .ok (.iload_n 2, 1) := by decide +kernel
theorem dX7_count_11 : decode cX7_count 11 = .ok (.aload_n 0, 1) := by decide +kernel
theorem dX7_count_12 : decode cX7_count 12 = .ok (.getfield 13, 3) := by decide +kernel
theorem dX7_count_15 : decode cX7_count 15 = .ok (.iload_n 3, 1) := by decide +kernel
theorem dX7_count_16 : decode cX7_count 16 = .ok (.iaload, 1) := by decide +kernel
theorem dX7_count_17 : decode cX7_count 17 = .ok (.ifCond .lt 7, 3) := by decide +kernel
theorem dX7_count_20 : decode cX7_count 20 = .ok (.iconst 1, 1) := by decide +kernel
theorem dX7_count_21 : decode cX7_count 21 = .ok (.goto 4, 3) := by decide +kernel
theorem dX7_count_24 : decode cX7_count 24 = .ok (.iconst 0, 1) := by decide +kernel
theorem dX7_count_25 : decode cX7_count 25 = .ok (.iadd, 1) := by decide +kernel
theorem dX7_count_26 : decode cX7_count 26 = .ok (.istore_n 2, 1) := by decide +kernel
theorem dX7_count_27 : decode cX7_count 27 = .ok (.iinc 3 1, 3) := by decide +kernel
theorem dX7_count_30 : decode cX7_count 30 = .ok (.goto (-26), 3) := by decide +kernel
theorem dX7_count_33 : decode cX7_count 33 = .ok (.iconst 0, 1) := by decide +kernel
theorem dX7_count_34 : decode cX7_count 34 = .ok (.istore_n 3, 1) := by decide +kernel
theorem dX7_count_35 : decode cX7_count 35 = .ok (.iconst 0, 1) := by decide +kernel
theorem dX7_count_36 : decode cX7_count 36 = .ok (.istore 4, 2) := by decide +kernel
theorem dX7_count_38 : decode cX7_count 38 = .ok (.iload 4, 2) := by decide +kernel
theorem dX7_count_40 : decode cX7_count 40 = .ok (.aload_n 0, 1) := by decide +kernel
theorem dX7_count_41 : decode cX7_count 41 = .ok (.getfield 19, 3) := by decide +kernel
theorem dX7_count_44 : decode cX7_count 44 = .ok (.bipush 50, 2) := by decide +kernel
theorem dX7_count_46 : decode cX7_count 46 = .ok (.iaload, 1) := by decide +kernel
theorem dX7_count_47 : decode cX7_count 47 = .ok (.if_icmp .ge 26, 3) := by decide +kernel
theorem dX7_count_50 : decode cX7_count 50 = .ok (.iload_n 3, 1) := by decide +kernel
theorem dX7_count_51 : decode cX7_count 51 = .ok (.aload_n 0, 1) := by decide +kernel
theorem dX7_count_52 : decode cX7_count 52 = .ok (.iload 4, 2) := by decide +kernel
theorem dX7_count_54 : decode cX7_count 54 = .ok (.invokevirtual 177, 3) := by decide +kernel
theorem dX7_count_57 : decode cX7_count 57 = .ok (.ifCond .eq 7, 3) := by decide +kernel
theorem dX7_count_60 : decode cX7_count 60 = .ok (.iconst 1, 1) := by decide +kernel
theorem dX7_count_61 : decode cX7_count 61 = .ok (.goto 4, 3) := by decide +kernel
theorem dX7_count_64 : decode cX7_count 64 = .ok (.iconst 0, 1) := by decide +kernel
theorem dX7_count_65 : decode cX7_count 65 = .ok (.iadd, 1) := by decide +kernel
theorem dX7_count_66 : decode cX7_count 66 = .ok (.istore_n 3, 1) := by decide +kernel
theorem dX7_count_67 : decode cX7_count 67 = .ok (.iinc 4 1, 3) := by decide +kernel
theorem dX7_count_70 : decode cX7_count 70 = .ok (.goto (-32), 3) := by decide +kernel
theorem dX7_count_73 : decode cX7_count 73 = .ok (.iload_n 1, 1) := by decide +kernel
theorem dX7_count_74 : decode cX7_count 74 = .ok (.tableswitch 104 0 8 #[50, 52, 60, 68, 76, 84, 92, 94, 99], 50) := by decide +kernel
theorem dX7_count_124 : decode cX7_count 124 = .ok (.iload_n 2, 1) := by decide +kernel
theorem dX7_count_125 : decode cX7_count 125 = .ok (.ireturn, 1) := by decide +kernel
theorem dX7_count_126 : decode cX7_count 126 = .ok (.aload_n 0, 1) := by decide +kernel
theorem dX7_count_127 : decode cX7_count 127 = .ok (.getfield 19, 3) := by decide +kernel
theorem dX7_count_130 : decode cX7_count 130 = .ok (.bipush 50, 2) := by decide +kernel
theorem dX7_count_132 : decode cX7_count 132 = .ok (.iaload, 1) := by decide +kernel
theorem dX7_count_133 : decode cX7_count 133 = .ok (.ireturn, 1) := by decide +kernel
theorem dX7_count_134 : decode cX7_count 134 = .ok (.aload_n 0, 1) := by decide +kernel
theorem dX7_count_135 : decode cX7_count 135 = .ok (.getfield 19, 3) := by decide +kernel
theorem dX7_count_138 : decode cX7_count 138 = .ok (.bipush 49, 2) := by decide +kernel
theorem dX7_count_140 : decode cX7_count 140 = .ok (.iaload, 1) := by decide +kernel
theorem dX7_count_141 : decode cX7_count 141 = .ok (.ireturn, 1) := by decide +kernel
theorem dX7_count_142 : decode cX7_count 142 = .ok (.aload_n 0, 1) := by decide +kernel
theorem dX7_count_143 : decode cX7_count 143 = .ok (.getfield 19, 3) := by decide +kernel
theorem dX7_count_146 : decode cX7_count 146 = .ok (.bipush 46, 2) := by decide +kernel
theorem dX7_count_148 : decode cX7_count 148 = .ok (.iaload, 1) := by decide +kernel
theorem dX7_count_149 : decode cX7_count 149 = .ok (.ireturn, 1) := by decide +kernel
theorem dX7_count_150 : decode cX7_count 150 = .ok (.aload_n 0, 1) := by decide +kernel
theorem dX7_count_151 : decode cX7_count 151 = .ok (.getfield 19, 3) := by decide +kernel
theorem dX7_count_154 : decode cX7_count 154 = .ok (.bipush 47, 2) := by decide +kernel
theorem dX7_count_156 : decode cX7_count 156 = .ok (.iaload, 1) := by decide +kernel
theorem dX7_count_157 : decode cX7_count 157 = .ok (.ireturn, 1) := by decide +kernel
theorem dX7_count_158 : decode cX7_count 158 = .ok (.aload_n 0, 1) := by decide +kernel
theorem dX7_count_159 : decode cX7_count 159 = .ok (.getfield 19, 3) := by decide +kernel
theorem dX7_count_162 : decode cX7_count 162 = .ok (.bipush 48, 2) := by decide +kernel
theorem dX7_count_164 : decode cX7_count 164 = .ok (.iaload, 1) := by decide +kernel
theorem dX7_count_165 : decode cX7_count 165 = .ok (.ireturn, 1) := by decide +kernel
theorem dX7_count_166 : decode cX7_count 166 = .ok (.iload_n 3, 1) := by decide +kernel
theorem dX7_count_167 : decode cX7_count 167 = .ok (.ireturn, 1) := by decide +kernel
theorem dX7_count_168 : decode cX7_count 168 = .ok (.aload_n 0, 1) := by decide +kernel
theorem dX7_count_169 : decode cX7_count 169 = .ok (.getfield 158, 3) := by decide +kernel
theorem dX7_count_172 : decode cX7_count 172 = .ok (.ireturn, 1) := by decide +kernel
theorem dX7_count_173 : decode cX7_count 173 = .ok (.aload_n 0, 1) := by decide +kernel
theorem dX7_count_174 : decode cX7_count 174 = .ok (.getfield 84, 3) := by decide +kernel
theorem dX7_count_177 : decode cX7_count 177 = .ok (.ireturn, 1) := by decide +kernel
theorem dX7_count_178 : decode cX7_count 178 = .ok (.ldc 70, 2) := by decide +kernel
theorem dX7_count_180 : decode cX7_count 180 = .ok (.ireturn, 1) := by decide +kernel
theorem dX7_status_0 : decode cX7_status 0 = .ok (.aload_n 0, 1) := by decide +kernel
theorem dX7_status_1 : decode cX7_status 1 = .ok (.getfield 53, 3) := by decide +kernel
theorem dX7_status_4 : decode cX7_status 4 = .ok (.ireturn, 1) := by decide +kernel
theorem dJ6_bitCount_0f7a4_0 : decode cJ6_bitCount_0f7a4 0 = .ok (.iload_n 0, 1) := by decide +kernel
theorem dJ6_bitCount_0f7a4_1 : decode cJ6_bitCount_0f7a4 1 = .ok (.iload_n 0, 1) := by decide +kernel
theorem dJ6_bitCount_0f7a4_2 : decode cJ6_bitCount_0f7a4 2 = .ok (.iconst 1, 1) := by decide +kernel
theorem dJ6_bitCount_0f7a4_3 : decode cJ6_bitCount_0f7a4 3 = .ok (.iushr, 1) := by decide +kernel
theorem dJ6_bitCount_0f7a4_4 : decode cJ6_bitCount_0f7a4 4 = .ok (.ldc_w 265, 3) := by decide +kernel
theorem dJ6_bitCount_0f7a4_7 : decode cJ6_bitCount_0f7a4 7 = .ok (.iand, 1) := by decide +kernel
theorem dJ6_bitCount_0f7a4_8 : decode cJ6_bitCount_0f7a4 8 = .ok (.isub, 1) := by decide +kernel
theorem dJ6_bitCount_0f7a4_9 : decode cJ6_bitCount_0f7a4 9 = .ok (.istore_n 0, 1) := by decide +kernel
theorem dJ6_bitCount_0f7a4_10 : decode cJ6_bitCount_0f7a4 10 = .ok (.iload_n 0, 1) := by decide +kernel
theorem dJ6_bitCount_0f7a4_11 : decode cJ6_bitCount_0f7a4 11 = .ok (.ldc_w 266, 3) := by decide +kernel
theorem dJ6_bitCount_0f7a4_14 : decode cJ6_bitCount_0f7a4 14 = .ok (.iand, 1) := by decide +kernel
theorem dJ6_bitCount_0f7a4_15 : decode cJ6_bitCount_0f7a4 15 = .ok (.iload_n 0, 1) := by decide +kernel
theorem dJ6_bitCount_0f7a4_16 : decode cJ6_bitCount_0f7a4 16 = .ok (.iconst 2, 1) := by decide +kernel
theorem dJ6_bitCount_0f7a4_17 : decode cJ6_bitCount_0f7a4 17 = .ok (.iushr, 1) := by decide +kernel
theorem dJ6_bitCount_0f7a4_18 : decode cJ6_bitCount_0f7a4 18 = .ok (.ldc_w 266, 3) := by decide +kernel
theorem dJ6_bitCount_0f7a4_21 : decode cJ6_bitCount_0f7a4 21 = .ok (.iand, 1) := by decide +kernel
theorem dJ6_bitCount_0f7a4_22 : decode cJ6_bitCount_0f7a4 22 = .ok (.iadd, 1) := by decide +kernel
theorem dJ6_bitCount_0f7a4_23 : decode cJ6_bitCount_0f7a4 23 = .ok (.istore_n 0, 1) := by decide +kernel
theorem dJ6_bitCount_0f7a4_24 : decode cJ6_bitCount_0f7a4 24 = .ok (.iload_n 0, 1) := by decide +kernel
theorem dJ6_bitCount_0f7a4_25 : decode cJ6_bitCount_0f7a4 25 = .ok (.iload_n 0, 1) := by decide +kernel
theorem dJ6_bitCount_0f7a4_26 : decode cJ6_bitCount_0f7a4 26 = .ok (.iconst 4, 1) := by decide +kernel
theorem dJ6_bitCount_0f7a4_27 : decode cJ6_bitCount_0f7a4 27 = .ok (.iushr, 1) := by decide +kernel
theorem dJ6_bitCount_0f7a4_28 : decode cJ6_bitCount_0f7a4 28 = .ok (.iadd, 1) := by decide +kernel
theorem dJ6_bitCount_0f7a4_29 : decode cJ6_bitCount_0f7a4 29 = .ok (.ldc_w 267, 3) := by decide +kernel
theorem dJ6_bitCount_0f7a4_32 : decode cJ6_bitCount_0f7a4 32 = .ok (.iand, 1) := by decide +kernel
theorem dJ6_bitCount_0f7a4_33 : decode cJ6_bitCount_0f7a4 33 = .ok (.istore_n 0, 1) := by decide +kernel
theorem dJ6_bitCount_0f7a4_34 : decode cJ6_bitCount_0f7a4 34 = .ok (.iload_n 0, 1) := by decide +kernel
theorem dJ6_bitCount_0f7a4_35 : decode cJ6_bitCount_0f7a4 35 = .ok (.iload_n 0, 1) := by decide +kernel
theorem dJ6_bitCount_0f7a4_36 : decode cJ6_bitCount_0f7a4 36 = .ok (.bipush 8, 2) := by decide +kernel
theorem dJ6_bitCount_0f7a4_38 : decode cJ6_bitCount_0f7a4 38 = .ok (.iushr, 1) := by decide +kernel
theorem dJ6_bitCount_0f7a4_39 : decode cJ6_bitCount_0f7a4 39 = .ok (.iadd, 1) := by decide +kernel
theorem dJ6_bitCount_0f7a4_40 : decode cJ6_bitCount_0f7a4 40 = .ok (.istore_n 0, 1) := by decide +kernel
theorem dJ6_bitCount_0f7a4_41 : decode cJ6_bitCount_0f7a4 41 = .ok (.iload_n 0, 1) := by decide +kernel
theorem dJ6_bitCount_0f7a4_42 : decode cJ6_bitCount_0f7a4 42 = .ok (.iload_n 0, 1) := by decide +kernel
theorem dJ6_bitCount_0f7a4_43 : decode cJ6_bitCount_0f7a4 43 = .ok (.bipush 16, 2) := by decide +kernel
theorem dJ6_bitCount_0f7a4_45 : decode cJ6_bitCount_0f7a4 45 = .ok (.iushr, 1) := by decide +kernel
theorem dJ6_bitCount_0f7a4_46 : decode cJ6_bitCount_0f7a4 46 = .ok (.iadd, 1) := by decide +kernel
theorem dJ6_bitCount_0f7a4_47 : decode cJ6_bitCount_0f7a4 47 = .ok (.istore_n 0, 1) := by decide +kernel
theorem dJ6_bitCount_0f7a4_48 : decode cJ6_bitCount_0f7a4 48 = .ok (.iload_n 0, 1) := by decide +kernel
theorem dJ6_bitCount_0f7a4_49 : decode cJ6_bitCount_0f7a4 49 = .ok (.bipush 63, 2) := by decide +kernel
theorem dJ6_bitCount_0f7a4_51 : decode cJ6_bitCount_0f7a4 51 = .ok (.iand, 1) := by decide +kernel
theorem dJ6_bitCount_0f7a4_52 : decode cJ6_bitCount_0f7a4 52 = .ok (.ireturn, 1) := by decide +kernel
theorem dJ9_max_7cf53_0 : decode cJ9_max_7cf53 0 = .ok (.iload_n 0, 1) := by decide +kernel
theorem dJ9_max_7cf53_1 : decode cJ9_max_7cf53 1 = .ok (.iload_n 1, 1) := by decide +kernel
theorem dJ9_max_7cf53_2 : decode cJ9_max_7cf53 2 = .ok (.if_icmp .lt 7, 3) := by decide +kernel
theorem dJ9_max_7cf53_5 : decode cJ9_max_7cf53 5 = .ok (.iload_n 0, 1) := by decide +kernel
theorem dJ9_max_7cf53_6 : decode cJ9_max_7cf53 6 = .ok (.goto 4, 3) := by decide +kernel
theorem dJ9_max_7cf53_9 : decode cJ9_max_7cf53 9 = .ok (.iload_n 1, 1) := by decide +kernel
theorem dJ9_max_7cf53_10 : decode cJ9_max_7cf53 10 = .ok (.ireturn, 1) := by decide +kernel
theorem dJ9_min_7cf53_0 : decode cJ9_min_7cf53 0 = .ok (.iload_n 0, 1) := by decide +kernel
theorem dJ9_min_7cf53_1 : decode cJ9_min_7cf53 1 = .ok (.iload_n 1, 1) := by decide +kernel
theorem dJ9_min_7cf53_2 : decode cJ9_min_7cf53 2 = .ok (.if_icmp .gt 7, 3) := by decide +kernel
theorem dJ9_min_7cf53_5 : decode cJ9_min_7cf53 5 = .ok (.iload_n 0, 1) := by decide +kernel
theorem dJ9_min_7cf53_6 : decode cJ9_min_7cf53 6 = .ok (.goto 4, 3) := by decide +kernel
theorem dJ9_min_7cf53_9 : decode cJ9_min_7cf53 9 = .ok (.iload_n 1, 1) := by decide +kernel
theorem dJ9_min_7cf53_10 : decode cJ9_min_7cf53 10 = .ok (.ireturn, 1) := by decide +kernel
theorem dL_law_0 : decode cL_law 0 = .ok (.new 7, 3) := by decide +kernel
theorem dL_law_3 : decode cL_law 3 = .ok (.dup, 1) := by decide +kernel
theorem dL_law_4 : decode cL_law 4 = .ok (.invokespecial 9, 3) := by decide +kernel
theorem dL_law_7 : decode cL_law 7 = .ok (.astore_n 1, 1) := by decide +kernel
theorem dL_law_8 : decode cL_law 8 = .ok (.new 10, 3) := by decide +kernel
theorem dL_law_11 : decode cL_law 11 = .ok (.dup, 1) := by decide +kernel
theorem dL_law_12 : decode cL_law 12 = .ok (.invokespecial 12, 3) := by decide +kernel
theorem dL_law_15 : decode cL_law 15 = .ok (.astore_n 2, 1) := by decide +kernel
theorem dL_law_16 : decode cL_law 16 = .ok (.iconst 0, 1) := by decide +kernel
theorem dL_law_17 : decode cL_law 17 = .ok (.istore_n 3, 1) := by decide +kernel
theorem dL_law_18 : decode cL_law 18 = .ok (.iload_n 3, 1) := by decide +kernel
theorem dL_law_19 : decode cL_law 19 = .ok (.aload_n 0, 1) := by decide +kernel
theorem dL_law_20 : decode cL_law 20 = .ok (.arraylength, 1) := by decide +kernel
theorem dL_law_21 : decode cL_law 21 = .ok (.bipush 7, 2) := by decide +kernel
theorem dL_law_23 : decode cL_law 23 = .ok (.isub, 1) := by decide +kernel
theorem dL_law_24 : decode cL_law 24 = .ok (.if_icmp .gt 1355, 3) := by decide +kernel
theorem dL_law_27 : decode cL_law 27 = .ok (.aload_n 0, 1) := by decide +kernel
theorem dL_law_28 : decode cL_law 28 = .ok (.iload_n 3, 1) := by decide +kernel
theorem dL_law_29 : decode cL_law 29 = .ok (.iaload, 1) := by decide +kernel
theorem dL_law_30 : decode cL_law 30 = .ok (.bipush 63, 2) := by decide +kernel
theorem dL_law_32 : decode cL_law 32 = .ok (.iand, 1) := by decide +kernel
theorem dL_law_33 : decode cL_law 33 = .ok (.tableswitch 1340 0 35 #[159, 202, 245, 308, 331, 354, 367, 380, 393, 416, 449, 482, 515, 548, 581, 624, 647, 680, 713, 746, 789, 822, 865, 940, 993, 1046, 1079, 1123, 1146, 1169, 1192, 1215, 1248, 1281, 1304, 1327], 159) := by decide +kernel
theorem dL_law_192 : decode cL_law 192 = .ok (.aload_n 1, 1) := by decide +kernel
theorem dL_law_193 : decode cL_law 193 = .ok (.aload_n 0, 1) := by decide +kernel
theorem dL_law_194 : decode cL_law 194 = .ok (.iload_n 3, 1) := by decide +kernel
theorem dL_law_195 : decode cL_law 195 = .ok (.iconst 1, 1) := by decide +kernel
theorem dL_law_196 : decode cL_law 196 = .ok (.iadd, 1) := by decide +kernel
theorem dL_law_197 : decode cL_law 197 = .ok (.iaload, 1) := by decide +kernel
theorem dL_law_198 : decode cL_law 198 = .ok (.aload_n 0, 1) := by decide +kernel
theorem dL_law_199 : decode cL_law 199 = .ok (.iload_n 3, 1) := by decide +kernel
theorem dL_law_200 : decode cL_law 200 = .ok (.iconst 2, 1) := by decide +kernel
theorem dL_law_201 : decode cL_law 201 = .ok (.iadd, 1) := by decide +kernel
theorem dL_law_202 : decode cL_law 202 = .ok (.iaload, 1) := by decide +kernel
theorem dL_law_203 : decode cL_law 203 = .ok (.aload_n 0, 1) := by decide +kernel
theorem dL_law_204 : decode cL_law 204 = .ok (.iload_n 3, 1) := by decide +kernel
theorem dL_law_205 : decode cL_law 205 = .ok (.iconst 3, 1) := by decide +kernel
theorem dL_law_206 : decode cL_law 206 = .ok (.iadd, 1) := by decide +kernel
theorem dL_law_207 : decode cL_law 207 = .ok (.iaload, 1) := by decide +kernel
theorem dL_law_208 : decode cL_law 208 = .ok (.invokevirtual 13, 3) := by decide +kernel
theorem dL_law_211 : decode cL_law 211 = .ok (.aload_n 2, 1) := by decide +kernel
theorem dL_law_212 : decode cL_law 212 = .ok (.aload_n 0, 1) := by decide +kernel
theorem dL_law_213 : decode cL_law 213 = .ok (.iload_n 3, 1) := by decide +kernel
theorem dL_law_214 : decode cL_law 214 = .ok (.iconst 1, 1) := by decide +kernel
theorem dL_law_215 : decode cL_law 215 = .ok (.iadd, 1) := by decide +kernel
theorem dL_law_216 : decode cL_law 216 = .ok (.iaload, 1) := by decide +kernel
theorem dL_law_217 : decode cL_law 217 = .ok (.aload_n 0, 1) := by decide +kernel
theorem dL_law_218 : decode cL_law 218 = .ok (.iload_n 3, 1) := by decide +kernel
theorem dL_law_219 : decode cL_law 219 = .ok (.iconst 2, 1) := by decide +kernel
theorem dL_law_220 : decode cL_law 220 = .ok (.iadd, 1) := by decide +kernel
theorem dL_law_221 : decode cL_law 221 = .ok (.iaload, 1) := by decide +kernel
theorem dL_law_222 : decode cL_law 222 = .ok (.aload_n 0, 1) := by decide +kernel
theorem dL_law_223 : decode cL_law 223 = .ok (.iload_n 3, 1) := by decide +kernel
theorem dL_law_224 : decode cL_law 224 = .ok (.iconst 3, 1) := by decide +kernel
theorem dL_law_225 : decode cL_law 225 = .ok (.iadd, 1) := by decide +kernel
theorem dL_law_226 : decode cL_law 226 = .ok (.iaload, 1) := by decide +kernel
theorem dL_law_227 : decode cL_law 227 = .ok (.invokevirtual 17, 3) := by decide +kernel
theorem dL_law_230 : decode cL_law 230 = .ok (.if_icmp .eq 1143, 3) := by decide +kernel
theorem dL_law_233 : decode cL_law 233 = .ok (.iconst 0, 1) := by decide +kernel
theorem dL_law_234 : decode cL_law 234 = .ok (.ireturn, 1) := by decide +kernel
theorem dL_law_235 : decode cL_law 235 = .ok (.aload_n 1, 1) := by decide +kernel
theorem dL_law_236 : decode cL_law 236 = .ok (.aload_n 0, 1) := by decide +kernel
theorem dL_law_237 : decode cL_law 237 = .ok (.iload_n 3, 1) := by decide +kernel
theorem dL_law_238 : decode cL_law 238 = .ok (.iconst 1, 1) := by decide +kernel
theorem dL_law_239 : decode cL_law 239 = .ok (.iadd, 1) := by decide +kernel
theorem dL_law_240 : decode cL_law 240 = .ok (.iaload, 1) := by decide +kernel
theorem dL_law_241 : decode cL_law 241 = .ok (.aload_n 0, 1) := by decide +kernel
theorem dL_law_242 : decode cL_law 242 = .ok (.iload_n 3, 1) := by decide +kernel
theorem dL_law_243 : decode cL_law 243 = .ok (.iconst 2, 1) := by decide +kernel
theorem dL_law_244 : decode cL_law 244 = .ok (.iadd, 1) := by decide +kernel
theorem dL_law_245 : decode cL_law 245 = .ok (.iaload, 1) := by decide +kernel
theorem dL_law_246 : decode cL_law 246 = .ok (.aload_n 0, 1) := by decide +kernel
theorem dL_law_247 : decode cL_law 247 = .ok (.iload_n 3, 1) := by decide +kernel
theorem dL_law_248 : decode cL_law 248 = .ok (.iconst 3, 1) := by decide +kernel
theorem dL_law_249 : decode cL_law 249 = .ok (.iadd, 1) := by decide +kernel
theorem dL_law_250 : decode cL_law 250 = .ok (.iaload, 1) := by decide +kernel
theorem dL_law_251 : decode cL_law 251 = .ok (.invokevirtual 18, 3) := by decide +kernel
theorem dL_law_254 : decode cL_law 254 = .ok (.aload_n 2, 1) := by decide +kernel
theorem dL_law_255 : decode cL_law 255 = .ok (.aload_n 0, 1) := by decide +kernel
theorem dL_law_256 : decode cL_law 256 = .ok (.iload_n 3, 1) := by decide +kernel
theorem dL_law_257 : decode cL_law 257 = .ok (.iconst 1, 1) := by decide +kernel
theorem dL_law_258 : decode cL_law 258 = .ok (.iadd, 1) := by decide +kernel
theorem dL_law_259 : decode cL_law 259 = .ok (.iaload, 1) := by decide +kernel
theorem dL_law_260 : decode cL_law 260 = .ok (.aload_n 0, 1) := by decide +kernel
theorem dL_law_261 : decode cL_law 261 = .ok (.iload_n 3, 1) := by decide +kernel
theorem dL_law_262 : decode cL_law 262 = .ok (.iconst 2, 1) := by decide +kernel
theorem dL_law_263 : decode cL_law 263 = .ok (.iadd, 1) := by decide +kernel
theorem dL_law_264 : decode cL_law 264 = .ok (.iaload, 1) := by decide +kernel
theorem dL_law_265 : decode cL_law 265 = .ok (.aload_n 0, 1) := by decide +kernel
theorem dL_law_266 : decode cL_law 266 = .ok (.iload_n 3, 1) := by decide +kernel
theorem dL_law_267 : decode cL_law 267 = .ok (.iconst 3, 1) := by decide +kernel
theorem dL_law_268 : decode cL_law 268 = .ok (.iadd, 1) := by decide +kernel
theorem dL_law_269 : decode cL_law 269 = .ok (.iaload, 1) := by decide +kernel
theorem dL_law_270 : decode cL_law 270 = .ok (.invokevirtual 21, 3) := by decide +kernel
theorem dL_law_273 : decode cL_law 273 = .ok (.if_icmp .eq 1100, 3) := by decide +kernel
theorem dL_law_276 : decode cL_law 276 = .ok (.iconst 0, 1) := by decide +kernel
theorem dL_law_277 : decode cL_law 277 = .ok (.ireturn, 1) := by decide +kernel
theorem dL_law_278 : decode cL_law 278 = .ok (.aload_n 1, 1) := by decide +kernel
theorem dL_law_279 : decode cL_law 279 = .ok (.aload_n 0, 1) := by decide +kernel
theorem dL_law_280 : decode cL_law 280 = .ok (.iload_n 3, 1) := by decide +kernel
theorem dL_law_281 : decode cL_law 281 = .ok (.iconst 1, 1) := by decide +kernel
theorem dL_law_282 : decode cL_law 282 = .ok (.iadd, 1) := by decide +kernel
theorem dL_law_283 : decode cL_law 283 = .ok (.iaload, 1) := by decide +kernel
theorem dL_law_284 : decode cL_law 284 = .ok (.aload_n 0, 1) := by decide +kernel
theorem dL_law_285 : decode cL_law 285 = .ok (.iload_n 3, 1) := by decide +kernel
theorem dL_law_286 : decode cL_law 286 = .ok (.iconst 2, 1) := by decide +kernel
theorem dL_law_287 : decode cL_law 287 = .ok (.iadd, 1) := by decide +kernel
theorem dL_law_288 : decode cL_law 288 = .ok (.iaload, 1) := by decide +kernel
theorem dL_law_289 : decode cL_law 289 = .ok (.aload_n 0, 1) := by decide +kernel
theorem dL_law_290 : decode cL_law 290 = .ok (.iload_n 3, 1) := by decide +kernel
theorem dL_law_291 : decode cL_law 291 = .ok (.iconst 3, 1) := by decide +kernel
theorem dL_law_292 : decode cL_law 292 = .ok (.iadd, 1) := by decide +kernel
theorem dL_law_293 : decode cL_law 293 = .ok (.iaload, 1) := by decide +kernel
theorem dL_law_294 : decode cL_law 294 = .ok (.aload_n 0, 1) := by decide +kernel
theorem dL_law_295 : decode cL_law 295 = .ok (.iload_n 3, 1) := by decide +kernel
theorem dL_law_296 : decode cL_law 296 = .ok (.iconst 4, 1) := by decide +kernel
theorem dL_law_297 : decode cL_law 297 = .ok (.iadd, 1) := by decide +kernel
theorem dL_law_298 : decode cL_law 298 = .ok (.iaload, 1) := by decide +kernel
theorem dL_law_299 : decode cL_law 299 = .ok (.aload_n 0, 1) := by decide +kernel
theorem dL_law_300 : decode cL_law 300 = .ok (.iload_n 3, 1) := by decide +kernel
theorem dL_law_301 : decode cL_law 301 = .ok (.iconst 5, 1) := by decide +kernel
theorem dL_law_302 : decode cL_law 302 = .ok (.iadd, 1) := by decide +kernel
theorem dL_law_303 : decode cL_law 303 = .ok (.iaload, 1) := by decide +kernel
theorem dL_law_304 : decode cL_law 304 = .ok (.invokevirtual 22, 3) := by decide +kernel
theorem dL_law_307 : decode cL_law 307 = .ok (.aload_n 2, 1) := by decide +kernel
theorem dL_law_308 : decode cL_law 308 = .ok (.aload_n 0, 1) := by decide +kernel
theorem dL_law_309 : decode cL_law 309 = .ok (.iload_n 3, 1) := by decide +kernel
theorem dL_law_310 : decode cL_law 310 = .ok (.iconst 1, 1) := by decide +kernel
theorem dL_law_311 : decode cL_law 311 = .ok (.iadd, 1) := by decide +kernel
theorem dL_law_312 : decode cL_law 312 = .ok (.iaload, 1) := by decide +kernel
theorem dL_law_313 : decode cL_law 313 = .ok (.aload_n 0, 1) := by decide +kernel
theorem dL_law_314 : decode cL_law 314 = .ok (.iload_n 3, 1) := by decide +kernel
theorem dL_law_315 : decode cL_law 315 = .ok (.iconst 2, 1) := by decide +kernel
theorem dL_law_316 : decode cL_law 316 = .ok (.iadd, 1) := by decide +kernel
theorem dL_law_317 : decode cL_law 317 = .ok (.iaload, 1) := by decide +kernel
theorem dL_law_318 : decode cL_law 318 = .ok (.aload_n 0, 1) := by decide +kernel
theorem dL_law_319 : decode cL_law 319 = .ok (.iload_n 3, 1) := by decide +kernel
theorem dL_law_320 : decode cL_law 320 = .ok (.iconst 3, 1) := by decide +kernel
theorem dL_law_321 : decode cL_law 321 = .ok (.iadd, 1) := by decide +kernel
theorem dL_law_322 : decode cL_law 322 = .ok (.iaload, 1) := by decide +kernel
theorem dL_law_323 : decode cL_law 323 = .ok (.aload_n 0, 1) := by decide +kernel
theorem dL_law_324 : decode cL_law 324 = .ok (.iload_n 3, 1) := by decide +kernel
theorem dL_law_325 : decode cL_law 325 = .ok (.iconst 4, 1) := by decide +kernel
theorem dL_law_326 : decode cL_law 326 = .ok (.iadd, 1) := by decide +kernel
theorem dL_law_327 : decode cL_law 327 = .ok (.iaload, 1) := by decide +kernel
theorem dL_law_328 : decode cL_law 328 = .ok (.aload_n 0, 1) := by decide +kernel
theorem dL_law_329 : decode cL_law 329 = .ok (.iload_n 3, 1) := by decide +kernel
theorem dL_law_330 : decode cL_law 330 = .ok (.iconst 5, 1) := by decide +kernel
theorem dL_law_331 : decode cL_law 331 = .ok (.iadd, 1) := by decide +kernel
theorem dL_law_332 : decode cL_law 332 = .ok (.iaload, 1) := by decide +kernel
theorem dL_law_333 : decode cL_law 333 = .ok (.invokevirtual 26, 3) := by decide +kernel
theorem dL_law_336 : decode cL_law 336 = .ok (.if_icmp .eq 1037, 3) := by decide +kernel
theorem dL_law_339 : decode cL_law 339 = .ok (.iconst 0, 1) := by decide +kernel
theorem dL_law_340 : decode cL_law 340 = .ok (.ireturn, 1) := by decide +kernel
theorem dL_law_341 : decode cL_law 341 = .ok (.aload_n 1, 1) := by decide +kernel
theorem dL_law_342 : decode cL_law 342 = .ok (.aload_n 0, 1) := by decide +kernel
theorem dL_law_343 : decode cL_law 343 = .ok (.iload_n 3, 1) := by decide +kernel
theorem dL_law_344 : decode cL_law 344 = .ok (.iconst 1, 1) := by decide +kernel
theorem dL_law_345 : decode cL_law 345 = .ok (.iadd, 1) := by decide +kernel
theorem dL_law_346 : decode cL_law 346 = .ok (.iaload, 1) := by decide +kernel
theorem dL_law_347 : decode cL_law 347 = .ok (.invokevirtual 27, 3) := by decide +kernel
theorem dL_law_350 : decode cL_law 350 = .ok (.aload_n 2, 1) := by decide +kernel
theorem dL_law_351 : decode cL_law 351 = .ok (.aload_n 0, 1) := by decide +kernel
theorem dL_law_352 : decode cL_law 352 = .ok (.iload_n 3, 1) := by decide +kernel
theorem dL_law_353 : decode cL_law 353 = .ok (.iconst 1, 1) := by decide +kernel
theorem dL_law_354 : decode cL_law 354 = .ok (.iadd, 1) := by decide +kernel
theorem dL_law_355 : decode cL_law 355 = .ok (.iaload, 1) := by decide +kernel
theorem dL_law_356 : decode cL_law 356 = .ok (.invokevirtual 31, 3) := by decide +kernel
theorem dL_law_359 : decode cL_law 359 = .ok (.if_icmp .eq 1014, 3) := by decide +kernel
theorem dL_law_362 : decode cL_law 362 = .ok (.iconst 0, 1) := by decide +kernel
theorem dL_law_363 : decode cL_law 363 = .ok (.ireturn, 1) := by decide +kernel
theorem dL_law_364 : decode cL_law 364 = .ok (.aload_n 1, 1) := by decide +kernel
theorem dL_law_365 : decode cL_law 365 = .ok (.aload_n 0, 1) := by decide +kernel
theorem dL_law_366 : decode cL_law 366 = .ok (.iload_n 3, 1) := by decide +kernel
theorem dL_law_367 : decode cL_law 367 = .ok (.iconst 1, 1) := by decide +kernel
theorem dL_law_368 : decode cL_law 368 = .ok (.iadd, 1) := by decide +kernel
theorem dL_law_369 : decode cL_law 369 = .ok (.iaload, 1) := by decide +kernel
theorem dL_law_370 : decode cL_law 370 = .ok (.invokevirtual 32, 3) := by decide +kernel
theorem dL_law_373 : decode cL_law 373 = .ok (.aload_n 2, 1) := by decide +kernel
theorem dL_law_374 : decode cL_law 374 = .ok (.aload_n 0, 1) := by decide +kernel
theorem dL_law_375 : decode cL_law 375 = .ok (.iload_n 3, 1) := by decide +kernel
theorem dL_law_376 : decode cL_law 376 = .ok (.iconst 1, 1) := by decide +kernel
theorem dL_law_377 : decode cL_law 377 = .ok (.iadd, 1) := by decide +kernel
theorem dL_law_378 : decode cL_law 378 = .ok (.iaload, 1) := by decide +kernel
theorem dL_law_379 : decode cL_law 379 = .ok (.invokevirtual 35, 3) := by decide +kernel
theorem dL_law_382 : decode cL_law 382 = .ok (.if_icmp .eq 991, 3) := by decide +kernel
theorem dL_law_385 : decode cL_law 385 = .ok (.iconst 0, 1) := by decide +kernel
theorem dL_law_386 : decode cL_law 386 = .ok (.ireturn, 1) := by decide +kernel
theorem dL_law_387 : decode cL_law 387 = .ok (.aload_n 1, 1) := by decide +kernel
theorem dL_law_388 : decode cL_law 388 = .ok (.invokevirtual 36, 3) := by decide +kernel
theorem dL_law_391 : decode cL_law 391 = .ok (.aload_n 2, 1) := by decide +kernel
theorem dL_law_392 : decode cL_law 392 = .ok (.invokevirtual 40, 3) := by decide +kernel
theorem dL_law_395 : decode cL_law 395 = .ok (.if_icmp .eq 978, 3) := by decide +kernel
theorem dL_law_398 : decode cL_law 398 = .ok (.iconst 0, 1) := by decide +kernel
theorem dL_law_399 : decode cL_law 399 = .ok (.ireturn, 1) := by decide +kernel
theorem dL_law_400 : decode cL_law 400 = .ok (.aload_n 1, 1) := by decide +kernel
theorem dL_law_401 : decode cL_law 401 = .ok (.invokevirtual 41, 3) := by decide +kernel
theorem dL_law_404 : decode cL_law 404 = .ok (.aload_n 2, 1) := by decide +kernel
theorem dL_law_405 : decode cL_law 405 = .ok (.invokevirtual 44, 3) := by decide +kernel
theorem dL_law_408 : decode cL_law 408 = .ok (.if_icmp .eq 965, 3) := by decide +kernel
theorem dL_law_411 : decode cL_law 411 = .ok (.iconst 0, 1) := by decide +kernel
theorem dL_law_412 : decode cL_law 412 = .ok (.ireturn, 1) := by decide +kernel
theorem dL_law_413 : decode cL_law 413 = .ok (.aload_n 1, 1) := by decide +kernel
theorem dL_law_414 : decode cL_law 414 = .ok (.invokevirtual 45, 3) := by decide +kernel
theorem dL_law_417 : decode cL_law 417 = .ok (.aload_n 2, 1) := by decide +kernel
theorem dL_law_418 : decode cL_law 418 = .ok (.invokevirtual 48, 3) := by decide +kernel
theorem dL_law_421 : decode cL_law 421 = .ok (.if_icmp .eq 952, 3) := by decide +kernel
theorem dL_law_424 : decode cL_law 424 = .ok (.iconst 0, 1) := by decide +kernel
theorem dL_law_425 : decode cL_law 425 = .ok (.ireturn, 1) := by decide +kernel
theorem dL_law_426 : decode cL_law 426 = .ok (.aload_n 1, 1) := by decide +kernel
theorem dL_law_427 : decode cL_law 427 = .ok (.aload_n 0, 1) := by decide +kernel
theorem dL_law_428 : decode cL_law 428 = .ok (.iload_n 3, 1) := by decide +kernel
theorem dL_law_429 : decode cL_law 429 = .ok (.iconst 1, 1) := by decide +kernel
theorem dL_law_430 : decode cL_law 430 = .ok (.iadd, 1) := by decide +kernel
theorem dL_law_431 : decode cL_law 431 = .ok (.iaload, 1) := by decide +kernel
theorem dL_law_432 : decode cL_law 432 = .ok (.invokevirtual 49, 3) := by decide +kernel
theorem dL_law_435 : decode cL_law 435 = .ok (.aload_n 2, 1) := by decide +kernel
theorem dL_law_436 : decode cL_law 436 = .ok (.aload_n 0, 1) := by decide +kernel
theorem dL_law_437 : decode cL_law 437 = .ok (.iload_n 3, 1) := by decide +kernel
theorem dL_law_438 : decode cL_law 438 = .ok (.iconst 1, 1) := by decide +kernel
theorem dL_law_439 : decode cL_law 439 = .ok (.iadd, 1) := by decide +kernel
theorem dL_law_440 : decode cL_law 440 = .ok (.iaload, 1) := by decide +kernel
theorem dL_law_441 : decode cL_law 441 = .ok (.invokevirtual 52, 3) := by decide +kernel
theorem dL_law_444 : decode cL_law 444 = .ok (.if_icmp .eq 929, 3) := by decide +kernel
theorem dL_law_447 : decode cL_law 447 = .ok (.iconst 0, 1) := by decide +kernel
theorem dL_law_448 : decode cL_law 448 = .ok (.ireturn, 1) := by decide +kernel
theorem dL_law_449 : decode cL_law 449 = .ok (.aload_n 1, 1) := by decide +kernel
theorem dL_law_450 : decode cL_law 450 = .ok (.aload_n 0, 1) := by decide +kernel
theorem dL_law_451 : decode cL_law 451 = .ok (.iload_n 3, 1) := by decide +kernel
theorem dL_law_452 : decode cL_law 452 = .ok (.iconst 1, 1) := by decide +kernel
theorem dL_law_453 : decode cL_law 453 = .ok (.iadd, 1) := by decide +kernel
theorem dL_law_454 : decode cL_law 454 = .ok (.iaload, 1) := by decide +kernel
theorem dL_law_455 : decode cL_law 455 = .ok (.aload_n 0, 1) := by decide +kernel
theorem dL_law_456 : decode cL_law 456 = .ok (.iload_n 3, 1) := by decide +kernel
theorem dL_law_457 : decode cL_law 457 = .ok (.iconst 2, 1) := by decide +kernel
theorem dL_law_458 : decode cL_law 458 = .ok (.iadd, 1) := by decide +kernel
theorem dL_law_459 : decode cL_law 459 = .ok (.iaload, 1) := by decide +kernel
theorem dL_law_460 : decode cL_law 460 = .ok (.invokevirtual 53, 3) := by decide +kernel
theorem dL_law_463 : decode cL_law 463 = .ok (.aload_n 2, 1) := by decide +kernel
theorem dL_law_464 : decode cL_law 464 = .ok (.aload_n 0, 1) := by decide +kernel
theorem dL_law_465 : decode cL_law 465 = .ok (.iload_n 3, 1) := by decide +kernel
theorem dL_law_466 : decode cL_law 466 = .ok (.iconst 1, 1) := by decide +kernel
theorem dL_law_467 : decode cL_law 467 = .ok (.iadd, 1) := by decide +kernel
theorem dL_law_468 : decode cL_law 468 = .ok (.iaload, 1) := by decide +kernel
theorem dL_law_469 : decode cL_law 469 = .ok (.aload_n 0, 1) := by decide +kernel
theorem dL_law_470 : decode cL_law 470 = .ok (.iload_n 3, 1) := by decide +kernel
theorem dL_law_471 : decode cL_law 471 = .ok (.iconst 2, 1) := by decide +kernel
theorem dL_law_472 : decode cL_law 472 = .ok (.iadd, 1) := by decide +kernel
theorem dL_law_473 : decode cL_law 473 = .ok (.iaload, 1) := by decide +kernel
theorem dL_law_474 : decode cL_law 474 = .ok (.invokevirtual 57, 3) := by decide +kernel
theorem dL_law_477 : decode cL_law 477 = .ok (.if_icmp .eq 896, 3) := by decide +kernel
theorem dL_law_480 : decode cL_law 480 = .ok (.iconst 0, 1) := by decide +kernel
theorem dL_law_481 : decode cL_law 481 = .ok (.ireturn, 1) := by decide +kernel
theorem dL_law_482 : decode cL_law 482 = .ok (.aload_n 1, 1) := by decide +kernel
theorem dL_law_483 : decode cL_law 483 = .ok (.aload_n 0, 1) := by decide +kernel
theorem dL_law_484 : decode cL_law 484 = .ok (.iload_n 3, 1) := by decide +kernel
theorem dL_law_485 : decode cL_law 485 = .ok (.iconst 1, 1) := by decide +kernel
theorem dL_law_486 : decode cL_law 486 = .ok (.iadd, 1) := by decide +kernel
theorem dL_law_487 : decode cL_law 487 = .ok (.iaload, 1) := by decide +kernel
theorem dL_law_488 : decode cL_law 488 = .ok (.aload_n 0, 1) := by decide +kernel
theorem dL_law_489 : decode cL_law 489 = .ok (.iload_n 3, 1) := by decide +kernel
theorem dL_law_490 : decode cL_law 490 = .ok (.iconst 2, 1) := by decide +kernel
theorem dL_law_491 : decode cL_law 491 = .ok (.iadd, 1) := by decide +kernel
theorem dL_law_492 : decode cL_law 492 = .ok (.iaload, 1) := by decide +kernel
theorem dL_law_493 : decode cL_law 493 = .ok (.invokevirtual 58, 3) := by decide +kernel
theorem dL_law_496 : decode cL_law 496 = .ok (.aload_n 2, 1) := by decide +kernel
theorem dL_law_497 : decode cL_law 497 = .ok (.aload_n 0, 1) := by decide +kernel
theorem dL_law_498 : decode cL_law 498 = .ok (.iload_n 3, 1) := by decide +kernel
theorem dL_law_499 : decode cL_law 499 = .ok (.iconst 1, 1) := by decide +kernel
theorem dL_law_500 : decode cL_law 500 = .ok (.iadd, 1) := by decide +kernel
theorem dL_law_501 : decode cL_law 501 = .ok (.iaload, 1) := by decide +kernel
theorem dL_law_502 : decode cL_law 502 = .ok (.aload_n 0, 1) := by decide +kernel
theorem dL_law_503 : decode cL_law 503 = .ok (.iload_n 3, 1) := by decide +kernel
theorem dL_law_504 : decode cL_law 504 = .ok (.iconst 2, 1) := by decide +kernel
theorem dL_law_505 : decode cL_law 505 = .ok (.iadd, 1) := by decide +kernel
theorem dL_law_506 : decode cL_law 506 = .ok (.iaload, 1) := by decide +kernel
theorem dL_law_507 : decode cL_law 507 = .ok (.invokevirtual 61, 3) := by decide +kernel
theorem dL_law_510 : decode cL_law 510 = .ok (.if_icmp .eq 863, 3) := by decide +kernel
theorem dL_law_513 : decode cL_law 513 = .ok (.iconst 0, 1) := by decide +kernel
theorem dL_law_514 : decode cL_law 514 = .ok (.ireturn, 1) := by decide +kernel
theorem dL_law_515 : decode cL_law 515 = .ok (.aload_n 1, 1) := by decide +kernel
theorem dL_law_516 : decode cL_law 516 = .ok (.aload_n 0, 1) := by decide +kernel
theorem dL_law_517 : decode cL_law 517 = .ok (.iload_n 3, 1) := by decide +kernel
theorem dL_law_518 : decode cL_law 518 = .ok (.iconst 1, 1) := by decide +kernel
theorem dL_law_519 : decode cL_law 519 = .ok (.iadd, 1) := by decide +kernel
theorem dL_law_520 : decode cL_law 520 = .ok (.iaload, 1) := by decide +kernel
theorem dL_law_521 : decode cL_law 521 = .ok (.aload_n 0, 1) := by decide +kernel
theorem dL_law_522 : decode cL_law 522 = .ok (.iload_n 3, 1) := by decide +kernel
theorem dL_law_523 : decode cL_law 523 = .ok (.iconst 2, 1) := by decide +kernel
theorem dL_law_524 : decode cL_law 524 = .ok (.iadd, 1) := by decide +kernel
theorem dL_law_525 : decode cL_law 525 = .ok (.iaload, 1) := by decide +kernel
theorem dL_law_526 : decode cL_law 526 = .ok (.invokevirtual 62, 3) := by decide +kernel
theorem dL_law_529 : decode cL_law 529 = .ok (.aload_n 2, 1) := by decide +kernel
theorem dL_law_530 : decode cL_law 530 = .ok (.aload_n 0, 1) := by decide +kernel
theorem dL_law_531 : decode cL_law 531 = .ok (.iload_n 3, 1) := by decide +kernel
theorem dL_law_532 : decode cL_law 532 = .ok (.iconst 1, 1) := by decide +kernel
theorem dL_law_533 : decode cL_law 533 = .ok (.iadd, 1) := by decide +kernel
theorem dL_law_534 : decode cL_law 534 = .ok (.iaload, 1) := by decide +kernel
theorem dL_law_535 : decode cL_law 535 = .ok (.aload_n 0, 1) := by decide +kernel
theorem dL_law_536 : decode cL_law 536 = .ok (.iload_n 3, 1) := by decide +kernel
theorem dL_law_537 : decode cL_law 537 = .ok (.iconst 2, 1) := by decide +kernel
theorem dL_law_538 : decode cL_law 538 = .ok (.iadd, 1) := by decide +kernel
theorem dL_law_539 : decode cL_law 539 = .ok (.iaload, 1) := by decide +kernel
theorem dL_law_540 : decode cL_law 540 = .ok (.invokevirtual 65, 3) := by decide +kernel
theorem dL_law_543 : decode cL_law 543 = .ok (.if_icmp .eq 830, 3) := by decide +kernel
theorem dL_law_546 : decode cL_law 546 = .ok (.iconst 0, 1) := by decide +kernel
theorem dL_law_547 : decode cL_law 547 = .ok (.ireturn, 1) := by decide +kernel
theorem dL_law_548 : decode cL_law 548 = .ok (.aload_n 1, 1) := by decide +kernel
theorem dL_law_549 : decode cL_law 549 = .ok (.aload_n 0, 1) := by decide +kernel
theorem dL_law_550 : decode cL_law 550 = .ok (.iload_n 3, 1) := by decide +kernel
theorem dL_law_551 : decode cL_law 551 = .ok (.iconst 1, 1) := by decide +kernel
theorem dL_law_552 : decode cL_law 552 = .ok (.iadd, 1) := by decide +kernel
theorem dL_law_553 : decode cL_law 553 = .ok (.iaload, 1) := by decide +kernel
theorem dL_law_554 : decode cL_law 554 = .ok (.aload_n 0, 1) := by decide +kernel
theorem dL_law_555 : decode cL_law 555 = .ok (.iload_n 3, 1) := by decide +kernel
theorem dL_law_556 : decode cL_law 556 = .ok (.iconst 2, 1) := by decide +kernel
theorem dL_law_557 : decode cL_law 557 = .ok (.iadd, 1) := by decide +kernel
theorem dL_law_558 : decode cL_law 558 = .ok (.iaload, 1) := by decide +kernel
theorem dL_law_559 : decode cL_law 559 = .ok (.invokevirtual 66, 3) := by decide +kernel
theorem dL_law_562 : decode cL_law 562 = .ok (.aload_n 2, 1) := by decide +kernel
theorem dL_law_563 : decode cL_law 563 = .ok (.aload_n 0, 1) := by decide +kernel
theorem dL_law_564 : decode cL_law 564 = .ok (.iload_n 3, 1) := by decide +kernel
theorem dL_law_565 : decode cL_law 565 = .ok (.iconst 1, 1) := by decide +kernel
theorem dL_law_566 : decode cL_law 566 = .ok (.iadd, 1) := by decide +kernel
theorem dL_law_567 : decode cL_law 567 = .ok (.iaload, 1) := by decide +kernel
theorem dL_law_568 : decode cL_law 568 = .ok (.aload_n 0, 1) := by decide +kernel
theorem dL_law_569 : decode cL_law 569 = .ok (.iload_n 3, 1) := by decide +kernel
theorem dL_law_570 : decode cL_law 570 = .ok (.iconst 2, 1) := by decide +kernel
theorem dL_law_571 : decode cL_law 571 = .ok (.iadd, 1) := by decide +kernel
theorem dL_law_572 : decode cL_law 572 = .ok (.iaload, 1) := by decide +kernel
theorem dL_law_573 : decode cL_law 573 = .ok (.invokevirtual 69, 3) := by decide +kernel
theorem dL_law_576 : decode cL_law 576 = .ok (.if_icmp .eq 797, 3) := by decide +kernel
theorem dL_law_579 : decode cL_law 579 = .ok (.iconst 0, 1) := by decide +kernel
theorem dL_law_580 : decode cL_law 580 = .ok (.ireturn, 1) := by decide +kernel
theorem dL_law_581 : decode cL_law 581 = .ok (.aload_n 1, 1) := by decide +kernel
theorem dL_law_582 : decode cL_law 582 = .ok (.aload_n 0, 1) := by decide +kernel
theorem dL_law_583 : decode cL_law 583 = .ok (.iload_n 3, 1) := by decide +kernel
theorem dL_law_584 : decode cL_law 584 = .ok (.iconst 1, 1) := by decide +kernel
theorem dL_law_585 : decode cL_law 585 = .ok (.iadd, 1) := by decide +kernel
theorem dL_law_586 : decode cL_law 586 = .ok (.iaload, 1) := by decide +kernel
theorem dL_law_587 : decode cL_law 587 = .ok (.aload_n 0, 1) := by decide +kernel
theorem dL_law_588 : decode cL_law 588 = .ok (.iload_n 3, 1) := by decide +kernel
theorem dL_law_589 : decode cL_law 589 = .ok (.iconst 2, 1) := by decide +kernel
theorem dL_law_590 : decode cL_law 590 = .ok (.iadd, 1) := by decide +kernel
theorem dL_law_591 : decode cL_law 591 = .ok (.iaload, 1) := by decide +kernel
theorem dL_law_592 : decode cL_law 592 = .ok (.invokevirtual 70, 3) := by decide +kernel
theorem dL_law_595 : decode cL_law 595 = .ok (.aload_n 2, 1) := by decide +kernel
theorem dL_law_596 : decode cL_law 596 = .ok (.aload_n 0, 1) := by decide +kernel
theorem dL_law_597 : decode cL_law 597 = .ok (.iload_n 3, 1) := by decide +kernel
theorem dL_law_598 : decode cL_law 598 = .ok (.iconst 1, 1) := by decide +kernel
theorem dL_law_599 : decode cL_law 599 = .ok (.iadd, 1) := by decide +kernel
theorem dL_law_600 : decode cL_law 600 = .ok (.iaload, 1) := by decide +kernel
theorem dL_law_601 : decode cL_law 601 = .ok (.aload_n 0, 1) := by decide +kernel
theorem dL_law_602 : decode cL_law 602 = .ok (.iload_n 3, 1) := by decide +kernel
theorem dL_law_603 : decode cL_law 603 = .ok (.iconst 2, 1) := by decide +kernel
theorem dL_law_604 : decode cL_law 604 = .ok (.iadd, 1) := by decide +kernel
theorem dL_law_605 : decode cL_law 605 = .ok (.iaload, 1) := by decide +kernel
theorem dL_law_606 : decode cL_law 606 = .ok (.invokevirtual 73, 3) := by decide +kernel
theorem dL_law_609 : decode cL_law 609 = .ok (.if_icmp .eq 764, 3) := by decide +kernel
theorem dL_law_612 : decode cL_law 612 = .ok (.iconst 0, 1) := by decide +kernel
theorem dL_law_613 : decode cL_law 613 = .ok (.ireturn, 1) := by decide +kernel
theorem dL_law_614 : decode cL_law 614 = .ok (.aload_n 1, 1) := by decide +kernel
theorem dL_law_615 : decode cL_law 615 = .ok (.aload_n 0, 1) := by decide +kernel
theorem dL_law_616 : decode cL_law 616 = .ok (.iload_n 3, 1) := by decide +kernel
theorem dL_law_617 : decode cL_law 617 = .ok (.iconst 1, 1) := by decide +kernel
theorem dL_law_618 : decode cL_law 618 = .ok (.iadd, 1) := by decide +kernel
theorem dL_law_619 : decode cL_law 619 = .ok (.iaload, 1) := by decide +kernel
theorem dL_law_620 : decode cL_law 620 = .ok (.aload_n 0, 1) := by decide +kernel
theorem dL_law_621 : decode cL_law 621 = .ok (.iload_n 3, 1) := by decide +kernel
theorem dL_law_622 : decode cL_law 622 = .ok (.iconst 2, 1) := by decide +kernel
theorem dL_law_623 : decode cL_law 623 = .ok (.iadd, 1) := by decide +kernel
theorem dL_law_624 : decode cL_law 624 = .ok (.iaload, 1) := by decide +kernel
theorem dL_law_625 : decode cL_law 625 = .ok (.aload_n 0, 1) := by decide +kernel
theorem dL_law_626 : decode cL_law 626 = .ok (.iload_n 3, 1) := by decide +kernel
theorem dL_law_627 : decode cL_law 627 = .ok (.iconst 3, 1) := by decide +kernel
theorem dL_law_628 : decode cL_law 628 = .ok (.iadd, 1) := by decide +kernel
theorem dL_law_629 : decode cL_law 629 = .ok (.iaload, 1) := by decide +kernel
theorem dL_law_630 : decode cL_law 630 = .ok (.invokevirtual 74, 3) := by decide +kernel
theorem dL_law_633 : decode cL_law 633 = .ok (.aload_n 2, 1) := by decide +kernel
theorem dL_law_634 : decode cL_law 634 = .ok (.aload_n 0, 1) := by decide +kernel
theorem dL_law_635 : decode cL_law 635 = .ok (.iload_n 3, 1) := by decide +kernel
theorem dL_law_636 : decode cL_law 636 = .ok (.iconst 1, 1) := by decide +kernel
theorem dL_law_637 : decode cL_law 637 = .ok (.iadd, 1) := by decide +kernel
theorem dL_law_638 : decode cL_law 638 = .ok (.iaload, 1) := by decide +kernel
theorem dL_law_639 : decode cL_law 639 = .ok (.aload_n 0, 1) := by decide +kernel
theorem dL_law_640 : decode cL_law 640 = .ok (.iload_n 3, 1) := by decide +kernel
theorem dL_law_641 : decode cL_law 641 = .ok (.iconst 2, 1) := by decide +kernel
theorem dL_law_642 : decode cL_law 642 = .ok (.iadd, 1) := by decide +kernel
theorem dL_law_643 : decode cL_law 643 = .ok (.iaload, 1) := by decide +kernel
theorem dL_law_644 : decode cL_law 644 = .ok (.aload_n 0, 1) := by decide +kernel
theorem dL_law_645 : decode cL_law 645 = .ok (.iload_n 3, 1) := by decide +kernel
theorem dL_law_646 : decode cL_law 646 = .ok (.iconst 3, 1) := by decide +kernel
theorem dL_law_647 : decode cL_law 647 = .ok (.iadd, 1) := by decide +kernel
theorem dL_law_648 : decode cL_law 648 = .ok (.iaload, 1) := by decide +kernel
theorem dL_law_649 : decode cL_law 649 = .ok (.invokevirtual 77, 3) := by decide +kernel
theorem dL_law_652 : decode cL_law 652 = .ok (.if_icmp .eq 721, 3) := by decide +kernel
theorem dL_law_655 : decode cL_law 655 = .ok (.iconst 0, 1) := by decide +kernel
theorem dL_law_656 : decode cL_law 656 = .ok (.ireturn, 1) := by decide +kernel
theorem dL_law_657 : decode cL_law 657 = .ok (.aload_n 1, 1) := by decide +kernel
theorem dL_law_658 : decode cL_law 658 = .ok (.aload_n 0, 1) := by decide +kernel
theorem dL_law_659 : decode cL_law 659 = .ok (.iload_n 3, 1) := by decide +kernel
theorem dL_law_660 : decode cL_law 660 = .ok (.iconst 1, 1) := by decide +kernel
theorem dL_law_661 : decode cL_law 661 = .ok (.iadd, 1) := by decide +kernel
theorem dL_law_662 : decode cL_law 662 = .ok (.iaload, 1) := by decide +kernel
theorem dL_law_663 : decode cL_law 663 = .ok (.invokevirtual 78, 3) := by decide +kernel
theorem dL_law_666 : decode cL_law 666 = .ok (.aload_n 2, 1) := by decide +kernel
theorem dL_law_667 : decode cL_law 667 = .ok (.aload_n 0, 1) := by decide +kernel
theorem dL_law_668 : decode cL_law 668 = .ok (.iload_n 3, 1) := by decide +kernel
theorem dL_law_669 : decode cL_law 669 = .ok (.iconst 1, 1) := by decide +kernel
theorem dL_law_670 : decode cL_law 670 = .ok (.iadd, 1) := by decide +kernel
theorem dL_law_671 : decode cL_law 671 = .ok (.iaload, 1) := by decide +kernel
theorem dL_law_672 : decode cL_law 672 = .ok (.invokevirtual 81, 3) := by decide +kernel
theorem dL_law_675 : decode cL_law 675 = .ok (.if_icmp .eq 698, 3) := by decide +kernel
theorem dL_law_678 : decode cL_law 678 = .ok (.iconst 0, 1) := by decide +kernel
theorem dL_law_679 : decode cL_law 679 = .ok (.ireturn, 1) := by decide +kernel
theorem dL_law_680 : decode cL_law 680 = .ok (.aload_n 1, 1) := by decide +kernel
theorem dL_law_681 : decode cL_law 681 = .ok (.aload_n 0, 1) := by decide +kernel
theorem dL_law_682 : decode cL_law 682 = .ok (.iload_n 3, 1) := by decide +kernel
theorem dL_law_683 : decode cL_law 683 = .ok (.iconst 1, 1) := by decide +kernel
theorem dL_law_684 : decode cL_law 684 = .ok (.iadd, 1) := by decide +kernel
theorem dL_law_685 : decode cL_law 685 = .ok (.iaload, 1) := by decide +kernel
theorem dL_law_686 : decode cL_law 686 = .ok (.aload_n 0, 1) := by decide +kernel
theorem dL_law_687 : decode cL_law 687 = .ok (.iload_n 3, 1) := by decide +kernel
theorem dL_law_688 : decode cL_law 688 = .ok (.iconst 2, 1) := by decide +kernel
theorem dL_law_689 : decode cL_law 689 = .ok (.iadd, 1) := by decide +kernel
theorem dL_law_690 : decode cL_law 690 = .ok (.iaload, 1) := by decide +kernel
theorem dL_law_691 : decode cL_law 691 = .ok (.invokevirtual 82, 3) := by decide +kernel
theorem dL_law_694 : decode cL_law 694 = .ok (.aload_n 2, 1) := by decide +kernel
theorem dL_law_695 : decode cL_law 695 = .ok (.aload_n 0, 1) := by decide +kernel
theorem dL_law_696 : decode cL_law 696 = .ok (.iload_n 3, 1) := by decide +kernel
theorem dL_law_697 : decode cL_law 697 = .ok (.iconst 1, 1) := by decide +kernel
theorem dL_law_698 : decode cL_law 698 = .ok (.iadd, 1) := by decide +kernel
theorem dL_law_699 : decode cL_law 699 = .ok (.iaload, 1) := by decide +kernel
theorem dL_law_700 : decode cL_law 700 = .ok (.aload_n 0, 1) := by decide +kernel
theorem dL_law_701 : decode cL_law 701 = .ok (.iload_n 3, 1) := by decide +kernel
theorem dL_law_702 : decode cL_law 702 = .ok (.iconst 2, 1) := by decide +kernel
theorem dL_law_703 : decode cL_law 703 = .ok (.iadd, 1) := by decide +kernel
theorem dL_law_704 : decode cL_law 704 = .ok (.iaload, 1) := by decide +kernel
theorem dL_law_705 : decode cL_law 705 = .ok (.invokevirtual 85, 3) := by decide +kernel
theorem dL_law_708 : decode cL_law 708 = .ok (.if_icmp .eq 665, 3) := by decide +kernel
theorem dL_law_711 : decode cL_law 711 = .ok (.iconst 0, 1) := by decide +kernel
theorem dL_law_712 : decode cL_law 712 = .ok (.ireturn, 1) := by decide +kernel
theorem dL_law_713 : decode cL_law 713 = .ok (.aload_n 1, 1) := by decide +kernel
theorem dL_law_714 : decode cL_law 714 = .ok (.aload_n 0, 1) := by decide +kernel
theorem dL_law_715 : decode cL_law 715 = .ok (.iload_n 3, 1) := by decide +kernel
theorem dL_law_716 : decode cL_law 716 = .ok (.iconst 1, 1) := by decide +kernel
theorem dL_law_717 : decode cL_law 717 = .ok (.iadd, 1) := by decide +kernel
theorem dL_law_718 : decode cL_law 718 = .ok (.iaload, 1) := by decide +kernel
theorem dL_law_719 : decode cL_law 719 = .ok (.aload_n 0, 1) := by decide +kernel
theorem dL_law_720 : decode cL_law 720 = .ok (.iload_n 3, 1) := by decide +kernel
theorem dL_law_721 : decode cL_law 721 = .ok (.iconst 2, 1) := by decide +kernel
theorem dL_law_722 : decode cL_law 722 = .ok (.iadd, 1) := by decide +kernel
theorem dL_law_723 : decode cL_law 723 = .ok (.iaload, 1) := by decide +kernel
theorem dL_law_724 : decode cL_law 724 = .ok (.invokevirtual 86, 3) := by decide +kernel
theorem dL_law_727 : decode cL_law 727 = .ok (.aload_n 2, 1) := by decide +kernel
theorem dL_law_728 : decode cL_law 728 = .ok (.aload_n 0, 1) := by decide +kernel
theorem dL_law_729 : decode cL_law 729 = .ok (.iload_n 3, 1) := by decide +kernel
theorem dL_law_730 : decode cL_law 730 = .ok (.iconst 1, 1) := by decide +kernel
theorem dL_law_731 : decode cL_law 731 = .ok (.iadd, 1) := by decide +kernel
theorem dL_law_732 : decode cL_law 732 = .ok (.iaload, 1) := by decide +kernel
theorem dL_law_733 : decode cL_law 733 = .ok (.aload_n 0, 1) := by decide +kernel
theorem dL_law_734 : decode cL_law 734 = .ok (.iload_n 3, 1) := by decide +kernel
theorem dL_law_735 : decode cL_law 735 = .ok (.iconst 2, 1) := by decide +kernel
theorem dL_law_736 : decode cL_law 736 = .ok (.iadd, 1) := by decide +kernel
theorem dL_law_737 : decode cL_law 737 = .ok (.iaload, 1) := by decide +kernel
theorem dL_law_738 : decode cL_law 738 = .ok (.invokevirtual 89, 3) := by decide +kernel
theorem dL_law_741 : decode cL_law 741 = .ok (.if_icmp .eq 632, 3) := by decide +kernel
theorem dL_law_744 : decode cL_law 744 = .ok (.iconst 0, 1) := by decide +kernel
theorem dL_law_745 : decode cL_law 745 = .ok (.ireturn, 1) := by decide +kernel
theorem dL_law_746 : decode cL_law 746 = .ok (.aload_n 1, 1) := by decide +kernel
theorem dL_law_747 : decode cL_law 747 = .ok (.aload_n 0, 1) := by decide +kernel
theorem dL_law_748 : decode cL_law 748 = .ok (.iload_n 3, 1) := by decide +kernel
theorem dL_law_749 : decode cL_law 749 = .ok (.iconst 1, 1) := by decide +kernel
theorem dL_law_750 : decode cL_law 750 = .ok (.iadd, 1) := by decide +kernel
theorem dL_law_751 : decode cL_law 751 = .ok (.iaload, 1) := by decide +kernel
theorem dL_law_752 : decode cL_law 752 = .ok (.aload_n 0, 1) := by decide +kernel
theorem dL_law_753 : decode cL_law 753 = .ok (.iload_n 3, 1) := by decide +kernel
theorem dL_law_754 : decode cL_law 754 = .ok (.iconst 2, 1) := by decide +kernel
theorem dL_law_755 : decode cL_law 755 = .ok (.iadd, 1) := by decide +kernel
theorem dL_law_756 : decode cL_law 756 = .ok (.iaload, 1) := by decide +kernel
theorem dL_law_757 : decode cL_law 757 = .ok (.invokevirtual 90, 3) := by decide +kernel
theorem dL_law_760 : decode cL_law 760 = .ok (.aload_n 2, 1) := by decide +kernel
theorem dL_law_761 : decode cL_law 761 = .ok (.aload_n 0, 1) := by decide +kernel
theorem dL_law_762 : decode cL_law 762 = .ok (.iload_n 3, 1) := by decide +kernel
theorem dL_law_763 : decode cL_law 763 = .ok (.iconst 1, 1) := by decide +kernel
theorem dL_law_764 : decode cL_law 764 = .ok (.iadd, 1) := by decide +kernel
theorem dL_law_765 : decode cL_law 765 = .ok (.iaload, 1) := by decide +kernel
theorem dL_law_766 : decode cL_law 766 = .ok (.aload_n 0, 1) := by decide +kernel
theorem dL_law_767 : decode cL_law 767 = .ok (.iload_n 3, 1) := by decide +kernel
theorem dL_law_768 : decode cL_law 768 = .ok (.iconst 2, 1) := by decide +kernel
theorem dL_law_769 : decode cL_law 769 = .ok (.iadd, 1) := by decide +kernel
theorem dL_law_770 : decode cL_law 770 = .ok (.iaload, 1) := by decide +kernel
theorem dL_law_771 : decode cL_law 771 = .ok (.invokevirtual 93, 3) := by decide +kernel
theorem dL_law_774 : decode cL_law 774 = .ok (.if_icmp .eq 599, 3) := by decide +kernel
theorem dL_law_777 : decode cL_law 777 = .ok (.iconst 0, 1) := by decide +kernel
theorem dL_law_778 : decode cL_law 778 = .ok (.ireturn, 1) := by decide +kernel
theorem dL_law_779 : decode cL_law 779 = .ok (.aload_n 1, 1) := by decide +kernel
theorem dL_law_780 : decode cL_law 780 = .ok (.aload_n 0, 1) := by decide +kernel
theorem dL_law_781 : decode cL_law 781 = .ok (.iload_n 3, 1) := by decide +kernel
theorem dL_law_782 : decode cL_law 782 = .ok (.iconst 1, 1) := by decide +kernel
theorem dL_law_783 : decode cL_law 783 = .ok (.iadd, 1) := by decide +kernel
theorem dL_law_784 : decode cL_law 784 = .ok (.iaload, 1) := by decide +kernel
theorem dL_law_785 : decode cL_law 785 = .ok (.aload_n 0, 1) := by decide +kernel
theorem dL_law_786 : decode cL_law 786 = .ok (.iload_n 3, 1) := by decide +kernel
theorem dL_law_787 : decode cL_law 787 = .ok (.iconst 2, 1) := by decide +kernel
theorem dL_law_788 : decode cL_law 788 = .ok (.iadd, 1) := by decide +kernel
theorem dL_law_789 : decode cL_law 789 = .ok (.iaload, 1) := by decide +kernel
theorem dL_law_790 : decode cL_law 790 = .ok (.aload_n 0, 1) := by decide +kernel
theorem dL_law_791 : decode cL_law 791 = .ok (.iload_n 3, 1) := by decide +kernel
theorem dL_law_792 : decode cL_law 792 = .ok (.iconst 3, 1) := by decide +kernel
theorem dL_law_793 : decode cL_law 793 = .ok (.iadd, 1) := by decide +kernel
theorem dL_law_794 : decode cL_law 794 = .ok (.iaload, 1) := by decide +kernel
theorem dL_law_795 : decode cL_law 795 = .ok (.invokevirtual 94, 3) := by decide +kernel
theorem dL_law_798 : decode cL_law 798 = .ok (.aload_n 2, 1) := by decide +kernel
theorem dL_law_799 : decode cL_law 799 = .ok (.aload_n 0, 1) := by decide +kernel
theorem dL_law_800 : decode cL_law 800 = .ok (.iload_n 3, 1) := by decide +kernel
theorem dL_law_801 : decode cL_law 801 = .ok (.iconst 1, 1) := by decide +kernel
theorem dL_law_802 : decode cL_law 802 = .ok (.iadd, 1) := by decide +kernel
theorem dL_law_803 : decode cL_law 803 = .ok (.iaload, 1) := by decide +kernel
theorem dL_law_804 : decode cL_law 804 = .ok (.aload_n 0, 1) := by decide +kernel
theorem dL_law_805 : decode cL_law 805 = .ok (.iload_n 3, 1) := by decide +kernel
theorem dL_law_806 : decode cL_law 806 = .ok (.iconst 2, 1) := by decide +kernel
theorem dL_law_807 : decode cL_law 807 = .ok (.iadd, 1) := by decide +kernel
theorem dL_law_808 : decode cL_law 808 = .ok (.iaload, 1) := by decide +kernel
theorem dL_law_809 : decode cL_law 809 = .ok (.aload_n 0, 1) := by decide +kernel
theorem dL_law_810 : decode cL_law 810 = .ok (.iload_n 3, 1) := by decide +kernel
theorem dL_law_811 : decode cL_law 811 = .ok (.iconst 3, 1) := by decide +kernel
theorem dL_law_812 : decode cL_law 812 = .ok (.iadd, 1) := by decide +kernel
theorem dL_law_813 : decode cL_law 813 = .ok (.iaload, 1) := by decide +kernel
theorem dL_law_814 : decode cL_law 814 = .ok (.invokevirtual 97, 3) := by decide +kernel
theorem dL_law_817 : decode cL_law 817 = .ok (.if_icmp .eq 556, 3) := by decide +kernel
theorem dL_law_820 : decode cL_law 820 = .ok (.iconst 0, 1) := by decide +kernel
theorem dL_law_821 : decode cL_law 821 = .ok (.ireturn, 1) := by decide +kernel
theorem dL_law_822 : decode cL_law 822 = .ok (.aload_n 1, 1) := by decide +kernel
theorem dL_law_823 : decode cL_law 823 = .ok (.aload_n 0, 1) := by decide +kernel
theorem dL_law_824 : decode cL_law 824 = .ok (.iload_n 3, 1) := by decide +kernel
theorem dL_law_825 : decode cL_law 825 = .ok (.iconst 1, 1) := by decide +kernel
theorem dL_law_826 : decode cL_law 826 = .ok (.iadd, 1) := by decide +kernel
theorem dL_law_827 : decode cL_law 827 = .ok (.iaload, 1) := by decide +kernel
theorem dL_law_828 : decode cL_law 828 = .ok (.aload_n 0, 1) := by decide +kernel
theorem dL_law_829 : decode cL_law 829 = .ok (.iload_n 3, 1) := by decide +kernel
theorem dL_law_830 : decode cL_law 830 = .ok (.iconst 2, 1) := by decide +kernel
theorem dL_law_831 : decode cL_law 831 = .ok (.iadd, 1) := by decide +kernel
theorem dL_law_832 : decode cL_law 832 = .ok (.iaload, 1) := by decide +kernel
theorem dL_law_833 : decode cL_law 833 = .ok (.invokevirtual 98, 3) := by decide +kernel
theorem dL_law_836 : decode cL_law 836 = .ok (.aload_n 2, 1) := by decide +kernel
theorem dL_law_837 : decode cL_law 837 = .ok (.aload_n 0, 1) := by decide +kernel
theorem dL_law_838 : decode cL_law 838 = .ok (.iload_n 3, 1) := by decide +kernel
theorem dL_law_839 : decode cL_law 839 = .ok (.iconst 1, 1) := by decide +kernel
theorem dL_law_840 : decode cL_law 840 = .ok (.iadd, 1) := by decide +kernel
theorem dL_law_841 : decode cL_law 841 = .ok (.iaload, 1) := by decide +kernel
theorem dL_law_842 : decode cL_law 842 = .ok (.aload_n 0, 1) := by decide +kernel
theorem dL_law_843 : decode cL_law 843 = .ok (.iload_n 3, 1) := by decide +kernel
theorem dL_law_844 : decode cL_law 844 = .ok (.iconst 2, 1) := by decide +kernel
theorem dL_law_845 : decode cL_law 845 = .ok (.iadd, 1) := by decide +kernel
theorem dL_law_846 : decode cL_law 846 = .ok (.iaload, 1) := by decide +kernel
theorem dL_law_847 : decode cL_law 847 = .ok (.invokevirtual 101, 3) := by decide +kernel
theorem dL_law_850 : decode cL_law 850 = .ok (.if_icmp .eq 523, 3) := by decide +kernel
theorem dL_law_853 : decode cL_law 853 = .ok (.iconst 0, 1) := by decide +kernel
theorem dL_law_854 : decode cL_law 854 = .ok (.ireturn, 1) := by decide +kernel
theorem dL_law_855 : decode cL_law 855 = .ok (.aload_n 1, 1) := by decide +kernel
theorem dL_law_856 : decode cL_law 856 = .ok (.aload_n 0, 1) := by decide +kernel
theorem dL_law_857 : decode cL_law 857 = .ok (.iload_n 3, 1) := by decide +kernel
theorem dL_law_858 : decode cL_law 858 = .ok (.iconst 1, 1) := by decide +kernel
theorem dL_law_859 : decode cL_law 859 = .ok (.iadd, 1) := by decide +kernel
theorem dL_law_860 : decode cL_law 860 = .ok (.iaload, 1) := by decide +kernel
theorem dL_law_861 : decode cL_law 861 = .ok (.aload_n 0, 1) := by decide +kernel
theorem dL_law_862 : decode cL_law 862 = .ok (.iload_n 3, 1) := by decide +kernel
theorem dL_law_863 : decode cL_law 863 = .ok (.iconst 2, 1) := by decide +kernel
theorem dL_law_864 : decode cL_law 864 = .ok (.iadd, 1) := by decide +kernel
theorem dL_law_865 : decode cL_law 865 = .ok (.iaload, 1) := by decide +kernel
theorem dL_law_866 : decode cL_law 866 = .ok (.aload_n 0, 1) := by decide +kernel
theorem dL_law_867 : decode cL_law 867 = .ok (.iload_n 3, 1) := by decide +kernel
theorem dL_law_868 : decode cL_law 868 = .ok (.iconst 3, 1) := by decide +kernel
theorem dL_law_869 : decode cL_law 869 = .ok (.iadd, 1) := by decide +kernel
theorem dL_law_870 : decode cL_law 870 = .ok (.iaload, 1) := by decide +kernel
theorem dL_law_871 : decode cL_law 871 = .ok (.invokevirtual 102, 3) := by decide +kernel
theorem dL_law_874 : decode cL_law 874 = .ok (.aload_n 2, 1) := by decide +kernel
theorem dL_law_875 : decode cL_law 875 = .ok (.aload_n 0, 1) := by decide +kernel
theorem dL_law_876 : decode cL_law 876 = .ok (.iload_n 3, 1) := by decide +kernel
theorem dL_law_877 : decode cL_law 877 = .ok (.iconst 1, 1) := by decide +kernel
theorem dL_law_878 : decode cL_law 878 = .ok (.iadd, 1) := by decide +kernel
theorem dL_law_879 : decode cL_law 879 = .ok (.iaload, 1) := by decide +kernel
theorem dL_law_880 : decode cL_law 880 = .ok (.aload_n 0, 1) := by decide +kernel
theorem dL_law_881 : decode cL_law 881 = .ok (.iload_n 3, 1) := by decide +kernel
theorem dL_law_882 : decode cL_law 882 = .ok (.iconst 2, 1) := by decide +kernel
theorem dL_law_883 : decode cL_law 883 = .ok (.iadd, 1) := by decide +kernel
theorem dL_law_884 : decode cL_law 884 = .ok (.iaload, 1) := by decide +kernel
theorem dL_law_885 : decode cL_law 885 = .ok (.aload_n 0, 1) := by decide +kernel
theorem dL_law_886 : decode cL_law 886 = .ok (.iload_n 3, 1) := by decide +kernel
theorem dL_law_887 : decode cL_law 887 = .ok (.iconst 3, 1) := by decide +kernel
theorem dL_law_888 : decode cL_law 888 = .ok (.iadd, 1) := by decide +kernel
theorem dL_law_889 : decode cL_law 889 = .ok (.iaload, 1) := by decide +kernel
theorem dL_law_890 : decode cL_law 890 = .ok (.invokevirtual 105, 3) := by decide +kernel
theorem dL_law_893 : decode cL_law 893 = .ok (.if_icmp .eq 480, 3) := by decide +kernel
theorem dL_law_896 : decode cL_law 896 = .ok (.iconst 0, 1) := by decide +kernel
theorem dL_law_897 : decode cL_law 897 = .ok (.ireturn, 1) := by decide +kernel
theorem dL_law_898 : decode cL_law 898 = .ok (.aload_n 1, 1) := by decide +kernel
theorem dL_law_899 : decode cL_law 899 = .ok (.aload_n 0, 1) := by decide +kernel
theorem dL_law_900 : decode cL_law 900 = .ok (.iload_n 3, 1) := by decide +kernel
theorem dL_law_901 : decode cL_law 901 = .ok (.iconst 1, 1) := by decide +kernel
theorem dL_law_902 : decode cL_law 902 = .ok (.iadd, 1) := by decide +kernel
theorem dL_law_903 : decode cL_law 903 = .ok (.iaload, 1) := by decide +kernel
theorem dL_law_904 : decode cL_law 904 = .ok (.aload_n 0, 1) := by decide +kernel
theorem dL_law_905 : decode cL_law 905 = .ok (.iload_n 3, 1) := by decide +kernel
theorem dL_law_906 : decode cL_law 906 = .ok (.iconst 2, 1) := by decide +kernel
theorem dL_law_907 : decode cL_law 907 = .ok (.iadd, 1) := by decide +kernel
theorem dL_law_908 : decode cL_law 908 = .ok (.iaload, 1) := by decide +kernel
theorem dL_law_909 : decode cL_law 909 = .ok (.aload_n 0, 1) := by decide +kernel
theorem dL_law_910 : decode cL_law 910 = .ok (.iload_n 3, 1) := by decide +kernel
theorem dL_law_911 : decode cL_law 911 = .ok (.iconst 3, 1) := by decide +kernel
theorem dL_law_912 : decode cL_law 912 = .ok (.iadd, 1) := by decide +kernel
theorem dL_law_913 : decode cL_law 913 = .ok (.iaload, 1) := by decide +kernel
theorem dL_law_914 : decode cL_law 914 = .ok (.aload_n 0, 1) := by decide +kernel
theorem dL_law_915 : decode cL_law 915 = .ok (.iload_n 3, 1) := by decide +kernel
theorem dL_law_916 : decode cL_law 916 = .ok (.iconst 4, 1) := by decide +kernel
theorem dL_law_917 : decode cL_law 917 = .ok (.iadd, 1) := by decide +kernel
theorem dL_law_918 : decode cL_law 918 = .ok (.iaload, 1) := by decide +kernel
theorem dL_law_919 : decode cL_law 919 = .ok (.aload_n 0, 1) := by decide +kernel
theorem dL_law_920 : decode cL_law 920 = .ok (.iload_n 3, 1) := by decide +kernel
theorem dL_law_921 : decode cL_law 921 = .ok (.iconst 5, 1) := by decide +kernel
theorem dL_law_922 : decode cL_law 922 = .ok (.iadd, 1) := by decide +kernel
theorem dL_law_923 : decode cL_law 923 = .ok (.iaload, 1) := by decide +kernel
theorem dL_law_924 : decode cL_law 924 = .ok (.aload_n 0, 1) := by decide +kernel
theorem dL_law_925 : decode cL_law 925 = .ok (.iload_n 3, 1) := by decide +kernel
theorem dL_law_926 : decode cL_law 926 = .ok (.bipush 6, 2) := by decide +kernel
theorem dL_law_928 : decode cL_law 928 = .ok (.iadd, 1) := by decide +kernel
theorem dL_law_929 : decode cL_law 929 = .ok (.iaload, 1) := by decide +kernel
theorem dL_law_930 : decode cL_law 930 = .ok (.invokevirtual 106, 3) := by decide +kernel
theorem dL_law_933 : decode cL_law 933 = .ok (.aload_n 2, 1) := by decide +kernel
theorem dL_law_934 : decode cL_law 934 = .ok (.aload_n 0, 1) := by decide +kernel
theorem dL_law_935 : decode cL_law 935 = .ok (.iload_n 3, 1) := by decide +kernel
theorem dL_law_936 : decode cL_law 936 = .ok (.iconst 1, 1) := by decide +kernel
theorem dL_law_937 : decode cL_law 937 = .ok (.iadd, 1) := by decide +kernel
theorem dL_law_938 : decode cL_law 938 = .ok (.iaload, 1) := by decide +kernel
theorem dL_law_939 : decode cL_law 939 = .ok (.aload_n 0, 1) := by decide +kernel
theorem dL_law_940 : decode cL_law 940 = .ok (.iload_n 3, 1) := by decide +kernel
theorem dL_law_941 : decode cL_law 941 = .ok (.iconst 2, 1) := by decide +kernel
theorem dL_law_942 : decode cL_law 942 = .ok (.iadd, 1) := by decide +kernel
theorem dL_law_943 : decode cL_law 943 = .ok (.iaload, 1) := by decide +kernel
theorem dL_law_944 : decode cL_law 944 = .ok (.aload_n 0, 1) := by decide +kernel
theorem dL_law_945 : decode cL_law 945 = .ok (.iload_n 3, 1) := by decide +kernel
theorem dL_law_946 : decode cL_law 946 = .ok (.iconst 3, 1) := by decide +kernel
theorem dL_law_947 : decode cL_law 947 = .ok (.iadd, 1) := by decide +kernel
theorem dL_law_948 : decode cL_law 948 = .ok (.iaload, 1) := by decide +kernel
theorem dL_law_949 : decode cL_law 949 = .ok (.aload_n 0, 1) := by decide +kernel
theorem dL_law_950 : decode cL_law 950 = .ok (.iload_n 3, 1) := by decide +kernel
theorem dL_law_951 : decode cL_law 951 = .ok (.iconst 4, 1) := by decide +kernel
theorem dL_law_952 : decode cL_law 952 = .ok (.iadd, 1) := by decide +kernel
theorem dL_law_953 : decode cL_law 953 = .ok (.iaload, 1) := by decide +kernel
theorem dL_law_954 : decode cL_law 954 = .ok (.aload_n 0, 1) := by decide +kernel
theorem dL_law_955 : decode cL_law 955 = .ok (.iload_n 3, 1) := by decide +kernel
theorem dL_law_956 : decode cL_law 956 = .ok (.iconst 5, 1) := by decide +kernel
theorem dL_law_957 : decode cL_law 957 = .ok (.iadd, 1) := by decide +kernel
theorem dL_law_958 : decode cL_law 958 = .ok (.iaload, 1) := by decide +kernel
theorem dL_law_959 : decode cL_law 959 = .ok (.aload_n 0, 1) := by decide +kernel
theorem dL_law_960 : decode cL_law 960 = .ok (.iload_n 3, 1) := by decide +kernel
theorem dL_law_961 : decode cL_law 961 = .ok (.bipush 6, 2) := by decide +kernel
theorem dL_law_963 : decode cL_law 963 = .ok (.iadd, 1) := by decide +kernel
theorem dL_law_964 : decode cL_law 964 = .ok (.iaload, 1) := by decide +kernel
theorem dL_law_965 : decode cL_law 965 = .ok (.invokevirtual 110, 3) := by decide +kernel
theorem dL_law_968 : decode cL_law 968 = .ok (.if_icmp .eq 405, 3) := by decide +kernel
theorem dL_law_971 : decode cL_law 971 = .ok (.iconst 0, 1) := by decide +kernel
theorem dL_law_972 : decode cL_law 972 = .ok (.ireturn, 1) := by decide +kernel
theorem dL_law_973 : decode cL_law 973 = .ok (.aload_n 1, 1) := by decide +kernel
theorem dL_law_974 : decode cL_law 974 = .ok (.aload_n 0, 1) := by decide +kernel
theorem dL_law_975 : decode cL_law 975 = .ok (.iload_n 3, 1) := by decide +kernel
theorem dL_law_976 : decode cL_law 976 = .ok (.iconst 1, 1) := by decide +kernel
theorem dL_law_977 : decode cL_law 977 = .ok (.iadd, 1) := by decide +kernel
theorem dL_law_978 : decode cL_law 978 = .ok (.iaload, 1) := by decide +kernel
theorem dL_law_979 : decode cL_law 979 = .ok (.aload_n 0, 1) := by decide +kernel
theorem dL_law_980 : decode cL_law 980 = .ok (.iload_n 3, 1) := by decide +kernel
theorem dL_law_981 : decode cL_law 981 = .ok (.iconst 2, 1) := by decide +kernel
theorem dL_law_982 : decode cL_law 982 = .ok (.iadd, 1) := by decide +kernel
theorem dL_law_983 : decode cL_law 983 = .ok (.iaload, 1) := by decide +kernel
theorem dL_law_984 : decode cL_law 984 = .ok (.aload_n 0, 1) := by decide +kernel
theorem dL_law_985 : decode cL_law 985 = .ok (.iload_n 3, 1) := by decide +kernel
theorem dL_law_986 : decode cL_law 986 = .ok (.iconst 3, 1) := by decide +kernel
theorem dL_law_987 : decode cL_law 987 = .ok (.iadd, 1) := by decide +kernel
theorem dL_law_988 : decode cL_law 988 = .ok (.iaload, 1) := by decide +kernel
theorem dL_law_989 : decode cL_law 989 = .ok (.aload_n 0, 1) := by decide +kernel
theorem dL_law_990 : decode cL_law 990 = .ok (.iload_n 3, 1) := by decide +kernel
theorem dL_law_991 : decode cL_law 991 = .ok (.iconst 4, 1) := by decide +kernel
theorem dL_law_992 : decode cL_law 992 = .ok (.iadd, 1) := by decide +kernel
theorem dL_law_993 : decode cL_law 993 = .ok (.iaload, 1) := by decide +kernel
theorem dL_law_994 : decode cL_law 994 = .ok (.invokevirtual 111, 3) := by decide +kernel
theorem dL_law_997 : decode cL_law 997 = .ok (.aload_n 2, 1) := by decide +kernel
theorem dL_law_998 : decode cL_law 998 = .ok (.aload_n 0, 1) := by decide +kernel
theorem dL_law_999 : decode cL_law 999 = .ok (.iload_n 3, 1) := by decide +kernel
theorem dL_law_1000 : decode cL_law 1000 = .ok (.iconst 1, 1) := by decide +kernel
theorem dL_law_1001 : decode cL_law 1001 = .ok (.iadd, 1) := by decide +kernel
theorem dL_law_1002 : decode cL_law 1002 = .ok (.iaload, 1) := by decide +kernel
theorem dL_law_1003 : decode cL_law 1003 = .ok (.aload_n 0, 1) := by decide +kernel
theorem dL_law_1004 : decode cL_law 1004 = .ok (.iload_n 3, 1) := by decide +kernel
theorem dL_law_1005 : decode cL_law 1005 = .ok (.iconst 2, 1) := by decide +kernel
theorem dL_law_1006 : decode cL_law 1006 = .ok (.iadd, 1) := by decide +kernel
theorem dL_law_1007 : decode cL_law 1007 = .ok (.iaload, 1) := by decide +kernel
theorem dL_law_1008 : decode cL_law 1008 = .ok (.aload_n 0, 1) := by decide +kernel
theorem dL_law_1009 : decode cL_law 1009 = .ok (.iload_n 3, 1) := by decide +kernel
theorem dL_law_1010 : decode cL_law 1010 = .ok (.iconst 3, 1) := by decide +kernel
theorem dL_law_1011 : decode cL_law 1011 = .ok (.iadd, 1) := by decide +kernel
theorem dL_law_1012 : decode cL_law 1012 = .ok (.iaload, 1) := by decide +kernel
theorem dL_law_1013 : decode cL_law 1013 = .ok (.aload_n 0, 1) := by decide +kernel
theorem dL_law_1014 : decode cL_law 1014 = .ok (.iload_n 3, 1) := by decide +kernel
theorem dL_law_1015 : decode cL_law 1015 = .ok (.iconst 4, 1) := by decide +kernel
theorem dL_law_1016 : decode cL_law 1016 = .ok (.iadd, 1) := by decide +kernel
theorem dL_law_1017 : decode cL_law 1017 = .ok (.iaload, 1) := by decide +kernel
theorem dL_law_1018 : decode cL_law 1018 = .ok (.invokevirtual 115, 3) := by decide +kernel
theorem dL_law_1021 : decode cL_law 1021 = .ok (.if_icmp .eq 352, 3) := by decide +kernel
theorem dL_law_1024 : decode cL_law 1024 = .ok (.iconst 0, 1) := by decide +kernel
theorem dL_law_1025 : decode cL_law 1025 = .ok (.ireturn, 1) := by decide +kernel
theorem dL_law_1026 : decode cL_law 1026 = .ok (.aload_n 1, 1) := by decide +kernel
theorem dL_law_1027 : decode cL_law 1027 = .ok (.aload_n 0, 1) := by decide +kernel
theorem dL_law_1028 : decode cL_law 1028 = .ok (.iload_n 3, 1) := by decide +kernel
theorem dL_law_1029 : decode cL_law 1029 = .ok (.iconst 1, 1) := by decide +kernel
theorem dL_law_1030 : decode cL_law 1030 = .ok (.iadd, 1) := by decide +kernel
theorem dL_law_1031 : decode cL_law 1031 = .ok (.iaload, 1) := by decide +kernel
theorem dL_law_1032 : decode cL_law 1032 = .ok (.aload_n 0, 1) := by decide +kernel
theorem dL_law_1033 : decode cL_law 1033 = .ok (.iload_n 3, 1) := by decide +kernel
theorem dL_law_1034 : decode cL_law 1034 = .ok (.iconst 2, 1) := by decide +kernel
theorem dL_law_1035 : decode cL_law 1035 = .ok (.iadd, 1) := by decide +kernel
theorem dL_law_1036 : decode cL_law 1036 = .ok (.iaload, 1) := by decide +kernel
theorem dL_law_1037 : decode cL_law 1037 = .ok (.aload_n 0, 1) := by decide +kernel
theorem dL_law_1038 : decode cL_law 1038 = .ok (.iload_n 3, 1) := by decide +kernel
theorem dL_law_1039 : decode cL_law 1039 = .ok (.iconst 3, 1) := by decide +kernel
theorem dL_law_1040 : decode cL_law 1040 = .ok (.iadd, 1) := by decide +kernel
theorem dL_law_1041 : decode cL_law 1041 = .ok (.iaload, 1) := by decide +kernel
theorem dL_law_1042 : decode cL_law 1042 = .ok (.aload_n 0, 1) := by decide +kernel
theorem dL_law_1043 : decode cL_law 1043 = .ok (.iload_n 3, 1) := by decide +kernel
theorem dL_law_1044 : decode cL_law 1044 = .ok (.iconst 4, 1) := by decide +kernel
theorem dL_law_1045 : decode cL_law 1045 = .ok (.iadd, 1) := by decide +kernel
theorem dL_law_1046 : decode cL_law 1046 = .ok (.iaload, 1) := by decide +kernel
theorem dL_law_1047 : decode cL_law 1047 = .ok (.invokevirtual 116, 3) := by decide +kernel
theorem dL_law_1050 : decode cL_law 1050 = .ok (.aload_n 2, 1) := by decide +kernel
theorem dL_law_1051 : decode cL_law 1051 = .ok (.aload_n 0, 1) := by decide +kernel
theorem dL_law_1052 : decode cL_law 1052 = .ok (.iload_n 3, 1) := by decide +kernel
theorem dL_law_1053 : decode cL_law 1053 = .ok (.iconst 1, 1) := by decide +kernel
theorem dL_law_1054 : decode cL_law 1054 = .ok (.iadd, 1) := by decide +kernel
theorem dL_law_1055 : decode cL_law 1055 = .ok (.iaload, 1) := by decide +kernel
theorem dL_law_1056 : decode cL_law 1056 = .ok (.aload_n 0, 1) := by decide +kernel
theorem dL_law_1057 : decode cL_law 1057 = .ok (.iload_n 3, 1) := by decide +kernel
theorem dL_law_1058 : decode cL_law 1058 = .ok (.iconst 2, 1) := by decide +kernel
theorem dL_law_1059 : decode cL_law 1059 = .ok (.iadd, 1) := by decide +kernel
theorem dL_law_1060 : decode cL_law 1060 = .ok (.iaload, 1) := by decide +kernel
theorem dL_law_1061 : decode cL_law 1061 = .ok (.aload_n 0, 1) := by decide +kernel
theorem dL_law_1062 : decode cL_law 1062 = .ok (.iload_n 3, 1) := by decide +kernel
theorem dL_law_1063 : decode cL_law 1063 = .ok (.iconst 3, 1) := by decide +kernel
theorem dL_law_1064 : decode cL_law 1064 = .ok (.iadd, 1) := by decide +kernel
theorem dL_law_1065 : decode cL_law 1065 = .ok (.iaload, 1) := by decide +kernel
theorem dL_law_1066 : decode cL_law 1066 = .ok (.aload_n 0, 1) := by decide +kernel
theorem dL_law_1067 : decode cL_law 1067 = .ok (.iload_n 3, 1) := by decide +kernel
theorem dL_law_1068 : decode cL_law 1068 = .ok (.iconst 4, 1) := by decide +kernel
theorem dL_law_1069 : decode cL_law 1069 = .ok (.iadd, 1) := by decide +kernel
theorem dL_law_1070 : decode cL_law 1070 = .ok (.iaload, 1) := by decide +kernel
theorem dL_law_1071 : decode cL_law 1071 = .ok (.invokevirtual 119, 3) := by decide +kernel
theorem dL_law_1074 : decode cL_law 1074 = .ok (.if_icmp .eq 299, 3) := by decide +kernel
theorem dL_law_1077 : decode cL_law 1077 = .ok (.iconst 0, 1) := by decide +kernel
theorem dL_law_1078 : decode cL_law 1078 = .ok (.ireturn, 1) := by decide +kernel
theorem dL_law_1079 : decode cL_law 1079 = .ok (.aload_n 1, 1) := by decide +kernel
theorem dL_law_1080 : decode cL_law 1080 = .ok (.aload_n 0, 1) := by decide +kernel
theorem dL_law_1081 : decode cL_law 1081 = .ok (.iload_n 3, 1) := by decide +kernel
theorem dL_law_1082 : decode cL_law 1082 = .ok (.iconst 1, 1) := by decide +kernel
theorem dL_law_1083 : decode cL_law 1083 = .ok (.iadd, 1) := by decide +kernel
theorem dL_law_1084 : decode cL_law 1084 = .ok (.iaload, 1) := by decide +kernel
theorem dL_law_1085 : decode cL_law 1085 = .ok (.aload_n 0, 1) := by decide +kernel
theorem dL_law_1086 : decode cL_law 1086 = .ok (.iload_n 3, 1) := by decide +kernel
theorem dL_law_1087 : decode cL_law 1087 = .ok (.iconst 2, 1) := by decide +kernel
theorem dL_law_1088 : decode cL_law 1088 = .ok (.iadd, 1) := by decide +kernel
theorem dL_law_1089 : decode cL_law 1089 = .ok (.iaload, 1) := by decide +kernel
theorem dL_law_1090 : decode cL_law 1090 = .ok (.invokevirtual 120, 3) := by decide +kernel
theorem dL_law_1093 : decode cL_law 1093 = .ok (.aload_n 2, 1) := by decide +kernel
theorem dL_law_1094 : decode cL_law 1094 = .ok (.aload_n 0, 1) := by decide +kernel
theorem dL_law_1095 : decode cL_law 1095 = .ok (.iload_n 3, 1) := by decide +kernel
theorem dL_law_1096 : decode cL_law 1096 = .ok (.iconst 1, 1) := by decide +kernel
theorem dL_law_1097 : decode cL_law 1097 = .ok (.iadd, 1) := by decide +kernel
theorem dL_law_1098 : decode cL_law 1098 = .ok (.iaload, 1) := by decide +kernel
theorem dL_law_1099 : decode cL_law 1099 = .ok (.aload_n 0, 1) := by decide +kernel
theorem dL_law_1100 : decode cL_law 1100 = .ok (.iload_n 3, 1) := by decide +kernel
theorem dL_law_1101 : decode cL_law 1101 = .ok (.iconst 2, 1) := by decide +kernel
theorem dL_law_1102 : decode cL_law 1102 = .ok (.iadd, 1) := by decide +kernel
theorem dL_law_1103 : decode cL_law 1103 = .ok (.iaload, 1) := by decide +kernel
theorem dL_law_1104 : decode cL_law 1104 = .ok (.invokevirtual 123, 3) := by decide +kernel
theorem dL_law_1107 : decode cL_law 1107 = .ok (.if_icmp .eq 266, 3) := by decide +kernel
theorem dL_law_1110 : decode cL_law 1110 = .ok (.iconst 0, 1) := by decide +kernel
theorem dL_law_1111 : decode cL_law 1111 = .ok (.ireturn, 1) := by decide +kernel
theorem dL_law_1112 : decode cL_law 1112 = .ok (.aload_n 1, 1) := by decide +kernel
theorem dL_law_1113 : decode cL_law 1113 = .ok (.aload_n 0, 1) := by decide +kernel
theorem dL_law_1114 : decode cL_law 1114 = .ok (.iload_n 3, 1) := by decide +kernel
theorem dL_law_1115 : decode cL_law 1115 = .ok (.iconst 1, 1) := by decide +kernel
theorem dL_law_1116 : decode cL_law 1116 = .ok (.iadd, 1) := by decide +kernel
theorem dL_law_1117 : decode cL_law 1117 = .ok (.iaload, 1) := by decide +kernel
theorem dL_law_1118 : decode cL_law 1118 = .ok (.aload_n 0, 1) := by decide +kernel
theorem dL_law_1119 : decode cL_law 1119 = .ok (.iload_n 3, 1) := by decide +kernel
theorem dL_law_1120 : decode cL_law 1120 = .ok (.iconst 2, 1) := by decide +kernel
theorem dL_law_1121 : decode cL_law 1121 = .ok (.iadd, 1) := by decide +kernel
theorem dL_law_1122 : decode cL_law 1122 = .ok (.iaload, 1) := by decide +kernel
theorem dL_law_1123 : decode cL_law 1123 = .ok (.aload_n 0, 1) := by decide +kernel
theorem dL_law_1124 : decode cL_law 1124 = .ok (.iload_n 3, 1) := by decide +kernel
theorem dL_law_1125 : decode cL_law 1125 = .ok (.iconst 3, 1) := by decide +kernel
theorem dL_law_1126 : decode cL_law 1126 = .ok (.iadd, 1) := by decide +kernel
theorem dL_law_1127 : decode cL_law 1127 = .ok (.iaload, 1) := by decide +kernel
theorem dL_law_1128 : decode cL_law 1128 = .ok (.invokevirtual 124, 3) := by decide +kernel
theorem dL_law_1131 : decode cL_law 1131 = .ok (.aload_n 2, 1) := by decide +kernel
theorem dL_law_1132 : decode cL_law 1132 = .ok (.aload_n 0, 1) := by decide +kernel
theorem dL_law_1133 : decode cL_law 1133 = .ok (.iload_n 3, 1) := by decide +kernel
theorem dL_law_1134 : decode cL_law 1134 = .ok (.iconst 1, 1) := by decide +kernel
theorem dL_law_1135 : decode cL_law 1135 = .ok (.iadd, 1) := by decide +kernel
theorem dL_law_1136 : decode cL_law 1136 = .ok (.iaload, 1) := by decide +kernel
theorem dL_law_1137 : decode cL_law 1137 = .ok (.aload_n 0, 1) := by decide +kernel
theorem dL_law_1138 : decode cL_law 1138 = .ok (.iload_n 3, 1) := by decide +kernel
theorem dL_law_1139 : decode cL_law 1139 = .ok (.iconst 2, 1) := by decide +kernel
theorem dL_law_1140 : decode cL_law 1140 = .ok (.iadd, 1) := by decide +kernel
theorem dL_law_1141 : decode cL_law 1141 = .ok (.iaload, 1) := by decide +kernel
theorem dL_law_1142 : decode cL_law 1142 = .ok (.aload_n 0, 1) := by decide +kernel
theorem dL_law_1143 : decode cL_law 1143 = .ok (.iload_n 3, 1) := by decide +kernel
theorem dL_law_1144 : decode cL_law 1144 = .ok (.iconst 3, 1) := by decide +kernel
theorem dL_law_1145 : decode cL_law 1145 = .ok (.iadd, 1) := by decide +kernel
theorem dL_law_1146 : decode cL_law 1146 = .ok (.iaload, 1) := by decide +kernel
theorem dL_law_1147 : decode cL_law 1147 = .ok (.invokevirtual 128, 3) := by decide +kernel
theorem dL_law_1150 : decode cL_law 1150 = .ok (.lcmp, 1) := by decide +kernel
theorem dL_law_1151 : decode cL_law 1151 = .ok (.ifCond .eq 222, 3) := by decide +kernel
theorem dL_law_1154 : decode cL_law 1154 = .ok (.iconst 0, 1) := by decide +kernel
theorem dL_law_1155 : decode cL_law 1155 = .ok (.ireturn, 1) := by decide +kernel
theorem dL_law_1156 : decode cL_law 1156 = .ok (.aload_n 1, 1) := by decide +kernel
theorem dL_law_1157 : decode cL_law 1157 = .ok (.aload_n 0, 1) := by decide +kernel
theorem dL_law_1158 : decode cL_law 1158 = .ok (.iload_n 3, 1) := by decide +kernel
theorem dL_law_1159 : decode cL_law 1159 = .ok (.iconst 1, 1) := by decide +kernel
theorem dL_law_1160 : decode cL_law 1160 = .ok (.iadd, 1) := by decide +kernel
theorem dL_law_1161 : decode cL_law 1161 = .ok (.iaload, 1) := by decide +kernel
theorem dL_law_1162 : decode cL_law 1162 = .ok (.invokevirtual 129, 3) := by decide +kernel
theorem dL_law_1165 : decode cL_law 1165 = .ok (.aload_n 2, 1) := by decide +kernel
theorem dL_law_1166 : decode cL_law 1166 = .ok (.aload_n 0, 1) := by decide +kernel
theorem dL_law_1167 : decode cL_law 1167 = .ok (.iload_n 3, 1) := by decide +kernel
theorem dL_law_1168 : decode cL_law 1168 = .ok (.iconst 1, 1) := by decide +kernel
theorem dL_law_1169 : decode cL_law 1169 = .ok (.iadd, 1) := by decide +kernel
theorem dL_law_1170 : decode cL_law 1170 = .ok (.iaload, 1) := by decide +kernel
theorem dL_law_1171 : decode cL_law 1171 = .ok (.invokevirtual 132, 3) := by decide +kernel
theorem dL_law_1174 : decode cL_law 1174 = .ok (.if_icmp .eq 199, 3) := by decide +kernel
theorem dL_law_1177 : decode cL_law 1177 = .ok (.iconst 0, 1) := by decide +kernel
theorem dL_law_1178 : decode cL_law 1178 = .ok (.ireturn, 1) := by decide +kernel
theorem dL_law_1179 : decode cL_law 1179 = .ok (.aload_n 1, 1) := by decide +kernel
theorem dL_law_1180 : decode cL_law 1180 = .ok (.aload_n 0, 1) := by decide +kernel
theorem dL_law_1181 : decode cL_law 1181 = .ok (.iload_n 3, 1) := by decide +kernel
theorem dL_law_1182 : decode cL_law 1182 = .ok (.iconst 1, 1) := by decide +kernel
theorem dL_law_1183 : decode cL_law 1183 = .ok (.iadd, 1) := by decide +kernel
theorem dL_law_1184 : decode cL_law 1184 = .ok (.iaload, 1) := by decide +kernel
theorem dL_law_1185 : decode cL_law 1185 = .ok (.invokevirtual 133, 3) := by decide +kernel
theorem dL_law_1188 : decode cL_law 1188 = .ok (.aload_n 2, 1) := by decide +kernel
theorem dL_law_1189 : decode cL_law 1189 = .ok (.aload_n 0, 1) := by decide +kernel
theorem dL_law_1190 : decode cL_law 1190 = .ok (.iload_n 3, 1) := by decide +kernel
theorem dL_law_1191 : decode cL_law 1191 = .ok (.iconst 1, 1) := by decide +kernel
theorem dL_law_1192 : decode cL_law 1192 = .ok (.iadd, 1) := by decide +kernel
theorem dL_law_1193 : decode cL_law 1193 = .ok (.iaload, 1) := by decide +kernel
theorem dL_law_1194 : decode cL_law 1194 = .ok (.invokevirtual 136, 3) := by decide +kernel
theorem dL_law_1197 : decode cL_law 1197 = .ok (.if_icmp .eq 176, 3) := by decide +kernel
theorem dL_law_1200 : decode cL_law 1200 = .ok (.iconst 0, 1) := by decide +kernel
theorem dL_law_1201 : decode cL_law 1201 = .ok (.ireturn, 1) := by decide +kernel
theorem dL_law_1202 : decode cL_law 1202 = .ok (.aload_n 1, 1) := by decide +kernel
theorem dL_law_1203 : decode cL_law 1203 = .ok (.aload_n 0, 1) := by decide +kernel
theorem dL_law_1204 : decode cL_law 1204 = .ok (.iload_n 3, 1) := by decide +kernel
theorem dL_law_1205 : decode cL_law 1205 = .ok (.iconst 1, 1) := by decide +kernel
theorem dL_law_1206 : decode cL_law 1206 = .ok (.iadd, 1) := by decide +kernel
theorem dL_law_1207 : decode cL_law 1207 = .ok (.iaload, 1) := by decide +kernel
theorem dL_law_1208 : decode cL_law 1208 = .ok (.invokevirtual 137, 3) := by decide +kernel
theorem dL_law_1211 : decode cL_law 1211 = .ok (.aload_n 2, 1) := by decide +kernel
theorem dL_law_1212 : decode cL_law 1212 = .ok (.aload_n 0, 1) := by decide +kernel
theorem dL_law_1213 : decode cL_law 1213 = .ok (.iload_n 3, 1) := by decide +kernel
theorem dL_law_1214 : decode cL_law 1214 = .ok (.iconst 1, 1) := by decide +kernel
theorem dL_law_1215 : decode cL_law 1215 = .ok (.iadd, 1) := by decide +kernel
theorem dL_law_1216 : decode cL_law 1216 = .ok (.iaload, 1) := by decide +kernel
theorem dL_law_1217 : decode cL_law 1217 = .ok (.invokevirtual 140, 3) := by decide +kernel
theorem dL_law_1220 : decode cL_law 1220 = .ok (.if_icmp .eq 153, 3) := by decide +kernel
theorem dL_law_1223 : decode cL_law 1223 = .ok (.iconst 0, 1) := by decide +kernel
theorem dL_law_1224 : decode cL_law 1224 = .ok (.ireturn, 1) := by decide +kernel
theorem dL_law_1225 : decode cL_law 1225 = .ok (.aload_n 1, 1) := by decide +kernel
theorem dL_law_1226 : decode cL_law 1226 = .ok (.aload_n 0, 1) := by decide +kernel
theorem dL_law_1227 : decode cL_law 1227 = .ok (.iload_n 3, 1) := by decide +kernel
theorem dL_law_1228 : decode cL_law 1228 = .ok (.iconst 1, 1) := by decide +kernel
theorem dL_law_1229 : decode cL_law 1229 = .ok (.iadd, 1) := by decide +kernel
theorem dL_law_1230 : decode cL_law 1230 = .ok (.iaload, 1) := by decide +kernel
theorem dL_law_1231 : decode cL_law 1231 = .ok (.invokevirtual 141, 3) := by decide +kernel
theorem dL_law_1234 : decode cL_law 1234 = .ok (.aload_n 2, 1) := by decide +kernel
theorem dL_law_1235 : decode cL_law 1235 = .ok (.aload_n 0, 1) := by decide +kernel
theorem dL_law_1236 : decode cL_law 1236 = .ok (.iload_n 3, 1) := by decide +kernel
theorem dL_law_1237 : decode cL_law 1237 = .ok (.iconst 1, 1) := by decide +kernel
theorem dL_law_1238 : decode cL_law 1238 = .ok (.iadd, 1) := by decide +kernel
theorem dL_law_1239 : decode cL_law 1239 = .ok (.iaload, 1) := by decide +kernel
theorem dL_law_1240 : decode cL_law 1240 = .ok (.invokevirtual 144, 3) := by decide +kernel
theorem dL_law_1243 : decode cL_law 1243 = .ok (.if_icmp .eq 130, 3) := by decide +kernel
theorem dL_law_1246 : decode cL_law 1246 = .ok (.iconst 0, 1) := by decide +kernel
theorem dL_law_1247 : decode cL_law 1247 = .ok (.ireturn, 1) := by decide +kernel
theorem dL_law_1248 : decode cL_law 1248 = .ok (.aload_n 1, 1) := by decide +kernel
theorem dL_law_1249 : decode cL_law 1249 = .ok (.aload_n 0, 1) := by decide +kernel
theorem dL_law_1250 : decode cL_law 1250 = .ok (.iload_n 3, 1) := by decide +kernel
theorem dL_law_1251 : decode cL_law 1251 = .ok (.iconst 1, 1) := by decide +kernel
theorem dL_law_1252 : decode cL_law 1252 = .ok (.iadd, 1) := by decide +kernel
theorem dL_law_1253 : decode cL_law 1253 = .ok (.iaload, 1) := by decide +kernel
theorem dL_law_1254 : decode cL_law 1254 = .ok (.aload_n 0, 1) := by decide +kernel
theorem dL_law_1255 : decode cL_law 1255 = .ok (.iload_n 3, 1) := by decide +kernel
theorem dL_law_1256 : decode cL_law 1256 = .ok (.iconst 2, 1) := by decide +kernel
theorem dL_law_1257 : decode cL_law 1257 = .ok (.iadd, 1) := by decide +kernel
theorem dL_law_1258 : decode cL_law 1258 = .ok (.iaload, 1) := by decide +kernel
theorem dL_law_1259 : decode cL_law 1259 = .ok (.invokevirtual 145, 3) := by decide +kernel
theorem dL_law_1262 : decode cL_law 1262 = .ok (.aload_n 2, 1) := by decide +kernel
theorem dL_law_1263 : decode cL_law 1263 = .ok (.aload_n 0, 1) := by decide +kernel
theorem dL_law_1264 : decode cL_law 1264 = .ok (.iload_n 3, 1) := by decide +kernel
theorem dL_law_1265 : decode cL_law 1265 = .ok (.iconst 1, 1) := by decide +kernel
theorem dL_law_1266 : decode cL_law 1266 = .ok (.iadd, 1) := by decide +kernel
theorem dL_law_1267 : decode cL_law 1267 = .ok (.iaload, 1) := by decide +kernel
theorem dL_law_1268 : decode cL_law 1268 = .ok (.aload_n 0, 1) := by decide +kernel
theorem dL_law_1269 : decode cL_law 1269 = .ok (.iload_n 3, 1) := by decide +kernel
theorem dL_law_1270 : decode cL_law 1270 = .ok (.iconst 2, 1) := by decide +kernel
theorem dL_law_1271 : decode cL_law 1271 = .ok (.iadd, 1) := by decide +kernel
theorem dL_law_1272 : decode cL_law 1272 = .ok (.iaload, 1) := by decide +kernel
theorem dL_law_1273 : decode cL_law 1273 = .ok (.invokevirtual 148, 3) := by decide +kernel
theorem dL_law_1276 : decode cL_law 1276 = .ok (.if_icmp .eq 97, 3) := by decide +kernel
theorem dL_law_1279 : decode cL_law 1279 = .ok (.iconst 0, 1) := by decide +kernel
theorem dL_law_1280 : decode cL_law 1280 = .ok (.ireturn, 1) := by decide +kernel
theorem dL_law_1281 : decode cL_law 1281 = .ok (.aload_n 1, 1) := by decide +kernel
theorem dL_law_1282 : decode cL_law 1282 = .ok (.aload_n 0, 1) := by decide +kernel
theorem dL_law_1283 : decode cL_law 1283 = .ok (.iload_n 3, 1) := by decide +kernel
theorem dL_law_1284 : decode cL_law 1284 = .ok (.iconst 1, 1) := by decide +kernel
theorem dL_law_1285 : decode cL_law 1285 = .ok (.iadd, 1) := by decide +kernel
theorem dL_law_1286 : decode cL_law 1286 = .ok (.iaload, 1) := by decide +kernel
theorem dL_law_1287 : decode cL_law 1287 = .ok (.aload_n 0, 1) := by decide +kernel
theorem dL_law_1288 : decode cL_law 1288 = .ok (.iload_n 3, 1) := by decide +kernel
theorem dL_law_1289 : decode cL_law 1289 = .ok (.iconst 2, 1) := by decide +kernel
theorem dL_law_1290 : decode cL_law 1290 = .ok (.iadd, 1) := by decide +kernel
theorem dL_law_1291 : decode cL_law 1291 = .ok (.iaload, 1) := by decide +kernel
theorem dL_law_1292 : decode cL_law 1292 = .ok (.invokevirtual 149, 3) := by decide +kernel
theorem dL_law_1295 : decode cL_law 1295 = .ok (.aload_n 2, 1) := by decide +kernel
theorem dL_law_1296 : decode cL_law 1296 = .ok (.aload_n 0, 1) := by decide +kernel
theorem dL_law_1297 : decode cL_law 1297 = .ok (.iload_n 3, 1) := by decide +kernel
theorem dL_law_1298 : decode cL_law 1298 = .ok (.iconst 1, 1) := by decide +kernel
theorem dL_law_1299 : decode cL_law 1299 = .ok (.iadd, 1) := by decide +kernel
theorem dL_law_1300 : decode cL_law 1300 = .ok (.iaload, 1) := by decide +kernel
theorem dL_law_1301 : decode cL_law 1301 = .ok (.aload_n 0, 1) := by decide +kernel
theorem dL_law_1302 : decode cL_law 1302 = .ok (.iload_n 3, 1) := by decide +kernel
theorem dL_law_1303 : decode cL_law 1303 = .ok (.iconst 2, 1) := by decide +kernel
theorem dL_law_1304 : decode cL_law 1304 = .ok (.iadd, 1) := by decide +kernel
theorem dL_law_1305 : decode cL_law 1305 = .ok (.iaload, 1) := by decide +kernel
theorem dL_law_1306 : decode cL_law 1306 = .ok (.invokevirtual 152, 3) := by decide +kernel
theorem dL_law_1309 : decode cL_law 1309 = .ok (.if_icmp .eq 64, 3) := by decide +kernel
theorem dL_law_1312 : decode cL_law 1312 = .ok (.iconst 0, 1) := by decide +kernel
theorem dL_law_1313 : decode cL_law 1313 = .ok (.ireturn, 1) := by decide +kernel
theorem dL_law_1314 : decode cL_law 1314 = .ok (.aload_n 1, 1) := by decide +kernel
theorem dL_law_1315 : decode cL_law 1315 = .ok (.aload_n 0, 1) := by decide +kernel
theorem dL_law_1316 : decode cL_law 1316 = .ok (.iload_n 3, 1) := by decide +kernel
theorem dL_law_1317 : decode cL_law 1317 = .ok (.iconst 1, 1) := by decide +kernel
theorem dL_law_1318 : decode cL_law 1318 = .ok (.iadd, 1) := by decide +kernel
theorem dL_law_1319 : decode cL_law 1319 = .ok (.iaload, 1) := by decide +kernel
theorem dL_law_1320 : decode cL_law 1320 = .ok (.invokevirtual 153, 3) := by decide +kernel
theorem dL_law_1323 : decode cL_law 1323 = .ok (.aload_n 2, 1) := by decide +kernel
theorem dL_law_1324 : decode cL_law 1324 = .ok (.aload_n 0, 1) := by decide +kernel
theorem dL_law_1325 : decode cL_law 1325 = .ok (.iload_n 3, 1) := by decide +kernel
theorem dL_law_1326 : decode cL_law 1326 = .ok (.iconst 1, 1) := by decide +kernel
theorem dL_law_1327 : decode cL_law 1327 = .ok (.iadd, 1) := by decide +kernel
theorem dL_law_1328 : decode cL_law 1328 = .ok (.iaload, 1) := by decide +kernel
theorem dL_law_1329 : decode cL_law 1329 = .ok (.invokevirtual 156, 3) := by decide +kernel
theorem dL_law_1332 : decode cL_law 1332 = .ok (.if_icmp .eq 41, 3) := by decide +kernel
theorem dL_law_1335 : decode cL_law 1335 = .ok (.iconst 0, 1) := by decide +kernel
theorem dL_law_1336 : decode cL_law 1336 = .ok (.ireturn, 1) := by decide +kernel
theorem dL_law_1337 : decode cL_law 1337 = .ok (.aload_n 1, 1) := by decide +kernel
theorem dL_law_1338 : decode cL_law 1338 = .ok (.aload_n 0, 1) := by decide +kernel
theorem dL_law_1339 : decode cL_law 1339 = .ok (.iload_n 3, 1) := by decide +kernel
theorem dL_law_1340 : decode cL_law 1340 = .ok (.iconst 1, 1) := by decide +kernel
theorem dL_law_1341 : decode cL_law 1341 = .ok (.iadd, 1) := by decide +kernel
theorem dL_law_1342 : decode cL_law 1342 = .ok (.iaload, 1) := by decide +kernel
theorem dL_law_1343 : decode cL_law 1343 = .ok (.invokevirtual 157, 3) := by decide +kernel
theorem dL_law_1346 : decode cL_law 1346 = .ok (.aload_n 2, 1) := by decide +kernel
theorem dL_law_1347 : decode cL_law 1347 = .ok (.aload_n 0, 1) := by decide +kernel
theorem dL_law_1348 : decode cL_law 1348 = .ok (.iload_n 3, 1) := by decide +kernel
theorem dL_law_1349 : decode cL_law 1349 = .ok (.iconst 1, 1) := by decide +kernel
theorem dL_law_1350 : decode cL_law 1350 = .ok (.iadd, 1) := by decide +kernel
theorem dL_law_1351 : decode cL_law 1351 = .ok (.iaload, 1) := by decide +kernel
theorem dL_law_1352 : decode cL_law 1352 = .ok (.invokevirtual 160, 3) := by decide +kernel
theorem dL_law_1355 : decode cL_law 1355 = .ok (.if_icmp .eq 18, 3) := by decide +kernel
theorem dL_law_1358 : decode cL_law 1358 = .ok (.iconst 0, 1) := by decide +kernel
theorem dL_law_1359 : decode cL_law 1359 = .ok (.ireturn, 1) := by decide +kernel
theorem dL_law_1360 : decode cL_law 1360 = .ok (.aload_n 1, 1) := by decide +kernel
theorem dL_law_1361 : decode cL_law 1361 = .ok (.invokevirtual 161, 3) := by decide +kernel
theorem dL_law_1364 : decode cL_law 1364 = .ok (.aload_n 2, 1) := by decide +kernel
theorem dL_law_1365 : decode cL_law 1365 = .ok (.invokevirtual 164, 3) := by decide +kernel
theorem dL_law_1368 : decode cL_law 1368 = .ok (.if_icmp .eq 5, 3) := by decide +kernel
theorem dL_law_1371 : decode cL_law 1371 = .ok (.iconst 0, 1) := by decide +kernel
theorem dL_law_1372 : decode cL_law 1372 = .ok (.ireturn, 1) := by decide +kernel
theorem dL_law_1373 : decode cL_law 1373 = .ok (.iinc 3 7, 3) := by decide +kernel
theorem dL_law_1376 : decode cL_law 1376 = .ok (.goto (-1358), 3) := by decide +kernel
theorem dL_law_1379 : decode cL_law 1379 = .ok (.iconst 1, 1) := by decide +kernel
theorem dL_law_1380 : decode cL_law 1380 = .ok (.ireturn, 1) := by decide +kernel
end
section
/-! THE SMALL MACHINE. A world of cells by number: shapes S (an object: its class and, slot by slot, the cell that a reference slot names; an array: kind 0 int, 1 boolean, 2 .. 4 of references, its length, its cells), ints f (cell, slot), longs g. A Value .ref i names cell i of the world, .retAddr k the static array number k. -/
abbrev mj_S : Type := List ((Nat × List (Option Nat)) ⊕ (Nat × Nat × List (Option Nat)))
abbrev mj_I : Type := Nat → Nat → Int32
abbrev mj_L : Type := Nat → Nat → Int64
def mj_wr (f : mj_I) (a k : Nat) (x : Int32) : mj_I := fun i j => if i = a ∧ j = k then x else f i j
def mj_wl (f : mj_L) (a k : Nat) (x : Int64) : mj_L := fun i j => if i = a ∧ j = k then x else f i j
/-- System.arraycopy between two int arrays -/
def mj_cp (f : mj_I) (a sp b dp n : Nat) : mj_I := fun i j => if i = b then va_cpy (f a) (f b) sp dp n j else f i j
/-- the kinds of the fields, class by class: 0 int, 1 boolean, 2 long, 3 a reference -/
def mj_fk : List (List Nat) := [[3, 0, 0], [0, 0, 0, 0, 1, 1, 0], [1, 0, 0, 0, 0, 0, 0, 0, 3, 3, 3, 0, 0], [1, 0, 0, 3], [3, 0, 0, 0, 0, 0, 0], [3, 0], [3, 3, 3, 3, 3, 3, 3, 3, 0, 0], [3, 3, 3, 0, 1, 3, 3, 3, 0, 0, 0, 0, 0, 0, 0, 3, 0, 3, 0, 3, 3, 3, 0, 2, 2, 3, 3, 3, 0]]
def mj_sv (ad : Nat → Nat) (kd : Nat) (r : Option Nat) (x : Int32) (y : Int64) : Value := match kd with
  | 2 => .long y
  | 3 => va_rf (r.map ad)
  | _ => .int x
def mj_fs (ad : Nat → Nat) (ci : Nat) (rs : List (Option Nat)) (f : Nat → Int32) (g : Nat → Int64) : List Value := (mj_fk.getD ci []).mapIdx (fun k kd => mj_sv ad kd (rs.getD k none) (f k) (g k))
def mj_a (ad : Nat → Nat) (kd n : Nat) (rs : List (Option Nat)) (f : Nat → Int32) : vp_A := match kd with
  | 0 => (n, .inl f)
  | 1 => (n, .inl f)
  | _ => (n, .inr (.inr (.inr (.inr (fun k => (rs.getD k none).map ad)))))
def mj_e (ad : Nat → Nat) (cA : Nat → ClassId) (c : (Nat × List (Option Nat)) ⊕ (Nat × Nat × List (Option Nat))) (f : Nat → Int32) (g : Nat → Int64) : va_E := match c with
  | .inl (ci, rs) => .inr (ci, mj_fs ad ci rs f g)
  | .inr (kd, n, rs) => .inl (cA kd, mj_a ad kd n rs f)
def mj_w (ad : Nat → Nat) (cA : Nat → ClassId) (S : mj_S) (f : mj_I) (g : mj_L) : va_W := S.mapIdx (fun i c => (ad i, mj_e ad cA c (f i) (g i)))
theorem mj_w_get {ad : Nat → Nat} {cA : Nat → ClassId} {S : mj_S} {f : mj_I} {g : mj_L} {i : Nat} : (mj_w ad cA S f g)[i]? = (S[i]?).map (fun c => (ad i, mj_e ad cA c (f i) (g i))) := by
  simp [mj_w, List.getElem?_mapIdx]
theorem mj_w_at {ad : Nat → Nat} {cA : Nat → ClassId} {S : mj_S} {f : mj_I} {g : mj_L} {i : Nat} {c : (Nat × List (Option Nat)) ⊕ (Nat × Nat × List (Option Nat))} (h : S[i]? = some c) : (mj_w ad cA S f g)[i]? = some (ad i, mj_e ad cA c (f i) (g i)) := by
  rw [mj_w_get, h]; rfl
theorem mj_wr_self (f : mj_I) (a k : Nat) (x : Int32) : mj_wr f a k x a = upd (f a) k x := by
  funext j
  simp [mj_wr, upd]
theorem mj_wr_ne (f : mj_I) {a i : Nat} (k : Nat) (x : Int32) (h : i ≠ a) : mj_wr f a k x i = f i := by
  funext j
  simp [mj_wr, h]
theorem mj_wl_self (f : mj_L) (a k : Nat) (x : Int64) : mj_wl f a k x a = vp_updL (f a) k x := by
  funext j
  simp [mj_wl, vp_updL]
theorem mj_wl_ne (f : mj_L) {a i : Nat} (k : Nat) (x : Int64) (h : i ≠ a) : mj_wl f a k x i = f i := by
  funext j
  simp [mj_wl, h]
/-- one cell is written -/
theorem mj_w_set {ad : Nat → Nat} {cA : Nat → ClassId} {S : mj_S} {f f' : mj_I} {g g' : mj_L} {a : Nat} {c : (Nat × List (Option Nat)) ⊕ (Nat × Nat × List (Option Nat))} (h : S[a]? = some c) (hf : ∀ i, i ≠ a → f' i = f i) (hg : ∀ i, i ≠ a → g' i = g i) : (mj_w ad cA S f g).set a (ad a, mj_e ad cA c (f' a) (g' a)) = mj_w ad cA S f' g' := by
  apply List.ext_getElem?
  intro i
  by_cases hi : i = a
  · subst hi
    have hl : i < (mj_w ad cA S f g).length := by
      have := mj_w_at (ad := ad) (cA := cA) (f := f) (g := g) h
      exact (List.getElem?_eq_some_iff.mp this).1
    rw [List.getElem?_set_self hl, mj_w_at h]
  · rw [List.getElem?_set_ne (Ne.symm hi), mj_w_get, mj_w_get, hf i hi, hg i hi]
theorem mj_fs_get {ad : Nat → Nat} {ci k kd : Nat} {rs : List (Option Nat)} {f : Nat → Int32} {g : Nat → Int64} (h : (mj_fk.getD ci [])[k]? = some kd) : (mj_fs ad ci rs f g)[k]? = some (mj_sv ad kd (rs.getD k none) (f k) (g k)) := by
  simp only [mj_fs, List.getElem?_mapIdx, h, Option.map_some]
theorem mj_fs_len {ad : Nat → Nat} {ci k kd : Nat} {rs : List (Option Nat)} {f : Nat → Int32} {g : Nat → Int64} (h : (mj_fk.getD ci [])[k]? = some kd) : k < (mj_fs ad ci rs f g).length := (List.getElem?_eq_some_iff.mp (mj_fs_get (ad := ad) (rs := rs) (f := f) (g := g) h)).1
theorem mj_fs_setI {ad : Nat → Nat} {ci k kd : Nat} {rs : List (Option Nat)} {f : Nat → Int32} {g : Nat → Int64} {x : Int32} (h : (mj_fk.getD ci [])[k]? = some kd) (h2 : kd ≠ 2) (h3 : kd ≠ 3) : (mj_fs ad ci rs f g).set k (.int x) = mj_fs ad ci rs (upd f k x) g := by
  apply List.ext_getElem?
  intro i
  by_cases hi : i = k
  · subst hi
    rw [List.getElem?_set_self (mj_fs_len h), mj_fs_get h]
    have : mj_sv ad kd (rs.getD i none) (upd f i x i) (g i) = .int x := by
      unfold mj_sv
      split
      · exact absurd rfl h2
      · exact absurd rfl h3
      · rw [pk_us]
    rw [this]
  · rw [List.getElem?_set_ne (Ne.symm hi)]
    simp only [mj_fs, List.getElem?_mapIdx, pk_un hi]
theorem mj_fs_setL {ad : Nat → Nat} {ci k : Nat} {rs : List (Option Nat)} {f : Nat → Int32} {g : Nat → Int64} {x : Int64} (h : (mj_fk.getD ci [])[k]? = some 2) : (mj_fs ad ci rs f g).set k (.long x) = mj_fs ad ci rs f (vp_updL g k x) := by
  apply List.ext_getElem?
  intro i
  by_cases hi : i = k
  · subst hi
    rw [List.getElem?_set_self (mj_fs_len h), mj_fs_get h]
    simp only [mj_sv, pk_uLs]
  · rw [List.getElem?_set_ne (Ne.symm hi)]
    simp only [mj_fs, List.getElem?_mapIdx, pk_uLn hi]
/-- which cell a Value names -/
def mj_tv (ad sp : Nat → Nat) : Value → Value
  | .ref i => .ref (ad i)
  | .retAddr k => .ref (sp k)
  | v => v
theorem mj_tv_cat (ad sp : Nat → Nat) (v : Value) : (mj_tv ad sp v).category = v.category := by cases v <;> rfl
theorem mj_tv_sum (ad sp : Nat → Nat) (st : List Value) : ((st.map (mj_tv ad sp)).map fun v => v.category).sum = (st.map fun v => v.category).sum := by
  induction st with
  | nil => rfl
  | cons v t ih => simp only [List.map_cons, List.sum_cons, mj_tv_cat, ih]
/-- locals -/
def mj_lv (ls : Array Slot) (nL : Nat) (tv : Value → Value) (loc : List (Option Value)) : Prop := ls.size = nL ∧ lv_wf ls ∧ ∀ (i : Nat) (v : Value), loc[i]? = some (some v) → ls[i]? = some (.val (tv v))
def mj_al (tv : Value → Value) (loc : List (Option Value)) : List (Nat × Value) := loc.zipIdx.filterMap (fun q => q.1.map (fun v => (q.2, tv v)))
theorem mj_al_mem {tv : Value → Value} {loc : List (Option Value)} {q : Nat × Value} : q ∈ mj_al tv loc ↔ ∃ v, loc[q.1]? = some (some v) ∧ q.2 = tv v := by
  unfold mj_al
  rw [List.mem_filterMap]
  constructor
  · rintro ⟨⟨o, i⟩, hm, ho⟩
    have := List.mk_mem_zipIdx_iff_getElem?.mp hm
    cases o with
    | none => cases ho
    | some v =>
      cases ho
      exact ⟨v, this, rfl⟩
  · rintro ⟨v, h1, h2⟩
    refine ⟨(some v, q.1), List.mk_mem_zipIdx_iff_getElem?.mpr h1, ?_⟩
    obtain ⟨i, w⟩ := q
    dsimp only at h2
    rw [h2]
    rfl
theorem mj_lv_has {ls : Array Slot} {nL : Nat} {tv : Value → Value} {loc : List (Option Value)} (h : mj_lv ls nL tv loc) : lv_has ls nL (mj_al tv loc) := by
  refine ⟨h.1, h.2.1, fun q hq => ?_⟩
  obtain ⟨v, h1, h2⟩ := mj_al_mem.mp hq
  rw [h2]
  exact h.2.2 _ _ h1
def mj_cutj (loc : List (Option Value)) (j : Nat) : List (Option Value) := match loc[j]? with
  | some (some (.long _)) => loc.set j none
  | some (some (.double _)) => loc.set j none
  | _ => loc
def mj_cut (loc : List (Option Value)) : Nat → List (Option Value)
  | 0 => loc
  | j + 1 => mj_cutj loc j
def mj_set (loc : List (Option Value)) (i : Nat) (v : Value) : List (Option Value) := (mj_cut loc i).set i (some v)
def mj_set2 (loc : List (Option Value)) (i : Nat) (v : Value) : List (Option Value) := ((mj_cut loc i).set i (some v)).set (i + 1) none
theorem mj_cut_get {loc : List (Option Value)} {i j : Nat} {v : Value} (h : (mj_cut loc i)[j]? = some (some v)) : loc[j]? = some (some v) ∧ ¬ (j + 1 = i ∧ v.category = 2) := by
  cases i with
  | zero => exact ⟨h, fun q => by omega⟩
  | succ n =>
    change (mj_cutj loc n)[j]? = some (some v) at h
    unfold mj_cutj at h
    have cutset : (loc.set n none)[j]? = some (some v) → loc[j]? = some (some v) ∧ ¬ (j + 1 = n + 1 ∧ v.category = 2) := by
      intro h
      by_cases hj : j = n
      · subst hj
        rw [List.getElem?_set] at h
        simp at h
      · rw [List.getElem?_set_ne (Ne.symm hj)] at h
        exact ⟨h, fun q => hj (by omega)⟩
    split at h
    · exact cutset h
    · exact cutset h
    · rename_i n1 n2
      refine ⟨h, fun q => ?_⟩
      obtain ⟨q1, q2⟩ := q
      have : j = n := by omega
      subst this
      cases v with
      | long x => exact n1 x h
      | double x => exact n2 x h
      | _ => exact absurd q2 (by simp [Value.category])
theorem mj_lv_set {ls : Array Slot} {nL : Nat} {ad sp : Nat → Nat} {loc : List (Option Value)} {i : Nat} {v : Value} (h : lv_has ls nL ((i, mj_tv ad sp v) :: (mj_al (mj_tv ad sp) loc).filter (fun q => !(q.1 == i) && !(q.1 + 1 == i && q.2.category == 2)))) : mj_lv ls nL (mj_tv ad sp) (mj_set loc i v) := by
  refine ⟨h.1, h.2.1, fun j w hj => ?_⟩
  unfold mj_set at hj
  by_cases hji : j = i
  · subst hji
    rw [List.getElem?_set] at hj
    simp only [if_true] at hj
    split at hj
    · cases hj
      exact h.2.2 (j, _) List.mem_cons_self
    · cases hj
  · rw [List.getElem?_set_ne (Ne.symm hji)] at hj
    obtain ⟨h1, h2⟩ := mj_cut_get hj
    refine h.2.2 (j, mj_tv ad sp w) (List.mem_cons_of_mem _ (List.mem_filter.mpr ⟨mj_al_mem.mpr ⟨w, h1, rfl⟩, ?_⟩))
    simp only [Bool.and_eq_true, Bool.not_eq_true', beq_eq_false_iff_ne, ne_eq, Bool.and_eq_false_iff]
    refine ⟨hji, ?_⟩
    rw [mj_tv_cat]
    by_cases hz : j + 1 = i
    · exact Or.inr (fun q => h2 ⟨hz, q⟩)
    · exact Or.inl hz
theorem mj_lv_set2 {ls : Array Slot} {nL : Nat} {ad sp : Nat → Nat} {loc : List (Option Value)} {i : Nat} {v : Value} (h : lv_has ls nL ((i, mj_tv ad sp v) :: (mj_al (mj_tv ad sp) loc).filter (fun q => !(q.1 == i) && (!(q.1 == i + 1) && !(q.1 + 1 == i && q.2.category == 2))))) : mj_lv ls nL (mj_tv ad sp) (mj_set2 loc i v) := by
  refine ⟨h.1, h.2.1, fun j w hj => ?_⟩
  unfold mj_set2 at hj
  by_cases hj1 : j = i + 1
  · subst hj1
    rw [List.getElem?_set] at hj
    simp at hj
  rw [List.getElem?_set_ne (Ne.symm hj1)] at hj
  by_cases hji : j = i
  · subst hji
    rw [List.getElem?_set] at hj
    simp only [if_true] at hj
    split at hj
    · cases hj
      exact h.2.2 (j, _) List.mem_cons_self
    · cases hj
  · rw [List.getElem?_set_ne (Ne.symm hji)] at hj
    obtain ⟨h1, h2⟩ := mj_cut_get hj
    refine h.2.2 (j, mj_tv ad sp w) (List.mem_cons_of_mem _ (List.mem_filter.mpr ⟨mj_al_mem.mpr ⟨w, h1, rfl⟩, ?_⟩))
    simp only [Bool.and_eq_true, Bool.not_eq_true', beq_eq_false_iff_ne, ne_eq, Bool.and_eq_false_iff]
    refine ⟨hji, hj1, ?_⟩
    rw [mj_tv_cat]
    by_cases hz : j + 1 = i
    · exact Or.inr (fun q => h2 ⟨hz, q⟩)
    · exact Or.inl hz
/-- the locals at a method's start -/
def mj_l0 : List Value → List (Option Value)
  | [] => []
  | .long x :: vs => some (.long x) :: none :: mj_l0 vs
  | .double x :: vs => some (.double x) :: none :: mj_l0 vs
  | v :: vs => some v :: mj_l0 vs
theorem mj_l0_args (tv : Value → Value) (htv : ∀ v, (tv v).category = v.category) : ∀ (vs : List Value) (n i : Nat) (v : Value), (mj_l0 vs)[i]? = some (some v) → (n + i, tv v) ∈ lv_args n (vs.map tv) := by
  intro vs
  induction vs with
  | nil => intro n i v h; simp [mj_l0] at h
  | cons u vs ih =>
    intro n i v h
    have one : u.category = 1 → (mj_l0 (u :: vs)) = some u :: mj_l0 vs → (n + i, tv v) ∈ lv_args n ((u :: vs).map tv) := by
      intro hc he
      rw [he] at h
      simp only [List.map_cons, lv_args, htv, hc]
      cases i with
      | zero =>
        simp only [List.getElem?_cons_zero, Option.some.injEq] at h
        subst h
        exact List.mem_cons_self
      | succ j =>
        rw [List.getElem?_cons_succ] at h
        have := ih (n + 1) j v h
        rw [show n + 1 + j = n + (j + 1) by omega] at this
        exact List.mem_cons_of_mem _ (by simpa using this)
    have two : u.category = 2 → (mj_l0 (u :: vs)) = some u :: none :: mj_l0 vs → (n + i, tv v) ∈ lv_args n ((u :: vs).map tv) := by
      intro hc he
      rw [he] at h
      simp only [List.map_cons, lv_args, htv, hc]
      cases i with
      | zero =>
        simp only [List.getElem?_cons_zero, Option.some.injEq] at h
        subst h
        exact List.mem_cons_self
      | succ j =>
        rw [List.getElem?_cons_succ] at h
        cases j with
        | zero => simp at h
        | succ k =>
          rw [List.getElem?_cons_succ] at h
          have := ih (n + 2) k v h
          rw [show n + 2 + k = n + (k + 1 + 1) by omega] at this
          exact List.mem_cons_of_mem _ (by simpa using this)
    cases u with
    | long x => exact two rfl rfl
    | double x => exact two rfl rfl
    | int x => exact one rfl rfl
    | float x => exact one rfl rfl
    | null => exact one rfl rfl
    | ref x => exact one rfl rfl
    | retAddr x => exact one rfl rfl
/-- indices and truth values -/
def mj_in (i : Int32) (n : Nat) : Bool := !(decide (i < 0)) && decide (i.toNatClampNeg < n)
theorem mj_in_vp {i : Int32} {n : Nat} (h : mj_in i n = true) : vp_in i n := by
  unfold mj_in at h
  simp only [Bool.and_eq_true, Bool.not_eq_true', decide_eq_false_iff_not, decide_eq_true_eq] at h
  intro q
  rcases q with q | q
  · exact h.1 q
  · omega
def mj_b (x : Int32) : Bool := decide (x = 0) || decide (x = 1)
theorem mj_b_or {x : Int32} (h : mj_b x = true) : x = 0 ∨ x = 1 := by
  unfold mj_b at h
  simpa using h
theorem mj_b_nar {x : Int32} (h : mj_b x = true) : narrow .boolean (.int x) = .int x := by
  rcases mj_b_or h with rfl | rfl <;> rfl
theorem mj_b_fit {x : Int32} (h : mj_b x = true) : fits .boolean (.int x) = true := by
  rcases mj_b_or h with rfl | rfl <;> rfl
theorem mj_b_vp {x : Int32} (h : mj_b x = true) : vp_nar .boolean x = x := by
  rcases mj_b_or h with rfl | rfl <;> rfl
theorem mj_gd {α : Type} {b : Bool} {A : Option α} {o : α} (h : (if b = true then A else none) = some o) : b = true ∧ A = some o := by
  cases b with
  | true => exact ⟨rfl, by simpa using h⟩
  | false => simp at h
theorem mj_bd {α β : Type} {A : Option α} {F : α → Option β} {o : β} (h : A.bind F = some o) : ∃ q, A = some q ∧ F q = some o := Option.bind_eq_some_iff.mp h
/-- the words that stay true while a method runs, and those that go from call to call by hand -/
def mj_gw : List Cond := lw_tbl.filter goodWord
theorem mj_gw_in {w : Cond} (i : Nat) (h : tables_1[i]? = some w) (hg : goodWord w = true) : w ∈ mj_gw := List.mem_filter.mpr ⟨List.mem_append_right _ (List.mem_of_getElem? h), hg⟩
theorem mj_gw_sel {w : Cond} (i : Nat) (h : (k2_sels lw_privs)[i]? = some w) (hg : goodWord w = true) : w ∈ mj_gw := List.mem_filter.mpr ⟨List.mem_append_left _ (List.mem_of_getElem? h), hg⟩
theorem mj_gw_good {ws : List Cond} (h : ∀ w ∈ ws, w ∈ mj_gw) : GoodIn mj_gw ws := fun w hw => ⟨h w hw, good_of_word (List.mem_filter.mp (h w hw)).2⟩
end
section
/-- what goes from call to call: nest mates' links, classes of arrays of references, the three static tables -/
def mj_t0 : List Int32 := [0, 0, 1, 1, 0, 4]
def mj_t1 : List Int32 := [10, 11, 12, 11, 13, 14]
def mj_t2 : List Int32 := [20, 21, 24, 22, 23, 23]
def mj_tab (k : Nat) : List Int32 := match k with
  | 0 => mj_t0
  | 1 => mj_t1
  | _ => mj_t2
def mj_nw : List Cond := tables_1.filter (fun w => match w with | .methodLinkNest _ _ _ _ => true | _ => false)
theorem mj_nw_in {a : String} {i : Nat} {x : MethodName} {h : String} (j : Nat) (hj : tables_1[j]? = some (.methodLinkNest a i x h)) : Cond.methodLinkNest a i x h ∈ mj_nw := List.mem_filter.mpr ⟨List.mem_of_getElem? hj, rfl⟩
def mj_X (sp : Nat → Nat) (A : Nat → Prop) (U : State) (H : Heap) : Prop :=
  (∀ w ∈ mj_nw, va_Nw w U) ∧ va_AO "CloudHerd$Cloud" U ∧ va_AO "CloudHerd$Herd" U ∧ va_AO "CloudHerd$Row" U ∧
  (va_Z "CloudHerd" "ABOVE" "[I" (.ref (sp 0)) A U H ∧ va_Z "CloudHerd$Trace" "SIZE_BODIES" "[I" (.ref (sp 1)) A U H ∧ va_Z "CloudHerd$Trace" "MARK_BODIES" "[I" (.ref (sp 2)) A U H) ∧
  ∀ k, k < 3 → va_T .int (sp k) 6 (fun j => .int ((mj_tab k).getD j 0)) A U H
theorem mj_X.moved {sp : Nat → Nat} {A : Nat → Prop} {u U : State} {H : Heap} (hW : u.WarmedH U.vm) (h : mj_X sp A u H) : mj_X sp A U H := by
  obtain ⟨h1, h2, h3, h4, ⟨h5, h6, h7⟩, h8⟩ := h
  refine ⟨fun w hw => ?_, h2.moved hW.alike, h3.moved hW.alike, h4.moved hW.alike, ⟨h5.moved hW.alike, h6.moved hW.alike, h7.moved hW.alike⟩, fun k hk => (h8 k hk).moved hW.alike⟩
  have h9 := h1 w hw
  have hf := (List.mem_filter.mp hw).2
  cases w with
  | methodLinkNest a i x hh => exact va_Nw.warmM hW h9
  | _ => exact absurd hf (by simp)
theorem mj_X.called {sp : Nat → Nat} {A : Nat → Prop} {u U : State} {H : Heap} (hvm : u.vm = U.vm) (h : mj_X sp A u H) : mj_X sp A U H := by
  have al : u.vm.Alike U.vm := by rw [← hvm]; exact Vm.Alike.refl u.vm
  obtain ⟨h1, h2, h3, h4, ⟨h5, h6, h7⟩, h8⟩ := h
  refine ⟨fun w hw => ?_, h2.moved al, h3.moved al, h4.moved al, ⟨h5.moved al, h6.moved al, h7.moved al⟩, fun k hk => (h8 k hk).moved al⟩
  have h9 := h1 w hw
  have hf := (List.mem_filter.mp hw).2
  cases w with
  | methodLinkNest a i x hh => exact va_Nw.same rfl hvm h9
  | _ => exact absurd hf (by simp)
theorem mj_X.kept {sp : Nat → Nat} {A : Nat → Prop} {U : State} {H H1 : Heap} (h : mj_X sp A U H) (hq : ∀ a : Nat, a < H.size → ¬ A a → H1[a]? = H[a]?) : mj_X sp A U H1 := by
  obtain ⟨h1, h2, h3, h4, ⟨h5, h6, h7⟩, h8⟩ := h
  exact ⟨h1, h2, h3, h4, ⟨h5.kept hq, h6.kept hq, h7.kept hq⟩, fun k hk => (h8 k hk).kept hq⟩
theorem mj_X.narrow {sp : Nat → Nat} {A B : Nat → Prop} {U : State} {H : Heap} (h : mj_X sp A U H) (hAB : ∀ q, B q → A q) : mj_X sp B U H := by
  obtain ⟨h1, h2, h3, h4, ⟨h5, h6, h7⟩, h8⟩ := h
  exact ⟨h1, h2, h3, h4, ⟨h5.narrow hAB, h6.narrow hAB, h7.narrow hAB⟩, fun k hk => (h8 k hk).narrow hAB⟩
def mj_tys (cA : Nat → ClassId) : List (ClassId × FieldType) := [(cA 0, .int), (cA 1, .boolean), (cA 2, .object "CloudHerd$Cloud"), (cA 3, .object "CloudHerd$Herd"), (cA 4, .object "CloudHerd$Row")]
/-- a method: its name, its code, its locals, what it returns, how deep calls go below it, the cells and slots that it makes -/
abbrev mj_J : Type := MethodName × ByteArray × Nat × Option FieldType × Nat × Nat × Nat
abbrev mj_y (J : mj_J) : MethodName := J.1
abbrev mj_cc (J : mj_J) : ByteArray := J.2.1
abbrev mj_nL (J : mj_J) : Nat := J.2.2.1
abbrev mj_rt (J : mj_J) : Option FieldType := J.2.2.2.1
abbrev mj_d (J : mj_J) : Nat := J.2.2.2.2.1
abbrev mj_mc (J : mj_J) : Nat := J.2.2.2.2.2.1
abbrev mj_ms (J : mj_J) : Nat := J.2.2.2.2.2.2
def mj_room (J : mj_J) : Room := { frames := mj_d J, cells := mj_mc J, slots := mj_ms J, locals := 64 * mj_d J }
/-- what holds all through a method -/
def mj_C (J : mj_J) (p : Program) (s : State) (m : MethodId) (args : Array Value) (meth : Method) (c : Code) (D : va_G) (cA : Nat → ClassId) (sp : Nat → Nat) (A : Nat → Prop) : Prop :=
  p.tables.exec = Jvm.exec ∧ c.code = mj_cc J ∧ c.maxLocals = mj_nL J ∧ s.vm.findClass (mj_y J).cls = some m.cls ∧ (∀ w ∈ mj_gw, w.before args s = true) ∧ va_K D vwCl (mj_tys cA) s ∧ (∀ q, s.heap.size ≤ q → A q) ∧ mj_X sp A s s.heap
def mj_ret (J : mj_J) (v : Option Value) (pc : Nat) : Prop := match v with
  | none => decode (mj_cc J) pc = .ok (.return_, 1) ∧ mj_rt J = none
  | some (.int x) => decode (mj_cc J) pc = .ok (.ireturn, 1) ∧ ∃ ty, mj_rt J = some ty ∧ narrow ty (.int x) = .int x
  | some (.long _) => decode (mj_cc J) pc = .ok (.lreturn, 1) ∧ mj_rt J = some .long
  | _ => False
/-- from pc on, with these locals, this stack and this memory, the method comes to its end, and post holds of its answer and its memory -/
def mj_Ev (J : mj_J) (pc : Nat) (loc : List (Option Value)) (st : List Value) (S : mj_S) (f : mj_I) (g : mj_L) (post : Option Value → mj_I → mj_L → Prop) : Prop :=
  ∀ (p : Program) (l : Launch) (e : Env) (s : State) (m : MethodId) (args : Array Value) (below : List Frame) (meth : Method) (c : Code) (D : va_G) (cA : Nat → ClassId) (sp ad : Nat → Nat) (A : Nat → Prop) (cells slots : Nat) (R : Room) (Q : State → Prop),
    mj_C J p s m args meth c D cA sp A →
    (mj_d J ≤ R.frames ∧ 64 * mj_d J ≤ R.locals ∧ cells ≤ R.cells ∧ slots ≤ R.slots) →
    (∀ (v : Option Value) (f' : mj_I) (g' : mj_L) (H : Heap) (locs : List Loc) (pc : Nat) (ls : Array Slot), post v f' g' → va_P D vwCl (mj_w ad cA S f' g') H → va_D A (mj_w ad cA S f' g') → va_S A s.heap H locs → mj_ret J v pc → W p l e R s m args below meth c H locs cells slots Q (F0 m pc ls v.toList)) →
    ∀ (H : Heap) (locs : List Loc) (ls : Array Slot), va_P D vwCl (mj_w ad cA S f g) H → va_D A (mj_w ad cA S f g) → va_S A s.heap H locs → mj_lv ls (mj_nL J) (mj_tv ad sp) loc →
    W p l e R s m args below meth c H locs cells slots Q (F0 m pc ls (st.map (mj_tv ad sp)))
/-- an answer is none, an int, a long -/
def mj_pv (v : Option Value) : Prop := v = none ∨ (∃ x, v = some (.int x)) ∨ ∃ x, v = some (.long x)
theorem mj_pv_tv {v : Option Value} (h : mj_pv v) (ad sp : Nat → Nat) : v.toList.map (mj_tv ad sp) = v.toList := by
  rcases h with rfl | ⟨x, rfl⟩ | ⟨x, rfl⟩ <;> rfl
/-- the world behind a call -/
def mj_Q (D : va_G) (cA : Nat → ClassId) (ad : Nat → Nat) (S : mj_S) (A : Nat → Prop) (post : Option Value → mj_I → mj_L → Prop) : Array Value → State → Outcome → State → Prop := fun _ st oc t =>
  (∃ (v : Option Value) (f' : mj_I) (g' : mj_L), oc = .returned v ∧ mj_pv v ∧ post v f' g' ∧ va_P D vwCl (mj_w ad cA S f' g') t.heap ∧ va_D A (mj_w ad cA S f' g')) ∧ va_F A st t
def mj_Pc (D : va_G) (cA : Nat → ClassId) (sp ad : Nat → Nat) (sz : Nat) (S : mj_S) (f : mj_I) (g : mj_L) : State → Prop := fun U =>
  U.heap.size = sz ∧ va_P D vwCl (mj_w ad cA S f g) U.heap ∧ va_K D vwCl (mj_tys cA) U ∧ va_D (fun _ => True) (mj_w ad cA S f g) ∧ mj_X sp (va_A (mj_w ad cA S f g) sz) U U.heap
/-- a method's contract: from this world it returns, and post holds -/
def mj_Sp (J : mj_J) (S : mj_S) (as : List Value) (f : mj_I) (g : mj_L) (post : Option Value → mj_I → mj_L → Prop) : Prop :=
  ∀ (l : Launch) (D : va_G) (cA : Nat → ClassId) (sp ad : Nat → Nat) (sz : Nat), Met l (mj_y J) (.code (mj_y J) (mj_cc J) (mj_nL J) (mj_rt J) :: mj_gw) (mj_room J) (va_Pc (as.map (mj_tv ad sp)) (mj_Pc D cA sp ad sz S f g)) (mj_Q D cA ad S (va_A (mj_w ad cA S f g) sz) post) 0 0 (va_A (mj_w ad cA S f g) sz)
theorem mj_same (ad : Nat → Nat) (cA : Nat → ClassId) (S : mj_S) (f f' : mj_I) (g g' : mj_L) (sz : Nat) : ∀ q, va_A (mj_w ad cA S f' g') sz q → va_A (mj_w ad cA S f g) sz q := by
  intro q h
  rcases h with ⟨k, e, h⟩ | h
  · rw [mj_w_get] at h
    cases hk : S[k]? with
    | none => rw [hk] at h; cases h
    | some c =>
      rw [hk] at h
      cases h
      exact Or.inl ⟨k, _, mj_w_at hk⟩
  · exact Or.inr h
/-- a method is proved from its entry -/
theorem mj_sp {J : mj_J} {S : mj_S} {as : List Value} {f : mj_I} {g : mj_L} {post : Option Value → mj_I → mj_L → Prop} (n : Nat) (hy : plainName (mj_y J).cls = true) (hmc : mj_mc J = 0) (hms : mj_ms J = 0) (hlen : ∀ ad sp : Nat → Nat, (lg_sl (as.map (mj_tv ad sp))).length ≤ mj_nL J) (k : mj_Ev J 0 (mj_l0 as ++ List.replicate n none) [] S f g post) : mj_Sp J S as f g post := by
  intro l D cA sp ad sz
  refine Met.ofW (cc := mj_cc J) (maxL := mj_nL J) (ret := mj_rt J) hy rfl ?_
  intro p e s m args below meth c s₁ B hml hv
  obtain ⟨rfl, hsz, hP, hK, hD0, hX⟩ := hv
  have hx := B.exec
  have hb := B.bytes
  have hr := B.returns
  have hts := atoms_spec (ws := .code (mj_y J) (mj_cc J) (mj_nL J) (mj_rt J) :: mj_gw) B.pre
  have hown : s.vm.findClass (mj_y J).cls = some m.cls := findClass_of_methodNamed B.named
  have hlocks := B.notSynchronized
  subst hsz
  have hD := hD0.self (sz := s.heap.size)
  have hA : ∀ q : Nat, s.heap.size ≤ q → va_A (mj_w ad cA S f g) s.heap.size q := fun q h => Or.inr h
  have hS : va_S (va_A (mj_w ad cA S f g) s.heap.size) s.heap s.heap [] := va_S.rf
  have hl := lv_entry (as.map (mj_tv ad sp)) (n := mj_nL J) (hlen ad sp)
  rw [lg_entry_eq]
  generalize (lg_sl (as.map (mj_tv ad sp)) ++ List.replicate (mj_nL J - (lg_sl (as.map (mj_tv ad sp))).length) Slot.unset).toArray = ls at hl ⊢
  have hl' : mj_lv ls (mj_nL J) (mj_tv ad sp) (mj_l0 as ++ List.replicate n none) := by
    refine ⟨hl.1, hl.2.1, fun i v hi => ?_⟩
    by_cases hlt : i < (mj_l0 as).length
    · rw [List.getElem?_append_left hlt] at hi
      have := mj_l0_args (mj_tv ad sp) (mj_tv_cat ad sp) as 0 i v hi
      rw [Nat.zero_add] at this
      exact hl.2.2 (i, _) this
    · rw [List.getElem?_append_right (by omega)] at hi
      have := List.mem_of_getElem? hi
      rw [List.mem_replicate] at this
      exact absurd this.2 (by simp)
  refine k p l e s m _ below meth c D cA sp ad _ 0 0 (mj_room J) _ ⟨hx, hb, hml, hown, fun w hw => hts w (List.mem_cons_of_mem _ hw), hK, hA, hX⟩ ⟨Nat.le_refl _, Nat.le_refl _, Nat.zero_le _, Nat.zero_le _⟩ ?_ s.heap [] ls hP hD hS hl'
  intro v f' g' H locs pc ls hpost hP hD hS hret
  have fin : mj_pv v → ∀ t : State, t.heap = H → s.WarmedH t.vm → mj_Q D cA ad S (va_A (mj_w ad cA S f g) s.heap.size) post (as.map (mj_tv ad sp)).toArray s (.returned v) t := fun hv t ht _ => ⟨⟨v, f', g', rfl, hv, hpost, by rw [ht]; exact hP, hD⟩, hS.F ht⟩
  cases v with
  | none =>
    obtain ⟨h1, h2⟩ := hret
    exact W.vret hx hb (hr.trans h2) (fin (Or.inl rfl)) hS.2.2 h1
  | some v =>
    cases v with
    | int x =>
      obtain ⟨h1, ty, h2, h3⟩ := hret
      exact W.zret hx hb (hr.trans h2) h3 (fin (Or.inr (Or.inl ⟨x, rfl⟩))) hS.2.2 h1
    | long x =>
      obtain ⟨h1, h2⟩ := hret
      exact W.lret hx hb (hr.trans h2) (fin (Or.inr (Or.inr ⟨x, rfl⟩))) hS.2.2 h1
    | _ => exact absurd hret (by simp [mj_ret])

theorem ev_iconst {J : mj_J} {pc q : Nat} {loc : List (Option Value)} {st : List Value} {S : mj_S} {f : mj_I} {g : mj_L} {post : Option Value → mj_I → mj_L → Prop} {n : Int} {v : Int32} (hd : decode (mj_cc J) pc = .ok (.iconst n, 1)) (hv : Int32.ofInt n = v) (hq : pc + 1 = q) (k : mj_Ev J q loc (.int v :: st) S f g post) : mj_Ev J pc loc (st) S f g post := by
  intro p l e s m args below meth c D cA sp ad A cells slots R Q hC hR hk0 H locs ls hP hD hS hl
  subst hq
  exact lv_iconst hC.1 hC.2.1 hd hv (k p l e s m args below meth c D cA sp ad A cells slots R Q hC hR hk0 H locs ls hP hD hS hl)
theorem ev_bipush {J : mj_J} {pc q : Nat} {loc : List (Option Value)} {st : List Value} {S : mj_S} {f : mj_I} {g : mj_L} {post : Option Value → mj_I → mj_L → Prop} {n : Int} {v : Int32} (hd : decode (mj_cc J) pc = .ok (.bipush n, 2)) (hv : (Int8.ofInt n).toInt32 = v) (hq : pc + 2 = q) (k : mj_Ev J q loc (.int v :: st) S f g post) : mj_Ev J pc loc (st) S f g post := by
  intro p l e s m args below meth c D cA sp ad A cells slots R Q hC hR hk0 H locs ls hP hD hS hl
  subst hq
  exact lv_bipush hC.1 hC.2.1 hd hv (k p l e s m args below meth c D cA sp ad A cells slots R Q hC hR hk0 H locs ls hP hD hS hl)
theorem ev_sipush {J : mj_J} {pc q : Nat} {loc : List (Option Value)} {st : List Value} {S : mj_S} {f : mj_I} {g : mj_L} {post : Option Value → mj_I → mj_L → Prop} {n : Int} {v : Int32} (hd : decode (mj_cc J) pc = .ok (.sipush n, 3)) (hv : (Int16.ofInt n).toInt32 = v) (hq : pc + 3 = q) (k : mj_Ev J q loc (.int v :: st) S f g post) : mj_Ev J pc loc (st) S f g post := by
  intro p l e s m args below meth c D cA sp ad A cells slots R Q hC hR hk0 H locs ls hP hD hS hl
  subst hq
  exact lv_sipush hC.1 hC.2.1 hd hv (k p l e s m args below meth c D cA sp ad A cells slots R Q hC hR hk0 H locs ls hP hD hS hl)
theorem ev_lconst {J : mj_J} {pc q : Nat} {loc : List (Option Value)} {st : List Value} {S : mj_S} {f : mj_I} {g : mj_L} {post : Option Value → mj_I → mj_L → Prop} {n : Fin 2} {v : Int64} (hd : decode (mj_cc J) pc = .ok (.lconst n, 1)) (hv : Int64.ofNat (n : Nat) = v) (hq : pc + 1 = q) (k : mj_Ev J q loc (.long v :: st) S f g post) : mj_Ev J pc loc (st) S f g post := by
  intro p l e s m args below meth c D cA sp ad A cells slots R Q hC hR hk0 H locs ls hP hD hS hl
  subst hq
  exact lv_lconst hC.1 hC.2.1 hd hv (k p l e s m args below meth c D cA sp ad A cells slots R Q hC hR hk0 H locs ls hP hD hS hl)
theorem ev_iadd {J : mj_J} {pc q : Nat} {loc : List (Option Value)} {st : List Value} {S : mj_S} {f : mj_I} {g : mj_L} {post : Option Value → mj_I → mj_L → Prop} {x y : Int32} (hd : decode (mj_cc J) pc = .ok (.iadd, 1)) (hq : pc + 1 = q) (k : mj_Ev J q loc (.int (x + y) :: st) S f g post) : mj_Ev J pc loc (.int y :: .int x :: st) S f g post := by
  intro p l e s m args below meth c D cA sp ad A cells slots R Q hC hR hk0 H locs ls hP hD hS hl
  subst hq
  exact lv_iadd hC.1 hC.2.1 hd  (k p l e s m args below meth c D cA sp ad A cells slots R Q hC hR hk0 H locs ls hP hD hS hl)
theorem ev_isub {J : mj_J} {pc q : Nat} {loc : List (Option Value)} {st : List Value} {S : mj_S} {f : mj_I} {g : mj_L} {post : Option Value → mj_I → mj_L → Prop} {x y : Int32} (hd : decode (mj_cc J) pc = .ok (.isub, 1)) (hq : pc + 1 = q) (k : mj_Ev J q loc (.int (x - y) :: st) S f g post) : mj_Ev J pc loc (.int y :: .int x :: st) S f g post := by
  intro p l e s m args below meth c D cA sp ad A cells slots R Q hC hR hk0 H locs ls hP hD hS hl
  subst hq
  exact lv_isub hC.1 hC.2.1 hd  (k p l e s m args below meth c D cA sp ad A cells slots R Q hC hR hk0 H locs ls hP hD hS hl)
theorem ev_imul {J : mj_J} {pc q : Nat} {loc : List (Option Value)} {st : List Value} {S : mj_S} {f : mj_I} {g : mj_L} {post : Option Value → mj_I → mj_L → Prop} {x y : Int32} (hd : decode (mj_cc J) pc = .ok (.imul, 1)) (hq : pc + 1 = q) (k : mj_Ev J q loc (.int (x * y) :: st) S f g post) : mj_Ev J pc loc (.int y :: .int x :: st) S f g post := by
  intro p l e s m args below meth c D cA sp ad A cells slots R Q hC hR hk0 H locs ls hP hD hS hl
  subst hq
  exact lv_imul hC.1 hC.2.1 hd  (k p l e s m args below meth c D cA sp ad A cells slots R Q hC hR hk0 H locs ls hP hD hS hl)
theorem ev_iand {J : mj_J} {pc q : Nat} {loc : List (Option Value)} {st : List Value} {S : mj_S} {f : mj_I} {g : mj_L} {post : Option Value → mj_I → mj_L → Prop} {x y : Int32} (hd : decode (mj_cc J) pc = .ok (.iand, 1)) (hq : pc + 1 = q) (k : mj_Ev J q loc (.int (x &&& y) :: st) S f g post) : mj_Ev J pc loc (.int y :: .int x :: st) S f g post := by
  intro p l e s m args below meth c D cA sp ad A cells slots R Q hC hR hk0 H locs ls hP hD hS hl
  subst hq
  exact lv_iand hC.1 hC.2.1 hd  (k p l e s m args below meth c D cA sp ad A cells slots R Q hC hR hk0 H locs ls hP hD hS hl)
theorem ev_ior {J : mj_J} {pc q : Nat} {loc : List (Option Value)} {st : List Value} {S : mj_S} {f : mj_I} {g : mj_L} {post : Option Value → mj_I → mj_L → Prop} {x y : Int32} (hd : decode (mj_cc J) pc = .ok (.ior, 1)) (hq : pc + 1 = q) (k : mj_Ev J q loc (.int (x ||| y) :: st) S f g post) : mj_Ev J pc loc (.int y :: .int x :: st) S f g post := by
  intro p l e s m args below meth c D cA sp ad A cells slots R Q hC hR hk0 H locs ls hP hD hS hl
  subst hq
  exact lv_ior hC.1 hC.2.1 hd  (k p l e s m args below meth c D cA sp ad A cells slots R Q hC hR hk0 H locs ls hP hD hS hl)
theorem ev_ixor {J : mj_J} {pc q : Nat} {loc : List (Option Value)} {st : List Value} {S : mj_S} {f : mj_I} {g : mj_L} {post : Option Value → mj_I → mj_L → Prop} {x y : Int32} (hd : decode (mj_cc J) pc = .ok (.ixor, 1)) (hq : pc + 1 = q) (k : mj_Ev J q loc (.int (x ^^^ y) :: st) S f g post) : mj_Ev J pc loc (.int y :: .int x :: st) S f g post := by
  intro p l e s m args below meth c D cA sp ad A cells slots R Q hC hR hk0 H locs ls hP hD hS hl
  subst hq
  exact lv_ixor hC.1 hC.2.1 hd  (k p l e s m args below meth c D cA sp ad A cells slots R Q hC hR hk0 H locs ls hP hD hS hl)
theorem ev_ishl {J : mj_J} {pc q : Nat} {loc : List (Option Value)} {st : List Value} {S : mj_S} {f : mj_I} {g : mj_L} {post : Option Value → mj_I → mj_L → Prop} {x y : Int32} (hd : decode (mj_cc J) pc = .ok (.ishl, 1)) (hq : pc + 1 = q) (k : mj_Ev J q loc (.int (x <<< (y &&& 31)) :: st) S f g post) : mj_Ev J pc loc (.int y :: .int x :: st) S f g post := by
  intro p l e s m args below meth c D cA sp ad A cells slots R Q hC hR hk0 H locs ls hP hD hS hl
  subst hq
  exact lv_ishl hC.1 hC.2.1 hd  (k p l e s m args below meth c D cA sp ad A cells slots R Q hC hR hk0 H locs ls hP hD hS hl)
theorem ev_ishr {J : mj_J} {pc q : Nat} {loc : List (Option Value)} {st : List Value} {S : mj_S} {f : mj_I} {g : mj_L} {post : Option Value → mj_I → mj_L → Prop} {x y : Int32} (hd : decode (mj_cc J) pc = .ok (.ishr, 1)) (hq : pc + 1 = q) (k : mj_Ev J q loc (.int (x >>> (y &&& 31)) :: st) S f g post) : mj_Ev J pc loc (.int y :: .int x :: st) S f g post := by
  intro p l e s m args below meth c D cA sp ad A cells slots R Q hC hR hk0 H locs ls hP hD hS hl
  subst hq
  exact lv_ishr hC.1 hC.2.1 hd  (k p l e s m args below meth c D cA sp ad A cells slots R Q hC hR hk0 H locs ls hP hD hS hl)
theorem ev_ladd {J : mj_J} {pc q : Nat} {loc : List (Option Value)} {st : List Value} {S : mj_S} {f : mj_I} {g : mj_L} {post : Option Value → mj_I → mj_L → Prop} {x y : Int64} (hd : decode (mj_cc J) pc = .ok (.ladd, 1)) (hq : pc + 1 = q) (k : mj_Ev J q loc (.long (x + y) :: st) S f g post) : mj_Ev J pc loc (.long y :: .long x :: st) S f g post := by
  intro p l e s m args below meth c D cA sp ad A cells slots R Q hC hR hk0 H locs ls hP hD hS hl
  subst hq
  exact lv_ladd hC.1 hC.2.1 hd  (k p l e s m args below meth c D cA sp ad A cells slots R Q hC hR hk0 H locs ls hP hD hS hl)
theorem ev_lsub {J : mj_J} {pc q : Nat} {loc : List (Option Value)} {st : List Value} {S : mj_S} {f : mj_I} {g : mj_L} {post : Option Value → mj_I → mj_L → Prop} {x y : Int64} (hd : decode (mj_cc J) pc = .ok (.lsub, 1)) (hq : pc + 1 = q) (k : mj_Ev J q loc (.long (x - y) :: st) S f g post) : mj_Ev J pc loc (.long y :: .long x :: st) S f g post := by
  intro p l e s m args below meth c D cA sp ad A cells slots R Q hC hR hk0 H locs ls hP hD hS hl
  subst hq
  exact lv_lsub hC.1 hC.2.1 hd  (k p l e s m args below meth c D cA sp ad A cells slots R Q hC hR hk0 H locs ls hP hD hS hl)
theorem ev_lmul {J : mj_J} {pc q : Nat} {loc : List (Option Value)} {st : List Value} {S : mj_S} {f : mj_I} {g : mj_L} {post : Option Value → mj_I → mj_L → Prop} {x y : Int64} (hd : decode (mj_cc J) pc = .ok (.lmul, 1)) (hq : pc + 1 = q) (k : mj_Ev J q loc (.long (x * y) :: st) S f g post) : mj_Ev J pc loc (.long y :: .long x :: st) S f g post := by
  intro p l e s m args below meth c D cA sp ad A cells slots R Q hC hR hk0 H locs ls hP hD hS hl
  subst hq
  exact lv_lmul hC.1 hC.2.1 hd  (k p l e s m args below meth c D cA sp ad A cells slots R Q hC hR hk0 H locs ls hP hD hS hl)
theorem ev_idiv {J : mj_J} {pc q : Nat} {loc : List (Option Value)} {st : List Value} {S : mj_S} {f : mj_I} {g : mj_L} {post : Option Value → mj_I → mj_L → Prop} {x y : Int32} (hd : decode (mj_cc J) pc = .ok (.idiv, 1)) (hne : ¬ y = 0) (hq : pc + 1 = q) (k : mj_Ev J q loc (.int (x / y) :: st) S f g post) : mj_Ev J pc loc (.int y :: .int x :: st) S f g post := by
  intro p l e s m args below meth c D cA sp ad A cells slots R Q hC hR hk0 H locs ls hP hD hS hl
  subst hq
  exact lv_idiv hC.1 hC.2.1 hd hne (k p l e s m args below meth c D cA sp ad A cells slots R Q hC hR hk0 H locs ls hP hD hS hl)
theorem ev_irem {J : mj_J} {pc q : Nat} {loc : List (Option Value)} {st : List Value} {S : mj_S} {f : mj_I} {g : mj_L} {post : Option Value → mj_I → mj_L → Prop} {x y : Int32} (hd : decode (mj_cc J) pc = .ok (.irem, 1)) (hne : ¬ y = 0) (hq : pc + 1 = q) (k : mj_Ev J q loc (.int (x - x / y * y) :: st) S f g post) : mj_Ev J pc loc (.int y :: .int x :: st) S f g post := by
  intro p l e s m args below meth c D cA sp ad A cells slots R Q hC hR hk0 H locs ls hP hD hS hl
  subst hq
  exact lv_irem hC.1 hC.2.1 hd hne (k p l e s m args below meth c D cA sp ad A cells slots R Q hC hR hk0 H locs ls hP hD hS hl)
theorem ev_ldiv {J : mj_J} {pc q : Nat} {loc : List (Option Value)} {st : List Value} {S : mj_S} {f : mj_I} {g : mj_L} {post : Option Value → mj_I → mj_L → Prop} {x y : Int64} (hd : decode (mj_cc J) pc = .ok (.ldiv, 1)) (hne : ¬ y = 0) (hq : pc + 1 = q) (k : mj_Ev J q loc (.long (x / y) :: st) S f g post) : mj_Ev J pc loc (.long y :: .long x :: st) S f g post := by
  intro p l e s m args below meth c D cA sp ad A cells slots R Q hC hR hk0 H locs ls hP hD hS hl
  subst hq
  exact lv_ldiv hC.1 hC.2.1 hd hne (k p l e s m args below meth c D cA sp ad A cells slots R Q hC hR hk0 H locs ls hP hD hS hl)
theorem ev_lrem {J : mj_J} {pc q : Nat} {loc : List (Option Value)} {st : List Value} {S : mj_S} {f : mj_I} {g : mj_L} {post : Option Value → mj_I → mj_L → Prop} {x y : Int64} (hd : decode (mj_cc J) pc = .ok (.lrem, 1)) (hne : ¬ y = 0) (hq : pc + 1 = q) (k : mj_Ev J q loc (.long (x - x / y * y) :: st) S f g post) : mj_Ev J pc loc (.long y :: .long x :: st) S f g post := by
  intro p l e s m args below meth c D cA sp ad A cells slots R Q hC hR hk0 H locs ls hP hD hS hl
  subst hq
  exact lv_lrem hC.1 hC.2.1 hd hne (k p l e s m args below meth c D cA sp ad A cells slots R Q hC hR hk0 H locs ls hP hD hS hl)
theorem ev_ineg {J : mj_J} {pc q : Nat} {loc : List (Option Value)} {st : List Value} {S : mj_S} {f : mj_I} {g : mj_L} {post : Option Value → mj_I → mj_L → Prop} {x : Int32} (hd : decode (mj_cc J) pc = .ok (.ineg, 1)) (hq : pc + 1 = q) (k : mj_Ev J q loc (.int (-x) :: st) S f g post) : mj_Ev J pc loc (.int x :: st) S f g post := by
  intro p l e s m args below meth c D cA sp ad A cells slots R Q hC hR hk0 H locs ls hP hD hS hl
  subst hq
  exact lv_ineg hC.1 hC.2.1 hd  (k p l e s m args below meth c D cA sp ad A cells slots R Q hC hR hk0 H locs ls hP hD hS hl)
theorem ev_i2l {J : mj_J} {pc q : Nat} {loc : List (Option Value)} {st : List Value} {S : mj_S} {f : mj_I} {g : mj_L} {post : Option Value → mj_I → mj_L → Prop} {x : Int32} (hd : decode (mj_cc J) pc = .ok (.i2l, 1)) (hq : pc + 1 = q) (k : mj_Ev J q loc (.long x.toInt64 :: st) S f g post) : mj_Ev J pc loc (.int x :: st) S f g post := by
  intro p l e s m args below meth c D cA sp ad A cells slots R Q hC hR hk0 H locs ls hP hD hS hl
  subst hq
  exact lv_i2l hC.1 hC.2.1 hd rfl (k p l e s m args below meth c D cA sp ad A cells slots R Q hC hR hk0 H locs ls hP hD hS hl)
theorem ev_l2i {J : mj_J} {pc q : Nat} {loc : List (Option Value)} {st : List Value} {S : mj_S} {f : mj_I} {g : mj_L} {post : Option Value → mj_I → mj_L → Prop} {x : Int64} (hd : decode (mj_cc J) pc = .ok (.l2i, 1)) (hq : pc + 1 = q) (k : mj_Ev J q loc (.int x.toInt32 :: st) S f g post) : mj_Ev J pc loc (.long x :: st) S f g post := by
  intro p l e s m args below meth c D cA sp ad A cells slots R Q hC hR hk0 H locs ls hP hD hS hl
  subst hq
  exact lv_l2i hC.1 hC.2.1 hd rfl (k p l e s m args below meth c D cA sp ad A cells slots R Q hC hR hk0 H locs ls hP hD hS hl)
theorem ev_i2b {J : mj_J} {pc q : Nat} {loc : List (Option Value)} {st : List Value} {S : mj_S} {f : mj_I} {g : mj_L} {post : Option Value → mj_I → mj_L → Prop} {x : Int32} (hd : decode (mj_cc J) pc = .ok (.i2b, 1)) (hq : pc + 1 = q) (k : mj_Ev J q loc (.int x.toInt8.toInt32 :: st) S f g post) : mj_Ev J pc loc (.int x :: st) S f g post := by
  intro p l e s m args below meth c D cA sp ad A cells slots R Q hC hR hk0 H locs ls hP hD hS hl
  subst hq
  exact lv_i2b hC.1 hC.2.1 hd rfl (k p l e s m args below meth c D cA sp ad A cells slots R Q hC hR hk0 H locs ls hP hD hS hl)
theorem ev_i2s {J : mj_J} {pc q : Nat} {loc : List (Option Value)} {st : List Value} {S : mj_S} {f : mj_I} {g : mj_L} {post : Option Value → mj_I → mj_L → Prop} {x : Int32} (hd : decode (mj_cc J) pc = .ok (.i2s, 1)) (hq : pc + 1 = q) (k : mj_Ev J q loc (.int x.toInt16.toInt32 :: st) S f g post) : mj_Ev J pc loc (.int x :: st) S f g post := by
  intro p l e s m args below meth c D cA sp ad A cells slots R Q hC hR hk0 H locs ls hP hD hS hl
  subst hq
  exact lv_i2s hC.1 hC.2.1 hd rfl (k p l e s m args below meth c D cA sp ad A cells slots R Q hC hR hk0 H locs ls hP hD hS hl)
def mj_ushr (x y : Int32) : Int32 := (x.toUInt32 >>> (y.toUInt32 &&& Int32.toUInt32 31)).toInt32
theorem ev_iushr {J : mj_J} {pc q : Nat} {loc : List (Option Value)} {st : List Value} {S : mj_S} {f : mj_I} {g : mj_L} {post : Option Value → mj_I → mj_L → Prop} {x y : Int32} (hd : decode (mj_cc J) pc = .ok (.iushr, 1)) (hq : pc + 1 = q) (k : mj_Ev J q loc (.int (mj_ushr x y) :: st) S f g post) : mj_Ev J pc loc (.int y :: .int x :: st) S f g post := by
  intro p l e s m args below meth c D cA sp ad A cells slots R Q hC hR hk0 H locs ls hP hD hS hl
  subst hq
  exact lv_iushr hC.1 hC.2.1 hd rfl (k p l e s m args below meth c D cA sp ad A cells slots R Q hC hR hk0 H locs ls hP hD hS hl)
theorem ev_lcmp {J : mj_J} {pc q : Nat} {loc : List (Option Value)} {st : List Value} {S : mj_S} {f : mj_I} {g : mj_L} {post : Option Value → mj_I → mj_L → Prop} {x y : Int64} (hd : decode (mj_cc J) pc = .ok (.lcmp, 1)) (hq : pc + 1 = q) (k : mj_Ev J q loc (.int (lg_cmp x y) :: st) S f g post) : mj_Ev J pc loc (.long y :: .long x :: st) S f g post := by
  intro p l e s m args below meth c D cA sp ad A cells slots R Q hC hR hk0 H locs ls hP hD hS hl
  subst hq
  exact W.lcmp hC.1 hC.2.1 hd  (k p l e s m args below meth c D cA sp ad A cells slots R Q hC hR hk0 H locs ls hP hD hS hl)
theorem ev_dup {J : mj_J} {pc q : Nat} {loc : List (Option Value)} {st : List Value} {S : mj_S} {f : mj_I} {g : mj_L} {post : Option Value → mj_I → mj_L → Prop} {v : Value} (hd : decode (mj_cc J) pc = .ok (.dup, 1)) (hc : v.category = 1) (hq : pc + 1 = q) (k : mj_Ev J q loc (v :: v :: st) S f g post) : mj_Ev J pc loc (v :: st) S f g post := by
  intro p l e s m args below meth c D cA sp ad A cells slots R Q hC hR hk0 H locs ls hP hD hS hl
  subst hq
  exact lv_dup hC.1 hC.2.1 hd ((mj_tv_cat ad sp v).trans hc) (k p l e s m args below meth c D cA sp ad A cells slots R Q hC hR hk0 H locs ls hP hD hS hl)
theorem ev_pop {J : mj_J} {pc q : Nat} {loc : List (Option Value)} {st : List Value} {S : mj_S} {f : mj_I} {g : mj_L} {post : Option Value → mj_I → mj_L → Prop} {v : Value} (hd : decode (mj_cc J) pc = .ok (.pop, 1)) (hc : v.category = 1) (hq : pc + 1 = q) (k : mj_Ev J q loc (st) S f g post) : mj_Ev J pc loc (v :: st) S f g post := by
  intro p l e s m args below meth c D cA sp ad A cells slots R Q hC hR hk0 H locs ls hP hD hS hl
  subst hq
  exact lv_pop hC.1 hC.2.1 hd ((mj_tv_cat ad sp v).trans hc) (k p l e s m args below meth c D cA sp ad A cells slots R Q hC hR hk0 H locs ls hP hD hS hl)
theorem ev_dup2 {J : mj_J} {pc q : Nat} {loc : List (Option Value)} {st : List Value} {S : mj_S} {f : mj_I} {g : mj_L} {post : Option Value → mj_I → mj_L → Prop} {u v : Value} (hd : decode (mj_cc J) pc = .ok (.dup2, 1)) (hc : v.category = 1) (hc2 : u.category = 1) (hq : pc + 1 = q) (k : mj_Ev J q loc (v :: u :: v :: u :: st) S f g post) : mj_Ev J pc loc (v :: u :: st) S f g post := by
  intro p l e s m args below meth c D cA sp ad A cells slots R Q hC hR hk0 H locs ls hP hD hS hl
  subst hq
  exact lv_dup2_11 hC.1 hC.2.1 hd ((mj_tv_cat ad sp v).trans hc) ((mj_tv_cat ad sp u).trans hc2) (k p l e s m args below meth c D cA sp ad A cells slots R Q hC hR hk0 H locs ls hP hD hS hl)
theorem ev_iload_n {J : mj_J} {pc q : Nat} {loc : List (Option Value)} {st : List Value} {S : mj_S} {f : mj_I} {g : mj_L} {post : Option Value → mj_I → mj_L → Prop} {n : Fin 4} {x : Int32} (hd : decode (mj_cc J) pc = .ok (.iload_n n, 1)) (hl0 : loc[(n : Nat)]? = some (some (.int x))) (hq : pc + 1 = q) (k : mj_Ev J q loc (.int x :: st) S f g post) : mj_Ev J pc loc st S f g post := by
  intro p l e s m args below meth c D cA sp ad A cells slots R Q hC hR hk0 H locs ls hP hD hS hl
  subst hq
  exact lv_iload_n hC.1 hC.2.1 hd rfl (hl.2.2 _ _ hl0) (k p l e s m args below meth c D cA sp ad A cells slots R Q hC hR hk0 H locs ls hP hD hS hl)
theorem ev_iload {J : mj_J} {pc q : Nat} {loc : List (Option Value)} {st : List Value} {S : mj_S} {f : mj_I} {g : mj_L} {post : Option Value → mj_I → mj_L → Prop} {n : Nat} {x : Int32} (hd : decode (mj_cc J) pc = .ok (.iload n, 2)) (hl0 : loc[n]? = some (some (.int x))) (hq : pc + 2 = q) (k : mj_Ev J q loc (.int x :: st) S f g post) : mj_Ev J pc loc st S f g post := by
  intro p l e s m args below meth c D cA sp ad A cells slots R Q hC hR hk0 H locs ls hP hD hS hl
  subst hq
  exact lv_iload hC.1 hC.2.1 hd (hl.2.2 _ _ hl0) (k p l e s m args below meth c D cA sp ad A cells slots R Q hC hR hk0 H locs ls hP hD hS hl)
theorem ev_lload_n {J : mj_J} {pc q : Nat} {loc : List (Option Value)} {st : List Value} {S : mj_S} {f : mj_I} {g : mj_L} {post : Option Value → mj_I → mj_L → Prop} {n : Fin 4} {x : Int64} (hd : decode (mj_cc J) pc = .ok (.lload_n n, 1)) (hl0 : loc[(n : Nat)]? = some (some (.long x))) (hq : pc + 1 = q) (k : mj_Ev J q loc (.long x :: st) S f g post) : mj_Ev J pc loc st S f g post := by
  intro p l e s m args below meth c D cA sp ad A cells slots R Q hC hR hk0 H locs ls hP hD hS hl
  subst hq
  exact lv_lload_n hC.1 hC.2.1 hd rfl (hl.2.2 _ _ hl0) (k p l e s m args below meth c D cA sp ad A cells slots R Q hC hR hk0 H locs ls hP hD hS hl)
theorem ev_lload {J : mj_J} {pc q : Nat} {loc : List (Option Value)} {st : List Value} {S : mj_S} {f : mj_I} {g : mj_L} {post : Option Value → mj_I → mj_L → Prop} {n : Nat} {x : Int64} (hd : decode (mj_cc J) pc = .ok (.lload n, 2)) (hl0 : loc[n]? = some (some (.long x))) (hq : pc + 2 = q) (k : mj_Ev J q loc (.long x :: st) S f g post) : mj_Ev J pc loc st S f g post := by
  intro p l e s m args below meth c D cA sp ad A cells slots R Q hC hR hk0 H locs ls hP hD hS hl
  subst hq
  exact lv_lload hC.1 hC.2.1 hd (hl.2.2 _ _ hl0) (k p l e s m args below meth c D cA sp ad A cells slots R Q hC hR hk0 H locs ls hP hD hS hl)
theorem ev_aload_n {J : mj_J} {pc q : Nat} {loc : List (Option Value)} {st : List Value} {S : mj_S} {f : mj_I} {g : mj_L} {post : Option Value → mj_I → mj_L → Prop} {n : Fin 4} {x : Nat} (hd : decode (mj_cc J) pc = .ok (.aload_n n, 1)) (hl0 : loc[(n : Nat)]? = some (some (.ref x))) (hq : pc + 1 = q) (k : mj_Ev J q loc (.ref x :: st) S f g post) : mj_Ev J pc loc st S f g post := by
  intro p l e s m args below meth c D cA sp ad A cells slots R Q hC hR hk0 H locs ls hP hD hS hl
  subst hq
  exact lv_aload_n hC.1 hC.2.1 hd rfl (hl.2.2 _ _ hl0) (k p l e s m args below meth c D cA sp ad A cells slots R Q hC hR hk0 H locs ls hP hD hS hl)
theorem ev_aload {J : mj_J} {pc q : Nat} {loc : List (Option Value)} {st : List Value} {S : mj_S} {f : mj_I} {g : mj_L} {post : Option Value → mj_I → mj_L → Prop} {n : Nat} {x : Nat} (hd : decode (mj_cc J) pc = .ok (.aload n, 2)) (hl0 : loc[n]? = some (some (.ref x))) (hq : pc + 2 = q) (k : mj_Ev J q loc (.ref x :: st) S f g post) : mj_Ev J pc loc st S f g post := by
  intro p l e s m args below meth c D cA sp ad A cells slots R Q hC hR hk0 H locs ls hP hD hS hl
  subst hq
  exact lv_aload hC.1 hC.2.1 hd (hl.2.2 _ _ hl0) (k p l e s m args below meth c D cA sp ad A cells slots R Q hC hR hk0 H locs ls hP hD hS hl)
theorem ev_istore_n {J : mj_J} {pc q : Nat} {loc : List (Option Value)} {st : List Value} {S : mj_S} {f : mj_I} {g : mj_L} {post : Option Value → mj_I → mj_L → Prop} {n : Fin 4} {x : Int32} {loc' : List (Option Value)} (hd : decode (mj_cc J) pc = .ok (.istore_n n, 1)) (hn : (n : Nat) < mj_nL J) (hs : mj_set loc (n : Nat) (.int x) = loc') (hq : pc + 1 = q) (k : mj_Ev J q loc' st S f g post) : mj_Ev J pc loc (.int x :: st) S f g post := by
  intro p l e s m args below meth c D cA sp ad A cells slots R Q hC hR hk0 H locs ls hP hD hS hl
  subst hq
  subst hs
  exact lv_istore_n hC.1 hC.2.1 hd rfl (mj_lv_has hl) hn rfl (fun ls hl => k p l e s m args below meth c D cA sp ad A cells slots R Q hC hR hk0 H locs ls hP hD hS (mj_lv_set (v := .int x) hl))
theorem ev_istore {J : mj_J} {pc q : Nat} {loc : List (Option Value)} {st : List Value} {S : mj_S} {f : mj_I} {g : mj_L} {post : Option Value → mj_I → mj_L → Prop} {n : Nat} {x : Int32} {loc' : List (Option Value)} (hd : decode (mj_cc J) pc = .ok (.istore n, 2)) (hn : n < mj_nL J) (hs : mj_set loc n (.int x) = loc') (hq : pc + 2 = q) (k : mj_Ev J q loc' st S f g post) : mj_Ev J pc loc (.int x :: st) S f g post := by
  intro p l e s m args below meth c D cA sp ad A cells slots R Q hC hR hk0 H locs ls hP hD hS hl
  subst hq
  subst hs
  exact lv_istore hC.1 hC.2.1 hd (mj_lv_has hl) hn rfl (fun ls hl => k p l e s m args below meth c D cA sp ad A cells slots R Q hC hR hk0 H locs ls hP hD hS (mj_lv_set (v := .int x) hl))
theorem ev_lstore_n {J : mj_J} {pc q : Nat} {loc : List (Option Value)} {st : List Value} {S : mj_S} {f : mj_I} {g : mj_L} {post : Option Value → mj_I → mj_L → Prop} {n : Fin 4} {x : Int64} {loc' : List (Option Value)} (hd : decode (mj_cc J) pc = .ok (.lstore_n n, 1)) (hn : (n : Nat) + 1 < mj_nL J) (hs : mj_set2 loc (n : Nat) (.long x) = loc') (hq : pc + 1 = q) (k : mj_Ev J q loc' st S f g post) : mj_Ev J pc loc (.long x :: st) S f g post := by
  intro p l e s m args below meth c D cA sp ad A cells slots R Q hC hR hk0 H locs ls hP hD hS hl
  subst hq
  subst hs
  exact lv_lstore_n hC.1 hC.2.1 hd rfl (mj_lv_has hl) hn rfl (fun ls hl => k p l e s m args below meth c D cA sp ad A cells slots R Q hC hR hk0 H locs ls hP hD hS (mj_lv_set2 (v := .long x) hl))
theorem ev_lstore {J : mj_J} {pc q : Nat} {loc : List (Option Value)} {st : List Value} {S : mj_S} {f : mj_I} {g : mj_L} {post : Option Value → mj_I → mj_L → Prop} {n : Nat} {x : Int64} {loc' : List (Option Value)} (hd : decode (mj_cc J) pc = .ok (.lstore n, 2)) (hn : n + 1 < mj_nL J) (hs : mj_set2 loc n (.long x) = loc') (hq : pc + 2 = q) (k : mj_Ev J q loc' st S f g post) : mj_Ev J pc loc (.long x :: st) S f g post := by
  intro p l e s m args below meth c D cA sp ad A cells slots R Q hC hR hk0 H locs ls hP hD hS hl
  subst hq
  subst hs
  exact lv_lstore hC.1 hC.2.1 hd (mj_lv_has hl) hn rfl (fun ls hl => k p l e s m args below meth c D cA sp ad A cells slots R Q hC hR hk0 H locs ls hP hD hS (mj_lv_set2 (v := .long x) hl))
theorem ev_astore_n {J : mj_J} {pc q : Nat} {loc : List (Option Value)} {st : List Value} {S : mj_S} {f : mj_I} {g : mj_L} {post : Option Value → mj_I → mj_L → Prop} {n : Fin 4} {x : Nat} {loc' : List (Option Value)} (hd : decode (mj_cc J) pc = .ok (.astore_n n, 1)) (hn : (n : Nat) < mj_nL J) (hs : mj_set loc (n : Nat) (.ref x) = loc') (hq : pc + 1 = q) (k : mj_Ev J q loc' st S f g post) : mj_Ev J pc loc (.ref x :: st) S f g post := by
  intro p l e s m args below meth c D cA sp ad A cells slots R Q hC hR hk0 H locs ls hP hD hS hl
  subst hq
  subst hs
  exact lv_astore_n hC.1 hC.2.1 hd rfl (mj_lv_has hl) hn rfl (fun ls hl => k p l e s m args below meth c D cA sp ad A cells slots R Q hC hR hk0 H locs ls hP hD hS (mj_lv_set (v := .ref x) hl))
theorem ev_astore {J : mj_J} {pc q : Nat} {loc : List (Option Value)} {st : List Value} {S : mj_S} {f : mj_I} {g : mj_L} {post : Option Value → mj_I → mj_L → Prop} {n : Nat} {x : Nat} {loc' : List (Option Value)} (hd : decode (mj_cc J) pc = .ok (.astore n, 2)) (hn : n < mj_nL J) (hs : mj_set loc n (.ref x) = loc') (hq : pc + 2 = q) (k : mj_Ev J q loc' st S f g post) : mj_Ev J pc loc (.ref x :: st) S f g post := by
  intro p l e s m args below meth c D cA sp ad A cells slots R Q hC hR hk0 H locs ls hP hD hS hl
  subst hq
  subst hs
  exact lv_astore hC.1 hC.2.1 hd (mj_lv_has hl) hn rfl (fun ls hl => k p l e s m args below meth c D cA sp ad A cells slots R Q hC hR hk0 H locs ls hP hD hS (mj_lv_set (v := .ref x) hl))
theorem ev_iinc {J : mj_J} {pc q : Nat} {loc : List (Option Value)} {st : List Value} {S : mj_S} {f : mj_I} {g : mj_L} {post : Option Value → mj_I → mj_L → Prop} {n : Nat} {z : Int} {x v : Int32} {loc' : List (Option Value)} (hd : decode (mj_cc J) pc = .ok (.iinc n z, 3)) (hl0 : loc[n]? = some (some (.int x))) (hn : n < mj_nL J) (hz : Int32.ofInt z = v) (hs : mj_set loc n (.int (x + v)) = loc') (hq : pc + 3 = q) (k : mj_Ev J q loc' st S f g post) : mj_Ev J pc loc st S f g post := by
  intro p l e s m args below meth c D cA sp ad A cells slots R Q hC hR hk0 H locs ls hP hD hS hl
  subst hq
  subst hs
  subst hz
  have hm : (n, Value.int x) ∈ mj_al (mj_tv ad sp) loc := mj_al_mem.mpr ⟨_, hl0, rfl⟩
  obtain ⟨j, hj⟩ := List.getElem?_of_mem hm
  exact lv_iinc hC.1 hC.2.1 hd (mj_lv_has hl) hj rfl hn rfl (fun ls hl => k p l e s m args below meth c D cA sp ad A cells slots R Q hC hR hk0 H locs ls hP hD hS (mj_lv_set (v := .int _) hl))
theorem ev_if_eq {J : mj_J} {pc q : Nat} {loc : List (Option Value)} {st : List Value} {S : mj_S} {f : mj_I} {g : mj_L} {post : Option Value → mj_I → mj_L → Prop} {α : Type} {A B O : α} {x : Int32} {off : Int} {t : Nat} (hd : decode (mj_cc J) pc = .ok (.ifCond .eq off, 3)) (ht : (pc : Int) + off = (t : Int)) (hq : pc + 3 = q) (hg : (if x = 0 then A else B) = O) (ka : A = O → mj_Ev J t loc st S f g post) (kb : B = O → mj_Ev J q loc st S f g post) : mj_Ev J pc loc (.int x :: st) S f g post := by
  intro p l e s m args below meth c D cA sp ad A cells slots R Q hC hR hk0 H locs ls hP hD hS hl
  subst hq
  by_cases hc : x = 0
  · rw [if_pos hc] at hg
    exact lv_if_eq hC.1 hC.2.1 hd ht (fun _ => ka hg p l e s m args below meth c D cA sp ad A cells slots R Q hC hR hk0 H locs ls hP hD hS hl) (fun h => absurd hc (h))
  · rw [if_neg hc] at hg
    exact lv_if_eq hC.1 hC.2.1 hd ht (fun h => absurd h (hc)) (fun _ => kb hg p l e s m args below meth c D cA sp ad A cells slots R Q hC hR hk0 H locs ls hP hD hS hl)
theorem ev_if_lt {J : mj_J} {pc q : Nat} {loc : List (Option Value)} {st : List Value} {S : mj_S} {f : mj_I} {g : mj_L} {post : Option Value → mj_I → mj_L → Prop} {α : Type} {A B O : α} {x : Int32} {off : Int} {t : Nat} (hd : decode (mj_cc J) pc = .ok (.ifCond .lt off, 3)) (ht : (pc : Int) + off = (t : Int)) (hq : pc + 3 = q) (hg : (if x < 0 then A else B) = O) (ka : A = O → mj_Ev J t loc st S f g post) (kb : B = O → mj_Ev J q loc st S f g post) : mj_Ev J pc loc (.int x :: st) S f g post := by
  intro p l e s m args below meth c D cA sp ad A cells slots R Q hC hR hk0 H locs ls hP hD hS hl
  subst hq
  by_cases hc : x < 0
  · rw [if_pos hc] at hg
    exact lv_if_lt hC.1 hC.2.1 hd ht (fun _ => ka hg p l e s m args below meth c D cA sp ad A cells slots R Q hC hR hk0 H locs ls hP hD hS hl) (fun h => absurd hc (h))
  · rw [if_neg hc] at hg
    exact lv_if_lt hC.1 hC.2.1 hd ht (fun h => absurd h (hc)) (fun _ => kb hg p l e s m args below meth c D cA sp ad A cells slots R Q hC hR hk0 H locs ls hP hD hS hl)
theorem ev_if_gt {J : mj_J} {pc q : Nat} {loc : List (Option Value)} {st : List Value} {S : mj_S} {f : mj_I} {g : mj_L} {post : Option Value → mj_I → mj_L → Prop} {α : Type} {A B O : α} {x : Int32} {off : Int} {t : Nat} (hd : decode (mj_cc J) pc = .ok (.ifCond .gt off, 3)) (ht : (pc : Int) + off = (t : Int)) (hq : pc + 3 = q) (hg : (if 0 < x then A else B) = O) (ka : A = O → mj_Ev J t loc st S f g post) (kb : B = O → mj_Ev J q loc st S f g post) : mj_Ev J pc loc (.int x :: st) S f g post := by
  intro p l e s m args below meth c D cA sp ad A cells slots R Q hC hR hk0 H locs ls hP hD hS hl
  subst hq
  by_cases hc : 0 < x
  · rw [if_pos hc] at hg
    exact lv_if_gt hC.1 hC.2.1 hd ht (fun _ => ka hg p l e s m args below meth c D cA sp ad A cells slots R Q hC hR hk0 H locs ls hP hD hS hl) (fun h => absurd hc (h))
  · rw [if_neg hc] at hg
    exact lv_if_gt hC.1 hC.2.1 hd ht (fun h => absurd h (hc)) (fun _ => kb hg p l e s m args below meth c D cA sp ad A cells slots R Q hC hR hk0 H locs ls hP hD hS hl)
theorem ev_if_ne {J : mj_J} {pc q : Nat} {loc : List (Option Value)} {st : List Value} {S : mj_S} {f : mj_I} {g : mj_L} {post : Option Value → mj_I → mj_L → Prop} {α : Type} {A B O : α} {x : Int32} {off : Int} {t : Nat} (hd : decode (mj_cc J) pc = .ok (.ifCond .ne off, 3)) (ht : (pc : Int) + off = (t : Int)) (hq : pc + 3 = q) (hg : (if x = 0 then A else B) = O) (ka : A = O → mj_Ev J q loc st S f g post) (kb : B = O → mj_Ev J t loc st S f g post) : mj_Ev J pc loc (.int x :: st) S f g post := by
  intro p l e s m args below meth c D cA sp ad A cells slots R Q hC hR hk0 H locs ls hP hD hS hl
  subst hq
  by_cases hc : x = 0
  · rw [if_pos hc] at hg
    exact lv_if_ne hC.1 hC.2.1 hd ht (fun h => absurd hc (h)) (fun _ => ka hg p l e s m args below meth c D cA sp ad A cells slots R Q hC hR hk0 H locs ls hP hD hS hl)
  · rw [if_neg hc] at hg
    exact lv_if_ne hC.1 hC.2.1 hd ht (fun _ => kb hg p l e s m args below meth c D cA sp ad A cells slots R Q hC hR hk0 H locs ls hP hD hS hl) (fun h => absurd (h) hc)
theorem ev_if_ge {J : mj_J} {pc q : Nat} {loc : List (Option Value)} {st : List Value} {S : mj_S} {f : mj_I} {g : mj_L} {post : Option Value → mj_I → mj_L → Prop} {α : Type} {A B O : α} {x : Int32} {off : Int} {t : Nat} (hd : decode (mj_cc J) pc = .ok (.ifCond .ge off, 3)) (ht : (pc : Int) + off = (t : Int)) (hq : pc + 3 = q) (hg : (if x < 0 then A else B) = O) (ka : A = O → mj_Ev J q loc st S f g post) (kb : B = O → mj_Ev J t loc st S f g post) : mj_Ev J pc loc (.int x :: st) S f g post := by
  intro p l e s m args below meth c D cA sp ad A cells slots R Q hC hR hk0 H locs ls hP hD hS hl
  subst hq
  by_cases hc : x < 0
  · rw [if_pos hc] at hg
    exact lv_if_ge hC.1 hC.2.1 hd ht (fun h => absurd hc (Int32.not_lt.mpr h)) (fun _ => ka hg p l e s m args below meth c D cA sp ad A cells slots R Q hC hR hk0 H locs ls hP hD hS hl)
  · rw [if_neg hc] at hg
    exact lv_if_ge hC.1 hC.2.1 hd ht (fun _ => kb hg p l e s m args below meth c D cA sp ad A cells slots R Q hC hR hk0 H locs ls hP hD hS hl) (fun h => absurd (Int32.not_le.mp h) hc)
theorem ev_if_le {J : mj_J} {pc q : Nat} {loc : List (Option Value)} {st : List Value} {S : mj_S} {f : mj_I} {g : mj_L} {post : Option Value → mj_I → mj_L → Prop} {α : Type} {A B O : α} {x : Int32} {off : Int} {t : Nat} (hd : decode (mj_cc J) pc = .ok (.ifCond .le off, 3)) (ht : (pc : Int) + off = (t : Int)) (hq : pc + 3 = q) (hg : (if 0 < x then A else B) = O) (ka : A = O → mj_Ev J q loc st S f g post) (kb : B = O → mj_Ev J t loc st S f g post) : mj_Ev J pc loc (.int x :: st) S f g post := by
  intro p l e s m args below meth c D cA sp ad A cells slots R Q hC hR hk0 H locs ls hP hD hS hl
  subst hq
  by_cases hc : 0 < x
  · rw [if_pos hc] at hg
    exact lv_if_le hC.1 hC.2.1 hd ht (fun h => absurd hc (Int32.not_lt.mpr h)) (fun _ => ka hg p l e s m args below meth c D cA sp ad A cells slots R Q hC hR hk0 H locs ls hP hD hS hl)
  · rw [if_neg hc] at hg
    exact lv_if_le hC.1 hC.2.1 hd ht (fun _ => kb hg p l e s m args below meth c D cA sp ad A cells slots R Q hC hR hk0 H locs ls hP hD hS hl) (fun h => absurd (Int32.not_le.mp h) hc)
theorem ev_icmp_eq {J : mj_J} {pc q : Nat} {loc : List (Option Value)} {st : List Value} {S : mj_S} {f : mj_I} {g : mj_L} {post : Option Value → mj_I → mj_L → Prop} {α : Type} {A B O : α} {x y : Int32} {off : Int} {t : Nat} (hd : decode (mj_cc J) pc = .ok (.if_icmp .eq off, 3)) (ht : (pc : Int) + off = (t : Int)) (hq : pc + 3 = q) (hg : (if x = y then A else B) = O) (ka : A = O → mj_Ev J t loc st S f g post) (kb : B = O → mj_Ev J q loc st S f g post) : mj_Ev J pc loc (.int y :: .int x :: st) S f g post := by
  intro p l e s m args below meth c D cA sp ad A cells slots R Q hC hR hk0 H locs ls hP hD hS hl
  subst hq
  by_cases hc : x = y
  · rw [if_pos hc] at hg
    exact lv_icmp_eq hC.1 hC.2.1 hd ht (fun _ => ka hg p l e s m args below meth c D cA sp ad A cells slots R Q hC hR hk0 H locs ls hP hD hS hl) (fun h => absurd hc (h))
  · rw [if_neg hc] at hg
    exact lv_icmp_eq hC.1 hC.2.1 hd ht (fun h => absurd h (hc)) (fun _ => kb hg p l e s m args below meth c D cA sp ad A cells slots R Q hC hR hk0 H locs ls hP hD hS hl)
theorem ev_icmp_lt {J : mj_J} {pc q : Nat} {loc : List (Option Value)} {st : List Value} {S : mj_S} {f : mj_I} {g : mj_L} {post : Option Value → mj_I → mj_L → Prop} {α : Type} {A B O : α} {x y : Int32} {off : Int} {t : Nat} (hd : decode (mj_cc J) pc = .ok (.if_icmp .lt off, 3)) (ht : (pc : Int) + off = (t : Int)) (hq : pc + 3 = q) (hg : (if x < y then A else B) = O) (ka : A = O → mj_Ev J t loc st S f g post) (kb : B = O → mj_Ev J q loc st S f g post) : mj_Ev J pc loc (.int y :: .int x :: st) S f g post := by
  intro p l e s m args below meth c D cA sp ad A cells slots R Q hC hR hk0 H locs ls hP hD hS hl
  subst hq
  by_cases hc : x < y
  · rw [if_pos hc] at hg
    exact lv_icmp_lt hC.1 hC.2.1 hd ht (fun _ => ka hg p l e s m args below meth c D cA sp ad A cells slots R Q hC hR hk0 H locs ls hP hD hS hl) (fun h => absurd hc (h))
  · rw [if_neg hc] at hg
    exact lv_icmp_lt hC.1 hC.2.1 hd ht (fun h => absurd h (hc)) (fun _ => kb hg p l e s m args below meth c D cA sp ad A cells slots R Q hC hR hk0 H locs ls hP hD hS hl)
theorem ev_icmp_gt {J : mj_J} {pc q : Nat} {loc : List (Option Value)} {st : List Value} {S : mj_S} {f : mj_I} {g : mj_L} {post : Option Value → mj_I → mj_L → Prop} {α : Type} {A B O : α} {x y : Int32} {off : Int} {t : Nat} (hd : decode (mj_cc J) pc = .ok (.if_icmp .gt off, 3)) (ht : (pc : Int) + off = (t : Int)) (hq : pc + 3 = q) (hg : (if y < x then A else B) = O) (ka : A = O → mj_Ev J t loc st S f g post) (kb : B = O → mj_Ev J q loc st S f g post) : mj_Ev J pc loc (.int y :: .int x :: st) S f g post := by
  intro p l e s m args below meth c D cA sp ad A cells slots R Q hC hR hk0 H locs ls hP hD hS hl
  subst hq
  by_cases hc : y < x
  · rw [if_pos hc] at hg
    exact lv_icmp_gt hC.1 hC.2.1 hd ht (fun _ => ka hg p l e s m args below meth c D cA sp ad A cells slots R Q hC hR hk0 H locs ls hP hD hS hl) (fun h => absurd hc (h))
  · rw [if_neg hc] at hg
    exact lv_icmp_gt hC.1 hC.2.1 hd ht (fun h => absurd h (hc)) (fun _ => kb hg p l e s m args below meth c D cA sp ad A cells slots R Q hC hR hk0 H locs ls hP hD hS hl)
theorem ev_icmp_ne {J : mj_J} {pc q : Nat} {loc : List (Option Value)} {st : List Value} {S : mj_S} {f : mj_I} {g : mj_L} {post : Option Value → mj_I → mj_L → Prop} {α : Type} {A B O : α} {x y : Int32} {off : Int} {t : Nat} (hd : decode (mj_cc J) pc = .ok (.if_icmp .ne off, 3)) (ht : (pc : Int) + off = (t : Int)) (hq : pc + 3 = q) (hg : (if x = y then A else B) = O) (ka : A = O → mj_Ev J q loc st S f g post) (kb : B = O → mj_Ev J t loc st S f g post) : mj_Ev J pc loc (.int y :: .int x :: st) S f g post := by
  intro p l e s m args below meth c D cA sp ad A cells slots R Q hC hR hk0 H locs ls hP hD hS hl
  subst hq
  by_cases hc : x = y
  · rw [if_pos hc] at hg
    exact lv_icmp_ne hC.1 hC.2.1 hd ht (fun h => absurd hc (h)) (fun _ => ka hg p l e s m args below meth c D cA sp ad A cells slots R Q hC hR hk0 H locs ls hP hD hS hl)
  · rw [if_neg hc] at hg
    exact lv_icmp_ne hC.1 hC.2.1 hd ht (fun _ => kb hg p l e s m args below meth c D cA sp ad A cells slots R Q hC hR hk0 H locs ls hP hD hS hl) (fun h => absurd (h) hc)
theorem ev_icmp_ge {J : mj_J} {pc q : Nat} {loc : List (Option Value)} {st : List Value} {S : mj_S} {f : mj_I} {g : mj_L} {post : Option Value → mj_I → mj_L → Prop} {α : Type} {A B O : α} {x y : Int32} {off : Int} {t : Nat} (hd : decode (mj_cc J) pc = .ok (.if_icmp .ge off, 3)) (ht : (pc : Int) + off = (t : Int)) (hq : pc + 3 = q) (hg : (if x < y then A else B) = O) (ka : A = O → mj_Ev J q loc st S f g post) (kb : B = O → mj_Ev J t loc st S f g post) : mj_Ev J pc loc (.int y :: .int x :: st) S f g post := by
  intro p l e s m args below meth c D cA sp ad A cells slots R Q hC hR hk0 H locs ls hP hD hS hl
  subst hq
  by_cases hc : x < y
  · rw [if_pos hc] at hg
    exact lv_icmp_ge hC.1 hC.2.1 hd ht (fun h => absurd hc (Int32.not_lt.mpr h)) (fun _ => ka hg p l e s m args below meth c D cA sp ad A cells slots R Q hC hR hk0 H locs ls hP hD hS hl)
  · rw [if_neg hc] at hg
    exact lv_icmp_ge hC.1 hC.2.1 hd ht (fun _ => kb hg p l e s m args below meth c D cA sp ad A cells slots R Q hC hR hk0 H locs ls hP hD hS hl) (fun h => absurd (Int32.not_le.mp h) hc)
theorem ev_icmp_le {J : mj_J} {pc q : Nat} {loc : List (Option Value)} {st : List Value} {S : mj_S} {f : mj_I} {g : mj_L} {post : Option Value → mj_I → mj_L → Prop} {α : Type} {A B O : α} {x y : Int32} {off : Int} {t : Nat} (hd : decode (mj_cc J) pc = .ok (.if_icmp .le off, 3)) (ht : (pc : Int) + off = (t : Int)) (hq : pc + 3 = q) (hg : (if y < x then A else B) = O) (ka : A = O → mj_Ev J q loc st S f g post) (kb : B = O → mj_Ev J t loc st S f g post) : mj_Ev J pc loc (.int y :: .int x :: st) S f g post := by
  intro p l e s m args below meth c D cA sp ad A cells slots R Q hC hR hk0 H locs ls hP hD hS hl
  subst hq
  by_cases hc : y < x
  · rw [if_pos hc] at hg
    exact lv_icmp_le hC.1 hC.2.1 hd ht (fun h => absurd hc (Int32.not_lt.mpr h)) (fun _ => ka hg p l e s m args below meth c D cA sp ad A cells slots R Q hC hR hk0 H locs ls hP hD hS hl)
  · rw [if_neg hc] at hg
    exact lv_icmp_le hC.1 hC.2.1 hd ht (fun _ => kb hg p l e s m args below meth c D cA sp ad A cells slots R Q hC hR hk0 H locs ls hP hD hS hl) (fun h => absurd (Int32.not_le.mp h) hc)
theorem ev_goto {J : mj_J} {pc q : Nat} {loc : List (Option Value)} {st : List Value} {S : mj_S} {f : mj_I} {g : mj_L} {post : Option Value → mj_I → mj_L → Prop} {off : Int} (hd : decode (mj_cc J) pc = .ok (.goto off, 3)) (ht : (pc : Int) + off = (q : Int)) (k : mj_Ev J q loc st S f g post) : mj_Ev J pc loc st S f g post := by
  intro p l e s m args below meth c D cA sp ad A cells slots R Q hC hR hk0 H locs ls hP hD hS hl
  exact lv_goto hC.1 hC.2.1 hd ht (k p l e s m args below meth c D cA sp ad A cells slots R Q hC hR hk0 H locs ls hP hD hS hl)
end
section
/-- a field: its link, its place, its kind, whether it is final -/
def mj_LF (own : String) (idx ci k kd : Nat) (fin : Bool) : Prop := ∃ (C : String) (T : u_T) (N : Nat) (ty : Nat → FieldType), vwCl[ci]? = some (C, T, N) ∧ (∀ w ∈ u_ws C T N, w ∈ mj_gw) ∧ (∀ j, j < N → parseFieldDescriptor (T j).2.2.1 = some (ty j)) ∧ (∀ a, a < N → ∀ b, b < N → a ≠ b → (T a).2.1 ≠ (T b).2.1) ∧ k < N ∧ Cond.fieldLink own idx (T k).1 (T k).2.1 (T k).2.2.1 ∈ mj_gw ∧ (mj_fk.getD ci [])[k]? = some kd ∧ (T k).2.2.2 = fin ∧ (kd = 0 → ty k = .int) ∧ (kd = 1 → ty k = .boolean) ∧ (kd = 2 → ty k = .long)
theorem ev_getfI {J : mj_J} {pc q : Nat} {loc : List (Option Value)} {st : List Value} {S : mj_S} {f : mj_I} {g : mj_L} {post : Option Value → mj_I → mj_L → Prop} {idx ci k kd a : Nat} {fin : Bool} {rs : List (Option Nat)} (hlf : mj_LF (mj_y J).cls idx ci k kd fin) (h2 : kd ≠ 2) (h3 : kd ≠ 3) (hs : S[a]? = some (.inl (ci, rs))) (hd : decode (mj_cc J) pc = .ok (.getfield idx, 3)) (hq : pc + 3 = q) (kk : mj_Ev J q loc (.int (f a k) :: st) S f g post) : mj_Ev J pc loc (.ref a :: st) S f g post := by
  intro p l e s m args below meth c D cA sp ad A cells slots R Q hC hR hk0 H locs ls hP hD hS hl
  subst hq
  obtain ⟨hx, hb, hml, hown, hts, hK, hA, hX⟩ := id hC
  obtain ⟨C, T, N, ty, e1, e2, e3, e4, e5, e6, e7, e8, -, -, -⟩ := hlf
  refine va_get hx hb hts e2 hown hK hP a (mj_w_at hs) e1 k e5 (hts _ e6) (fun _ h9 => h9) (v := .int (f a k)) ?_ hd (kk p l e s m args below meth c D cA sp ad A cells slots R Q hC hR hk0 H locs ls hP hD hS hl)
  rw [mj_fs_get e7]
  unfold mj_sv
  split
  · exact absurd rfl h2
  · exact absurd rfl h3
  · rfl
theorem ev_getfL {J : mj_J} {pc q : Nat} {loc : List (Option Value)} {st : List Value} {S : mj_S} {f : mj_I} {g : mj_L} {post : Option Value → mj_I → mj_L → Prop} {idx ci k a : Nat} {fin : Bool} {rs : List (Option Nat)} (hlf : mj_LF (mj_y J).cls idx ci k 2 fin) (hs : S[a]? = some (.inl (ci, rs))) (hd : decode (mj_cc J) pc = .ok (.getfield idx, 3)) (hq : pc + 3 = q) (kk : mj_Ev J q loc (.long (g a k) :: st) S f g post) : mj_Ev J pc loc (.ref a :: st) S f g post := by
  intro p l e s m args below meth c D cA sp ad A cells slots R Q hC hR hk0 H locs ls hP hD hS hl
  subst hq
  obtain ⟨hx, hb, hml, hown, hts, hK, hA, hX⟩ := id hC
  obtain ⟨C, T, N, ty, e1, e2, e3, e4, e5, e6, e7, e8, -, -, -⟩ := hlf
  refine va_get hx hb hts e2 hown hK hP a (mj_w_at hs) e1 k e5 (hts _ e6) (fun _ h9 => h9) (v := .long (g a k)) ?_ hd (kk p l e s m args below meth c D cA sp ad A cells slots R Q hC hR hk0 H locs ls hP hD hS hl)
  rw [mj_fs_get e7]
  rfl
theorem ev_getfR {J : mj_J} {pc q : Nat} {loc : List (Option Value)} {st : List Value} {S : mj_S} {f : mj_I} {g : mj_L} {post : Option Value → mj_I → mj_L → Prop} {idx ci k a b : Nat} {fin : Bool} {rs : List (Option Nat)} (hlf : mj_LF (mj_y J).cls idx ci k 3 fin) (hs : S[a]? = some (.inl (ci, rs))) (hr : rs.getD k none = some b) (hd : decode (mj_cc J) pc = .ok (.getfield idx, 3)) (hq : pc + 3 = q) (kk : mj_Ev J q loc (.ref b :: st) S f g post) : mj_Ev J pc loc (.ref a :: st) S f g post := by
  intro p l e s m args below meth c D cA sp ad A cells slots R Q hC hR hk0 H locs ls hP hD hS hl
  subst hq
  obtain ⟨hx, hb, hml, hown, hts, hK, hA, hX⟩ := id hC
  obtain ⟨C, T, N, ty, e1, e2, e3, e4, e5, e6, e7, e8, -, -, -⟩ := hlf
  refine va_get hx hb hts e2 hown hK hP a (mj_w_at hs) e1 k e5 (hts _ e6) (fun _ h9 => h9) (v := .ref (ad b)) ?_ hd (kk p l e s m args below meth c D cA sp ad A cells slots R Q hC hR hk0 H locs ls hP hD hS hl)
  rw [mj_fs_get e7, hr]
  rfl
theorem ev_putfI {J : mj_J} {pc q : Nat} {loc : List (Option Value)} {st : List Value} {S : mj_S} {f : mj_I} {g : mj_L} {post : Option Value → mj_I → mj_L → Prop} {idx ci k a : Nat} {x : Int32} {rs : List (Option Nat)} (hlf : mj_LF (mj_y J).cls idx ci k 0 false) (hs : S[a]? = some (.inl (ci, rs))) (hd : decode (mj_cc J) pc = .ok (.putfield idx, 3)) (hq : pc + 3 = q) (kk : mj_Ev J q loc st S (mj_wr f a k x) g post) : mj_Ev J pc loc (.int x :: .ref a :: st) S f g post := by
  intro p l e s m args below meth c D cA sp ad A cells slots R Q hC hR hk0 H locs ls hP hD hS hl
  subst hq
  obtain ⟨hx, hb, hml, hown, hts, hK, hA, hX⟩ := id hC
  obtain ⟨C, T, N, ty, e1, e2, e3, e4, e5, e6, e7, e8, e9, -, -⟩ := hlf
  have hw : (mj_w ad cA S f g).set a (ad a, .inr (ci, (mj_fs ad ci rs (f a) (g a)).set k (.int x))) = mj_w ad cA S (mj_wr f a k x) g := by
    rw [mj_fs_setI e7 (by decide) (by decide), ← mj_wr_self]
    exact mj_w_set hs (fun i hi => mj_wr_ne f k x hi) (fun _ _ => rfl)
  refine va_put hx hb hts e2 ty e3 e4 hown hK hP hD hS a (mj_w_at hs) e1 k e5 (hts _ e6) (fun _ h9 => h9) e8 (ty := .int) (v := .int x) ((e3 k e5).trans (by rw [e9 rfl])) rfl rfl (mj_fs_len e7) hd (fun H1 locs1 hP1 hD1 hS1 => ?_)
  rw [hw] at hP1 hD1
  exact kk p l e s m args below meth c D cA sp ad A cells slots R Q hC hR hk0 H1 locs1 ls hP1 hD1 hS1 hl
theorem ev_putfZ {J : mj_J} {pc q : Nat} {loc : List (Option Value)} {st : List Value} {S : mj_S} {f : mj_I} {g : mj_L} {post : Option Value → mj_I → mj_L → Prop} {idx ci k a : Nat} {x : Int32} {rs : List (Option Nat)} (hlf : mj_LF (mj_y J).cls idx ci k 1 false) (hs : S[a]? = some (.inl (ci, rs))) (hbx : mj_b x = true) (hd : decode (mj_cc J) pc = .ok (.putfield idx, 3)) (hq : pc + 3 = q) (kk : mj_Ev J q loc st S (mj_wr f a k x) g post) : mj_Ev J pc loc (.int x :: .ref a :: st) S f g post := by
  intro p l e s m args below meth c D cA sp ad A cells slots R Q hC hR hk0 H locs ls hP hD hS hl
  subst hq
  obtain ⟨hx, hb, hml, hown, hts, hK, hA, hX⟩ := id hC
  obtain ⟨C, T, N, ty, e1, e2, e3, e4, e5, e6, e7, e8, -, e9, -⟩ := hlf
  have hw : (mj_w ad cA S f g).set a (ad a, .inr (ci, (mj_fs ad ci rs (f a) (g a)).set k (.int x))) = mj_w ad cA S (mj_wr f a k x) g := by
    rw [mj_fs_setI e7 (by decide) (by decide), ← mj_wr_self]
    exact mj_w_set hs (fun i hi => mj_wr_ne f k x hi) (fun _ _ => rfl)
  refine va_put hx hb hts e2 ty e3 e4 hown hK hP hD hS a (mj_w_at hs) e1 k e5 (hts _ e6) (fun _ h9 => h9) e8 (ty := .boolean) (v := .int x) ((e3 k e5).trans (by rw [e9 rfl])) (mj_b_nar hbx) (mj_b_fit hbx) (mj_fs_len e7) hd (fun H1 locs1 hP1 hD1 hS1 => ?_)
  rw [hw] at hP1 hD1
  exact kk p l e s m args below meth c D cA sp ad A cells slots R Q hC hR hk0 H1 locs1 ls hP1 hD1 hS1 hl
theorem ev_putfL {J : mj_J} {pc q : Nat} {loc : List (Option Value)} {st : List Value} {S : mj_S} {f : mj_I} {g : mj_L} {post : Option Value → mj_I → mj_L → Prop} {idx ci k a : Nat} {x : Int64} {rs : List (Option Nat)} (hlf : mj_LF (mj_y J).cls idx ci k 2 false) (hs : S[a]? = some (.inl (ci, rs))) (hd : decode (mj_cc J) pc = .ok (.putfield idx, 3)) (hq : pc + 3 = q) (kk : mj_Ev J q loc st S f (mj_wl g a k x) post) : mj_Ev J pc loc (.long x :: .ref a :: st) S f g post := by
  intro p l e s m args below meth c D cA sp ad A cells slots R Q hC hR hk0 H locs ls hP hD hS hl
  subst hq
  obtain ⟨hx, hb, hml, hown, hts, hK, hA, hX⟩ := id hC
  obtain ⟨C, T, N, ty, e1, e2, e3, e4, e5, e6, e7, e8, -, -, e9⟩ := hlf
  have hw : (mj_w ad cA S f g).set a (ad a, .inr (ci, (mj_fs ad ci rs (f a) (g a)).set k (.long x))) = mj_w ad cA S f (mj_wl g a k x) := by
    rw [mj_fs_setL e7, ← mj_wl_self]
    exact mj_w_set hs (fun _ _ => rfl) (fun i hi => mj_wl_ne g k x hi)
  refine va_put hx hb hts e2 ty e3 e4 hown hK hP hD hS a (mj_w_at hs) e1 k e5 (hts _ e6) (fun _ h9 => h9) e8 (ty := .long) (v := .long x) ((e3 k e5).trans (by rw [e9 rfl])) rfl rfl (mj_fs_len e7) hd (fun H1 locs1 hP1 hD1 hS1 => ?_)
  rw [hw] at hP1 hD1
  exact kk p l e s m args below meth c D cA sp ad A cells slots R Q hC hR hk0 H1 locs1 ls hP1 hD1 hS1 hl
theorem ev_iald {J : mj_J} {pc q : Nat} {loc : List (Option Value)} {st : List Value} {S : mj_S} {f : mj_I} {g : mj_L} {post : Option Value → mj_I → mj_L → Prop} {a n : Nat} {i : Int32} {rs : List (Option Nat)} (hs : S[a]? = some (.inr (0, n, rs))) (hin : mj_in i n = true) (hd : decode (mj_cc J) pc = .ok (.iaload, 1)) (hq : pc + 1 = q) (kk : mj_Ev J q loc (.int (f a i.toNatClampNeg) :: st) S f g post) : mj_Ev J pc loc (.int i :: .ref a :: st) S f g post := by
  intro p l e s m args below meth c D cA sp ad A cells slots R Q hC hR hk0 H locs ls hP hD hS hl
  subst hq
  obtain ⟨hx, hb, hml, hown, hts, hK, hA, hX⟩ := id hC
  exact va_iald hx hb hK hP a 0 (mj_w_at hs) rfl (mj_in_vp hin) hd (kk p l e s m args below meth c D cA sp ad A cells slots R Q hC hR hk0 H locs ls hP hD hS hl)
theorem ev_zald {J : mj_J} {pc q : Nat} {loc : List (Option Value)} {st : List Value} {S : mj_S} {f : mj_I} {g : mj_L} {post : Option Value → mj_I → mj_L → Prop} {a n : Nat} {i : Int32} {rs : List (Option Nat)} (hs : S[a]? = some (.inr (1, n, rs))) (hin : mj_in i n = true) (hd : decode (mj_cc J) pc = .ok (.baload, 1)) (hq : pc + 1 = q) (kk : mj_Ev J q loc (.int (f a i.toNatClampNeg) :: st) S f g post) : mj_Ev J pc loc (.int i :: .ref a :: st) S f g post := by
  intro p l e s m args below meth c D cA sp ad A cells slots R Q hC hR hk0 H locs ls hP hD hS hl
  subst hq
  obtain ⟨hx, hb, hml, hown, hts, hK, hA, hX⟩ := id hC
  exact va_zald hx hb hK hP a 1 (mj_w_at hs) rfl (mj_in_vp hin) hd (kk p l e s m args below meth c D cA sp ad A cells slots R Q hC hR hk0 H locs ls hP hD hS hl)
theorem ev_iast {J : mj_J} {pc q : Nat} {loc : List (Option Value)} {st : List Value} {S : mj_S} {f : mj_I} {g : mj_L} {post : Option Value → mj_I → mj_L → Prop} {a n : Nat} {i x : Int32} {rs : List (Option Nat)} (hs : S[a]? = some (.inr (0, n, rs))) (hin : mj_in i n = true) (hd : decode (mj_cc J) pc = .ok (.iastore, 1)) (hq : pc + 1 = q) (kk : mj_Ev J q loc st S (mj_wr f a i.toNatClampNeg x) g post) : mj_Ev J pc loc (.int x :: .int i :: .ref a :: st) S f g post := by
  intro p l e s m args below meth c D cA sp ad A cells slots R Q hC hR hk0 H locs ls hP hD hS hl
  subst hq
  obtain ⟨hx, hb, hml, hown, hts, hK, hA, hX⟩ := id hC
  have hw : (mj_w ad cA S f g).set a (ad a, .inl (cA 0, n, .inl (upd (f a) i.toNatClampNeg x))) = mj_w ad cA S (mj_wr f a i.toNatClampNeg x) g := by
    rw [← mj_wr_self]
    exact mj_w_set hs (fun j hj => mj_wr_ne f _ x hj) (fun _ _ => rfl)
  refine va_iast hx hb hK hP hD hS a 0 (mj_w_at hs) rfl (mj_in_vp hin) hd (fun H1 locs1 hP1 hD1 hS1 => ?_)
  rw [hw] at hP1 hD1
  exact kk p l e s m args below meth c D cA sp ad A cells slots R Q hC hR hk0 H1 locs1 ls hP1 hD1 hS1 hl
theorem ev_zast {J : mj_J} {pc q : Nat} {loc : List (Option Value)} {st : List Value} {S : mj_S} {f : mj_I} {g : mj_L} {post : Option Value → mj_I → mj_L → Prop} {a n : Nat} {i x : Int32} {rs : List (Option Nat)} (hs : S[a]? = some (.inr (1, n, rs))) (hin : mj_in i n = true) (hbx : mj_b x = true) (hd : decode (mj_cc J) pc = .ok (.bastore, 1)) (hq : pc + 1 = q) (kk : mj_Ev J q loc st S (mj_wr f a i.toNatClampNeg x) g post) : mj_Ev J pc loc (.int x :: .int i :: .ref a :: st) S f g post := by
  intro p l e s m args below meth c D cA sp ad A cells slots R Q hC hR hk0 H locs ls hP hD hS hl
  subst hq
  obtain ⟨hx, hb, hml, hown, hts, hK, hA, hX⟩ := id hC
  have hw : (mj_w ad cA S f g).set a (ad a, .inl (cA 1, n, .inl (upd (f a) i.toNatClampNeg (vp_nar .boolean x)))) = mj_w ad cA S (mj_wr f a i.toNatClampNeg x) g := by
    rw [mj_b_vp hbx, ← mj_wr_self]
    exact mj_w_set hs (fun j hj => mj_wr_ne f _ x hj) (fun _ _ => rfl)
  refine va_zast hx hb hK hP hD hS a 1 (mj_w_at hs) rfl (mj_in_vp hin) hd (fun H1 locs1 hP1 hD1 hS1 => ?_)
  rw [hw] at hP1 hD1
  exact kk p l e s m args below meth c D cA sp ad A cells slots R Q hC hR hk0 H1 locs1 ls hP1 hD1 hS1 hl
theorem ev_aald {J : mj_J} {pc q : Nat} {loc : List (Option Value)} {st : List Value} {S : mj_S} {f : mj_I} {g : mj_L} {post : Option Value → mj_I → mj_L → Prop} {a n b kd : Nat} {i : Int32} {rs : List (Option Nat)} (hs : S[a]? = some (.inr (kd + 2, n, rs))) (hkd : kd < 3) (hin : mj_in i n = true) (hr : rs.getD i.toNatClampNeg none = some b) (hd : decode (mj_cc J) pc = .ok (.aaload, 1)) (hq : pc + 1 = q) (kk : mj_Ev J q loc (.ref b :: st) S f g post) : mj_Ev J pc loc (.int i :: .ref a :: st) S f g post := by
  intro p l e s m args below meth c D cA sp ad A cells slots R Q hC hR hk0 H locs ls hP hD hS hl
  subst hq
  obtain ⟨hx, hb, hml, hown, hts, hK, hA, hX⟩ := id hC
  have erf : va_rf ((rs.getD i.toNatClampNeg none).map ad) = .ref (ad b) := by rw [hr]; rfl
  have k9 := kk p l e s m args below meth c D cA sp ad A cells slots R Q hC hR hk0 H locs ls hP hD hS hl
  match kd, hkd, hs with
  | 0, _, hs => exact va_aldq hx hb hK hP a 2 (mj_w_at hs) rfl (mj_in_vp hin) hd (by show W p l e R s m args below meth c H locs cells slots Q (F0 m _ ls (va_rf ((rs.getD i.toNatClampNeg none).map ad) :: _)); rw [erf]; exact k9)
  | 1, _, hs => exact va_aldq hx hb hK hP a 3 (mj_w_at hs) rfl (mj_in_vp hin) hd (by show W p l e R s m args below meth c H locs cells slots Q (F0 m _ ls (va_rf ((rs.getD i.toNatClampNeg none).map ad) :: _)); rw [erf]; exact k9)
  | 2, _, hs => exact va_aldq hx hb hK hP a 4 (mj_w_at hs) rfl (mj_in_vp hin) hd (by show W p l e R s m args below meth c H locs cells slots Q (F0 m _ ls (va_rf ((rs.getD i.toNatClampNeg none).map ad) :: _)); rw [erf]; exact k9)
theorem ev_ldc {J : mj_J} {pc q : Nat} {loc : List (Option Value)} {st : List Value} {S : mj_S} {f : mj_I} {g : mj_L} {post : Option Value → mj_I → mj_L → Prop} {idx : Nat} {v : Int32} (hc : Cond.constant (mj_y J).cls idx v ∈ mj_gw) (hd : decode (mj_cc J) pc = .ok (.ldc idx, 2)) (hq : pc + 2 = q) (kk : mj_Ev J q loc (.int v :: st) S f g post) : mj_Ev J pc loc st S f g post := by
  intro p l e s m args below meth c D cA sp ad A cells slots R Q hC hR hk0 H locs ls hP hD hS hl
  subst hq
  obtain ⟨hx, hb, hml, hown, hts, hK, hA, hX⟩ := id hC
  exact lv_ldc hx hb hown (hts _ hc) hd (kk p l e s m args below meth c D cA sp ad A cells slots R Q hC hR hk0 H locs ls hP hD hS hl)
theorem ev_ldcw {J : mj_J} {pc q : Nat} {loc : List (Option Value)} {st : List Value} {S : mj_S} {f : mj_I} {g : mj_L} {post : Option Value → mj_I → mj_L → Prop} {idx : Nat} {v : Int32} (hc : Cond.constant (mj_y J).cls idx v ∈ mj_gw) (hd : decode (mj_cc J) pc = .ok (.ldc_w idx, 3)) (hq : pc + 3 = q) (kk : mj_Ev J q loc (.int v :: st) S f g post) : mj_Ev J pc loc st S f g post := by
  intro p l e s m args below meth c D cA sp ad A cells slots R Q hC hR hk0 H locs ls hP hD hS hl
  subst hq
  obtain ⟨hx, hb, hml, hown, hts, hK, hA, hX⟩ := id hC
  exact lv_ldcw hx hb hown (hts _ hc) hd (kk p l e s m args below meth c D cA sp ad A cells slots R Q hC hR hk0 H locs ls hP hD hS hl)
theorem ev_ldc2 {J : mj_J} {pc q : Nat} {loc : List (Option Value)} {st : List Value} {S : mj_S} {f : mj_I} {g : mj_L} {post : Option Value → mj_I → mj_L → Prop} {idx : Nat} {v : Int64} (hc : Cond.constantLong (mj_y J).cls idx v ∈ mj_gw) (hd : decode (mj_cc J) pc = .ok (.ldc2_w idx, 3)) (hq : pc + 3 = q) (kk : mj_Ev J q loc (.long v :: st) S f g post) : mj_Ev J pc loc st S f g post := by
  intro p l e s m args below meth c D cA sp ad A cells slots R Q hC hR hk0 H locs ls hP hD hS hl
  subst hq
  obtain ⟨hx, hb, hml, hown, hts, hK, hA, hX⟩ := id hC
  exact lv_ldc2 hx hb hown (hts _ hc) hd (kk p l e s m args below meth c D cA sp ad A cells slots R Q hC hR hk0 H locs ls hP hD hS hl)
theorem ev_gets0 {J : mj_J} {pc q : Nat} {loc : List (Option Value)} {st : List Value} {S : mj_S} {f : mj_I} {g : mj_L} {post : Option Value → mj_I → mj_L → Prop} {idx : Nat} (hlk : Cond.fieldLink (mj_y J).cls idx "CloudHerd" "ABOVE" "[I" ∈ mj_gw) (hd : decode (mj_cc J) pc = .ok (.getstatic idx, 3)) (hq : pc + 3 = q) (kk : mj_Ev J q loc (.retAddr 0 :: st) S f g post) : mj_Ev J pc loc st S f g post := by
  intro p l e s m args below meth c D cA sp ad A cells slots R Q hC hR hk0 H locs ls hP hD hS hl
  subst hq
  obtain ⟨hx, hb, hml, hown, hts, hK, hA, hX⟩ := id hC
  exact va_gets hx hb hX.2.2.2.2.1.1 hS hown (hts _ hlk) (fun _ h9 => h9) hd (kk p l e s m args below meth c D cA sp ad A cells slots R Q hC hR hk0 H locs ls hP hD hS hl)
theorem ev_gets1 {J : mj_J} {pc q : Nat} {loc : List (Option Value)} {st : List Value} {S : mj_S} {f : mj_I} {g : mj_L} {post : Option Value → mj_I → mj_L → Prop} {idx : Nat} (hlk : Cond.fieldLink (mj_y J).cls idx "CloudHerd$Trace" "SIZE_BODIES" "[I" ∈ mj_gw) (hd : decode (mj_cc J) pc = .ok (.getstatic idx, 3)) (hq : pc + 3 = q) (kk : mj_Ev J q loc (.retAddr 1 :: st) S f g post) : mj_Ev J pc loc st S f g post := by
  intro p l e s m args below meth c D cA sp ad A cells slots R Q hC hR hk0 H locs ls hP hD hS hl
  subst hq
  obtain ⟨hx, hb, hml, hown, hts, hK, hA, hX⟩ := id hC
  exact va_gets hx hb hX.2.2.2.2.1.2.1 hS hown (hts _ hlk) (fun _ h9 => h9) hd (kk p l e s m args below meth c D cA sp ad A cells slots R Q hC hR hk0 H locs ls hP hD hS hl)
theorem ev_gets2 {J : mj_J} {pc q : Nat} {loc : List (Option Value)} {st : List Value} {S : mj_S} {f : mj_I} {g : mj_L} {post : Option Value → mj_I → mj_L → Prop} {idx : Nat} (hlk : Cond.fieldLink (mj_y J).cls idx "CloudHerd$Trace" "MARK_BODIES" "[I" ∈ mj_gw) (hd : decode (mj_cc J) pc = .ok (.getstatic idx, 3)) (hq : pc + 3 = q) (kk : mj_Ev J q loc (.retAddr 2 :: st) S f g post) : mj_Ev J pc loc st S f g post := by
  intro p l e s m args below meth c D cA sp ad A cells slots R Q hC hR hk0 H locs ls hP hD hS hl
  subst hq
  obtain ⟨hx, hb, hml, hown, hts, hK, hA, hX⟩ := id hC
  exact va_gets hx hb hX.2.2.2.2.1.2.2 hS hown (hts _ hlk) (fun _ h9 => h9) hd (kk p l e s m args below meth c D cA sp ad A cells slots R Q hC hR hk0 H locs ls hP hD hS hl)
theorem ev_sald {J : mj_J} {pc q : Nat} {loc : List (Option Value)} {st : List Value} {S : mj_S} {f : mj_I} {g : mj_L} {post : Option Value → mj_I → mj_L → Prop} {t : Nat} {i : Int32} (ht : t < 3) (hin : mj_in i 6 = true) (hd : decode (mj_cc J) pc = .ok (.iaload, 1)) (hq : pc + 1 = q) (kk : mj_Ev J q loc (.int ((mj_tab t).getD i.toNatClampNeg 0) :: st) S f g post) : mj_Ev J pc loc (.int i :: .retAddr t :: st) S f g post := by
  intro p l e s m args below meth c D cA sp ad A cells slots R Q hC hR hk0 H locs ls hP hD hS hl
  subst hq
  obtain ⟨hx, hb, hml, hown, hts, hK, hA, hX⟩ := id hC
  exact va_ti hx hb (hX.2.2.2.2.2 t ht) hS (mj_in_vp hin) rfl hd (kk p l e s m args below meth c D cA sp ad A cells slots R Q hC hR hk0 H locs ls hP hD hS hl)
theorem ev_iret {J : mj_J} {pc : Nat} {loc : List (Option Value)} {S : mj_S} {f : mj_I} {g : mj_L} {post : Option Value → mj_I → mj_L → Prop} {x : Int32} (hd : decode (mj_cc J) pc = .ok (.ireturn, 1)) (hr : mj_rt J = some .int) (h : post (some (.int x)) f g) : mj_Ev J pc loc [.int x] S f g post := by
  intro p l e s m args below meth c D cA sp ad A cells slots R Q hC hR hk0 H locs ls hP hD hS hl
  exact hk0 (some (.int x)) f g H locs pc ls h hP hD hS ⟨hd, .int, hr, rfl⟩
theorem ev_zret {J : mj_J} {pc : Nat} {loc : List (Option Value)} {S : mj_S} {f : mj_I} {g : mj_L} {post : Option Value → mj_I → mj_L → Prop} {x : Int32} (hd : decode (mj_cc J) pc = .ok (.ireturn, 1)) (hr : mj_rt J = some .boolean) (hbx : mj_b x = true) (h : post (some (.int x)) f g) : mj_Ev J pc loc [.int x] S f g post := by
  intro p l e s m args below meth c D cA sp ad A cells slots R Q hC hR hk0 H locs ls hP hD hS hl
  exact hk0 (some (.int x)) f g H locs pc ls h hP hD hS ⟨hd, .boolean, hr, mj_b_nar hbx⟩
theorem ev_lret {J : mj_J} {pc : Nat} {loc : List (Option Value)} {S : mj_S} {f : mj_I} {g : mj_L} {post : Option Value → mj_I → mj_L → Prop} {x : Int64} (hd : decode (mj_cc J) pc = .ok (.lreturn, 1)) (hr : mj_rt J = some .long) (h : post (some (.long x)) f g) : mj_Ev J pc loc [.long x] S f g post := by
  intro p l e s m args below meth c D cA sp ad A cells slots R Q hC hR hk0 H locs ls hP hD hS hl
  exact hk0 (some (.long x)) f g H locs pc ls h hP hD hS ⟨hd, hr⟩
theorem ev_vret {J : mj_J} {pc : Nat} {loc : List (Option Value)} {S : mj_S} {f : mj_I} {g : mj_L} {post : Option Value → mj_I → mj_L → Prop} (hd : decode (mj_cc J) pc = .ok (.return_, 1)) (hr : mj_rt J = none) (h : post none f g) : mj_Ev J pc loc [] S f g post := by
  intro p l e s m args below meth c D cA sp ad A cells slots R Q hC hR hk0 H locs ls hP hD hS hl
  exact hk0 none f g H locs pc ls h hP hD hS ⟨hd, hr⟩
theorem mj_ite {α : Type} {c : Prop} [Decidable c] {A B O : α} (h : (if c then A else B) = O) : (c ∧ A = O) ∨ (¬ c ∧ B = O) := by
  by_cases hc : c
  · exact Or.inl ⟨hc, by rwa [if_pos hc] at h⟩
  · exact Or.inr ⟨hc, by rwa [if_neg hc] at h⟩
theorem ev_tabIn {J : mj_J} {pc q : Nat} {loc : List (Option Value)} {st : List Value} {S : mj_S} {f : mj_I} {g : mj_L} {post : Option Value → mj_I → mj_L → Prop} {dflt lo hi off : Int} {offs : Array Int} {len : Nat} {x v : Int32} (hx : x = v) (hd : decode (mj_cc J) pc = .ok (.tableswitch dflt lo hi offs, len)) (h1 : ¬ v.toInt < lo) (h2 : ¬ hi < v.toInt) (ho : offs[(v.toInt - lo).toNat]? = some off) (ht : (pc : Int) + off = (q : Int)) (k : mj_Ev J q loc st S f g post) : mj_Ev J pc loc (.int x :: st) S f g post := by
  intro p l e s m args below meth c D cA sp ad A cells slots R Q hC hR hk0 H locs ls hP hD hS hl
  subst hx
  exact lv_tableIn hC.1 hC.2.1 hd h1 h2 ho ht (k p l e s m args below meth c D cA sp ad A cells slots R Q hC hR hk0 H locs ls hP hD hS hl)
theorem ev_tabOut {J : mj_J} {pc q : Nat} {loc : List (Option Value)} {st : List Value} {S : mj_S} {f : mj_I} {g : mj_L} {post : Option Value → mj_I → mj_L → Prop} {dflt lo hi : Int} {offs : Array Int} {len : Nat} {x : Int32} (hd : decode (mj_cc J) pc = .ok (.tableswitch dflt lo hi offs, len)) (h : x.toInt < lo ∨ hi < x.toInt) (ht : (pc : Int) + dflt = (q : Int)) (k : mj_Ev J q loc st S f g post) : mj_Ev J pc loc (.int x :: st) S f g post := by
  intro p l e s m args below meth c D cA sp ad A cells slots R Q hC hR hk0 H locs ls hP hD hS hl
  exact lv_tableOut hC.1 hC.2.1 hd h ht (k p l e s m args below meth c D cA sp ad A cells slots R Q hC hR hk0 H locs ls hP hD hS hl)
theorem ev_look {J : mj_J} {pc q : Nat} {loc : List (Option Value)} {st : List Value} {S : mj_S} {f : mj_I} {g : mj_L} {post : Option Value → mj_I → mj_L → Prop} {dflt off : Int} {ps : Array (Int × Int)} {len : Nat} {x : Int32} (hd : decode (mj_cc J) pc = .ok (.lookupswitch dflt ps, len)) (hp : (ps.toList.zip (ps.toList.drop 1)).all (fun (a, next) => a.1 < next.1) = true) (ho : Op.lookupswitch.offset ps.toList dflt x.toInt = off) (ht : (pc : Int) + off = (q : Int)) (k : mj_Ev J q loc st S f g post) : mj_Ev J pc loc (.int x :: st) S f g post := by
  intro p l e s m args below meth c D cA sp ad A cells slots R Q hC hR hk0 H locs ls hP hD hS hl
  exact lv_lookup hC.1 hC.2.1 hd hp ho ht (k p l e s m args below meth c D cA sp ad A cells slots R Q hC hR hk0 H locs ls hP hD hS hl)
end
section
/-- a callee: its code and its class are in the tables, it takes n arguments, it makes nothing -/
def mj_K (K : mj_J) (n : Nat) : Prop := Cond.code (mj_y K) (mj_cc K) (mj_nL K) (mj_rt K) ∈ mj_gw ∧ Cond.initialized (mj_y K).cls ∈ mj_gw ∧ ((mj_y K).cls ≠ "java/lang/invoke/MethodHandle" ∧ (mj_y K).cls ≠ "java/lang/invoke/VarHandle" ∧ (parseMethodDescriptor (mj_y K).desc).map (fun d => d.parameters.length) = some n) ∧ mj_mc K = 0 ∧ mj_ms K = 0 ∧ mj_nL K ≤ 40
theorem mj_gw_code {K : mj_J} {n : Nat} (h : mj_K K n) : GoodIn mj_gw (.code (mj_y K) (mj_cc K) (mj_nL K) (mj_rt K) :: mj_gw) := mj_gw_good (fun w hw => by
  rcases List.mem_cons.mp hw with rfl | hw
  · exact h.1
  · exact hw)
theorem mj_callB {R : Room} {s : State} {args : Array Value} {own : String} {idx n : Nat} {J K : mj_J} (hts : ∀ w ∈ mj_gw, w.before args s = true) (hk : mj_K K n) (hlk : Cond.methodLink own idx (mj_y K) ∈ mj_gw) (hdJ : mj_d J ≤ R.frames ∧ 64 * mj_d J ≤ R.locals) (hroom : mj_d K < mj_d J) : CallB R s args own idx (mj_y K) (mj_cc K) (mj_nL K) (mj_rt K) (.code (mj_y K) (mj_cc K) (mj_nL K) (mj_rt K) :: mj_gw) (mj_room K) 0 0 n := by
  have h40 := hk.2.2.2.2.2
  have hf : (mj_room K).frames = mj_d K := rfl
  have hlo : (mj_room K).locals = 64 * mj_d K := rfl
  exact callB_of n hts (mj_gw_code hk) rfl hk.2.2.2.1 hk.2.2.2.2.1 (hts _ hk.2.1) (hts _ hlk) hk.2.2.1 ⟨by rw [hf]; omega, by rw [hlo]; omega⟩
theorem mj_blind (D : va_G) (cA : Nat → ClassId) (sp ad : Nat → Nat) (sz : Nat) (S : mj_S) (f : mj_I) (g : mj_L) (as : List Value) : FrameBlind (va_Pc as (mj_Pc D cA sp ad sz S f g)) := by
  intro a U fr mk h
  obtain ⟨h1, h2, h3, h4, h5, h6⟩ := h
  exact ⟨h1, h2, h3, va_K.moved (u := U) (U := U.calling fr mk a) (Vm.Alike.refl U.vm) h4, h5, (show mj_X sp _ (U.calling fr mk a) U.heap from mj_X.called (u := U) (U := U.calling fr mk a) rfl h6)⟩
theorem mj_sub {ad : Nat → Nat} {cA : Nat → ClassId} {S : mj_S} {f : mj_I} {g : mj_L} {A : Nat → Prop} {H0 H : Heap} {locs : List Loc} (hD : va_D A (mj_w ad cA S f g)) (hS : va_S A H0 H locs) (hA : ∀ q, H0.size ≤ q → A q) : ∀ q, va_A (mj_w ad cA S f g) H.size q → A q := by
  intro q h
  rcases h with ⟨k, e, h⟩ | h
  · exact hD.2 k _ h
  · exact hA q (Nat.le_trans hS.1 h)
theorem mj_pre {D : va_G} {cA : Nat → ClassId} {sp ad : Nat → Nat} {S : mj_S} {f : mj_I} {g : mj_L} {A : Nat → Prop} {s : State} {H : Heap} {locs : List Loc} (hP : va_P D vwCl (mj_w ad cA S f g) H) (hD : va_D A (mj_w ad cA S f g)) (hS : va_S A s.heap H locs) (hA : ∀ q, s.heap.size ≤ q → A q) (hK : va_K D vwCl (mj_tys cA) s) (hX : mj_X sp A s s.heap) : ∀ U : State, U.heap = H → s.WarmedH U.vm → mj_Pc D cA sp ad H.size S f g U := by
  intro U hU hW
  refine ⟨by rw [hU], by rw [hU]; exact hP, va_K.moved hW.alike hK, hD.weaken (fun _ _ _ _ => trivial), ?_⟩
  rw [hU]
  exact ((hX.kept (H1 := H) (fun a h1 h2 => hS.2.1 a h1 h2)).moved hW).narrow (mj_sub hD hS hA)
theorem mj_call {p : Program} {l : Launch} {e : Env} {R : Room} {s : State} {m : MethodId} {args : Array Value} {below : List Frame} {meth : Method} {c : Code} {H : Heap} {locs : List Loc} {cells slots : Nat} {Q : State → Prop} {pc : Nat} {ls : Array Slot} {rest st0 : List Value} {a : Array Value} {A0 : Nat → Prop} {H0 : Heap} {D : va_G} {cA : Nat → ClassId} {ad : Nat → Nat} {S : mj_S} {f : mj_I} {g : mj_L} {post1 : Option Value → mj_I → mj_L → Prop}
    (hr : va_Run p l e R s m args below meth c H locs cells slots 0 0 (F0 m pc ls st0) rest (mj_Q D cA ad S (va_A (mj_w ad cA S f g) H.size) post1 a) (va_A (mj_w ad cA S f g) H.size)) (hS : va_S A0 H0 H locs) (hA : ∀ q, va_A (mj_w ad cA S f g) H.size q → A0 q)
    (kk : ∀ (v : Option Value) (f' : mj_I) (g' : mj_L) (H1 : Heap) (locs1 : List Loc), mj_pv v → post1 v f' g' → va_P D vwCl (mj_w ad cA S f' g') H1 → va_D A0 (mj_w ad cA S f' g') → va_S A0 H0 H1 locs1 → W p l e R s m args below meth c H1 locs1 cells slots Q (F0 m (pc + 3) ls (v.toList ++ rest))) : W p l e R s m args below meth c H locs cells slots Q (F0 m pc ls st0) := by
  intro T hT X
  obtain ⟨v, st₀, t, T', L, h0, X', hL, e1, e2, ⟨⟨v', f', g', hv, hpv, hp, hP1, hD1⟩, hz, hk⟩, st⟩ := hr T hT X
  cases hv
  rw [h0] at hz hk
  obtain ⟨t2, a1, b1⟩ := kk v f' g' T'.heap (locs ++ L) hpv hp (by rw [e1]; exact hP1) (hD1.weaken (fun _ q _ h => hA q.1 h))
    ⟨Nat.le_trans hS.1 (by rw [e1]; exact hz), fun q h1 h2 => by rw [e1, hk q (Nat.lt_of_lt_of_le h1 hS.1) (fun z => h2 (hA q z))]; exact hS.2.1 q h1 h2, fun q hq => by
      rcases List.mem_append.mp hq with h | h
      · exact hS.2.2 q h
      · exact hA _ (hL q h)⟩ T' rfl X'
  exact ⟨t2, st t2 a1, b1⟩
theorem ev_callV {J : mj_J} {pc q : Nat} {loc : List (Option Value)} {st : List Value} {S : mj_S} {f : mj_I} {g : mj_L} {post : Option Value → mj_I → mj_L → Prop} {K : mj_J} {idx n : Nat} {as st0 : List Value} {post1 : Option Value → mj_I → mj_L → Prop} {b ci : Nat} {rs : List (Option Nat)} (hk : mj_K K n) (hi : Cond.instanceMethod (mj_y K) ∈ mj_gw) (hse : Cond.selects (mj_y K).cls (mj_y K) (mj_y K) ∈ mj_gw) (hlk : Cond.methodLink (mj_y J).cls idx (mj_y K) ∈ mj_gw) (hs : S[b]? = some (.inl (ci, rs))) (hcl : (vwCl[ci]?).map (·.1) = some (mj_y K).cls) (hsp : mj_Sp K S (.ref b :: as) f g post1) (hn : as.length = n) (hst : st0 = as.reverse ++ .ref b :: st) (hcat : (st.map fun v => v.category).sum ≤ 8) (hroom : mj_d K < mj_d J) (hd : decode (mj_cc J) pc = .ok (.invokevirtual idx, 3)) (hq : pc + 3 = q) (kk : ∀ (v : Option Value) (f' : mj_I) (g' : mj_L), post1 v f' g' → mj_Ev J q loc (v.toList ++ st) S f' g' post) : mj_Ev J pc loc st0 S f g post := by
  intro p l e s m args below meth c D cA sp ad A cells slots R Q hC hR hk0 H locs ls hP hD hS hl
  subst hq
  subst hst
  obtain ⟨hx, hb, hml, hown, hts, hK, hA, hX⟩ := id hC
  have hrun : va_Run p l e R s m args below meth c H locs cells slots 0 0 (F0 m pc ls ((as.reverse ++ .ref b :: st).map (mj_tv ad sp))) (st.map (mj_tv ad sp)) (mj_Q D cA ad S (va_A (mj_w ad cA S f g) H.size) post1 (Value.ref (ad b) :: as.map (mj_tv ad sp)).toArray) (va_A (mj_w ad cA S f g) H.size) := by
    refine va_runV (As := as.map (mj_tv ad sp)) (b := ad b) (C := (mj_y K).cls) ⟨hx, hb, hml, hown, hts⟩ (hsp l D cA sp ad H.size) ⟨mj_callB (J := J) hts hk hlk ⟨hR.1, hR.2.1⟩ hroom, hts _ hi, hts _ hse⟩ ⟨mj_blind D cA sp ad H.size S f g _, ?_, fun U hU hW => ⟨rfl, mj_pre hP hD hS hA hK hX U hU hW⟩⟩ rfl (by rw [List.length_map]; exact hn) hl.1 (by simp [mj_tv, List.map_append, List.map_reverse]) (lv_room (by rw [mj_tv_sum]; exact hcat)) hd ⟨by omega, by omega⟩
    cases hv : vwCl[ci]? with
    | none => rw [hv] at hcl; cases hcl
    | some r =>
      rw [hv] at hcl
      have e1 : r.1 = (mj_y K).cls := Option.some.inj hcl
      rw [← e1]
      exact va_recv hK hP hv (mj_w_at hs)
  refine mj_call hrun hS (mj_sub hD hS hA) (fun v f' g' H1 locs1 hpv hp1 hP1 hD1 hS1 => ?_)
  have k9 := kk v f' g' hp1 p l e s m args below meth c D cA sp ad A cells slots R Q hC hR hk0 H1 locs1 ls hP1 hD1 hS1 hl
  rw [List.map_append, mj_pv_tv hpv] at k9
  exact k9
theorem ev_callS {J : mj_J} {pc q : Nat} {loc : List (Option Value)} {st : List Value} {S : mj_S} {f : mj_I} {g : mj_L} {post : Option Value → mj_I → mj_L → Prop} {K : mj_J} {idx n : Nat} {as st0 : List Value} {post1 : Option Value → mj_I → mj_L → Prop} (hk : mj_K K n) (hi : Cond.static (mj_y K) ∈ mj_gw) (hlk : Cond.methodLink (mj_y J).cls idx (mj_y K) ∈ mj_gw) (hsp : mj_Sp K S as f g post1) (hn : as.length = n) (hst : st0 = as.reverse ++ st) (hcat : (st.map fun v => v.category).sum ≤ 8) (hroom : mj_d K < mj_d J) (hd : decode (mj_cc J) pc = .ok (.invokestatic idx, 3)) (hq : pc + 3 = q) (kk : ∀ (v : Option Value) (f' : mj_I) (g' : mj_L), post1 v f' g' → mj_Ev J q loc (v.toList ++ st) S f' g' post) : mj_Ev J pc loc st0 S f g post := by
  intro p l e s m args below meth c D cA sp ad A cells slots R Q hC hR hk0 H locs ls hP hD hS hl
  subst hq
  subst hst
  obtain ⟨hx, hb, hml, hown, hts, hK, hA, hX⟩ := id hC
  have hrun : va_Run p l e R s m args below meth c H locs cells slots 0 0 (F0 m pc ls ((as.reverse ++ st).map (mj_tv ad sp))) (st.map (mj_tv ad sp)) (mj_Q D cA ad S (va_A (mj_w ad cA S f g) H.size) post1 (as.map (mj_tv ad sp)).toArray) (va_A (mj_w ad cA S f g) H.size) := 
    va_runS (As := as.map (mj_tv ad sp)) ⟨hx, hb, hml, hown, hts⟩ (hsp l D cA sp ad H.size) ⟨mj_callB (J := J) hts hk hlk ⟨hR.1, hR.2.1⟩ hroom, hts _ hi⟩ ⟨mj_blind D cA sp ad H.size S f g _, fun U hU hW => ⟨rfl, mj_pre hP hD hS hA hK hX U hU hW⟩⟩ rfl (by rw [List.length_map]; exact hn) hl.1 (by simp [List.map_append, List.map_reverse]) (lv_room (by rw [mj_tv_sum]; exact hcat)) hd ⟨by omega, by omega⟩
  refine mj_call hrun hS (mj_sub hD hS hA) (fun v f' g' H1 locs1 hpv hp1 hP1 hD1 hS1 => ?_)
  have k9 := kk v f' g' hp1 p l e s m args below meth c D cA sp ad A cells slots R Q hC hR hk0 H1 locs1 ls hP1 hD1 hS1 hl
  rw [List.map_append, mj_pv_tv hpv] at k9
  exact k9
theorem ev_callN {J : mj_J} {pc q : Nat} {loc : List (Option Value)} {st : List Value} {S : mj_S} {f : mj_I} {g : mj_L} {post : Option Value → mj_I → mj_L → Prop} {K : mj_J} {idx n : Nat} {as st0 : List Value} {post1 : Option Value → mj_I → mj_L → Prop} {host : String} (hk : mj_K K n) (hi : Cond.static (mj_y K) ∈ mj_gw) (hlk : Cond.methodLinkNest (mj_y J).cls idx (mj_y K) host ∈ mj_nw) (hsp : mj_Sp K S as f g post1) (hn : as.length = n) (hst : st0 = as.reverse ++ st) (hcat : (st.map fun v => v.category).sum ≤ 8) (hroom : mj_d K < mj_d J) (hd : decode (mj_cc J) pc = .ok (.invokestatic idx, 3)) (hq : pc + 3 = q) (kk : ∀ (v : Option Value) (f' : mj_I) (g' : mj_L), post1 v f' g' → mj_Ev J q loc (v.toList ++ st) S f' g' post) : mj_Ev J pc loc st0 S f g post := by
  intro p l e s m args below meth c D cA sp ad A cells slots R Q hC hR hk0 H locs ls hP hD hS hl
  subst hq
  subst hst
  obtain ⟨hx, hb, hml, hown, hts, hK, hA, hX⟩ := id hC
  have h40 := hk.2.2.2.2.2
  have hf9 : (mj_room K).frames = mj_d K := rfl
  have hlo9 : (mj_room K).locals = 64 * mj_d K := rfl
  have hrun : va_Run p l e R s m args below meth c H locs cells slots 0 0 (F0 m pc ls ((as.reverse ++ st).map (mj_tv ad sp))) (st.map (mj_tv ad sp)) (mj_Q D cA ad S (va_A (mj_w ad cA S f g) H.size) post1 (as.map (mj_tv ad sp)).toArray) (va_A (mj_w ad cA S f g) H.size) := 
    va_runSN (As := as.map (mj_tv ad sp)) ⟨hx, hb, hml, hown, hts⟩ (hsp l D cA sp ad H.size) ⟨va_cnB n hts (mj_gw_code hk) rfl hk.2.2.2.1 hk.2.2.2.2.1 (hX.1 _ hlk) (hts _ hk.2.1) hk.2.2.1 ⟨by rw [hf9]; omega, by rw [hlo9]; omega⟩, hts _ hi, trivial⟩ ⟨mj_blind D cA sp ad H.size S f g _, fun U hU hW => ⟨rfl, mj_pre hP hD hS hA hK hX U hU hW⟩⟩ rfl (by rw [List.length_map]; exact hn) hl.1 (by simp [List.map_append, List.map_reverse]) (lv_room (by rw [mj_tv_sum]; exact hcat)) hd ⟨by omega, by omega⟩
  refine mj_call hrun hS (mj_sub hD hS hA) (fun v f' g' H1 locs1 hpv hp1 hP1 hD1 hS1 => ?_)
  have k9 := kk v f' g' hp1 p l e s m args below meth c D cA sp ad A cells slots R Q hC hR hk0 H1 locs1 ls hP1 hD1 hS1 hl
  rw [List.map_append, mj_pv_tv hpv] at k9
  exact k9
theorem ev_mmin {J : mj_J} {pc q : Nat} {loc : List (Option Value)} {st : List Value} {S : mj_S} {f : mj_I} {g : mj_L} {post : Option Value → mj_I → mj_L → Prop} {idx : Nat} {x y : Int32} (hlk : Cond.methodLink (mj_y J).cls idx Lib.Math.min.name ∈ mj_gw) (hst : Cond.static Lib.Math.min.name ∈ mj_gw) (hini : Cond.initialized "java/lang/Math" ∈ mj_gw) (hcode : Cond.code Lib.Math.min.name Lib.Math.min.code 2 (some .int) ∈ mj_gw) (hcat : (st.map fun v => v.category).sum ≤ 8) (hroom : 0 < mj_d J) (hd : decode (mj_cc J) pc = .ok (.invokestatic idx, 3)) (hq : pc + 3 = q) (kk : mj_Ev J q loc (.int (if y < x then y else x) :: st) S f g post) : mj_Ev J pc loc (.int y :: .int x :: st) S f g post := by
  intro p l e s m args below meth c D cA sp ad A cells slots R Q hC hR hk0 H locs ls hP hD hS hl
  subst hq
  obtain ⟨hx, hb, hml, hown, hts, hK, hA, hX⟩ := id hC
  exact va_mmin hx hb (hml.trans hl.1.symm) hown (hts _ hlk) (hts _ hst) (hts _ hini) (hts _ hcode) (by omega) (by rw [mj_tv_sum]; omega) hR.2.2.1 hR.2.2.2 hd (kk p l e s m args below meth c D cA sp ad A cells slots R Q hC hR hk0 H locs ls hP hD hS hl)
theorem ev_mmax {J : mj_J} {pc q : Nat} {loc : List (Option Value)} {st : List Value} {S : mj_S} {f : mj_I} {g : mj_L} {post : Option Value → mj_I → mj_L → Prop} {idx : Nat} {x y : Int32} (hlk : Cond.methodLink (mj_y J).cls idx Lib.Math.max.name ∈ mj_gw) (hst : Cond.static Lib.Math.max.name ∈ mj_gw) (hini : Cond.initialized "java/lang/Math" ∈ mj_gw) (hcode : Cond.code Lib.Math.max.name Lib.Math.max.code 2 (some .int) ∈ mj_gw) (hcat : (st.map fun v => v.category).sum ≤ 8) (hroom : 0 < mj_d J) (hd : decode (mj_cc J) pc = .ok (.invokestatic idx, 3)) (hq : pc + 3 = q) (kk : mj_Ev J q loc (.int (if x < y then y else x) :: st) S f g post) : mj_Ev J pc loc (.int y :: .int x :: st) S f g post := by
  intro p l e s m args below meth c D cA sp ad A cells slots R Q hC hR hk0 H locs ls hP hD hS hl
  subst hq
  obtain ⟨hx, hb, hml, hown, hts, hK, hA, hX⟩ := id hC
  exact va_mmax hx hb (hml.trans hl.1.symm) hown (hts _ hlk) (hts _ hst) (hts _ hini) (hts _ hcode) (by omega) (by rw [mj_tv_sum]; omega) hR.2.2.1 hR.2.2.2 hd (kk p l e s m args below meth c D cA sp ad A cells slots R Q hC hR hk0 H locs ls hP hD hS hl)
def mj_cpok (x y n : Int32) (n0 n1 : Nat) : Bool := !(decide (x < 0)) && !(decide (y < 0)) && !(decide (n < 0)) && decide (x.toNatClampNeg + n.toNatClampNeg ≤ n0) && decide (y.toNatClampNeg + n.toNatClampNeg ≤ n1)
theorem mj_nfw : nativeFrameWords "java/lang/System" "arraycopy" 5 + 11 + 8 ≤ 64 := by decide +kernel
theorem mj_cp_self (f : mj_I) (a sp b dp n : Nat) : mj_cp f a sp b dp n b = va_cpy (f a) (f b) sp dp n := by
  funext j
  simp [mj_cp]
theorem mj_cp_ne (f : mj_I) (a sp : Nat) {b i : Nat} (dp n : Nat) (h : i ≠ b) : mj_cp f a sp b dp n i = f i := by
  funext j
  simp [mj_cp, h]
theorem ev_acopy {J : mj_J} {pc q : Nat} {loc : List (Option Value)} {st : List Value} {S : mj_S} {f : mj_I} {g : mj_L} {post : Option Value → mj_I → mj_L → Prop} {idx a b n0 n1 : Nat} {x y n : Int32} {r0 r1 : List (Option Nat)} (hlk : Cond.methodLink (mj_y J).cls idx arraycopyName ∈ mj_gw) (hnat : Cond.native arraycopyName ∈ mj_gw) (hstat : Cond.static arraycopyName ∈ mj_gw) (hini : Cond.initialized "java/lang/System" ∈ mj_gw) (hs0 : S[a]? = some (.inr (0, n0, r0))) (hs1 : S[b]? = some (.inr (0, n1, r1))) (hok : mj_cpok x y n n0 n1 = true) (hcat : (st.map fun v => v.category).sum ≤ 8) (hroom : 0 < mj_d J) (hd : decode (mj_cc J) pc = .ok (.invokestatic idx, 3)) (hq : pc + 3 = q) (kk : mj_Ev J q loc st S (mj_cp f a x.toNatClampNeg b y.toNatClampNeg n.toNatClampNeg) g post) : mj_Ev J pc loc (.int n :: .int y :: .ref b :: .int x :: .ref a :: st) S f g post := by
  intro p l e s m args below meth c D cA sp ad A cells slots R Q hC hR hk0 H locs ls hP hD hS hl
  subst hq
  obtain ⟨hx, hb, hml, hown, hts, hK, hA, hX⟩ := id hC
  have hnf := mj_nfw
  unfold mj_cpok at hok
  simp only [Bool.and_eq_true, Bool.not_eq_true', decide_eq_false_iff_not, decide_eq_true_eq] at hok
  obtain ⟨⟨⟨⟨k1, k2⟩, k3⟩, k4⟩, k5⟩ := hok
  have hw : (mj_w ad cA S f g).set b (ad b, .inl (cA 0, n1, .inl (va_cpy (f a) (f b) x.toNatClampNeg y.toNatClampNeg n.toNatClampNeg))) = mj_w ad cA S (mj_cp f a x.toNatClampNeg b y.toNatClampNeg n.toNatClampNeg) g := by
    rw [← mj_cp_self]
    exact mj_w_set hs1 (fun j hj => mj_cp_ne f a _ _ _ hj) (fun _ _ => rfl)
  refine va_copyi hx hb (hml.trans hl.1.symm) hown (hts _ hlk) (hts _ hnat) (hts _ hstat) (hts _ hini) hK hP hD hS a b 0 0 (mj_w_at hs0) (mj_w_at hs1) rfl rfl rfl k1 k2 k3 k4 k5 (fun _ _ => rfl) (by omega) (by rw [mj_tv_sum]; omega) hd (fun H1 locs1 hP1 hD1 hS1 => ?_)
  rw [hw] at hP1 hD1
  exact kk p l e s m args below meth c D cA sp ad A cells slots R Q hC hR hk0 H1 locs1 ls hP1 hD1 hS1 hl
end
